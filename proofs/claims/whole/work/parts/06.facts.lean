/-! methods, links, fields, shapes, constants: by program -/
def ckH {β : Type} (a : Nat) (s : Nat ⊕ (Nat × Nat × Nat)) (K : Option β) : Option β := if shL[a]? = some s then K else none
section S6
variable {α : Type} {M : MI} {d : Nat} {inj : α → Option Value} {E E1 E2 : Option (α × HH)} {pc q : Nat} {lc lc' : List (Nat × Value)} {st : List Value} {h : HH}
theorem sx_ckH {a : Nat} {s : Nat ⊕ (Nat × Nat × Nat)} (k : shL[a]? = some s → Sx M d inj E pc lc st h) : Sx M d inj (ckH a s E) pc lc st h := sx_ck k
theorem sx_iincV {i k0 : Nat} {n : Int} {m : Int32} {x : Int32} {lc' : Int32 → List (Nat × Value)} {k : Int32 → Option (α × HH)} (hdg : DC M pc (.iinc i n) 3 q) (hk : lc[k0]? = some (i, .int x)) (hm : Int32.ofInt n = m) (hn : i < M.2.2.1) (hl : ∀ v, (i, Value.int v) :: lc.filter (fun q => !(q.1 == i) && !(q.1 + 1 == i && q.2.category == 2)) = lc' v) (kk : ∀ v, Sx M d inj (k v) q (lc' v) st h) : Sx M d inj (vl (x + m) k) pc lc st h := by
  subst hm
  exact sx_iinc hdg hk rfl hn (hl _) (kk _)
def chS {β : Type} (i : Nat) (j : Int32) (K : Int32 → Option β) : Option β := ckI j (lenS.getD i 0) (K ((bytS.getD i []).getD j.toNatClampNeg 0))
theorem sx_ldcS {i index : Nat} {own tx : String} (hi : ownS[i]? = some (own, index, tx)) (ho : own = M.1.cls) (hdg : DC M pc (.ldc index) 2 q) (k : Sx M d inj E q lc (.ref (nN + i) :: st) h) : Sx M d inj E pc lc st h := by
  subst ho
  obtain ⟨hd, rfl⟩ := hdg
  intro p l e s m args below meth c X H locs ls r h' C hP hS hl hE
  exact va_ldcS C.1 C.2.1 C.2.2.2.2.1 (C.2.2.2.2.2.2.2.2.2.2.1 i _ hi) hd (k p l e s m args below meth c X H locs ls r h' C hP hS hl hE)
theorem sx_tsD {dflt lo hi : Int} {offs : Array Int} {x : Int32} {t : Nat} (hdg : DW M pc (.tableswitch dflt lo hi offs)) (hor : (x.toInt < lo ∨ hi < x.toInt) ∨ (¬ x.toInt < lo ∧ ¬ hi < x.toInt ∧ offs[(x.toInt - lo).toNat]? = some dflt)) (ht : (pc : Int) + dflt = (t : Int)) (k : Sx M d inj E t lc st h) : Sx M d inj E pc lc (.int x :: st) h := by
  rcases hor with hor | ⟨h1, h2, h3⟩
  · exact sx_tsOut hdg hor ht k
  · exact sx_tsIn hdg h1 h2 h3 ht k
end S6
theorem sh_0 : shL[0]? = some (.inl 10) := by decide +kernel
theorem sh_1 : shL[1]? = some (.inr (1, 700, 0)) := by decide +kernel
theorem sh_2 : shL[2]? = some (.inl 5) := by decide +kernel
theorem sh_3 : shL[3]? = some (.inr (0, 6, 0)) := by decide +kernel
theorem sh_4 : shL[4]? = some (.inr (0, 6, 0)) := by decide +kernel
theorem sh_5 : shL[5]? = some (.inr (0, 6, 0)) := by decide +kernel
theorem sh_6 : shL[6]? = some (.inr (0, 6, 0)) := by decide +kernel
theorem sh_7 : shL[7]? = some (.inr (0, 6, 0)) := by decide +kernel
theorem sh_8 : shL[8]? = some (.inr (0, 6, 0)) := by decide +kernel
theorem sh_9 : shL[9]? = some (.inr (0, 20, 0)) := by decide +kernel
theorem sh_10 : shL[10]? = some (.inr (0, 20, 0)) := by decide +kernel
theorem sh_11 : shL[11]? = some (.inr (0, 20, 0)) := by decide +kernel
theorem sh_12 : shL[12]? = some (.inr (0, 20, 0)) := by decide +kernel
theorem sh_13 : shL[13]? = some (.inl 2) := by decide +kernel
theorem sh_14 : shL[14]? = some (.inr (0, 64, 0)) := by decide +kernel
theorem sh_15 : shL[15]? = some (.inr (0, 64, 0)) := by decide +kernel
theorem sh_16 : shL[16]? = some (.inr (0, 3, 0)) := by decide +kernel
theorem sh_17 : shL[17]? = some (.inr (0, 3, 0)) := by decide +kernel
theorem sh_18 : shL[18]? = some (.inl 7) := by decide +kernel
theorem sh_19 : shL[19]? = some (.inr (0, 6, 0)) := by decide +kernel
theorem sh_20 : shL[20]? = some (.inr (0, 6, 0)) := by decide +kernel
theorem sh_21 : shL[21]? = some (.inr (0, 6, 0)) := by decide +kernel
theorem sh_22 : shL[22]? = some (.inr (0, 6, 0)) := by decide +kernel
theorem sh_23 : shL[23]? = some (.inr (0, 36, 0)) := by decide +kernel
theorem sh_24 : shL[24]? = some (.inl 6) := by decide +kernel
theorem sh_25 : shL[25]? = some (.inl 8) := by decide +kernel
theorem sh_26 : shL[26]? = some (.inr (0, 701, 0)) := by decide +kernel
theorem sh_27 : shL[27]? = some (.inr (0, 701, 0)) := by decide +kernel
theorem sh_28 : shL[28]? = some (.inr (0, 701, 0)) := by decide +kernel
theorem sh_29 : shL[29]? = some (.inr (0, 72, 0)) := by decide +kernel
theorem sh_30 : shL[30]? = some (.inl 5) := by decide +kernel
theorem sh_31 : shL[31]? = some (.inr (0, 6, 0)) := by decide +kernel
theorem sh_32 : shL[32]? = some (.inr (0, 6, 0)) := by decide +kernel
theorem sh_33 : shL[33]? = some (.inr (0, 6, 0)) := by decide +kernel
theorem sh_34 : shL[34]? = some (.inr (0, 6, 0)) := by decide +kernel
theorem sh_35 : shL[35]? = some (.inr (0, 6, 0)) := by decide +kernel
theorem sh_36 : shL[36]? = some (.inr (0, 6, 0)) := by decide +kernel
theorem sh_37 : shL[37]? = some (.inr (0, 20, 0)) := by decide +kernel
theorem sh_38 : shL[38]? = some (.inr (0, 20, 0)) := by decide +kernel
theorem sh_39 : shL[39]? = some (.inr (0, 20, 0)) := by decide +kernel
theorem sh_40 : shL[40]? = some (.inr (0, 20, 0)) := by decide +kernel
theorem sh_41 : shL[41]? = some (.inl 2) := by decide +kernel
theorem sh_42 : shL[42]? = some (.inr (0, 64, 0)) := by decide +kernel
theorem sh_43 : shL[43]? = some (.inr (0, 64, 0)) := by decide +kernel
theorem sh_44 : shL[44]? = some (.inr (0, 3, 0)) := by decide +kernel
theorem sh_45 : shL[45]? = some (.inr (0, 3, 0)) := by decide +kernel
theorem sh_46 : shL[46]? = some (.inl 7) := by decide +kernel
theorem sh_47 : shL[47]? = some (.inr (0, 6, 0)) := by decide +kernel
theorem sh_48 : shL[48]? = some (.inr (0, 6, 0)) := by decide +kernel
theorem sh_49 : shL[49]? = some (.inr (0, 6, 0)) := by decide +kernel
theorem sh_50 : shL[50]? = some (.inr (0, 6, 0)) := by decide +kernel
theorem sh_51 : shL[51]? = some (.inr (0, 36, 0)) := by decide +kernel
theorem sh_52 : shL[52]? = some (.inl 7) := by decide +kernel
theorem sh_53 : shL[53]? = some (.inr (0, 6, 0)) := by decide +kernel
theorem sh_54 : shL[54]? = some (.inr (0, 6, 0)) := by decide +kernel
theorem sh_55 : shL[55]? = some (.inr (0, 6, 0)) := by decide +kernel
theorem sh_56 : shL[56]? = some (.inr (0, 6, 0)) := by decide +kernel
theorem sh_57 : shL[57]? = some (.inr (0, 36, 0)) := by decide +kernel
theorem sh_58 : shL[58]? = some (.inl 7) := by decide +kernel
theorem sh_59 : shL[59]? = some (.inr (0, 6, 0)) := by decide +kernel
theorem sh_60 : shL[60]? = some (.inr (0, 6, 0)) := by decide +kernel
theorem sh_61 : shL[61]? = some (.inr (0, 6, 0)) := by decide +kernel
theorem sh_62 : shL[62]? = some (.inr (0, 6, 0)) := by decide +kernel
theorem sh_63 : shL[63]? = some (.inr (0, 36, 0)) := by decide +kernel
theorem sh_64 : shL[64]? = some (.inl 4) := by decide +kernel
theorem sh_65 : shL[65]? = some (.inr (4, 20, 8)) := by decide +kernel
theorem sh_66 : shL[66]? = some (.inl 7) := by decide +kernel
theorem sh_67 : shL[67]? = some (.inr (0, 6, 0)) := by decide +kernel
theorem sh_68 : shL[68]? = some (.inr (0, 6, 0)) := by decide +kernel
theorem sh_69 : shL[69]? = some (.inr (0, 6, 0)) := by decide +kernel
theorem sh_70 : shL[70]? = some (.inr (0, 6, 0)) := by decide +kernel
theorem sh_71 : shL[71]? = some (.inr (0, 36, 0)) := by decide +kernel
theorem sh_72 : shL[72]? = some (.inl 7) := by decide +kernel
theorem sh_73 : shL[73]? = some (.inr (0, 6, 0)) := by decide +kernel
theorem sh_74 : shL[74]? = some (.inr (0, 6, 0)) := by decide +kernel
theorem sh_75 : shL[75]? = some (.inr (0, 6, 0)) := by decide +kernel
theorem sh_76 : shL[76]? = some (.inr (0, 6, 0)) := by decide +kernel
theorem sh_77 : shL[77]? = some (.inr (0, 36, 0)) := by decide +kernel
theorem sh_78 : shL[78]? = some (.inl 7) := by decide +kernel
theorem sh_79 : shL[79]? = some (.inr (0, 6, 0)) := by decide +kernel
theorem sh_80 : shL[80]? = some (.inr (0, 6, 0)) := by decide +kernel
theorem sh_81 : shL[81]? = some (.inr (0, 6, 0)) := by decide +kernel
theorem sh_82 : shL[82]? = some (.inr (0, 6, 0)) := by decide +kernel
theorem sh_83 : shL[83]? = some (.inr (0, 36, 0)) := by decide +kernel
theorem sh_84 : shL[84]? = some (.inl 7) := by decide +kernel
theorem sh_85 : shL[85]? = some (.inr (0, 6, 0)) := by decide +kernel
theorem sh_86 : shL[86]? = some (.inr (0, 6, 0)) := by decide +kernel
theorem sh_87 : shL[87]? = some (.inr (0, 6, 0)) := by decide +kernel
theorem sh_88 : shL[88]? = some (.inr (0, 6, 0)) := by decide +kernel
theorem sh_89 : shL[89]? = some (.inr (0, 36, 0)) := by decide +kernel
theorem sh_90 : shL[90]? = some (.inl 7) := by decide +kernel
theorem sh_91 : shL[91]? = some (.inr (0, 6, 0)) := by decide +kernel
theorem sh_92 : shL[92]? = some (.inr (0, 6, 0)) := by decide +kernel
theorem sh_93 : shL[93]? = some (.inr (0, 6, 0)) := by decide +kernel
theorem sh_94 : shL[94]? = some (.inr (0, 6, 0)) := by decide +kernel
theorem sh_95 : shL[95]? = some (.inr (0, 36, 0)) := by decide +kernel
theorem sh_96 : shL[96]? = some (.inl 7) := by decide +kernel
theorem sh_97 : shL[97]? = some (.inr (0, 6, 0)) := by decide +kernel
theorem sh_98 : shL[98]? = some (.inr (0, 6, 0)) := by decide +kernel
theorem sh_99 : shL[99]? = some (.inr (0, 6, 0)) := by decide +kernel
theorem sh_100 : shL[100]? = some (.inr (0, 6, 0)) := by decide +kernel
theorem sh_101 : shL[101]? = some (.inr (0, 36, 0)) := by decide +kernel
theorem sh_102 : shL[102]? = some (.inl 7) := by decide +kernel
theorem sh_103 : shL[103]? = some (.inr (0, 6, 0)) := by decide +kernel
theorem sh_104 : shL[104]? = some (.inr (0, 6, 0)) := by decide +kernel
theorem sh_105 : shL[105]? = some (.inr (0, 6, 0)) := by decide +kernel
theorem sh_106 : shL[106]? = some (.inr (0, 6, 0)) := by decide +kernel
theorem sh_107 : shL[107]? = some (.inr (0, 36, 0)) := by decide +kernel
theorem sh_108 : shL[108]? = some (.inl 7) := by decide +kernel
theorem sh_109 : shL[109]? = some (.inr (0, 6, 0)) := by decide +kernel
theorem sh_110 : shL[110]? = some (.inr (0, 6, 0)) := by decide +kernel
theorem sh_111 : shL[111]? = some (.inr (0, 6, 0)) := by decide +kernel
theorem sh_112 : shL[112]? = some (.inr (0, 6, 0)) := by decide +kernel
theorem sh_113 : shL[113]? = some (.inr (0, 36, 0)) := by decide +kernel
theorem sh_114 : shL[114]? = some (.inl 7) := by decide +kernel
theorem sh_115 : shL[115]? = some (.inr (0, 6, 0)) := by decide +kernel
theorem sh_116 : shL[116]? = some (.inr (0, 6, 0)) := by decide +kernel
theorem sh_117 : shL[117]? = some (.inr (0, 6, 0)) := by decide +kernel
theorem sh_118 : shL[118]? = some (.inr (0, 6, 0)) := by decide +kernel
theorem sh_119 : shL[119]? = some (.inr (0, 36, 0)) := by decide +kernel
theorem sh_120 : shL[120]? = some (.inl 7) := by decide +kernel
theorem sh_121 : shL[121]? = some (.inr (0, 6, 0)) := by decide +kernel
theorem sh_122 : shL[122]? = some (.inr (0, 6, 0)) := by decide +kernel
theorem sh_123 : shL[123]? = some (.inr (0, 6, 0)) := by decide +kernel
theorem sh_124 : shL[124]? = some (.inr (0, 6, 0)) := by decide +kernel
theorem sh_125 : shL[125]? = some (.inr (0, 36, 0)) := by decide +kernel
theorem sh_126 : shL[126]? = some (.inl 7) := by decide +kernel
theorem sh_127 : shL[127]? = some (.inr (0, 6, 0)) := by decide +kernel
theorem sh_128 : shL[128]? = some (.inr (0, 6, 0)) := by decide +kernel
theorem sh_129 : shL[129]? = some (.inr (0, 6, 0)) := by decide +kernel
theorem sh_130 : shL[130]? = some (.inr (0, 6, 0)) := by decide +kernel
theorem sh_131 : shL[131]? = some (.inr (0, 36, 0)) := by decide +kernel
theorem sh_132 : shL[132]? = some (.inl 7) := by decide +kernel
theorem sh_133 : shL[133]? = some (.inr (0, 6, 0)) := by decide +kernel
theorem sh_134 : shL[134]? = some (.inr (0, 6, 0)) := by decide +kernel
theorem sh_135 : shL[135]? = some (.inr (0, 6, 0)) := by decide +kernel
theorem sh_136 : shL[136]? = some (.inr (0, 6, 0)) := by decide +kernel
theorem sh_137 : shL[137]? = some (.inr (0, 36, 0)) := by decide +kernel
theorem sh_138 : shL[138]? = some (.inl 7) := by decide +kernel
theorem sh_139 : shL[139]? = some (.inr (0, 6, 0)) := by decide +kernel
theorem sh_140 : shL[140]? = some (.inr (0, 6, 0)) := by decide +kernel
theorem sh_141 : shL[141]? = some (.inr (0, 6, 0)) := by decide +kernel
theorem sh_142 : shL[142]? = some (.inr (0, 6, 0)) := by decide +kernel
theorem sh_143 : shL[143]? = some (.inr (0, 36, 0)) := by decide +kernel
theorem sh_144 : shL[144]? = some (.inl 7) := by decide +kernel
theorem sh_145 : shL[145]? = some (.inr (0, 6, 0)) := by decide +kernel
theorem sh_146 : shL[146]? = some (.inr (0, 6, 0)) := by decide +kernel
theorem sh_147 : shL[147]? = some (.inr (0, 6, 0)) := by decide +kernel
theorem sh_148 : shL[148]? = some (.inr (0, 6, 0)) := by decide +kernel
theorem sh_149 : shL[149]? = some (.inr (0, 36, 0)) := by decide +kernel
theorem sh_150 : shL[150]? = some (.inl 7) := by decide +kernel
theorem sh_151 : shL[151]? = some (.inr (0, 6, 0)) := by decide +kernel
theorem sh_152 : shL[152]? = some (.inr (0, 6, 0)) := by decide +kernel
theorem sh_153 : shL[153]? = some (.inr (0, 6, 0)) := by decide +kernel
theorem sh_154 : shL[154]? = some (.inr (0, 6, 0)) := by decide +kernel
theorem sh_155 : shL[155]? = some (.inr (0, 36, 0)) := by decide +kernel
theorem sh_156 : shL[156]? = some (.inl 7) := by decide +kernel
theorem sh_157 : shL[157]? = some (.inr (0, 6, 0)) := by decide +kernel
theorem sh_158 : shL[158]? = some (.inr (0, 6, 0)) := by decide +kernel
theorem sh_159 : shL[159]? = some (.inr (0, 6, 0)) := by decide +kernel
theorem sh_160 : shL[160]? = some (.inr (0, 6, 0)) := by decide +kernel
theorem sh_161 : shL[161]? = some (.inr (0, 36, 0)) := by decide +kernel
theorem sh_162 : shL[162]? = some (.inl 7) := by decide +kernel
theorem sh_163 : shL[163]? = some (.inr (0, 6, 0)) := by decide +kernel
theorem sh_164 : shL[164]? = some (.inr (0, 6, 0)) := by decide +kernel
theorem sh_165 : shL[165]? = some (.inr (0, 6, 0)) := by decide +kernel
theorem sh_166 : shL[166]? = some (.inr (0, 6, 0)) := by decide +kernel
theorem sh_167 : shL[167]? = some (.inr (0, 36, 0)) := by decide +kernel
theorem sh_168 : shL[168]? = some (.inl 7) := by decide +kernel
theorem sh_169 : shL[169]? = some (.inr (0, 6, 0)) := by decide +kernel
theorem sh_170 : shL[170]? = some (.inr (0, 6, 0)) := by decide +kernel
theorem sh_171 : shL[171]? = some (.inr (0, 6, 0)) := by decide +kernel
theorem sh_172 : shL[172]? = some (.inr (0, 6, 0)) := by decide +kernel
theorem sh_173 : shL[173]? = some (.inr (0, 36, 0)) := by decide +kernel
theorem sh_174 : shL[174]? = some (.inl 7) := by decide +kernel
theorem sh_175 : shL[175]? = some (.inr (0, 6, 0)) := by decide +kernel
theorem sh_176 : shL[176]? = some (.inr (0, 6, 0)) := by decide +kernel
theorem sh_177 : shL[177]? = some (.inr (0, 6, 0)) := by decide +kernel
theorem sh_178 : shL[178]? = some (.inr (0, 6, 0)) := by decide +kernel
theorem sh_179 : shL[179]? = some (.inr (0, 36, 0)) := by decide +kernel
theorem sh_180 : shL[180]? = some (.inl 7) := by decide +kernel
theorem sh_181 : shL[181]? = some (.inr (0, 6, 0)) := by decide +kernel
theorem sh_182 : shL[182]? = some (.inr (0, 6, 0)) := by decide +kernel
theorem sh_183 : shL[183]? = some (.inr (0, 6, 0)) := by decide +kernel
theorem sh_184 : shL[184]? = some (.inr (0, 6, 0)) := by decide +kernel
theorem sh_185 : shL[185]? = some (.inr (0, 36, 0)) := by decide +kernel
theorem sh_186 : shL[186]? = some (.inl 3) := by decide +kernel
theorem sh_187 : shL[187]? = some (.inr (0, 24, 0)) := by decide +kernel
theorem sh_188 : shL[188]? = some (.inr (0, 24, 0)) := by decide +kernel
theorem sh_189 : shL[189]? = some (.inr (0, 24, 0)) := by decide +kernel
theorem sh_190 : shL[190]? = some (.inr (2, 24, 0)) := by decide +kernel
theorem sh_191 : shL[191]? = some (.inr (0, 24, 0)) := by decide +kernel
theorem sh_192 : shL[192]? = some (.inr (2, 24, 0)) := by decide +kernel
theorem sh_193 : shL[193]? = some (.inl 0) := by decide +kernel
theorem sh_194 : shL[194]? = some (.inr (0, 20, 0)) := by decide +kernel
theorem sh_195 : shL[195]? = some (.inr (3, 64, 1)) := by decide +kernel
theorem sh_196 : shL[196]? = some (.inl 7) := by decide +kernel
theorem sh_197 : shL[197]? = some (.inr (0, 6, 0)) := by decide +kernel
theorem sh_198 : shL[198]? = some (.inr (0, 6, 0)) := by decide +kernel
theorem sh_199 : shL[199]? = some (.inr (0, 6, 0)) := by decide +kernel
theorem sh_200 : shL[200]? = some (.inr (0, 6, 0)) := by decide +kernel
theorem sh_201 : shL[201]? = some (.inr (0, 36, 0)) := by decide +kernel
theorem sh_202 : shL[202]? = some (.inl 5) := by decide +kernel
theorem sh_203 : shL[203]? = some (.inr (0, 6, 0)) := by decide +kernel
theorem sh_204 : shL[204]? = some (.inr (0, 6, 0)) := by decide +kernel
theorem sh_205 : shL[205]? = some (.inr (0, 6, 0)) := by decide +kernel
theorem sh_206 : shL[206]? = some (.inr (0, 6, 0)) := by decide +kernel
theorem sh_207 : shL[207]? = some (.inr (0, 6, 0)) := by decide +kernel
theorem sh_208 : shL[208]? = some (.inr (0, 6, 0)) := by decide +kernel
theorem sh_209 : shL[209]? = some (.inr (0, 20, 0)) := by decide +kernel
theorem sh_210 : shL[210]? = some (.inr (0, 20, 0)) := by decide +kernel
theorem sh_211 : shL[211]? = some (.inr (0, 20, 0)) := by decide +kernel
theorem sh_212 : shL[212]? = some (.inr (0, 20, 0)) := by decide +kernel
theorem sh_213 : shL[213]? = some (.inl 2) := by decide +kernel
theorem sh_214 : shL[214]? = some (.inr (0, 64, 0)) := by decide +kernel
theorem sh_215 : shL[215]? = some (.inr (0, 64, 0)) := by decide +kernel
theorem sh_216 : shL[216]? = some (.inr (0, 3, 0)) := by decide +kernel
theorem sh_217 : shL[217]? = some (.inr (0, 3, 0)) := by decide +kernel
theorem sh_218 : shL[218]? = some (.inl 7) := by decide +kernel
theorem sh_219 : shL[219]? = some (.inr (0, 6, 0)) := by decide +kernel
theorem sh_220 : shL[220]? = some (.inr (0, 6, 0)) := by decide +kernel
theorem sh_221 : shL[221]? = some (.inr (0, 6, 0)) := by decide +kernel
theorem sh_222 : shL[222]? = some (.inr (0, 6, 0)) := by decide +kernel
theorem sh_223 : shL[223]? = some (.inr (0, 36, 0)) := by decide +kernel
theorem sh_224 : shL[224]? = some (.inr (0, 6, 0)) := by decide +kernel
theorem sh_225 : shL[225]? = some (.inl 1) := by decide +kernel
theorem sh_226 : shL[226]? = some (.inr (5, 19, 3)) := by decide +kernel
theorem sh_227 : shL[227]? = some (.inr (0, 41, 0)) := by decide +kernel
theorem sh_228 : shL[228]? = some (.inr (0, 41, 0)) := by decide +kernel
theorem sh_229 : shL[229]? = some (.inr (0, 41, 0)) := by decide +kernel
theorem sh_230 : shL[230]? = some (.inr (0, 41, 0)) := by decide +kernel
theorem sh_231 : shL[231]? = some (.inr (0, 41, 0)) := by decide +kernel
theorem sh_232 : shL[232]? = some (.inr (0, 41, 0)) := by decide +kernel
theorem sh_233 : shL[233]? = some (.inr (0, 41, 0)) := by decide +kernel
theorem sh_234 : shL[234]? = some (.inr (0, 41, 0)) := by decide +kernel
theorem sh_235 : shL[235]? = some (.inr (0, 41, 0)) := by decide +kernel
theorem sh_236 : shL[236]? = some (.inr (0, 41, 0)) := by decide +kernel
theorem sh_237 : shL[237]? = some (.inr (0, 41, 0)) := by decide +kernel
theorem sh_238 : shL[238]? = some (.inr (0, 41, 0)) := by decide +kernel
theorem sh_239 : shL[239]? = some (.inr (0, 41, 0)) := by decide +kernel
theorem sh_240 : shL[240]? = some (.inr (0, 41, 0)) := by decide +kernel
theorem sh_241 : shL[241]? = some (.inr (0, 41, 0)) := by decide +kernel
theorem sh_242 : shL[242]? = some (.inr (0, 41, 0)) := by decide +kernel
theorem sh_243 : shL[243]? = some (.inr (0, 41, 0)) := by decide +kernel
theorem sh_244 : shL[244]? = some (.inr (0, 41, 0)) := by decide +kernel
theorem sh_245 : shL[245]? = some (.inr (0, 41, 0)) := by decide +kernel
theorem sh_246 : shL[246]? = some (.inr (0, 7, 0)) := by decide +kernel
theorem sh_247 : shL[247]? = some (.inl 9) := by decide +kernel
theorem sh_248 : shL[248]? = some (.inr (0, 7, 0)) := by decide +kernel
theorem sh_249 : shL[249]? = some (.inr (0, 7, 0)) := by decide +kernel
theorem sh_250 : shL[250]? = some (.inr (0, 6, 0)) := by decide +kernel
theorem sh_251 : shL[251]? = some (.inl 9) := by decide +kernel
theorem sh_252 : shL[252]? = some (.inr (0, 7, 0)) := by decide +kernel
theorem sh_253 : shL[253]? = some (.inr (0, 7, 0)) := by decide +kernel
theorem sh_254 : shL[254]? = some (.inr (0, 6, 0)) := by decide +kernel
theorem sh_255 : shL[255]? = some (.inl 11) := by decide +kernel
theorem sh_256 : shL[256]? = some (.inr (0, 700, 0)) := by decide +kernel
theorem sh_257 : shL[257]? = some (.inr (0, 14, 0)) := by decide +kernel
theorem sh_258 : shL[258]? = some (.inr (0, 12, 0)) := by decide +kernel
theorem sh_259 : shL[259]? = some (.inr (0, 12, 0)) := by decide +kernel
theorem sh_260 : shL[260]? = some (.inr (0, 12, 0)) := by decide +kernel
theorem sh_261 : shL[261]? = some (.inr (0, 12, 0)) := by decide +kernel
theorem sh_262 : shL[262]? = some (.inr (0, 72, 0)) := by decide +kernel
theorem sh_263 : shL[263]? = some (.inr (0, 12, 0)) := by decide +kernel
theorem sh_264 : shL[264]? = some (.inr (0, 12, 0)) := by decide +kernel
theorem sh_265 : shL[265]? = some (.inr (0, 12, 0)) := by decide +kernel
theorem sh_266 : shL[266]? = some (.inr (0, 40, 0)) := by decide +kernel
theorem sh_267 : shL[267]? = some (.inr (0, 40, 0)) := by decide +kernel
theorem sh_268 : shL[268]? = some (.inr (0, 40, 0)) := by decide +kernel
theorem sh_269 : shL[269]? = some (.inr (0, 40, 0)) := by decide +kernel
theorem sh_270 : shL[270]? = some (.inr (0, 6, 0)) := by decide +kernel
theorem sh_271 : shL[271]? = some (.inr (0, 6, 0)) := by decide +kernel
theorem sh_272 : shL[272]? = some (.inr (0, 128, 0)) := by decide +kernel
theorem sh_273 : shL[273]? = some (.inr (0, 128, 0)) := by decide +kernel
theorem sh_274 : shL[274]? = some (.inr (3, 7, 1)) := by decide +kernel
theorem sh_275 : shL[275]? = some (.inr (3, 64, 1)) := by decide +kernel
theorem sh_276 : shL[276]? = some (.inr (0, 23, 0)) := by decide +kernel
theorem sh_277 : shL[277]? = some (.inr (0, 23, 0)) := by decide +kernel
theorem sh_278 : shL[278]? = some (.inr (0, 138, 0)) := by decide +kernel
theorem sh_279 : shL[279]? = some (.inr (0, 138, 0)) := by decide +kernel
theorem sh_280 : shL[280]? = some (.inr (0, 138, 0)) := by decide +kernel
theorem sh_281 : shL[281]? = some (.inr (0, 138, 0)) := by decide +kernel
theorem sh_282 : shL[282]? = some (.inr (0, 828, 0)) := by decide +kernel
theorem sh_283 : shL[283]? = some (.inr (0, 20, 0)) := by decide +kernel
theorem sh_284 : shL[284]? = some (.inr (0, 20, 0)) := by decide +kernel
theorem sh_285 : shL[285]? = some (.inr (0, 14, 0)) := by decide +kernel
theorem sh_286 : shL[286]? = some (.inr (0, 14, 0)) := by decide +kernel
theorem sh_287 : shL[287]? = some (.inr (0, 6, 0)) := by decide +kernel
theorem sh_288 : shL[288]? = some (.inr (0, 24, 0)) := by decide +kernel
theorem sh_289 : shL[289]? = some (.inr (0, 24, 0)) := by decide +kernel
theorem sh_290 : shL[290]? = some (.inr (0, 24, 0)) := by decide +kernel
theorem sh_291 : shL[291]? = some (.inr (2, 24, 0)) := by decide +kernel
theorem sh_292 : shL[292]? = some (.inr (0, 24, 0)) := by decide +kernel
theorem sh_293 : shL[293]? = some (.inr (2, 24, 0)) := by decide +kernel
theorem sh_294 : shL[294]? = some (.inr (0, 779, 0)) := by decide +kernel
theorem bcm99 : (Int8.ofInt (-99)).toInt32 = (-99) := by decide
theorem bcm2 : (Int8.ofInt (-2)).toInt32 = (-2) := by decide
theorem bc6 : (Int8.ofInt 6).toInt32 = 6 := by decide
theorem bc7 : (Int8.ofInt 7).toInt32 = 7 := by decide
theorem bc8 : (Int8.ofInt 8).toInt32 = 8 := by decide
theorem bc9 : (Int8.ofInt 9).toInt32 = 9 := by decide
theorem bc10 : (Int8.ofInt 10).toInt32 = 10 := by decide
theorem bc11 : (Int8.ofInt 11).toInt32 = 11 := by decide
theorem bc12 : (Int8.ofInt 12).toInt32 = 12 := by decide
theorem bc13 : (Int8.ofInt 13).toInt32 = 13 := by decide
theorem bc14 : (Int8.ofInt 14).toInt32 = 14 := by decide
theorem bc15 : (Int8.ofInt 15).toInt32 = 15 := by decide
theorem bc16 : (Int8.ofInt 16).toInt32 = 16 := by decide
theorem bc17 : (Int8.ofInt 17).toInt32 = 17 := by decide
theorem bc18 : (Int8.ofInt 18).toInt32 = 18 := by decide
theorem bc19 : (Int8.ofInt 19).toInt32 = 19 := by decide
theorem bc20 : (Int8.ofInt 20).toInt32 = 20 := by decide
theorem bc22 : (Int8.ofInt 22).toInt32 = 22 := by decide
theorem bc23 : (Int8.ofInt 23).toInt32 = 23 := by decide
theorem bc24 : (Int8.ofInt 24).toInt32 = 24 := by decide
theorem bc28 : (Int8.ofInt 28).toInt32 = 28 := by decide
theorem bc31 : (Int8.ofInt 31).toInt32 = 31 := by decide
theorem bc32 : (Int8.ofInt 32).toInt32 = 32 := by decide
theorem bc33 : (Int8.ofInt 33).toInt32 = 33 := by decide
theorem bc34 : (Int8.ofInt 34).toInt32 = 34 := by decide
theorem bc36 : (Int8.ofInt 36).toInt32 = 36 := by decide
theorem bc40 : (Int8.ofInt 40).toInt32 = 40 := by decide
theorem bc41 : (Int8.ofInt 41).toInt32 = 41 := by decide
theorem bc42 : (Int8.ofInt 42).toInt32 = 42 := by decide
theorem bc43 : (Int8.ofInt 43).toInt32 = 43 := by decide
theorem bc45 : (Int8.ofInt 45).toInt32 = 45 := by decide
theorem bc47 : (Int8.ofInt 47).toInt32 = 47 := by decide
theorem bc48 : (Int8.ofInt 48).toInt32 = 48 := by decide
theorem bc50 : (Int8.ofInt 50).toInt32 = 50 := by decide
theorem bc57 : (Int8.ofInt 57).toInt32 = 57 := by decide
theorem bc59 : (Int8.ofInt 59).toInt32 = 59 := by decide
theorem bc60 : (Int8.ofInt 60).toInt32 = 60 := by decide
theorem bc61 : (Int8.ofInt 61).toInt32 = 61 := by decide
theorem bc62 : (Int8.ofInt 62).toInt32 = 62 := by decide
theorem bc63 : (Int8.ofInt 63).toInt32 = 63 := by decide
theorem bc64 : (Int8.ofInt 64).toInt32 = 64 := by decide
theorem bc97 : (Int8.ofInt 97).toInt32 = 97 := by decide
theorem bc99 : (Int8.ofInt 99).toInt32 = 99 := by decide
theorem bc100 : (Int8.ofInt 100).toInt32 = 100 := by decide
theorem bc122 : (Int8.ofInt 122).toInt32 = 122 := by decide
theorem icm1 : Int32.ofInt (-1) = (-1) := by decide
theorem ic0 : Int32.ofInt 0 = 0 := by decide
theorem ic1 : Int32.ofInt 1 = 1 := by decide
theorem ic2 : Int32.ofInt 2 = 2 := by decide
theorem ic3 : Int32.ofInt 3 = 3 := by decide
theorem ic4 : Int32.ofInt 4 = 4 := by decide
theorem ic5 : Int32.ofInt 5 = 5 := by decide
theorem iim8 : Int32.ofInt (-8) = (-8) := by decide
theorem iim1 : Int32.ofInt (-1) = (-1) := by decide
theorem ii1 : Int32.ofInt 1 = 1 := by decide
theorem lc0 : Int64.ofNat ((0 : Fin 2) : Nat) = 0 := by decide
theorem lc1 : Int64.ofNat ((1 : Fin 2) : Nat) = 1 := by decide
theorem nl6 : Int32.ofNat 6 = 6 := by decide
theorem nl36 : Int32.ofNat 36 = 36 := by decide
theorem nl64 : Int32.ofNat 64 = 64 := by decide
theorem nl72 : Int32.ofNat 72 = 72 := by decide
theorem nl123 : Int32.ofNat 123 = 123 := by decide
theorem nl144 : Int32.ofNat 144 = 144 := by decide
theorem nl701 : Int32.ofNat 701 = 701 := by decide
theorem sc199 : (Int16.ofInt 199).toInt32 = 199 := by decide
theorem sc200 : (Int16.ofInt 200).toInt32 = 200 := by decide
theorem sc254 : (Int16.ofInt 254).toInt32 = 254 := by decide
theorem sc255 : (Int16.ofInt 255).toInt32 = 255 := by decide
theorem sc256 : (Int16.ofInt 256).toInt32 = 256 := by decide
theorem sc257 : (Int16.ofInt 257).toInt32 = 257 := by decide
theorem sc258 : (Int16.ofInt 258).toInt32 = 258 := by decide
theorem sc260 : (Int16.ofInt 260).toInt32 = 260 := by decide
theorem sc261 : (Int16.ofInt 261).toInt32 = 261 := by decide
theorem sc262 : (Int16.ofInt 262).toInt32 = 262 := by decide
theorem sc680 : (Int16.ofInt 680).toInt32 = 680 := by decide
theorem sc700 : (Int16.ofInt 700).toInt32 = 700 := by decide
theorem sc999 : (Int16.ofInt 999).toInt32 = 999 := by decide
theorem sc9800 : (Int16.ofInt 9800).toInt32 = 9800 := by decide
theorem sc9999 : (Int16.ofInt 9999).toInt32 = 9999 := by decide
theorem sc12345 : (Int16.ofInt 12345).toInt32 = 12345 := by decide
theorem ti0 : (0 : Int32).toInt = 0 := by decide
theorem ti1 : (1 : Int32).toInt = 1 := by decide
theorem ti2 : (2 : Int32).toInt = 2 := by decide
theorem ti3 : (3 : Int32).toInt = 3 := by decide
theorem ti4 : (4 : Int32).toInt = 4 := by decide
theorem ti5 : (5 : Int32).toInt = 5 := by decide
theorem ti6 : (6 : Int32).toInt = 6 := by decide
theorem ti7 : (7 : Int32).toInt = 7 := by decide
theorem ti8 : (8 : Int32).toInt = 8 := by decide
theorem ti9 : (9 : Int32).toInt = 9 := by decide
theorem ti10 : (10 : Int32).toInt = 10 := by decide
theorem ti11 : (11 : Int32).toInt = 11 := by decide
theorem ti12 : (12 : Int32).toInt = 12 := by decide
theorem ti13 : (13 : Int32).toInt = 13 := by decide
theorem ti14 : (14 : Int32).toInt = 14 := by decide
theorem ti15 : (15 : Int32).toInt = 15 := by decide
theorem ti16 : (16 : Int32).toInt = 16 := by decide
theorem ti17 : (17 : Int32).toInt = 17 := by decide
theorem ti18 : (18 : Int32).toInt = 18 := by decide
theorem ti19 : (19 : Int32).toInt = 19 := by decide
theorem ti20 : (20 : Int32).toInt = 20 := by decide
theorem ti21 : (21 : Int32).toInt = 21 := by decide
theorem ti22 : (22 : Int32).toInt = 22 := by decide
theorem ti23 : (23 : Int32).toInt = 23 := by decide
theorem ti24 : (24 : Int32).toInt = 24 := by decide
theorem ti25 : (25 : Int32).toInt = 25 := by decide
theorem ti26 : (26 : Int32).toInt = 26 := by decide
theorem ti27 : (27 : Int32).toInt = 27 := by decide
theorem ti31 : (31 : Int32).toInt = 31 := by decide
theorem ti35 : (35 : Int32).toInt = 35 := by decide
theorem ti36 : (36 : Int32).toInt = 36 := by decide
theorem ti37 : (37 : Int32).toInt = 37 := by decide
theorem ti38 : (38 : Int32).toInt = 38 := by decide
theorem ti40 : (40 : Int32).toInt = 40 := by decide
theorem ti41 : (41 : Int32).toInt = 41 := by decide
theorem ti42 : (42 : Int32).toInt = 42 := by decide
theorem ti43 : (43 : Int32).toInt = 43 := by decide
theorem ti45 : (45 : Int32).toInt = 45 := by decide
theorem ti47 : (47 : Int32).toInt = 47 := by decide
theorem ti59 : (59 : Int32).toInt = 59 := by decide
theorem ti60 : (60 : Int32).toInt = 60 := by decide
theorem ti61 : (61 : Int32).toInt = 61 := by decide
theorem ti62 : (62 : Int32).toInt = 62 := by decide
theorem ti256 : (256 : Int32).toInt = 256 := by decide
theorem ti257 : (257 : Int32).toInt = 257 := by decide
theorem ti258 : (258 : Int32).toInt = 258 := by decide
theorem ti261 : (261 : Int32).toInt = 261 := by decide
theorem shf_2_0 {a : Nat} (h : shL[a]? = some (.inl 2)) : shL[a + 1]? = some (.inr (0, 64, 0)) := by
  have hc : shL.zipIdx.all (fun f => match f.1 with | .inl c => if c = 2 then decide (shL[f.2 + 1]? = some (.inr (0, 64, 0))) else true | _ => true) = true := by decide +kernel
  have h1 := List.all_eq_true.mp hc (.inl 2, a) (by rw [List.mem_iff_getElem?]; exact ⟨a, by simp [h]⟩)
  simpa using h1
theorem shf_2_1 {a : Nat} (h : shL[a]? = some (.inl 2)) : shL[a + 2]? = some (.inr (0, 64, 0)) := by
  have hc : shL.zipIdx.all (fun f => match f.1 with | .inl c => if c = 2 then decide (shL[f.2 + 2]? = some (.inr (0, 64, 0))) else true | _ => true) = true := by decide +kernel
  have h1 := List.all_eq_true.mp hc (.inl 2, a) (by rw [List.mem_iff_getElem?]; exact ⟨a, by simp [h]⟩)
  simpa using h1
theorem shf_2_3 {a : Nat} (h : shL[a]? = some (.inl 2)) : shL[a + 3]? = some (.inr (0, 3, 0)) := by
  have hc : shL.zipIdx.all (fun f => match f.1 with | .inl c => if c = 2 then decide (shL[f.2 + 3]? = some (.inr (0, 3, 0))) else true | _ => true) = true := by decide +kernel
  have h1 := List.all_eq_true.mp hc (.inl 2, a) (by rw [List.mem_iff_getElem?]; exact ⟨a, by simp [h]⟩)
  simpa using h1
theorem shf_2_4 {a : Nat} (h : shL[a]? = some (.inl 2)) : shL[a + 4]? = some (.inr (0, 3, 0)) := by
  have hc : shL.zipIdx.all (fun f => match f.1 with | .inl c => if c = 2 then decide (shL[f.2 + 4]? = some (.inr (0, 3, 0))) else true | _ => true) = true := by decide +kernel
  have h1 := List.all_eq_true.mp hc (.inl 2, a) (by rw [List.mem_iff_getElem?]; exact ⟨a, by simp [h]⟩)
  simpa using h1
theorem shf_5_1 {a : Nat} (h : shL[a]? = some (.inl 5)) : shL[a + 1]? = some (.inr (0, 6, 0)) := by
  have hc : shL.zipIdx.all (fun f => match f.1 with | .inl c => if c = 5 then decide (shL[f.2 + 1]? = some (.inr (0, 6, 0))) else true | _ => true) = true := by decide +kernel
  have h1 := List.all_eq_true.mp hc (.inl 5, a) (by rw [List.mem_iff_getElem?]; exact ⟨a, by simp [h]⟩)
  simpa using h1
theorem shf_5_3 {a : Nat} (h : shL[a]? = some (.inl 5)) : shL[a + 2]? = some (.inr (0, 6, 0)) := by
  have hc : shL.zipIdx.all (fun f => match f.1 with | .inl c => if c = 5 then decide (shL[f.2 + 2]? = some (.inr (0, 6, 0))) else true | _ => true) = true := by decide +kernel
  have h1 := List.all_eq_true.mp hc (.inl 5, a) (by rw [List.mem_iff_getElem?]; exact ⟨a, by simp [h]⟩)
  simpa using h1
theorem shf_5_4 {a : Nat} (h : shL[a]? = some (.inl 5)) : shL[a + 3]? = some (.inr (0, 6, 0)) := by
  have hc : shL.zipIdx.all (fun f => match f.1 with | .inl c => if c = 5 then decide (shL[f.2 + 3]? = some (.inr (0, 6, 0))) else true | _ => true) = true := by decide +kernel
  have h1 := List.all_eq_true.mp hc (.inl 5, a) (by rw [List.mem_iff_getElem?]; exact ⟨a, by simp [h]⟩)
  simpa using h1
theorem shf_5_6 {a : Nat} (h : shL[a]? = some (.inl 5)) : shL[a + 4]? = some (.inr (0, 6, 0)) := by
  have hc : shL.zipIdx.all (fun f => match f.1 with | .inl c => if c = 5 then decide (shL[f.2 + 4]? = some (.inr (0, 6, 0))) else true | _ => true) = true := by decide +kernel
  have h1 := List.all_eq_true.mp hc (.inl 5, a) (by rw [List.mem_iff_getElem?]; exact ⟨a, by simp [h]⟩)
  simpa using h1
theorem shf_5_7 {a : Nat} (h : shL[a]? = some (.inl 5)) : shL[a + 5]? = some (.inr (0, 6, 0)) := by
  have hc : shL.zipIdx.all (fun f => match f.1 with | .inl c => if c = 5 then decide (shL[f.2 + 5]? = some (.inr (0, 6, 0))) else true | _ => true) = true := by decide +kernel
  have h1 := List.all_eq_true.mp hc (.inl 5, a) (by rw [List.mem_iff_getElem?]; exact ⟨a, by simp [h]⟩)
  simpa using h1
theorem shf_5_8 {a : Nat} (h : shL[a]? = some (.inl 5)) : shL[a + 6]? = some (.inr (0, 6, 0)) := by
  have hc : shL.zipIdx.all (fun f => match f.1 with | .inl c => if c = 5 then decide (shL[f.2 + 6]? = some (.inr (0, 6, 0))) else true | _ => true) = true := by decide +kernel
  have h1 := List.all_eq_true.mp hc (.inl 5, a) (by rw [List.mem_iff_getElem?]; exact ⟨a, by simp [h]⟩)
  simpa using h1
theorem shf_5_10 {a : Nat} (h : shL[a]? = some (.inl 5)) : shL[a + 7]? = some (.inr (0, 20, 0)) := by
  have hc : shL.zipIdx.all (fun f => match f.1 with | .inl c => if c = 5 then decide (shL[f.2 + 7]? = some (.inr (0, 20, 0))) else true | _ => true) = true := by decide +kernel
  have h1 := List.all_eq_true.mp hc (.inl 5, a) (by rw [List.mem_iff_getElem?]; exact ⟨a, by simp [h]⟩)
  simpa using h1
theorem shf_5_11 {a : Nat} (h : shL[a]? = some (.inl 5)) : shL[a + 8]? = some (.inr (0, 20, 0)) := by
  have hc : shL.zipIdx.all (fun f => match f.1 with | .inl c => if c = 5 then decide (shL[f.2 + 8]? = some (.inr (0, 20, 0))) else true | _ => true) = true := by decide +kernel
  have h1 := List.all_eq_true.mp hc (.inl 5, a) (by rw [List.mem_iff_getElem?]; exact ⟨a, by simp [h]⟩)
  simpa using h1
theorem shf_5_12 {a : Nat} (h : shL[a]? = some (.inl 5)) : shL[a + 9]? = some (.inr (0, 20, 0)) := by
  have hc : shL.zipIdx.all (fun f => match f.1 with | .inl c => if c = 5 then decide (shL[f.2 + 9]? = some (.inr (0, 20, 0))) else true | _ => true) = true := by decide +kernel
  have h1 := List.all_eq_true.mp hc (.inl 5, a) (by rw [List.mem_iff_getElem?]; exact ⟨a, by simp [h]⟩)
  simpa using h1
theorem shf_5_13 {a : Nat} (h : shL[a]? = some (.inl 5)) : shL[a + 10]? = some (.inr (0, 20, 0)) := by
  have hc : shL.zipIdx.all (fun f => match f.1 with | .inl c => if c = 5 then decide (shL[f.2 + 10]? = some (.inr (0, 20, 0))) else true | _ => true) = true := by decide +kernel
  have h1 := List.all_eq_true.mp hc (.inl 5, a) (by rw [List.mem_iff_getElem?]; exact ⟨a, by simp [h]⟩)
  simpa using h1
theorem shf_5_14 {a : Nat} (h : shL[a]? = some (.inl 5)) : shL[a + 11]? = some (.inl 2) := by
  have hc : shL.zipIdx.all (fun f => match f.1 with | .inl c => if c = 5 then decide (shL[f.2 + 11]? = some (.inl 2)) else true | _ => true) = true := by decide +kernel
  have h1 := List.all_eq_true.mp hc (.inl 5, a) (by rw [List.mem_iff_getElem?]; exact ⟨a, by simp [h]⟩)
  simpa using h1
theorem shf_5_16 {a : Nat} (h : shL[a]? = some (.inl 5)) : shL[a + 16]? = some (.inl 7) := by
  have hc : shL.zipIdx.all (fun f => match f.1 with | .inl c => if c = 5 then decide (shL[f.2 + 16]? = some (.inl 7)) else true | _ => true) = true := by decide +kernel
  have h1 := List.all_eq_true.mp hc (.inl 5, a) (by rw [List.mem_iff_getElem?]; exact ⟨a, by simp [h]⟩)
  simpa using h1
theorem shf_7_0 {a : Nat} (h : shL[a]? = some (.inl 7)) : shL[a + 1]? = some (.inr (0, 6, 0)) := by
  have hc : shL.zipIdx.all (fun f => match f.1 with | .inl c => if c = 7 then decide (shL[f.2 + 1]? = some (.inr (0, 6, 0))) else true | _ => true) = true := by decide +kernel
  have h1 := List.all_eq_true.mp hc (.inl 7, a) (by rw [List.mem_iff_getElem?]; exact ⟨a, by simp [h]⟩)
  simpa using h1
theorem shf_7_1 {a : Nat} (h : shL[a]? = some (.inl 7)) : shL[a + 2]? = some (.inr (0, 6, 0)) := by
  have hc : shL.zipIdx.all (fun f => match f.1 with | .inl c => if c = 7 then decide (shL[f.2 + 2]? = some (.inr (0, 6, 0))) else true | _ => true) = true := by decide +kernel
  have h1 := List.all_eq_true.mp hc (.inl 7, a) (by rw [List.mem_iff_getElem?]; exact ⟨a, by simp [h]⟩)
  simpa using h1
theorem shf_7_2 {a : Nat} (h : shL[a]? = some (.inl 7)) : shL[a + 3]? = some (.inr (0, 6, 0)) := by
  have hc : shL.zipIdx.all (fun f => match f.1 with | .inl c => if c = 7 then decide (shL[f.2 + 3]? = some (.inr (0, 6, 0))) else true | _ => true) = true := by decide +kernel
  have h1 := List.all_eq_true.mp hc (.inl 7, a) (by rw [List.mem_iff_getElem?]; exact ⟨a, by simp [h]⟩)
  simpa using h1
theorem shf_7_3 {a : Nat} (h : shL[a]? = some (.inl 7)) : shL[a + 4]? = some (.inr (0, 6, 0)) := by
  have hc : shL.zipIdx.all (fun f => match f.1 with | .inl c => if c = 7 then decide (shL[f.2 + 4]? = some (.inr (0, 6, 0))) else true | _ => true) = true := by decide +kernel
  have h1 := List.all_eq_true.mp hc (.inl 7, a) (by rw [List.mem_iff_getElem?]; exact ⟨a, by simp [h]⟩)
  simpa using h1
theorem shf_7_4 {a : Nat} (h : shL[a]? = some (.inl 7)) : shL[a + 5]? = some (.inr (0, 36, 0)) := by
  have hc : shL.zipIdx.all (fun f => match f.1 with | .inl c => if c = 7 then decide (shL[f.2 + 5]? = some (.inr (0, 36, 0))) else true | _ => true) = true := by decide +kernel
  have h1 := List.all_eq_true.mp hc (.inl 7, a) (by rw [List.mem_iff_getElem?]; exact ⟨a, by simp [h]⟩)
  simpa using h1
theorem shf_9_0 {a : Nat} (h : shL[a]? = some (.inl 9)) : shL[a + 1]? = some (.inr (0, 7, 0)) := by
  have hc : shL.zipIdx.all (fun f => match f.1 with | .inl c => if c = 9 then decide (shL[f.2 + 1]? = some (.inr (0, 7, 0))) else true | _ => true) = true := by decide +kernel
  have h1 := List.all_eq_true.mp hc (.inl 9, a) (by rw [List.mem_iff_getElem?]; exact ⟨a, by simp [h]⟩)
  simpa using h1
theorem shf_9_1 {a : Nat} (h : shL[a]? = some (.inl 9)) : shL[a + 2]? = some (.inr (0, 7, 0)) := by
  have hc : shL.zipIdx.all (fun f => match f.1 with | .inl c => if c = 9 then decide (shL[f.2 + 2]? = some (.inr (0, 7, 0))) else true | _ => true) = true := by decide +kernel
  have h1 := List.all_eq_true.mp hc (.inl 9, a) (by rw [List.mem_iff_getElem?]; exact ⟨a, by simp [h]⟩)
  simpa using h1
theorem shf_9_2 {a : Nat} (h : shL[a]? = some (.inl 9)) : shL[a + 3]? = some (.inr (0, 6, 0)) := by
  have hc : shL.zipIdx.all (fun f => match f.1 with | .inl c => if c = 9 then decide (shL[f.2 + 3]? = some (.inr (0, 6, 0))) else true | _ => true) = true := by decide +kernel
  have h1 := List.all_eq_true.mp hc (.inl 9, a) (by rw [List.mem_iff_getElem?]; exact ⟨a, by simp [h]⟩)
  simpa using h1
theorem hty_0_3 : ∀ (C : String) (T : u_T) (N : Nat), cls[0]? = some (C, T, N) → parseFieldDescriptor (T 3).2.2.1 = some .int := by
  intro C T N h
  have h1 : some (RX0, TX0, 11) = some (C, T, N) := h
  cases h1
  exact tyX0_ok 3 (by decide)
theorem hty_0_4 : ∀ (C : String) (T : u_T) (N : Nat), cls[0]? = some (C, T, N) → parseFieldDescriptor (T 4).2.2.1 = some (.object "StairCount$Plan") := by
  intro C T N h
  have h1 : some (RX0, TX0, 11) = some (C, T, N) := h
  cases h1
  exact tyX0_ok 4 (by decide)
theorem hty_0_5 : ∀ (C : String) (T : u_T) (N : Nat), cls[0]? = some (C, T, N) → parseFieldDescriptor (T 5).2.2.1 = some (.object "StairCount$State") := by
  intro C T N h
  have h1 : some (RX0, TX0, 11) = some (C, T, N) := h
  cases h1
  exact tyX0_ok 5 (by decide)
theorem hty_0_6 : ∀ (C : String) (T : u_T) (N : Nat), cls[0]? = some (C, T, N) → parseFieldDescriptor (T 6).2.2.1 = some .int := by
  intro C T N h
  have h1 : some (RX0, TX0, 11) = some (C, T, N) := h
  cases h1
  exact tyX0_ok 6 (by decide)
theorem hty_0_7 : ∀ (C : String) (T : u_T) (N : Nat), cls[0]? = some (C, T, N) → parseFieldDescriptor (T 7).2.2.1 = some .int := by
  intro C T N h
  have h1 : some (RX0, TX0, 11) = some (C, T, N) := h
  cases h1
  exact tyX0_ok 7 (by decide)
theorem hty_0_8 : ∀ (C : String) (T : u_T) (N : Nat), cls[0]? = some (C, T, N) → parseFieldDescriptor (T 8).2.2.1 = some .boolean := by
  intro C T N h
  have h1 : some (RX0, TX0, 11) = some (C, T, N) := h
  cases h1
  exact tyX0_ok 8 (by decide)
theorem hty_0_10 : ∀ (C : String) (T : u_T) (N : Nat), cls[0]? = some (C, T, N) → parseFieldDescriptor (T 10).2.2.1 = some (.array .int) := by
  intro C T N h
  have h1 : some (RX0, TX0, 11) = some (C, T, N) := h
  cases h1
  exact tyX0_ok 10 (by decide)
theorem hty_2_2 : ∀ (C : String) (T : u_T) (N : Nat), cls[2]? = some (C, T, N) → parseFieldDescriptor (T 2).2.2.1 = some .int := by
  intro C T N h
  have h1 : some (RX2, TX2, 5) = some (C, T, N) := h
  cases h1
  exact tyX2_ok 2 (by decide)
theorem hty_3_6 : ∀ (C : String) (T : u_T) (N : Nat), cls[3]? = some (C, T, N) → parseFieldDescriptor (T 6).2.2.1 = some .int := by
  intro C T N h
  have h1 : some (RX3, TX3, 8) = some (C, T, N) := h
  cases h1
  exact tyX3_ok 6 (by decide)
theorem hty_3_7 : ∀ (C : String) (T : u_T) (N : Nat), cls[3]? = some (C, T, N) → parseFieldDescriptor (T 7).2.2.1 = some .int := by
  intro C T N h
  have h1 : some (RX3, TX3, 8) = some (C, T, N) := h
  cases h1
  exact tyX3_ok 7 (by decide)
theorem hty_4_1 : ∀ (C : String) (T : u_T) (N : Nat), cls[4]? = some (C, T, N) → parseFieldDescriptor (T 1).2.2.1 = some .int := by
  intro C T N h
  have h1 : some (RX4, TX4, 3) = some (C, T, N) := h
  cases h1
  exact tyX4_ok 1 (by decide)
theorem hty_4_2 : ∀ (C : String) (T : u_T) (N : Nat), cls[4]? = some (C, T, N) → parseFieldDescriptor (T 2).2.2.1 = some .int := by
  intro C T N h
  have h1 : some (RX4, TX4, 3) = some (C, T, N) := h
  cases h1
  exact tyX4_ok 2 (by decide)
theorem hty_5_0 : ∀ (C : String) (T : u_T) (N : Nat), cls[5]? = some (C, T, N) → parseFieldDescriptor (T 0).2.2.1 = some .int := by
  intro C T N h
  have h1 : some (RX5, TX5, 17) = some (C, T, N) := h
  cases h1
  exact tyX5_ok 0 (by decide)
theorem hty_5_2 : ∀ (C : String) (T : u_T) (N : Nat), cls[5]? = some (C, T, N) → parseFieldDescriptor (T 2).2.2.1 = some .int := by
  intro C T N h
  have h1 : some (RX5, TX5, 17) = some (C, T, N) := h
  cases h1
  exact tyX5_ok 2 (by decide)
theorem hty_5_5 : ∀ (C : String) (T : u_T) (N : Nat), cls[5]? = some (C, T, N) → parseFieldDescriptor (T 5).2.2.1 = some .int := by
  intro C T N h
  have h1 : some (RX5, TX5, 17) = some (C, T, N) := h
  cases h1
  exact tyX5_ok 5 (by decide)
theorem hty_5_9 : ∀ (C : String) (T : u_T) (N : Nat), cls[5]? = some (C, T, N) → parseFieldDescriptor (T 9).2.2.1 = some .int := by
  intro C T N h
  have h1 : some (RX5, TX5, 17) = some (C, T, N) := h
  cases h1
  exact tyX5_ok 9 (by decide)
theorem hty_5_15 : ∀ (C : String) (T : u_T) (N : Nat), cls[5]? = some (C, T, N) → parseFieldDescriptor (T 15).2.2.1 = some .int := by
  intro C T N h
  have h1 : some (RX5, TX5, 17) = some (C, T, N) := h
  cases h1
  exact tyX5_ok 15 (by decide)
theorem hty_6_2 : ∀ (C : String) (T : u_T) (N : Nat), cls[6]? = some (C, T, N) → parseFieldDescriptor (T 2).2.2.1 = some (.object "StairCount$Plan") := by
  intro C T N h
  have h1 : some (RX6, TX6, 12) = some (C, T, N) := h
  cases h1
  exact tyX6_ok 2 (by decide)
theorem hty_6_3 : ∀ (C : String) (T : u_T) (N : Nat), cls[6]? = some (C, T, N) → parseFieldDescriptor (T 3).2.2.1 = some .int := by
  intro C T N h
  have h1 : some (RX6, TX6, 12) = some (C, T, N) := h
  cases h1
  exact tyX6_ok 3 (by decide)
theorem hty_6_4 : ∀ (C : String) (T : u_T) (N : Nat), cls[6]? = some (C, T, N) → parseFieldDescriptor (T 4).2.2.1 = some .int := by
  intro C T N h
  have h1 : some (RX6, TX6, 12) = some (C, T, N) := h
  cases h1
  exact tyX6_ok 4 (by decide)
theorem hty_6_5 : ∀ (C : String) (T : u_T) (N : Nat), cls[6]? = some (C, T, N) → parseFieldDescriptor (T 5).2.2.1 = some .int := by
  intro C T N h
  have h1 : some (RX6, TX6, 12) = some (C, T, N) := h
  cases h1
  exact tyX6_ok 5 (by decide)
theorem hty_6_6 : ∀ (C : String) (T : u_T) (N : Nat), cls[6]? = some (C, T, N) → parseFieldDescriptor (T 6).2.2.1 = some .boolean := by
  intro C T N h
  have h1 : some (RX6, TX6, 12) = some (C, T, N) := h
  cases h1
  exact tyX6_ok 6 (by decide)
theorem hty_6_7 : ∀ (C : String) (T : u_T) (N : Nat), cls[6]? = some (C, T, N) → parseFieldDescriptor (T 7).2.2.1 = some .boolean := by
  intro C T N h
  have h1 : some (RX6, TX6, 12) = some (C, T, N) := h
  cases h1
  exact tyX6_ok 7 (by decide)
theorem hty_6_8 : ∀ (C : String) (T : u_T) (N : Nat), cls[6]? = some (C, T, N) → parseFieldDescriptor (T 8).2.2.1 = some .boolean := by
  intro C T N h
  have h1 : some (RX6, TX6, 12) = some (C, T, N) := h
  cases h1
  exact tyX6_ok 8 (by decide)
theorem hty_6_9 : ∀ (C : String) (T : u_T) (N : Nat), cls[6]? = some (C, T, N) → parseFieldDescriptor (T 9).2.2.1 = some .int := by
  intro C T N h
  have h1 : some (RX6, TX6, 12) = some (C, T, N) := h
  cases h1
  exact tyX6_ok 9 (by decide)
theorem hty_6_10 : ∀ (C : String) (T : u_T) (N : Nat), cls[6]? = some (C, T, N) → parseFieldDescriptor (T 10).2.2.1 = some .int := by
  intro C T N h
  have h1 : some (RX6, TX6, 12) = some (C, T, N) := h
  cases h1
  exact tyX6_ok 10 (by decide)
theorem hty_6_11 : ∀ (C : String) (T : u_T) (N : Nat), cls[6]? = some (C, T, N) → parseFieldDescriptor (T 11).2.2.1 = some .int := by
  intro C T N h
  have h1 : some (RX6, TX6, 12) = some (C, T, N) := h
  cases h1
  exact tyX6_ok 11 (by decide)
theorem hty_7_5 : ∀ (C : String) (T : u_T) (N : Nat), cls[7]? = some (C, T, N) → parseFieldDescriptor (T 5).2.2.1 = some .int := by
  intro C T N h
  have h1 : some (RX7, TX7, 7) = some (C, T, N) := h
  cases h1
  exact tyX7_ok 5 (by decide)
theorem hty_7_6 : ∀ (C : String) (T : u_T) (N : Nat), cls[7]? = some (C, T, N) → parseFieldDescriptor (T 6).2.2.1 = some .int := by
  intro C T N h
  have h1 : some (RX7, TX7, 7) = some (C, T, N) := h
  cases h1
  exact tyX7_ok 6 (by decide)
theorem hty_8_3 : ∀ (C : String) (T : u_T) (N : Nat), cls[8]? = some (C, T, N) → parseFieldDescriptor (T 3).2.2.1 = some .int := by
  intro C T N h
  have h1 : some (RX8, TX8, 4) = some (C, T, N) := h
  cases h1
  exact tyX8_ok 3 (by decide)
theorem hty_10_1 : ∀ (C : String) (T : u_T) (N : Nat), cls[10]? = some (C, T, N) → parseFieldDescriptor (T 1).2.2.1 = some .int := by
  intro C T N h
  have h1 : some (RX10, TX10, 13) = some (C, T, N) := h
  cases h1
  exact tyX10_ok 1 (by decide)
theorem hty_10_2 : ∀ (C : String) (T : u_T) (N : Nat), cls[10]? = some (C, T, N) → parseFieldDescriptor (T 2).2.2.1 = some (.object "StairCount$Plan") := by
  intro C T N h
  have h1 : some (RX10, TX10, 13) = some (C, T, N) := h
  cases h1
  exact tyX10_ok 2 (by decide)
theorem hty_10_6 : ∀ (C : String) (T : u_T) (N : Nat), cls[10]? = some (C, T, N) → parseFieldDescriptor (T 6).2.2.1 = some .boolean := by
  intro C T N h
  have h1 : some (RX10, TX10, 13) = some (C, T, N) := h
  cases h1
  exact tyX10_ok 6 (by decide)
theorem hty_11_0 : ∀ (C : String) (T : u_T) (N : Nat), cls[11]? = some (C, T, N) → parseFieldDescriptor (T 0).2.2.1 = some .int := by
  intro C T N h
  have h1 : some (RX11, TX11, 65) = some (C, T, N) := h
  cases h1
  exact tyX11_ok 0 (by decide)
theorem hty_11_2 : ∀ (C : String) (T : u_T) (N : Nat), cls[11]? = some (C, T, N) → parseFieldDescriptor (T 2).2.2.1 = some .int := by
  intro C T N h
  have h1 : some (RX11, TX11, 65) = some (C, T, N) := h
  cases h1
  exact tyX11_ok 2 (by decide)
theorem hty_11_20 : ∀ (C : String) (T : u_T) (N : Nat), cls[11]? = some (C, T, N) → parseFieldDescriptor (T 20).2.2.1 = some .int := by
  intro C T N h
  have h1 : some (RX11, TX11, 65) = some (C, T, N) := h
  cases h1
  exact tyX11_ok 20 (by decide)
theorem hty_11_21 : ∀ (C : String) (T : u_T) (N : Nat), cls[11]? = some (C, T, N) → parseFieldDescriptor (T 21).2.2.1 = some .int := by
  intro C T N h
  have h1 : some (RX11, TX11, 65) = some (C, T, N) := h
  cases h1
  exact tyX11_ok 21 (by decide)
theorem hty_11_22 : ∀ (C : String) (T : u_T) (N : Nat), cls[11]? = some (C, T, N) → parseFieldDescriptor (T 22).2.2.1 = some .int := by
  intro C T N h
  have h1 : some (RX11, TX11, 65) = some (C, T, N) := h
  cases h1
  exact tyX11_ok 22 (by decide)
theorem hty_11_23 : ∀ (C : String) (T : u_T) (N : Nat), cls[11]? = some (C, T, N) → parseFieldDescriptor (T 23).2.2.1 = some .int := by
  intro C T N h
  have h1 : some (RX11, TX11, 65) = some (C, T, N) := h
  cases h1
  exact tyX11_ok 23 (by decide)
theorem hty_11_24 : ∀ (C : String) (T : u_T) (N : Nat), cls[11]? = some (C, T, N) → parseFieldDescriptor (T 24).2.2.1 = some .int := by
  intro C T N h
  have h1 : some (RX11, TX11, 65) = some (C, T, N) := h
  cases h1
  exact tyX11_ok 24 (by decide)
theorem hty_11_25 : ∀ (C : String) (T : u_T) (N : Nat), cls[11]? = some (C, T, N) → parseFieldDescriptor (T 25).2.2.1 = some .int := by
  intro C T N h
  have h1 : some (RX11, TX11, 65) = some (C, T, N) := h
  cases h1
  exact tyX11_ok 25 (by decide)
theorem hty_11_26 : ∀ (C : String) (T : u_T) (N : Nat), cls[11]? = some (C, T, N) → parseFieldDescriptor (T 26).2.2.1 = some .int := by
  intro C T N h
  have h1 : some (RX11, TX11, 65) = some (C, T, N) := h
  cases h1
  exact tyX11_ok 26 (by decide)
theorem hty_11_27 : ∀ (C : String) (T : u_T) (N : Nat), cls[11]? = some (C, T, N) → parseFieldDescriptor (T 27).2.2.1 = some .int := by
  intro C T N h
  have h1 : some (RX11, TX11, 65) = some (C, T, N) := h
  cases h1
  exact tyX11_ok 27 (by decide)
theorem hty_11_28 : ∀ (C : String) (T : u_T) (N : Nat), cls[11]? = some (C, T, N) → parseFieldDescriptor (T 28).2.2.1 = some .int := by
  intro C T N h
  have h1 : some (RX11, TX11, 65) = some (C, T, N) := h
  cases h1
  exact tyX11_ok 28 (by decide)
theorem hty_11_29 : ∀ (C : String) (T : u_T) (N : Nat), cls[11]? = some (C, T, N) → parseFieldDescriptor (T 29).2.2.1 = some .int := by
  intro C T N h
  have h1 : some (RX11, TX11, 65) = some (C, T, N) := h
  cases h1
  exact tyX11_ok 29 (by decide)
theorem hty_11_30 : ∀ (C : String) (T : u_T) (N : Nat), cls[11]? = some (C, T, N) → parseFieldDescriptor (T 30).2.2.1 = some .int := by
  intro C T N h
  have h1 : some (RX11, TX11, 65) = some (C, T, N) := h
  cases h1
  exact tyX11_ok 30 (by decide)
theorem hty_11_31 : ∀ (C : String) (T : u_T) (N : Nat), cls[11]? = some (C, T, N) → parseFieldDescriptor (T 31).2.2.1 = some .int := by
  intro C T N h
  have h1 : some (RX11, TX11, 65) = some (C, T, N) := h
  cases h1
  exact tyX11_ok 31 (by decide)
theorem hty_11_32 : ∀ (C : String) (T : u_T) (N : Nat), cls[11]? = some (C, T, N) → parseFieldDescriptor (T 32).2.2.1 = some .int := by
  intro C T N h
  have h1 : some (RX11, TX11, 65) = some (C, T, N) := h
  cases h1
  exact tyX11_ok 32 (by decide)
theorem hty_11_35 : ∀ (C : String) (T : u_T) (N : Nat), cls[11]? = some (C, T, N) → parseFieldDescriptor (T 35).2.2.1 = some .int := by
  intro C T N h
  have h1 : some (RX11, TX11, 65) = some (C, T, N) := h
  cases h1
  exact tyX11_ok 35 (by decide)
theorem hty_11_43 : ∀ (C : String) (T : u_T) (N : Nat), cls[11]? = some (C, T, N) → parseFieldDescriptor (T 43).2.2.1 = some .boolean := by
  intro C T N h
  have h1 : some (RX11, TX11, 65) = some (C, T, N) := h
  cases h1
  exact tyX11_ok 43 (by decide)
theorem hty_11_44 : ∀ (C : String) (T : u_T) (N : Nat), cls[11]? = some (C, T, N) → parseFieldDescriptor (T 44).2.2.1 = some .int := by
  intro C T N h
  have h1 : some (RX11, TX11, 65) = some (C, T, N) := h
  cases h1
  exact tyX11_ok 44 (by decide)
theorem hty_11_45 : ∀ (C : String) (T : u_T) (N : Nat), cls[11]? = some (C, T, N) → parseFieldDescriptor (T 45).2.2.1 = some .int := by
  intro C T N h
  have h1 : some (RX11, TX11, 65) = some (C, T, N) := h
  cases h1
  exact tyX11_ok 45 (by decide)
theorem hty_11_46 : ∀ (C : String) (T : u_T) (N : Nat), cls[11]? = some (C, T, N) → parseFieldDescriptor (T 46).2.2.1 = some .int := by
  intro C T N h
  have h1 : some (RX11, TX11, 65) = some (C, T, N) := h
  cases h1
  exact tyX11_ok 46 (by decide)
theorem hty_11_47 : ∀ (C : String) (T : u_T) (N : Nat), cls[11]? = some (C, T, N) → parseFieldDescriptor (T 47).2.2.1 = some .int := by
  intro C T N h
  have h1 : some (RX11, TX11, 65) = some (C, T, N) := h
  cases h1
  exact tyX11_ok 47 (by decide)
theorem hty_11_48 : ∀ (C : String) (T : u_T) (N : Nat), cls[11]? = some (C, T, N) → parseFieldDescriptor (T 48).2.2.1 = some .int := by
  intro C T N h
  have h1 : some (RX11, TX11, 65) = some (C, T, N) := h
  cases h1
  exact tyX11_ok 48 (by decide)
theorem hty_11_49 : ∀ (C : String) (T : u_T) (N : Nat), cls[11]? = some (C, T, N) → parseFieldDescriptor (T 49).2.2.1 = some .int := by
  intro C T N h
  have h1 : some (RX11, TX11, 65) = some (C, T, N) := h
  cases h1
  exact tyX11_ok 49 (by decide)
theorem hty_11_52 : ∀ (C : String) (T : u_T) (N : Nat), cls[11]? = some (C, T, N) → parseFieldDescriptor (T 52).2.2.1 = some .int := by
  intro C T N h
  have h1 : some (RX11, TX11, 65) = some (C, T, N) := h
  cases h1
  exact tyX11_ok 52 (by decide)
theorem hty_11_56 : ∀ (C : String) (T : u_T) (N : Nat), cls[11]? = some (C, T, N) → parseFieldDescriptor (T 56).2.2.1 = some .int := by
  intro C T N h
  have h1 : some (RX11, TX11, 65) = some (C, T, N) := h
  cases h1
  exact tyX11_ok 56 (by decide)
theorem hty_11_57 : ∀ (C : String) (T : u_T) (N : Nat), cls[11]? = some (C, T, N) → parseFieldDescriptor (T 57).2.2.1 = some .int := by
  intro C T N h
  have h1 : some (RX11, TX11, 65) = some (C, T, N) := h
  cases h1
  exact tyX11_ok 57 (by decide)
theorem fl_StairCount_9 : FLk "StairCount" 9 10 0 true := ⟨_, _, _, rfl, by decide, tb_in 436 (by decide +kernel) (by decide +kernel), rfl, rfl⟩
theorem fl_StairCount_16 : FLk "StairCount" 16 10 2 false := ⟨_, _, _, rfl, by decide, tb_in 438 (by decide +kernel) (by decide +kernel), rfl, rfl⟩
theorem fl_StairCount_23 : FLk "StairCount" 23 10 3 true := ⟨_, _, _, rfl, by decide, tb_in 439 (by decide +kernel) (by decide +kernel), rfl, rfl⟩
theorem fl_StairCount_30 : FLk "StairCount" 30 10 4 true := ⟨_, _, _, rfl, by decide, tb_in 440 (by decide +kernel) (by decide +kernel), rfl, rfl⟩
theorem fl_StairCount_34 : FLk "StairCount" 34 10 5 true := ⟨_, _, _, rfl, by decide, tb_in 441 (by decide +kernel) (by decide +kernel), rfl, rfl⟩
theorem fl_StairCount_40 : FLk "StairCount" 40 10 7 true := ⟨_, _, _, rfl, by decide, tb_in 443 (by decide +kernel) (by decide +kernel), rfl, rfl⟩
theorem fl_StairCount_47 : FLk "StairCount" 47 10 8 true := ⟨_, _, _, rfl, by decide, tb_in 444 (by decide +kernel) (by decide +kernel), rfl, rfl⟩
theorem fl_StairCount_54 : FLk "StairCount" 54 10 9 true := ⟨_, _, _, rfl, by decide, tb_in 445 (by decide +kernel) (by decide +kernel), rfl, rfl⟩
theorem fl_StairCount_61 : FLk "StairCount" 61 10 10 true := ⟨_, _, _, rfl, by decide, tb_in 446 (by decide +kernel) (by decide +kernel), rfl, rfl⟩
theorem fl_StairCount_68 : FLk "StairCount" 68 10 11 true := ⟨_, _, _, rfl, by decide, tb_in 447 (by decide +kernel) (by decide +kernel), rfl, rfl⟩
theorem fl_StairCount_72 : FLk "StairCount" 72 10 12 true := ⟨_, _, _, rfl, by decide, tb_in 448 (by decide +kernel) (by decide +kernel), rfl, rfl⟩
theorem fl_StairCount_75 : FLk "StairCount" 75 10 1 false := ⟨_, _, _, rfl, by decide, tb_in 437 (by decide +kernel) (by decide +kernel), rfl, rfl⟩
theorem fl_StairCount_87 : FLk "StairCount" 87 6 4 false := ⟨_, _, _, rfl, by decide, tb_in 254 (by decide +kernel) (by decide +kernel), rfl, rfl⟩
theorem fl_StairCount_90 : FLk "StairCount" 90 6 2 false := ⟨_, _, _, rfl, by decide, tb_in 251 (by decide +kernel) (by decide +kernel), rfl, rfl⟩
theorem fl_StairCount_91 : FLk "StairCount" 91 5 16 true := ⟨_, _, _, rfl, by decide, tb_in 180 (by decide +kernel) (by decide +kernel), rfl, rfl⟩
theorem fl_StairCount_101 : FLk "StairCount" 101 10 6 false := ⟨_, _, _, rfl, by decide, tb_in 442 (by decide +kernel) (by decide +kernel), rfl, rfl⟩
theorem fl_StairCount_106 : FLk "StairCount" 106 6 5 false := ⟨_, _, _, rfl, by decide, tb_in 256 (by decide +kernel) (by decide +kernel), rfl, rfl⟩
theorem fl_StairCount_109 : FLk "StairCount" 109 5 2 false := ⟨_, _, _, rfl, by decide, tb_in 129 (by decide +kernel) (by decide +kernel), rfl, rfl⟩
theorem fl_StairCount_112 : FLk "StairCount" 112 5 0 false := ⟨_, _, _, rfl, by decide, tb_in 122 (by decide +kernel) (by decide +kernel), rfl, rfl⟩
theorem fl_StairCount_134 : FLk "StairCount" 134 7 0 true := ⟨_, _, _, rfl, by decide, tb_in 83 (by decide +kernel) (by decide +kernel), rfl, rfl⟩
theorem fl_StairCount_138 : FLk "StairCount" 138 5 4 true := ⟨_, _, _, rfl, by decide, tb_in 136 (by decide +kernel) (by decide +kernel), rfl, rfl⟩
theorem fl_StairCount_141 : FLk "StairCount" 141 7 1 true := ⟨_, _, _, rfl, by decide, tb_in 86 (by decide +kernel) (by decide +kernel), rfl, rfl⟩
theorem fl_StairCount_144 : FLk "StairCount" 144 7 2 true := ⟨_, _, _, rfl, by decide, tb_in 90 (by decide +kernel) (by decide +kernel), rfl, rfl⟩
theorem fl_StairCount_147 : FLk "StairCount" 147 7 3 true := ⟨_, _, _, rfl, by decide, tb_in 93 (by decide +kernel) (by decide +kernel), rfl, rfl⟩
theorem fl_StairCount_161 : FLk "StairCount" 161 7 4 true := ⟨_, _, _, rfl, by decide, tb_in 97 (by decide +kernel) (by decide +kernel), rfl, rfl⟩
theorem fl_StairCount_186 : FLk "StairCount" 186 0 3 false := ⟨_, _, _, rfl, by decide, tb_in 363 (by decide +kernel) (by decide +kernel), rfl, rfl⟩
theorem fl_StairCount_189 : FLk "StairCount" 189 0 0 true := ⟨_, _, _, rfl, by decide, tb_in 358 (by decide +kernel) (by decide +kernel), rfl, rfl⟩
theorem fl_StairCount_203 : FLk "StairCount" 203 5 5 false := ⟨_, _, _, rfl, by decide, tb_in 141 (by decide +kernel) (by decide +kernel), rfl, rfl⟩
theorem fl_StairCount_206 : FLk "StairCount" 206 5 9 false := ⟨_, _, _, rfl, by decide, tb_in 157 (by decide +kernel) (by decide +kernel), rfl, rfl⟩
theorem fl_StairCount_209 : FLk "StairCount" 209 5 14 true := ⟨_, _, _, rfl, by decide, tb_in 173 (by decide +kernel) (by decide +kernel), rfl, rfl⟩
theorem fl_StairCount_213 : FLk "StairCount" 213 2 2 false := ⟨_, _, _, rfl, by decide, tb_in 52 (by decide +kernel) (by decide +kernel), rfl, rfl⟩
theorem fl_StairCount_218 : FLk "StairCount" 218 7 5 false := ⟨_, _, _, rfl, by decide, tb_in 101 (by decide +kernel) (by decide +kernel), rfl, rfl⟩
theorem fl_StairCount_229 : FLk "StairCount" 229 3 6 false := ⟨_, _, _, rfl, by decide, tb_in 323 (by decide +kernel) (by decide +kernel), rfl, rfl⟩
theorem fl_StairCount_235 : FLk "StairCount" 235 4 2 false := ⟨_, _, _, rfl, by decide, tb_in 302 (by decide +kernel) (by decide +kernel), rfl, rfl⟩
theorem fl_StairCount_250 : FLk "StairCount" 250 0 2 true := ⟨_, _, _, rfl, by decide, tb_in 361 (by decide +kernel) (by decide +kernel), rfl, rfl⟩
theorem fl_StairCount_269 : FLk "StairCount" 269 9 0 true := ⟨_, _, _, rfl, by decide, tb_in 425 (by decide +kernel) (by decide +kernel), rfl, rfl⟩
theorem fl_StairCount_273 : FLk "StairCount" 273 9 1 true := ⟨_, _, _, rfl, by decide, tb_in 427 (by decide +kernel) (by decide +kernel), rfl, rfl⟩
theorem fl_StairCount_290 : FLk "StairCount" 290 5 15 false := ⟨_, _, _, rfl, by decide, tb_in 177 (by decide +kernel) (by decide +kernel), rfl, rfl⟩
theorem fl_StairCount_303 : FLk "StairCount" 303 3 7 false := ⟨_, _, _, rfl, by decide, tb_in 325 (by decide +kernel) (by decide +kernel), rfl, rfl⟩
theorem fl_StairCount_319 : FLk "StairCount" 319 7 6 false := ⟨_, _, _, rfl, by decide, tb_in 104 (by decide +kernel) (by decide +kernel), rfl, rfl⟩
theorem fl_StairCount_328 : FLk "StairCount" 328 0 7 false := ⟨_, _, _, rfl, by decide, tb_in 372 (by decide +kernel) (by decide +kernel), rfl, rfl⟩
theorem fl_StairCount_331 : FLk "StairCount" 331 0 8 false := ⟨_, _, _, rfl, by decide, tb_in 374 (by decide +kernel) (by decide +kernel), rfl, rfl⟩
theorem fl_StairCount_334 : FLk "StairCount" 334 0 9 true := ⟨_, _, _, rfl, by decide, tb_in 376 (by decide +kernel) (by decide +kernel), rfl, rfl⟩
theorem fl_StairCount_337 : FLk "StairCount" 337 0 10 false := ⟨_, _, _, rfl, by decide, tb_in 378 (by decide +kernel) (by decide +kernel), rfl, rfl⟩
theorem fl_StairCount_Course_11 : FLk "StairCount$Course" 11 0 0 true := ⟨_, _, _, rfl, by decide, tb_in 357 (by decide +kernel) (by decide +kernel), rfl, rfl⟩
theorem fl_StairCount_Course_17 : FLk "StairCount$Course" 17 0 1 true := ⟨_, _, _, rfl, by decide, tb_in 359 (by decide +kernel) (by decide +kernel), rfl, rfl⟩
theorem fl_StairCount_Course_31 : FLk "StairCount$Course" 31 0 4 false := ⟨_, _, _, rfl, by decide, tb_in 364 (by decide +kernel) (by decide +kernel), rfl, rfl⟩
theorem fl_StairCount_Course_35 : FLk "StairCount$Course" 35 0 5 false := ⟨_, _, _, rfl, by decide, tb_in 367 (by decide +kernel) (by decide +kernel), rfl, rfl⟩
theorem fl_StairCount_Course_41 : FLk "StairCount$Course" 41 0 10 false := ⟨_, _, _, rfl, by decide, tb_in 377 (by decide +kernel) (by decide +kernel), rfl, rfl⟩
theorem fl_StairCount_Course_50 : FLk "StairCount$Course" 50 0 6 false := ⟨_, _, _, rfl, by decide, tb_in 370 (by decide +kernel) (by decide +kernel), rfl, rfl⟩
theorem fl_StairCount_Course_54 : FLk "StairCount$Course" 54 0 7 false := ⟨_, _, _, rfl, by decide, tb_in 371 (by decide +kernel) (by decide +kernel), rfl, rfl⟩
theorem fl_StairCount_Course_57 : FLk "StairCount$Course" 57 0 8 false := ⟨_, _, _, rfl, by decide, tb_in 373 (by decide +kernel) (by decide +kernel), rfl, rfl⟩
theorem fl_StairCount_Course_61 : FLk "StairCount$Course" 61 5 4 true := ⟨_, _, _, rfl, by decide, tb_in 135 (by decide +kernel) (by decide +kernel), rfl, rfl⟩
theorem fl_StairCount_Course_62 : FLk "StairCount$Course" 62 7 5 false := ⟨_, _, _, rfl, by decide, tb_in 100 (by decide +kernel) (by decide +kernel), rfl, rfl⟩
theorem fl_StairCount_Course_76 : FLk "StairCount$Course" 76 0 3 false := ⟨_, _, _, rfl, by decide, tb_in 362 (by decide +kernel) (by decide +kernel), rfl, rfl⟩
theorem fl_StairCount_Course_79 : FLk "StairCount$Course" 79 5 11 true := ⟨_, _, _, rfl, by decide, tb_in 162 (by decide +kernel) (by decide +kernel), rfl, rfl⟩
theorem fl_StairCount_Course_82 : FLk "StairCount$Course" 82 5 13 true := ⟨_, _, _, rfl, by decide, tb_in 168 (by decide +kernel) (by decide +kernel), rfl, rfl⟩
theorem fl_StairCount_Course_85 : FLk "StairCount$Course" 85 5 10 true := ⟨_, _, _, rfl, by decide, tb_in 159 (by decide +kernel) (by decide +kernel), rfl, rfl⟩
theorem fl_StairCount_Course_98 : FLk "StairCount$Course" 98 7 0 true := ⟨_, _, _, rfl, by decide, tb_in 81 (by decide +kernel) (by decide +kernel), rfl, rfl⟩
theorem fl_StairCount_Course_101 : FLk "StairCount$Course" 101 5 9 false := ⟨_, _, _, rfl, by decide, tb_in 155 (by decide +kernel) (by decide +kernel), rfl, rfl⟩
theorem fl_StairCount_Course_104 : FLk "StairCount$Course" 104 5 12 true := ⟨_, _, _, rfl, by decide, tb_in 165 (by decide +kernel) (by decide +kernel), rfl, rfl⟩
theorem fl_StairCount_Course_113 : FLk "StairCount$Course" 113 5 6 true := ⟨_, _, _, rfl, by decide, tb_in 144 (by decide +kernel) (by decide +kernel), rfl, rfl⟩
theorem fl_StairCount_Course_116 : FLk "StairCount$Course" 116 5 7 true := ⟨_, _, _, rfl, by decide, tb_in 148 (by decide +kernel) (by decide +kernel), rfl, rfl⟩
theorem fl_StairCount_Course_119 : FLk "StairCount$Course" 119 7 2 true := ⟨_, _, _, rfl, by decide, tb_in 89 (by decide +kernel) (by decide +kernel), rfl, rfl⟩
theorem fl_StairCount_Course_122 : FLk "StairCount$Course" 122 5 8 true := ⟨_, _, _, rfl, by decide, tb_in 152 (by decide +kernel) (by decide +kernel), rfl, rfl⟩
theorem fl_StairCount_Course_128 : FLk "StairCount$Course" 128 5 0 false := ⟨_, _, _, rfl, by decide, tb_in 123 (by decide +kernel) (by decide +kernel), rfl, rfl⟩
theorem fl_StairCount_Course_153 : FLk "StairCount$Course" 153 7 3 true := ⟨_, _, _, rfl, by decide, tb_in 92 (by decide +kernel) (by decide +kernel), rfl, rfl⟩
theorem fl_StairCount_Course_171 : FLk "StairCount$Course" 171 5 15 false := ⟨_, _, _, rfl, by decide, tb_in 175 (by decide +kernel) (by decide +kernel), rfl, rfl⟩
theorem fl_StairCount_Course_178 : FLk "StairCount$Course" 178 5 1 true := ⟨_, _, _, rfl, by decide, tb_in 126 (by decide +kernel) (by decide +kernel), rfl, rfl⟩
theorem fl_StairCount_Course_181 : FLk "StairCount$Course" 181 7 4 true := ⟨_, _, _, rfl, by decide, tb_in 96 (by decide +kernel) (by decide +kernel), rfl, rfl⟩
theorem fl_StairCount_Course_188 : FLk "StairCount$Course" 188 5 14 true := ⟨_, _, _, rfl, by decide, tb_in 171 (by decide +kernel) (by decide +kernel), rfl, rfl⟩
theorem fl_StairCount_Course_192 : FLk "StairCount$Course" 192 2 3 true := ⟨_, _, _, rfl, by decide, tb_in 54 (by decide +kernel) (by decide +kernel), rfl, rfl⟩
theorem fl_StairCount_Course_197 : FLk "StairCount$Course" 197 2 4 true := ⟨_, _, _, rfl, by decide, tb_in 57 (by decide +kernel) (by decide +kernel), rfl, rfl⟩
theorem fl_StairCount_Course_200 : FLk "StairCount$Course" 200 2 0 true := ⟨_, _, _, rfl, by decide, tb_in 47 (by decide +kernel) (by decide +kernel), rfl, rfl⟩
theorem fl_StairCount_Course_203 : FLk "StairCount$Course" 203 2 1 true := ⟨_, _, _, rfl, by decide, tb_in 49 (by decide +kernel) (by decide +kernel), rfl, rfl⟩
theorem fl_StairCount_Course_213 : FLk "StairCount$Course" 213 7 1 true := ⟨_, _, _, rfl, by decide, tb_in 87 (by decide +kernel) (by decide +kernel), rfl, rfl⟩
theorem fl_StairCount_Course_216 : FLk "StairCount$Course" 216 5 2 false := ⟨_, _, _, rfl, by decide, tb_in 131 (by decide +kernel) (by decide +kernel), rfl, rfl⟩
theorem fl_StairCount_Guess_11 : FLk "StairCount$Guess" 11 1 0 true := ⟨_, _, _, rfl, by decide, tb_in 411 (by decide +kernel) (by decide +kernel), rfl, rfl⟩
theorem fl_StairCount_Guess_16 : FLk "StairCount$Guess" 16 1 1 true := ⟨_, _, _, rfl, by decide, tb_in 412 (by decide +kernel) (by decide +kernel), rfl, rfl⟩
theorem fl_StairCount_Guess_20 : FLk "StairCount$Guess" 20 0 5 false := ⟨_, _, _, rfl, by decide, tb_in 368 (by decide +kernel) (by decide +kernel), rfl, rfl⟩
theorem fl_StairCount_Guess_26 : FLk "StairCount$Guess" 26 0 4 false := ⟨_, _, _, rfl, by decide, tb_in 366 (by decide +kernel) (by decide +kernel), rfl, rfl⟩
theorem fl_StairCount_Guess_30 : FLk "StairCount$Guess" 30 5 16 true := ⟨_, _, _, rfl, by decide, tb_in 179 (by decide +kernel) (by decide +kernel), rfl, rfl⟩
theorem fl_StairCount_Guess_41 : FLk "StairCount$Guess" 41 7 4 true := ⟨_, _, _, rfl, by decide, tb_in 95 (by decide +kernel) (by decide +kernel), rfl, rfl⟩
theorem fl_StairCount_Guess_51 : FLk "StairCount$Guess" 51 7 0 true := ⟨_, _, _, rfl, by decide, tb_in 80 (by decide +kernel) (by decide +kernel), rfl, rfl⟩
theorem fl_StairCount_Laws_9 : FLk "StairCount$Laws" 9 2 0 true := ⟨_, _, _, rfl, by decide, tb_in 46 (by decide +kernel) (by decide +kernel), rfl, rfl⟩
theorem fl_StairCount_Laws_15 : FLk "StairCount$Laws" 15 2 1 true := ⟨_, _, _, rfl, by decide, tb_in 48 (by decide +kernel) (by decide +kernel), rfl, rfl⟩
theorem fl_StairCount_Laws_18 : FLk "StairCount$Laws" 18 2 3 true := ⟨_, _, _, rfl, by decide, tb_in 53 (by decide +kernel) (by decide +kernel), rfl, rfl⟩
theorem fl_StairCount_Laws_21 : FLk "StairCount$Laws" 21 2 4 true := ⟨_, _, _, rfl, by decide, tb_in 56 (by decide +kernel) (by decide +kernel), rfl, rfl⟩
theorem fl_StairCount_Laws_24 : FLk "StairCount$Laws" 24 2 2 false := ⟨_, _, _, rfl, by decide, tb_in 50 (by decide +kernel) (by decide +kernel), rfl, rfl⟩
theorem fl_StairCount_Notes_9 : FLk "StairCount$Notes" 9 3 0 true := ⟨_, _, _, rfl, by decide, tb_in 316 (by decide +kernel) (by decide +kernel), rfl, rfl⟩
theorem fl_StairCount_Notes_15 : FLk "StairCount$Notes" 15 3 1 true := ⟨_, _, _, rfl, by decide, tb_in 317 (by decide +kernel) (by decide +kernel), rfl, rfl⟩
theorem fl_StairCount_Notes_18 : FLk "StairCount$Notes" 18 3 2 true := ⟨_, _, _, rfl, by decide, tb_in 318 (by decide +kernel) (by decide +kernel), rfl, rfl⟩
theorem fl_StairCount_Notes_21 : FLk "StairCount$Notes" 21 3 3 true := ⟨_, _, _, rfl, by decide, tb_in 319 (by decide +kernel) (by decide +kernel), rfl, rfl⟩
theorem fl_StairCount_Notes_25 : FLk "StairCount$Notes" 25 3 4 true := ⟨_, _, _, rfl, by decide, tb_in 320 (by decide +kernel) (by decide +kernel), rfl, rfl⟩
theorem fl_StairCount_Notes_28 : FLk "StairCount$Notes" 28 3 5 true := ⟨_, _, _, rfl, by decide, tb_in 321 (by decide +kernel) (by decide +kernel), rfl, rfl⟩
theorem fl_StairCount_Notes_31 : FLk "StairCount$Notes" 31 3 7 false := ⟨_, _, _, rfl, by decide, tb_in 324 (by decide +kernel) (by decide +kernel), rfl, rfl⟩
theorem fl_StairCount_Notes_35 : FLk "StairCount$Notes" 35 3 6 false := ⟨_, _, _, rfl, by decide, tb_in 322 (by decide +kernel) (by decide +kernel), rfl, rfl⟩
theorem fl_StairCount_Notes_42 : FLk "StairCount$Notes" 42 7 0 true := ⟨_, _, _, rfl, by decide, tb_in 82 (by decide +kernel) (by decide +kernel), rfl, rfl⟩
theorem fl_StairCount_Past_11 : FLk "StairCount$Past" 11 4 0 true := ⟨_, _, _, rfl, by decide, tb_in 299 (by decide +kernel) (by decide +kernel), rfl, rfl⟩
theorem fl_StairCount_Past_18 : FLk "StairCount$Past" 18 4 2 false := ⟨_, _, _, rfl, by decide, tb_in 301 (by decide +kernel) (by decide +kernel), rfl, rfl⟩
theorem fl_StairCount_Past_22 : FLk "StairCount$Past" 22 4 1 false := ⟨_, _, _, rfl, by decide, tb_in 300 (by decide +kernel) (by decide +kernel), rfl, rfl⟩
theorem fl_StairCount_Plan_15 : FLk "StairCount$Plan" 15 5 3 true := ⟨_, _, _, rfl, by decide, tb_in 132 (by decide +kernel) (by decide +kernel), rfl, rfl⟩
theorem fl_StairCount_Plan_36 : FLk "StairCount$Plan" 36 5 12 true := ⟨_, _, _, rfl, by decide, tb_in 164 (by decide +kernel) (by decide +kernel), rfl, rfl⟩
theorem fl_StairCount_Plan_45 : FLk "StairCount$Plan" 45 5 14 true := ⟨_, _, _, rfl, by decide, tb_in 170 (by decide +kernel) (by decide +kernel), rfl, rfl⟩
theorem fl_StairCount_Plan_52 : FLk "StairCount$Plan" 52 5 16 true := ⟨_, _, _, rfl, by decide, tb_in 178 (by decide +kernel) (by decide +kernel), rfl, rfl⟩
theorem fl_StairCount_Plan_56 : FLk "StairCount$Plan" 56 5 0 false := ⟨_, _, _, rfl, by decide, tb_in 120 (by decide +kernel) (by decide +kernel), rfl, rfl⟩
theorem fl_StairCount_Plan_60 : FLk "StairCount$Plan" 60 5 2 false := ⟨_, _, _, rfl, by decide, tb_in 128 (by decide +kernel) (by decide +kernel), rfl, rfl⟩
theorem fl_StairCount_Plan_63 : FLk "StairCount$Plan" 63 5 5 false := ⟨_, _, _, rfl, by decide, tb_in 138 (by decide +kernel) (by decide +kernel), rfl, rfl⟩
theorem fl_StairCount_Plan_66 : FLk "StairCount$Plan" 66 5 9 false := ⟨_, _, _, rfl, by decide, tb_in 154 (by decide +kernel) (by decide +kernel), rfl, rfl⟩
theorem fl_StairCount_Plan_72 : FLk "StairCount$Plan" 72 5 15 false := ⟨_, _, _, rfl, by decide, tb_in 174 (by decide +kernel) (by decide +kernel), rfl, rfl⟩
theorem fl_StairCount_Reader_12 : FLk "StairCount$Reade\x72" 12 6 0 true := ⟨_, _, _, rfl, by decide, tb_in 248 (by decide +kernel) (by decide +kernel), rfl, rfl⟩
theorem fl_StairCount_Reader_18 : FLk "StairCount$Reade\x72" 18 6 1 true := ⟨_, _, _, rfl, by decide, tb_in 249 (by decide +kernel) (by decide +kernel), rfl, rfl⟩
theorem fl_StairCount_Reader_25 : FLk "StairCount$Reade\x72" 25 6 2 false := ⟨_, _, _, rfl, by decide, tb_in 250 (by decide +kernel) (by decide +kernel), rfl, rfl⟩
theorem fl_StairCount_Reader_36 : FLk "StairCount$Reade\x72" 36 6 3 false := ⟨_, _, _, rfl, by decide, tb_in 252 (by decide +kernel) (by decide +kernel), rfl, rfl⟩
theorem fl_StairCount_Reader_40 : FLk "StairCount$Reade\x72" 40 6 4 false := ⟨_, _, _, rfl, by decide, tb_in 253 (by decide +kernel) (by decide +kernel), rfl, rfl⟩
theorem fl_StairCount_Reader_43 : FLk "StairCount$Reade\x72" 43 6 5 false := ⟨_, _, _, rfl, by decide, tb_in 255 (by decide +kernel) (by decide +kernel), rfl, rfl⟩
theorem fl_StairCount_Reader_46 : FLk "StairCount$Reade\x72" 46 6 6 false := ⟨_, _, _, rfl, by decide, tb_in 257 (by decide +kernel) (by decide +kernel), rfl, rfl⟩
theorem fl_StairCount_Reader_50 : FLk "StairCount$Reade\x72" 50 6 7 false := ⟨_, _, _, rfl, by decide, tb_in 258 (by decide +kernel) (by decide +kernel), rfl, rfl⟩
theorem fl_StairCount_Reader_53 : FLk "StairCount$Reade\x72" 53 6 8 false := ⟨_, _, _, rfl, by decide, tb_in 259 (by decide +kernel) (by decide +kernel), rfl, rfl⟩
theorem fl_StairCount_Reader_56 : FLk "StairCount$Reade\x72" 56 6 11 false := ⟨_, _, _, rfl, by decide, tb_in 262 (by decide +kernel) (by decide +kernel), rfl, rfl⟩
theorem fl_StairCount_Reader_59 : FLk "StairCount$Reade\x72" 59 8 3 false := ⟨_, _, _, rfl, by decide, tb_in 236 (by decide +kernel) (by decide +kernel), rfl, rfl⟩
theorem fl_StairCount_Reader_69 : FLk "StairCount$Reade\x72" 69 8 0 true := ⟨_, _, _, rfl, by decide, tb_in 230 (by decide +kernel) (by decide +kernel), rfl, rfl⟩
theorem fl_StairCount_Reader_72 : FLk "StairCount$Reade\x72" 72 8 2 true := ⟨_, _, _, rfl, by decide, tb_in 234 (by decide +kernel) (by decide +kernel), rfl, rfl⟩
theorem fl_StairCount_Reader_75 : FLk "StairCount$Reade\x72" 75 8 1 true := ⟨_, _, _, rfl, by decide, tb_in 232 (by decide +kernel) (by decide +kernel), rfl, rfl⟩
theorem fl_StairCount_Reader_120 : FLk "StairCount$Reade\x72" 120 5 0 false := ⟨_, _, _, rfl, by decide, tb_in 124 (by decide +kernel) (by decide +kernel), rfl, rfl⟩
theorem fl_StairCount_Reader_130 : FLk "StairCount$Reade\x72" 130 5 1 true := ⟨_, _, _, rfl, by decide, tb_in 127 (by decide +kernel) (by decide +kernel), rfl, rfl⟩
theorem fl_StairCount_Reader_133 : FLk "StairCount$Reade\x72" 133 5 2 false := ⟨_, _, _, rfl, by decide, tb_in 130 (by decide +kernel) (by decide +kernel), rfl, rfl⟩
theorem fl_StairCount_Reader_136 : FLk "StairCount$Reade\x72" 136 5 3 true := ⟨_, _, _, rfl, by decide, tb_in 133 (by decide +kernel) (by decide +kernel), rfl, rfl⟩
theorem fl_StairCount_Reader_139 : FLk "StairCount$Reade\x72" 139 5 4 true := ⟨_, _, _, rfl, by decide, tb_in 137 (by decide +kernel) (by decide +kernel), rfl, rfl⟩
theorem fl_StairCount_Reader_142 : FLk "StairCount$Reade\x72" 142 5 16 true := ⟨_, _, _, rfl, by decide, tb_in 181 (by decide +kernel) (by decide +kernel), rfl, rfl⟩
theorem fl_StairCount_Reader_146 : FLk "StairCount$Reade\x72" 146 7 0 true := ⟨_, _, _, rfl, by decide, tb_in 84 (by decide +kernel) (by decide +kernel), rfl, rfl⟩
theorem fl_StairCount_Reader_154 : FLk "StairCount$Reade\x72" 154 7 4 true := ⟨_, _, _, rfl, by decide, tb_in 98 (by decide +kernel) (by decide +kernel), rfl, rfl⟩
theorem fl_StairCount_Reader_160 : FLk "StairCount$Reade\x72" 160 5 5 false := ⟨_, _, _, rfl, by decide, tb_in 140 (by decide +kernel) (by decide +kernel), rfl, rfl⟩
theorem fl_StairCount_Reader_163 : FLk "StairCount$Reade\x72" 163 5 6 true := ⟨_, _, _, rfl, by decide, tb_in 145 (by decide +kernel) (by decide +kernel), rfl, rfl⟩
theorem fl_StairCount_Reader_166 : FLk "StairCount$Reade\x72" 166 5 7 true := ⟨_, _, _, rfl, by decide, tb_in 149 (by decide +kernel) (by decide +kernel), rfl, rfl⟩
theorem fl_StairCount_Reader_169 : FLk "StairCount$Reade\x72" 169 5 8 true := ⟨_, _, _, rfl, by decide, tb_in 153 (by decide +kernel) (by decide +kernel), rfl, rfl⟩
theorem fl_StairCount_Reader_172 : FLk "StairCount$Reade\x72" 172 5 9 false := ⟨_, _, _, rfl, by decide, tb_in 156 (by decide +kernel) (by decide +kernel), rfl, rfl⟩
theorem fl_StairCount_Reader_175 : FLk "StairCount$Reade\x72" 175 5 10 true := ⟨_, _, _, rfl, by decide, tb_in 160 (by decide +kernel) (by decide +kernel), rfl, rfl⟩
theorem fl_StairCount_Reader_178 : FLk "StairCount$Reade\x72" 178 5 11 true := ⟨_, _, _, rfl, by decide, tb_in 163 (by decide +kernel) (by decide +kernel), rfl, rfl⟩
theorem fl_StairCount_Reader_181 : FLk "StairCount$Reade\x72" 181 5 12 true := ⟨_, _, _, rfl, by decide, tb_in 166 (by decide +kernel) (by decide +kernel), rfl, rfl⟩
theorem fl_StairCount_Reader_184 : FLk "StairCount$Reade\x72" 184 5 13 true := ⟨_, _, _, rfl, by decide, tb_in 169 (by decide +kernel) (by decide +kernel), rfl, rfl⟩
theorem fl_StairCount_Reader_187 : FLk "StairCount$Reade\x72" 187 5 15 false := ⟨_, _, _, rfl, by decide, tb_in 176 (by decide +kernel) (by decide +kernel), rfl, rfl⟩
theorem fl_StairCount_Reader_191 : FLk "StairCount$Reade\x72" 191 7 6 false := ⟨_, _, _, rfl, by decide, tb_in 103 (by decide +kernel) (by decide +kernel), rfl, rfl⟩
theorem fl_StairCount_Reader_193 : FLk "StairCount$Reade\x72" 193 5 14 true := ⟨_, _, _, rfl, by decide, tb_in 172 (by decide +kernel) (by decide +kernel), rfl, rfl⟩
theorem fl_StairCount_Reader_203 : FLk "StairCount$Reade\x72" 203 2 3 true := ⟨_, _, _, rfl, by decide, tb_in 55 (by decide +kernel) (by decide +kernel), rfl, rfl⟩
theorem fl_StairCount_Reader_206 : FLk "StairCount$Reade\x72" 206 2 2 false := ⟨_, _, _, rfl, by decide, tb_in 51 (by decide +kernel) (by decide +kernel), rfl, rfl⟩
theorem fl_StairCount_Reader_212 : FLk "StairCount$Reade\x72" 212 2 4 true := ⟨_, _, _, rfl, by decide, tb_in 58 (by decide +kernel) (by decide +kernel), rfl, rfl⟩
theorem fl_StairCount_Reader_215 : FLk "StairCount$Reade\x72" 215 6 9 false := ⟨_, _, _, rfl, by decide, tb_in 260 (by decide +kernel) (by decide +kernel), rfl, rfl⟩
theorem fl_StairCount_Reader_218 : FLk "StairCount$Reade\x72" 218 6 10 false := ⟨_, _, _, rfl, by decide, tb_in 261 (by decide +kernel) (by decide +kernel), rfl, rfl⟩
theorem fl_StairCount_State_9 : FLk "StairCount$State" 9 7 0 true := ⟨_, _, _, rfl, by decide, tb_in 78 (by decide +kernel) (by decide +kernel), rfl, rfl⟩
theorem fl_StairCount_State_15 : FLk "StairCount$State" 15 7 1 true := ⟨_, _, _, rfl, by decide, tb_in 85 (by decide +kernel) (by decide +kernel), rfl, rfl⟩
theorem fl_StairCount_State_18 : FLk "StairCount$State" 18 7 2 true := ⟨_, _, _, rfl, by decide, tb_in 88 (by decide +kernel) (by decide +kernel), rfl, rfl⟩
theorem fl_StairCount_State_21 : FLk "StairCount$State" 21 7 3 true := ⟨_, _, _, rfl, by decide, tb_in 91 (by decide +kernel) (by decide +kernel), rfl, rfl⟩
theorem fl_StairCount_State_24 : FLk "StairCount$State" 24 7 4 true := ⟨_, _, _, rfl, by decide, tb_in 94 (by decide +kernel) (by decide +kernel), rfl, rfl⟩
theorem fl_StairCount_State_33 : FLk "StairCount$State" 33 7 5 false := ⟨_, _, _, rfl, by decide, tb_in 99 (by decide +kernel) (by decide +kernel), rfl, rfl⟩
theorem fl_StairCount_State_37 : FLk "StairCount$State" 37 7 6 false := ⟨_, _, _, rfl, by decide, tb_in 102 (by decide +kernel) (by decide +kernel), rfl, rfl⟩
theorem fl_StairCount_Tokens_9 : FLk "StairCount$Tokens" 9 8 0 true := ⟨_, _, _, rfl, by decide, tb_in 229 (by decide +kernel) (by decide +kernel), rfl, rfl⟩
theorem fl_StairCount_Tokens_15 : FLk "StairCount$Tokens" 15 8 1 true := ⟨_, _, _, rfl, by decide, tb_in 231 (by decide +kernel) (by decide +kernel), rfl, rfl⟩
theorem fl_StairCount_Tokens_18 : FLk "StairCount$Tokens" 18 8 2 true := ⟨_, _, _, rfl, by decide, tb_in 233 (by decide +kernel) (by decide +kernel), rfl, rfl⟩
theorem fl_StairCount_Tokens_21 : FLk "StairCount$Tokens" 21 8 3 false := ⟨_, _, _, rfl, by decide, tb_in 235 (by decide +kernel) (by decide +kernel), rfl, rfl⟩
theorem fl_StairCount_Ways_11 : FLk "StairCount$Ways" 11 9 0 true := ⟨_, _, _, rfl, by decide, tb_in 424 (by decide +kernel) (by decide +kernel), rfl, rfl⟩
theorem fl_StairCount_Ways_17 : FLk "StairCount$Ways" 17 9 1 true := ⟨_, _, _, rfl, by decide, tb_in 426 (by decide +kernel) (by decide +kernel), rfl, rfl⟩
theorem fl_StairCount_Ways_20 : FLk "StairCount$Ways" 20 9 2 true := ⟨_, _, _, rfl, by decide, tb_in 428 (by decide +kernel) (by decide +kernel), rfl, rfl⟩
theorem fl_StairCount_Ways_23 : FLk "StairCount$Ways" 23 0 4 false := ⟨_, _, _, rfl, by decide, tb_in 365 (by decide +kernel) (by decide +kernel), rfl, rfl⟩
theorem fl_StairCount_Ways_36 : FLk "StairCount$Ways" 36 0 5 false := ⟨_, _, _, rfl, by decide, tb_in 369 (by decide +kernel) (by decide +kernel), rfl, rfl⟩
theorem fl_StairCount_Ways_40 : FLk "StairCount$Ways" 40 7 0 true := ⟨_, _, _, rfl, by decide, tb_in 79 (by decide +kernel) (by decide +kernel), rfl, rfl⟩
theorem fl_StairCount_Ways_45 : FLk "StairCount$Ways" 45 5 0 false := ⟨_, _, _, rfl, by decide, tb_in 121 (by decide +kernel) (by decide +kernel), rfl, rfl⟩
theorem fl_StairCount_Ways_59 : FLk "StairCount$Ways" 59 5 5 false := ⟨_, _, _, rfl, by decide, tb_in 139 (by decide +kernel) (by decide +kernel), rfl, rfl⟩
theorem fl_StairCount_Ways_62 : FLk "StairCount$Ways" 62 5 6 true := ⟨_, _, _, rfl, by decide, tb_in 143 (by decide +kernel) (by decide +kernel), rfl, rfl⟩
theorem fl_StairCount_Ways_65 : FLk "StairCount$Ways" 65 5 7 true := ⟨_, _, _, rfl, by decide, tb_in 147 (by decide +kernel) (by decide +kernel), rfl, rfl⟩
theorem fl_StairCount_Ways_68 : FLk "StairCount$Ways" 68 5 8 true := ⟨_, _, _, rfl, by decide, tb_in 151 (by decide +kernel) (by decide +kernel), rfl, rfl⟩
theorem fl_StairCountModel_7 : FLk "StairCountModel" 7 11 1 true := ⟨_, _, _, rfl, by decide, tb_in 1205 (by decide +kernel) (by decide +kernel), rfl, rfl⟩
theorem fl_StairCountModel_13 : FLk "StairCountModel" 13 11 3 true := ⟨_, _, _, rfl, by decide, tb_in 1207 (by decide +kernel) (by decide +kernel), rfl, rfl⟩
theorem fl_StairCountModel_16 : FLk "StairCountModel" 16 11 4 true := ⟨_, _, _, rfl, by decide, tb_in 1208 (by decide +kernel) (by decide +kernel), rfl, rfl⟩
theorem fl_StairCountModel_19 : FLk "StairCountModel" 19 11 5 true := ⟨_, _, _, rfl, by decide, tb_in 1209 (by decide +kernel) (by decide +kernel), rfl, rfl⟩
theorem fl_StairCountModel_22 : FLk "StairCountModel" 22 11 6 true := ⟨_, _, _, rfl, by decide, tb_in 1210 (by decide +kernel) (by decide +kernel), rfl, rfl⟩
theorem fl_StairCountModel_25 : FLk "StairCountModel" 25 11 7 true := ⟨_, _, _, rfl, by decide, tb_in 1211 (by decide +kernel) (by decide +kernel), rfl, rfl⟩
theorem fl_StairCountModel_28 : FLk "StairCountModel" 28 11 8 true := ⟨_, _, _, rfl, by decide, tb_in 1212 (by decide +kernel) (by decide +kernel), rfl, rfl⟩
theorem fl_StairCountModel_31 : FLk "StairCountModel" 31 11 9 true := ⟨_, _, _, rfl, by decide, tb_in 1213 (by decide +kernel) (by decide +kernel), rfl, rfl⟩
theorem fl_StairCountModel_34 : FLk "StairCountModel" 34 11 10 true := ⟨_, _, _, rfl, by decide, tb_in 1214 (by decide +kernel) (by decide +kernel), rfl, rfl⟩
theorem fl_StairCountModel_37 : FLk "StairCountModel" 37 11 11 true := ⟨_, _, _, rfl, by decide, tb_in 1215 (by decide +kernel) (by decide +kernel), rfl, rfl⟩
theorem fl_StairCountModel_40 : FLk "StairCountModel" 40 11 12 true := ⟨_, _, _, rfl, by decide, tb_in 1216 (by decide +kernel) (by decide +kernel), rfl, rfl⟩
theorem fl_StairCountModel_43 : FLk "StairCountModel" 43 11 13 true := ⟨_, _, _, rfl, by decide, tb_in 1217 (by decide +kernel) (by decide +kernel), rfl, rfl⟩
theorem fl_StairCountModel_46 : FLk "StairCountModel" 46 11 14 true := ⟨_, _, _, rfl, by decide, tb_in 1218 (by decide +kernel) (by decide +kernel), rfl, rfl⟩
theorem fl_StairCountModel_49 : FLk "StairCountModel" 49 11 15 true := ⟨_, _, _, rfl, by decide, tb_in 1219 (by decide +kernel) (by decide +kernel), rfl, rfl⟩
theorem fl_StairCountModel_52 : FLk "StairCountModel" 52 11 16 true := ⟨_, _, _, rfl, by decide, tb_in 1220 (by decide +kernel) (by decide +kernel), rfl, rfl⟩
theorem fl_StairCountModel_55 : FLk "StairCountModel" 55 11 17 true := ⟨_, _, _, rfl, by decide, tb_in 1221 (by decide +kernel) (by decide +kernel), rfl, rfl⟩
theorem fl_StairCountModel_58 : FLk "StairCountModel" 58 11 18 true := ⟨_, _, _, rfl, by decide, tb_in 1222 (by decide +kernel) (by decide +kernel), rfl, rfl⟩
theorem fl_StairCountModel_61 : FLk "StairCountModel" 61 11 19 true := ⟨_, _, _, rfl, by decide, tb_in 1223 (by decide +kernel) (by decide +kernel), rfl, rfl⟩
theorem fl_StairCountModel_64 : FLk "StairCountModel" 64 11 30 false := ⟨_, _, _, rfl, by decide, tb_in 1234 (by decide +kernel) (by decide +kernel), rfl, rfl⟩
theorem fl_StairCountModel_68 : FLk "StairCountModel" 68 11 33 true := ⟨_, _, _, rfl, by decide, tb_in 1237 (by decide +kernel) (by decide +kernel), rfl, rfl⟩
theorem fl_StairCountModel_72 : FLk "StairCountModel" 72 11 34 true := ⟨_, _, _, rfl, by decide, tb_in 1238 (by decide +kernel) (by decide +kernel), rfl, rfl⟩
theorem fl_StairCountModel_75 : FLk "StairCountModel" 75 11 36 true := ⟨_, _, _, rfl, by decide, tb_in 1240 (by decide +kernel) (by decide +kernel), rfl, rfl⟩
theorem fl_StairCountModel_78 : FLk "StairCountModel" 78 11 37 true := ⟨_, _, _, rfl, by decide, tb_in 1241 (by decide +kernel) (by decide +kernel), rfl, rfl⟩
theorem fl_StairCountModel_81 : FLk "StairCountModel" 81 11 38 true := ⟨_, _, _, rfl, by decide, tb_in 1242 (by decide +kernel) (by decide +kernel), rfl, rfl⟩
theorem fl_StairCountModel_84 : FLk "StairCountModel" 84 11 39 true := ⟨_, _, _, rfl, by decide, tb_in 1243 (by decide +kernel) (by decide +kernel), rfl, rfl⟩
theorem fl_StairCountModel_87 : FLk "StairCountModel" 87 11 40 true := ⟨_, _, _, rfl, by decide, tb_in 1244 (by decide +kernel) (by decide +kernel), rfl, rfl⟩
theorem fl_StairCountModel_90 : FLk "StairCountModel" 90 11 41 true := ⟨_, _, _, rfl, by decide, tb_in 1245 (by decide +kernel) (by decide +kernel), rfl, rfl⟩
theorem fl_StairCountModel_93 : FLk "StairCountModel" 93 11 42 true := ⟨_, _, _, rfl, by decide, tb_in 1246 (by decide +kernel) (by decide +kernel), rfl, rfl⟩
theorem fl_StairCountModel_96 : FLk "StairCountModel" 96 11 45 false := ⟨_, _, _, rfl, by decide, tb_in 1249 (by decide +kernel) (by decide +kernel), rfl, rfl⟩
theorem fl_StairCountModel_99 : FLk "StairCountModel" 99 11 46 false := ⟨_, _, _, rfl, by decide, tb_in 1250 (by decide +kernel) (by decide +kernel), rfl, rfl⟩
theorem fl_StairCountModel_102 : FLk "StairCountModel" 102 11 49 false := ⟨_, _, _, rfl, by decide, tb_in 1253 (by decide +kernel) (by decide +kernel), rfl, rfl⟩
theorem fl_StairCountModel_105 : FLk "StairCountModel" 105 11 50 true := ⟨_, _, _, rfl, by decide, tb_in 1254 (by decide +kernel) (by decide +kernel), rfl, rfl⟩
theorem fl_StairCountModel_108 : FLk "StairCountModel" 108 11 51 true := ⟨_, _, _, rfl, by decide, tb_in 1255 (by decide +kernel) (by decide +kernel), rfl, rfl⟩
theorem fl_StairCountModel_111 : FLk "StairCountModel" 111 11 53 true := ⟨_, _, _, rfl, by decide, tb_in 1257 (by decide +kernel) (by decide +kernel), rfl, rfl⟩
theorem fl_StairCountModel_114 : FLk "StairCountModel" 114 11 54 true := ⟨_, _, _, rfl, by decide, tb_in 1258 (by decide +kernel) (by decide +kernel), rfl, rfl⟩
theorem fl_StairCountModel_117 : FLk "StairCountModel" 117 11 55 true := ⟨_, _, _, rfl, by decide, tb_in 1259 (by decide +kernel) (by decide +kernel), rfl, rfl⟩
theorem fl_StairCountModel_120 : FLk "StairCountModel" 120 11 57 false := ⟨_, _, _, rfl, by decide, tb_in 1261 (by decide +kernel) (by decide +kernel), rfl, rfl⟩
theorem fl_StairCountModel_123 : FLk "StairCountModel" 123 11 58 true := ⟨_, _, _, rfl, by decide, tb_in 1262 (by decide +kernel) (by decide +kernel), rfl, rfl⟩
theorem fl_StairCountModel_126 : FLk "StairCountModel" 126 11 59 true := ⟨_, _, _, rfl, by decide, tb_in 1263 (by decide +kernel) (by decide +kernel), rfl, rfl⟩
theorem fl_StairCountModel_129 : FLk "StairCountModel" 129 11 60 true := ⟨_, _, _, rfl, by decide, tb_in 1264 (by decide +kernel) (by decide +kernel), rfl, rfl⟩
theorem fl_StairCountModel_132 : FLk "StairCountModel" 132 11 61 true := ⟨_, _, _, rfl, by decide, tb_in 1265 (by decide +kernel) (by decide +kernel), rfl, rfl⟩
theorem fl_StairCountModel_136 : FLk "StairCountModel" 136 11 62 true := ⟨_, _, _, rfl, by decide, tb_in 1266 (by decide +kernel) (by decide +kernel), rfl, rfl⟩
theorem fl_StairCountModel_139 : FLk "StairCountModel" 139 11 63 true := ⟨_, _, _, rfl, by decide, tb_in 1267 (by decide +kernel) (by decide +kernel), rfl, rfl⟩
theorem fl_StairCountModel_142 : FLk "StairCountModel" 142 11 64 true := ⟨_, _, _, rfl, by decide, tb_in 1268 (by decide +kernel) (by decide +kernel), rfl, rfl⟩
theorem fl_StairCountModel_148 : FLk "StairCountModel" 148 11 0 false := ⟨_, _, _, rfl, by decide, tb_in 1204 (by decide +kernel) (by decide +kernel), rfl, rfl⟩
theorem fl_StairCountModel_151 : FLk "StairCountModel" 151 11 2 false := ⟨_, _, _, rfl, by decide, tb_in 1206 (by decide +kernel) (by decide +kernel), rfl, rfl⟩
theorem fl_StairCountModel_154 : FLk "StairCountModel" 154 11 23 false := ⟨_, _, _, rfl, by decide, tb_in 1227 (by decide +kernel) (by decide +kernel), rfl, rfl⟩
theorem fl_StairCountModel_157 : FLk "StairCountModel" 157 11 22 false := ⟨_, _, _, rfl, by decide, tb_in 1226 (by decide +kernel) (by decide +kernel), rfl, rfl⟩
theorem fl_StairCountModel_164 : FLk "StairCountModel" 164 11 24 false := ⟨_, _, _, rfl, by decide, tb_in 1228 (by decide +kernel) (by decide +kernel), rfl, rfl⟩
theorem fl_StairCountModel_167 : FLk "StairCountModel" 167 11 25 false := ⟨_, _, _, rfl, by decide, tb_in 1229 (by decide +kernel) (by decide +kernel), rfl, rfl⟩
theorem fl_StairCountModel_177 : FLk "StairCountModel" 177 11 26 false := ⟨_, _, _, rfl, by decide, tb_in 1230 (by decide +kernel) (by decide +kernel), rfl, rfl⟩
theorem fl_StairCountModel_202 : FLk "StairCountModel" 202 11 27 false := ⟨_, _, _, rfl, by decide, tb_in 1231 (by decide +kernel) (by decide +kernel), rfl, rfl⟩
theorem fl_StairCountModel_205 : FLk "StairCountModel" 205 11 28 false := ⟨_, _, _, rfl, by decide, tb_in 1232 (by decide +kernel) (by decide +kernel), rfl, rfl⟩
theorem fl_StairCountModel_225 : FLk "StairCountModel" 225 11 20 false := ⟨_, _, _, rfl, by decide, tb_in 1224 (by decide +kernel) (by decide +kernel), rfl, rfl⟩
theorem fl_StairCountModel_257 : FLk "StairCountModel" 257 11 21 false := ⟨_, _, _, rfl, by decide, tb_in 1225 (by decide +kernel) (by decide +kernel), rfl, rfl⟩
theorem fl_StairCountModel_270 : FLk "StairCountModel" 270 11 32 false := ⟨_, _, _, rfl, by decide, tb_in 1236 (by decide +kernel) (by decide +kernel), rfl, rfl⟩
theorem fl_StairCountModel_297 : FLk "StairCountModel" 297 11 31 false := ⟨_, _, _, rfl, by decide, tb_in 1235 (by decide +kernel) (by decide +kernel), rfl, rfl⟩
theorem fl_StairCountModel_303 : FLk "StairCountModel" 303 11 29 false := ⟨_, _, _, rfl, by decide, tb_in 1233 (by decide +kernel) (by decide +kernel), rfl, rfl⟩
theorem fl_StairCountModel_310 : FLk "StairCountModel" 310 11 56 false := ⟨_, _, _, rfl, by decide, tb_in 1260 (by decide +kernel) (by decide +kernel), rfl, rfl⟩
theorem fl_StairCountModel_313 : FLk "StairCountModel" 313 11 43 false := ⟨_, _, _, rfl, by decide, tb_in 1247 (by decide +kernel) (by decide +kernel), rfl, rfl⟩
theorem fl_StairCountModel_317 : FLk "StairCountModel" 317 11 44 false := ⟨_, _, _, rfl, by decide, tb_in 1248 (by decide +kernel) (by decide +kernel), rfl, rfl⟩
theorem fl_StairCountModel_320 : FLk "StairCountModel" 320 11 35 false := ⟨_, _, _, rfl, by decide, tb_in 1239 (by decide +kernel) (by decide +kernel), rfl, rfl⟩
theorem fl_StairCountModel_340 : FLk "StairCountModel" 340 11 47 false := ⟨_, _, _, rfl, by decide, tb_in 1251 (by decide +kernel) (by decide +kernel), rfl, rfl⟩
theorem fl_StairCountModel_352 : FLk "StairCountModel" 352 11 48 false := ⟨_, _, _, rfl, by decide, tb_in 1252 (by decide +kernel) (by decide +kernel), rfl, rfl⟩
theorem fl_StairCountModel_419 : FLk "StairCountModel" 419 11 52 false := ⟨_, _, _, rfl, by decide, tb_in 1256 (by decide +kernel) (by decide +kernel), rfl, rfl⟩
theorem lK_StairCount_Reader_190 : Cond.constant "StairCount$Reade\x72" 190 99999 ∈ tb := tb_in 665 (by decide +kernel) (by decide +kernel)
theorem lK_StairCount_State_55 : Cond.constant "StairCount$State" 55 99999 ∈ tb := tb_in 898 (by decide +kernel) (by decide +kernel)
theorem lK_StairCount_State_56 : Cond.constant "StairCount$State" 56 1103515245 ∈ tb := tb_in 889 (by decide +kernel) (by decide +kernel)
theorem lK_StairCount_State_59 : Cond.constant "StairCount$State" 59 2147483647 ∈ tb := tb_in 890 (by decide +kernel) (by decide +kernel)
theorem lK_StairCount_State_60 : Cond.constant "StairCount$State" 60 65536 ∈ tb := tb_in 891 (by decide +kernel) (by decide +kernel)
theorem lK_StairCount_Tokens_46 : Cond.constant "StairCount$Tokens" 46 1000000 ∈ tb := tb_in 503 (by decide +kernel) (by decide +kernel)
theorem lK_StairCount_Ways_29 : Cond.constant "StairCount$Ways" 29 2147483647 ∈ tb := tb_in 980 (by decide +kernel) (by decide +kernel)
theorem lK_StairCount_160 : Cond.constant "StairCount" 160 (-2147483648) ∈ tb := tb_in 745 (by decide +kernel) (by decide +kernel)
theorem lK_StairCount_272 : Cond.constant "StairCount" 272 2147483647 ∈ tb := tb_in 990 (by decide +kernel) (by decide +kernel)
theorem lK_StairCountModel_186 : Cond.constant "StairCountModel" 186 99999 ∈ tb := tb_in 1441 (by decide +kernel) (by decide +kernel)
theorem lK_StairCountModel_392 : Cond.constant "StairCountModel" 392 1103515245 ∈ tb := tb_in 1703 (by decide +kernel) (by decide +kernel)
theorem lK_StairCountModel_395 : Cond.constant "StairCountModel" 395 2147483647 ∈ tb := tb_in 1704 (by decide +kernel) (by decide +kernel)
theorem lK_StairCountModel_440 : Cond.constant "StairCountModel" 440 (-2147483648) ∈ tb := tb_in 1576 (by decide +kernel) (by decide +kernel)
theorem lK_StairCountModel_476 : Cond.constant "StairCountModel" 476 999999 ∈ tb := tb_in 1778 (by decide +kernel) (by decide +kernel)
theorem lK_Integer_265 : Cond.constant "java/lang/Intege\x72" 265 1431655765 ∈ tb := tb_in 1021 (by decide +kernel) (by decide +kernel)
theorem lK_Integer_266 : Cond.constant "java/lang/Intege\x72" 266 858993459 ∈ tb := tb_in 1022 (by decide +kernel) (by decide +kernel)
theorem lK_Integer_267 : Cond.constant "java/lang/Intege\x72" 267 252645135 ∈ tb := tb_in 1023 (by decide +kernel) (by decide +kernel)
theorem lM_StairCount_Course_107 : Cond.methodLink "StairCount$Course" 107 ⟨"StairCount$Course", "comesFirst", "(II)Z"⟩ ∈ tb := tb_in 817 (by decide +kernel) (by decide +kernel)
theorem lM_StairCount_Course_110 : Cond.methodLink "StairCount$Course" 110 ⟨"StairCount$Course", "rankOf", "(I)I"⟩ ∈ tb := tb_in 821 (by decide +kernel) (by decide +kernel)
theorem lM_StairCount_Course_125 : Cond.methodLink "StairCount$Course" 125 ⟨"StairCount$State", "addTired", "(II)V"⟩ ∈ tb := tb_in 894 (by decide +kernel) (by decide +kernel)
theorem lM_StairCount_Course_131 : Cond.methodLinkNest "StairCount$Course" 131 ⟨"StairCount", "cell", "(II)I"⟩ "StairCount" ∈ nestW := by decide +kernel
theorem lM_StairCount_Course_135 : Cond.methodLink "StairCount$Course" 135 ⟨"StairCount$State", "addTally", "(II)V"⟩ ∈ tb := tb_in 868 (by decide +kernel) (by decide +kernel)
theorem lM_StairCount_Course_138 : Cond.methodLink "StairCount$Course" 138 ⟨"StairCount$Course", "rise", "(II)Z"⟩ ∈ tb := tb_in 876 (by decide +kernel) (by decide +kernel)
theorem lM_StairCount_Course_141 : Cond.methodLink "StairCount$Course" 141 ⟨"StairCount$Course", "steepOf", "(III)I"⟩ ∈ tb := tb_in 880 (by decide +kernel) (by decide +kernel)
theorem lM_StairCount_Course_145 : Cond.methodLink "StairCount$Course" 145 ⟨"StairCount$Course", "valueOf", "(IIII)J"⟩ ∈ tb := tb_in 763 (by decide +kernel) (by decide +kernel)
theorem lM_StairCount_Course_149 : Cond.methodLink "StairCount$Course" 149 ⟨"StairCount$Course", "slips", "()Z"⟩ ∈ tb := tb_in 881 (by decide +kernel) (by decide +kernel)
theorem lM_StairCount_Course_158 : Cond.methodLink "StairCount$Course" 158 ⟨"java/lang/Math", "max", "(II)I"⟩ ∈ tb := tb_in 892 (by decide +kernel) (by decide +kernel)
theorem lM_StairCount_Course_165 : Cond.methodLink "StairCount$Course" 165 ⟨"java/lang/Math", "min", "(JJ)J"⟩ ∈ tb := tb_in 780 (by decide +kernel) (by decide +kernel)
theorem lM_StairCount_Course_169 : Cond.methodLink "StairCount$Course" 169 ⟨"java/lang/Math", "max", "(JJ)J"⟩ ∈ tb := tb_in 783 (by decide +kernel) (by decide +kernel)
theorem lM_StairCount_Course_174 : Cond.methodLink "StairCount$Course" 174 ⟨"StairCount$State", "drawn", "()I"⟩ ∈ tb := tb_in 885 (by decide +kernel) (by decide +kernel)
theorem lM_StairCount_Course_206 : Cond.methodLink "StairCount$Course" 206 ⟨"StairCount$Course", "nameOf", "(III)I"⟩ ∈ tb := tb_in 769 (by decide +kernel) (by decide +kernel)
theorem lM_StairCount_Course_209 : Cond.methodLink "StairCount$Course" 209 ⟨"StairCount$Course", "joined", "(IJJ)J"⟩ ∈ tb := tb_in 773 (by decide +kernel) (by decide +kernel)
theorem lM_StairCount_Course_65 : Cond.methodLink "StairCount$Course" 65 ⟨"StairCount$Plan", "firstHou\x72", "(I)I"⟩ ∈ tb := tb_in 915 (by decide +kernel) (by decide +kernel)
theorem lM_StairCount_Course_69 : Cond.methodLink "StairCount$Course" 69 ⟨"StairCount$Course", "passOne", "()V"⟩ ∈ tb := tb_in 916 (by decide +kernel) (by decide +kernel)
theorem lM_StairCount_Course_72 : Cond.methodLink "StairCount$Course" 72 ⟨"StairCount$Course", "lineUp", "(I)V"⟩ ∈ tb := tb_in 920 (by decide +kernel) (by decide +kernel)
theorem lM_StairCount_Course_90 : Cond.methodLink "StairCount$Course" 90 ⟨"StairCount$Course", "walkTo", "(II)Z"⟩ ∈ tb := tb_in 921 (by decide +kernel) (by decide +kernel)
theorem lM_StairCount_Course_94 : Cond.methodLink "StairCount$Course" 94 ⟨"StairCount$Course", "swing", "(II)V"⟩ ∈ tb := tb_in 922 (by decide +kernel) (by decide +kernel)
theorem lM_StairCount_Guess_35 : Cond.methodLink "StairCount$Guess" 35 ⟨"StairCount$State", "take", "(LStairCount$State;)V"⟩ ∈ tb := tb_in 1073 (by decide +kernel) (by decide +kernel)
theorem lM_StairCount_Guess_44 : Cond.methodLinkNest "StairCount$Guess" 44 ⟨"StairCount", "cell", "(II)I"⟩ "StairCount" ∈ nestW := by decide +kernel
theorem lM_StairCount_Guess_48 : Cond.methodLink "StairCount$Guess" 48 ⟨"StairCount$Course", "passOne", "()V"⟩ ∈ tb := tb_in 1075 (by decide +kernel) (by decide +kernel)
theorem lM_StairCount_Guess_54 : Cond.methodLink "StairCount$Guess" 54 ⟨"StairCount$Notes", "hold", "(ILStairCount$State;)Z"⟩ ∈ tb := tb_in 1076 (by decide +kernel) (by decide +kernel)
theorem lM_StairCount_Guess_60 : Cond.methodLink "StairCount$Guess" 60 ⟨"java/util/Arrays", "fill", "([II)V"⟩ ∈ tb := tb_in 1088 (by decide +kernel) (by decide +kernel)
theorem lM_StairCount_Guess_66 : Cond.methodLink "StairCount$Guess" 66 ⟨"java/lang/Math", "max", "(II)I"⟩ ∈ tb := tb_in 1089 (by decide +kernel) (by decide +kernel)
theorem lM_StairCount_Laws_28 : Cond.methodLink "StairCount$Laws" 28 ⟨"java/util/Arrays", "fill", "([II)V"⟩ ∈ tb := tb_in 588 (by decide +kernel) (by decide +kernel)
theorem lM_StairCount_Notes_38 : Cond.methodLink "StairCount$Notes" 38 ⟨"StairCount$Notes", "knownBy", "()I"⟩ ∈ tb := tb_in 1068 (by decide +kernel) (by decide +kernel)
theorem lM_StairCount_Past_25 : Cond.methodLink "StairCount$Past" 25 ⟨"StairCount$State", "take", "(LStairCount$State;)V"⟩ ∈ tb := tb_in 862 (by decide +kernel) (by decide +kernel)
theorem lM_StairCount_Past_29 : Cond.methodLink "StairCount$Past" 29 ⟨"java/lang/Math", "min", "(II)I"⟩ ∈ tb := tb_in 863 (by decide +kernel) (by decide +kernel)
theorem lM_StairCount_Plan_69 : Cond.methodLink "StairCount$Plan" 69 ⟨"StairCount$Laws", "clea\x72", "()V"⟩ ∈ tb := tb_in 584 (by decide +kernel) (by decide +kernel)
theorem lM_StairCount_Plan_75 : Cond.methodLink "StairCount$Plan" 75 ⟨"StairCount$State", "clea\x72", "()V"⟩ ∈ tb := tb_in 589 (by decide +kernel) (by decide +kernel)
theorem lM_StairCount_Reader_100 : Cond.methodLink "StairCount$Reade\x72" 100 ⟨"StairCount$Reade\x72", "readLaw", "()V"⟩ ∈ tb := tb_in 666 (by decide +kernel) (by decide +kernel)
theorem lM_StairCount_Reader_103 : Cond.methodLink "StairCount$Reade\x72" 103 ⟨"StairCount$Reade\x72", "fail", "(I)V"⟩ ∈ tb := tb_in 606 (by decide +kernel) (by decide +kernel)
theorem lM_StairCount_Reader_106 : Cond.methodLink "StairCount$Reade\x72" 106 ⟨"StairCount$Reade\x72", "advance", "()V"⟩ ∈ tb := tb_in 614 (by decide +kernel) (by decide +kernel)
theorem lM_StairCount_Reader_109 : Cond.methodLink "StairCount$Reade\x72" 109 ⟨"StairCount$Reade\x72", "value", "()I"⟩ ∈ tb := tb_in 626 (by decide +kernel) (by decide +kernel)
theorem lM_StairCount_Reader_112 : Cond.methodLink "StairCount$Reade\x72" 112 ⟨"StairCount$Reade\x72", "look", "(II)I"⟩ ∈ tb := tb_in 622 (by decide +kernel) (by decide +kernel)
theorem lM_StairCount_Reader_116 : Cond.methodLink "StairCount$Reade\x72" 116 ⟨"StairCount$Plan", "personOf", "(I)I"⟩ ∈ tb := tb_in 634 (by decide +kernel) (by decide +kernel)
theorem lM_StairCount_Reader_123 : Cond.methodLink "StairCount$Reade\x72" 123 ⟨"StairCount$Reade\x72", "takeWord", "(II)V"⟩ ∈ tb := tb_in 610 (by decide +kernel) (by decide +kernel)
theorem lM_StairCount_Reader_127 : Cond.methodLink "StairCount$Reade\x72" 127 ⟨"StairCount$Reade\x72", "numbe\x72", "(II)I"⟩ ∈ tb := tb_in 618 (by decide +kernel) (by decide +kernel)
theorem lM_StairCount_Reader_151 : Cond.methodLink "StairCount$Reade\x72" 151 ⟨"StairCount$Reade\x72", "knownPerson", "()I"⟩ ∈ tb := tb_in 642 (by decide +kernel) (by decide +kernel)
theorem lM_StairCount_Reader_157 : Cond.methodLinkNest "StairCount$Reade\x72" 157 ⟨"StairCount", "cell", "(II)I"⟩ "StairCount" ∈ nestW := by decide +kernel
theorem lM_StairCount_Reader_197 : Cond.methodLink "StairCount$Reade\x72" 197 ⟨"StairCount$Laws", "hasLaw", "(I)Z"⟩ ∈ tb := tb_in 670 (by decide +kernel) (by decide +kernel)
theorem lM_StairCount_Reader_209 : Cond.methodLink "StairCount$Reade\x72" 209 ⟨"StairCount$Reade\x72", "readE", "()V"⟩ ∈ tb := tb_in 674 (by decide +kernel) (by decide +kernel)
theorem lM_StairCount_Reader_221 : Cond.methodLink "StairCount$Reade\x72" 221 ⟨"StairCount$Reade\x72", "strength", "(I)I"⟩ ∈ tb := tb_in 678 (by decide +kernel) (by decide +kernel)
theorem lM_StairCount_Reader_224 : Cond.methodLink "StairCount$Reade\x72" 224 ⟨"StairCount$Reade\x72", "readPart", "(I)Z"⟩ ∈ tb := tb_in 681 (by decide +kernel) (by decide +kernel)
theorem lM_StairCount_Reader_227 : Cond.methodLink "StairCount$Reade\x72" 227 ⟨"StairCount$Reade\x72", "release", "(I)V"⟩ ∈ tb := tb_in 705 (by decide +kernel) (by decide +kernel)
theorem lM_StairCount_Reader_230 : Cond.methodLink "StairCount$Reade\x72" 230 ⟨"StairCount$Reade\x72", "waitingStrength", "()I"⟩ ∈ tb := tb_in 689 (by decide +kernel) (by decide +kernel)
theorem lM_StairCount_Reader_233 : Cond.methodLink "StairCount$Reade\x72" 233 ⟨"StairCount$Reade\x72", "takeKnot", "()V"⟩ ∈ tb := tb_in 693 (by decide +kernel) (by decide +kernel)
theorem lM_StairCount_Reader_236 : Cond.methodLink "StairCount$Reade\x72" 236 ⟨"StairCount$Reade\x72", "await", "(I)V"⟩ ∈ tb := tb_in 685 (by decide +kernel) (by decide +kernel)
theorem lM_StairCount_Reader_239 : Cond.methodLink "StairCount$Reade\x72" 239 ⟨"StairCount$Reade\x72", "emit", "(II)V"⟩ ∈ tb := tb_in 697 (by decide +kernel) (by decide +kernel)
theorem lM_StairCount_Reader_242 : Cond.methodLink "StairCount$Reade\x72" 242 ⟨"StairCount$Laws", "put", "(II)V"⟩ ∈ tb := tb_in 701 (by decide +kernel) (by decide +kernel)
theorem lM_StairCount_Reader_29 : Cond.methodLink "StairCount$Reade\x72" 29 ⟨"StairCount$Tokens", "cut", "([BI)V"⟩ ∈ tb := tb_in 492 (by decide +kernel) (by decide +kernel)
theorem lM_StairCount_Reader_33 : Cond.methodLink "StairCount$Reade\x72" 33 ⟨"StairCount$Plan", "clea\x72", "()V"⟩ ∈ tb := tb_in 580 (by decide +kernel) (by decide +kernel)
theorem lM_StairCount_Reader_62 : Cond.methodLink "StairCount$Reade\x72" 62 ⟨"StairCount$Reade\x72", "kind", "()I"⟩ ∈ tb := tb_in 594 (by decide +kernel) (by decide +kernel)
theorem lM_StairCount_Reader_66 : Cond.methodLink "StairCount$Reade\x72" 66 ⟨"StairCount$Reade\x72", "readLine", "()V"⟩ ∈ tb := tb_in 598 (by decide +kernel) (by decide +kernel)
theorem lM_StairCount_Reader_78 : Cond.methodLink "StairCount$Reade\x72" 78 ⟨"StairCount$Reade\x72", "readFlight", "()V"⟩ ∈ tb := tb_in 602 (by decide +kernel) (by decide +kernel)
theorem lM_StairCount_Reader_81 : Cond.methodLink "StairCount$Reade\x72" 81 ⟨"StairCount$Reade\x72", "readPerson", "()V"⟩ ∈ tb := tb_in 630 (by decide +kernel) (by decide +kernel)
theorem lM_StairCount_Reader_84 : Cond.methodLink "StairCount$Reade\x72" 84 ⟨"StairCount$Reade\x72", "readTally", "(I)V"⟩ ∈ tb := tb_in 638 (by decide +kernel) (by decide +kernel)
theorem lM_StairCount_Reader_88 : Cond.methodLink "StairCount$Reade\x72" 88 ⟨"StairCount$Reade\x72", "readLadde\x72", "()V"⟩ ∈ tb := tb_in 649 (by decide +kernel) (by decide +kernel)
theorem lM_StairCount_Reader_91 : Cond.methodLink "StairCount$Reade\x72" 91 ⟨"StairCount$Reade\x72", "readGoing", "(I)V"⟩ ∈ tb := tb_in 653 (by decide +kernel) (by decide +kernel)
theorem lM_StairCount_Reader_94 : Cond.methodLink "StairCount$Reade\x72" 94 ⟨"StairCount$Reade\x72", "readSlip", "()V"⟩ ∈ tb := tb_in 657 (by decide +kernel) (by decide +kernel)
theorem lM_StairCount_Reader_97 : Cond.methodLink "StairCount$Reade\x72" 97 ⟨"StairCount$Reade\x72", "readSeed", "()V"⟩ ∈ tb := tb_in 661 (by decide +kernel) (by decide +kernel)
theorem lM_StairCount_State_27 : Cond.methodLink "StairCount$State" 27 ⟨"java/util/Arrays", "fill", "([II)V"⟩ ∈ tb := tb_in 593 (by decide +kernel) (by decide +kernel)
theorem lM_StairCount_State_40 : Cond.methodLink "StairCount$State" 40 ⟨"java/lang/System", "arraycopy", "(Ljava/lang/Object;ILjava/lang/Object;II)V"⟩ ∈ tb := tb_in 713 (by decide +kernel) (by decide +kernel)
theorem lM_StairCount_State_46 : Cond.methodLink "StairCount$State" 46 ⟨"java/lang/Math", "min", "(II)I"⟩ ∈ tb := tb_in 872 (by decide +kernel) (by decide +kernel)
theorem lM_StairCount_State_52 : Cond.methodLink "StairCount$State" 52 ⟨"java/lang/Math", "max", "(II)I"⟩ ∈ tb := tb_in 873 (by decide +kernel) (by decide +kernel)
theorem lM_StairCount_Tokens_25 : Cond.methodLink "StairCount$Tokens" 25 ⟨"StairCount$Tokens", "isDigit", "(I)Z"⟩ ∈ tb := tb_in 496 (by decide +kernel) (by decide +kernel)
theorem lM_StairCount_Tokens_29 : Cond.methodLink "StairCount$Tokens" 29 ⟨"StairCount$Tokens", "cutNumbe\x72", "([BII)I"⟩ ∈ tb := tb_in 499 (by decide +kernel) (by decide +kernel)
theorem lM_StairCount_Tokens_33 : Cond.methodLink "StairCount$Tokens" 33 ⟨"StairCount$Tokens", "isLette\x72", "(I)Z"⟩ ∈ tb := tb_in 511 (by decide +kernel) (by decide +kernel)
theorem lM_StairCount_Tokens_36 : Cond.methodLink "StairCount$Tokens" 36 ⟨"StairCount$Tokens", "cutWord", "([BII)I"⟩ ∈ tb := tb_in 514 (by decide +kernel) (by decide +kernel)
theorem lM_StairCount_Tokens_39 : Cond.methodLink "StairCount$Tokens" 39 ⟨"StairCount$Tokens", "cutSign", "([BII)I"⟩ ∈ tb := tb_in 570 (by decide +kernel) (by decide +kernel)
theorem lM_StairCount_Tokens_42 : Cond.methodLink "StairCount$Tokens" 42 ⟨"StairCount$Tokens", "put", "(III)V"⟩ ∈ tb := tb_in 507 (by decide +kernel) (by decide +kernel)
theorem lM_StairCount_Tokens_47 : Cond.methodLink "StairCount$Tokens" 47 ⟨"java/lang/Math", "min", "(II)I"⟩ ∈ tb := tb_in 504 (by decide +kernel) (by decide +kernel)
theorem lM_StairCount_Tokens_53 : Cond.methodLink "StairCount$Tokens" 53 ⟨"StairCount$Tokens", "kindOf", "(I)I"⟩ ∈ tb := tb_in 518 (by decide +kernel) (by decide +kernel)
theorem lM_StairCount_Tokens_59 : Cond.methodLink "StairCount$Tokens" 59 ⟨"java/lang/String", "length", "()I"⟩ ∈ tb := tb_in 522 (by decide +kernel) (by decide +kernel)
theorem lM_StairCount_Tokens_64 : Cond.methodLink "StairCount$Tokens" 64 ⟨"java/lang/String", "charAt", "(I)C"⟩ ∈ tb := tb_in 532 (by decide +kernel) (by decide +kernel)
theorem lM_StairCount_Tokens_68 : Cond.methodLink "StairCount$Tokens" 68 ⟨"StairCount$Tokens", "doubleKind", "(II)I"⟩ ∈ tb := tb_in 574 (by decide +kernel) (by decide +kernel)
theorem lM_StairCount_Tokens_71 : Cond.methodLink "StairCount$Tokens" 71 ⟨"StairCount$Tokens", "singleKind", "(I)I"⟩ ∈ tb := tb_in 577 (by decide +kernel) (by decide +kernel)
theorem lM_StairCount_Ways_30 : Cond.methodLink "StairCount$Ways" 30 ⟨"java/util/Arrays", "fill", "([II)V"⟩ ∈ tb := tb_in 981 (by decide +kernel) (by decide +kernel)
theorem lM_StairCount_Ways_51 : Cond.methodLink "StairCount$Ways" 51 ⟨"StairCount$Course", "costUp", "(II)I"⟩ ∈ tb := tb_in 982 (by decide +kernel) (by decide +kernel)
theorem lM_StairCount_Ways_55 : Cond.methodLink "StairCount$Ways" 55 ⟨"StairCount$Ways", "move", "(III)V"⟩ ∈ tb := tb_in 986 (by decide +kernel) (by decide +kernel)
theorem lM_StairCount_105 : Cond.methodLink "StairCount" 105 ⟨"StairCount$Past", "clea\x72", "()V"⟩ ∈ tb := tb_in 720 (by decide +kernel) (by decide +kernel)
theorem lM_StairCount_115 : Cond.methodLink "StairCount" 115 ⟨"StairCount", "isPerson", "(I)Z"⟩ ∈ tb := tb_in 737 (by decide +kernel) (by decide +kernel)
theorem lM_StairCount_119 : Cond.methodLink "StairCount" 119 ⟨"StairCount$Course", "begin", "(LStairCount$Plan;LStairCount$State;I)V"⟩ ∈ tb := tb_in 755 (by decide +kernel) (by decide +kernel)
theorem lM_StairCount_123 : Cond.methodLink "StairCount" 123 ⟨"StairCount$Plan", "personOf", "(I)I"⟩ ∈ tb := tb_in 732 (by decide +kernel) (by decide +kernel)
theorem lM_StairCount_155 : Cond.methodLink "StairCount" 155 ⟨"StairCount", "isFlight", "(I)Z"⟩ ∈ tb := tb_in 741 (by decide +kernel) (by decide +kernel)
theorem lM_StairCount_164 : Cond.methodLink "StairCount" 164 ⟨"StairCount", "cell", "(II)I"⟩ ∈ tb := tb_in 746 (by decide +kernel) (by decide +kernel)
theorem lM_StairCount_168 : Cond.methodLink "StairCount" 168 ⟨"StairCount", "lookAtNow", "()V"⟩ ∈ tb := tb_in 751 (by decide +kernel) (by decide +kernel)
theorem lM_StairCount_171 : Cond.methodLink "StairCount" 171 ⟨"StairCount$Course", "steepOf", "(III)I"⟩ ∈ tb := tb_in 759 (by decide +kernel) (by decide +kernel)
theorem lM_StairCount_175 : Cond.methodLink "StairCount" 175 ⟨"StairCount", "told", "(I)I"⟩ ∈ tb := tb_in 790 (by decide +kernel) (by decide +kernel)
theorem lM_StairCount_177 : Cond.methodLink "StairCount" 177 ⟨"StairCount", "isFloo\x72", "(I)Z"⟩ ∈ tb := tb_in 801 (by decide +kernel) (by decide +kernel)
theorem lM_StairCount_180 : Cond.methodLink "StairCount" 180 ⟨"StairCount", "aheadInCrowd", "(I)I"⟩ ∈ tb := tb_in 805 (by decide +kernel) (by decide +kernel)
theorem lM_StairCount_183 : Cond.methodLink "StairCount" 183 ⟨"StairCount$Course", "lineUp", "(I)V"⟩ ∈ tb := tb_in 813 (by decide +kernel) (by decide +kernel)
theorem lM_StairCount_192 : Cond.methodLink "StairCount" 192 ⟨"StairCount$Plan", "firstHou\x72", "(I)I"⟩ ∈ tb := tb_in 829 (by decide +kernel) (by decide +kernel)
theorem lM_StairCount_199 : Cond.methodLink "StairCount" 199 ⟨"StairCount$Course", "valueOf", "(IIII)J"⟩ ∈ tb := tb_in 838 (by decide +kernel) (by decide +kernel)
theorem lM_StairCount_221 : Cond.methodLink "StairCount" 221 ⟨"StairCount$State", "tallies", "()I"⟩ ∈ tb := tb_in 843 (by decide +kernel) (by decide +kernel)
theorem lM_StairCount_225 : Cond.methodLink "StairCount" 225 ⟨"StairCount$State", "sumOf", "([I)I"⟩ ∈ tb := tb_in 847 (by decide +kernel) (by decide +kernel)
theorem lM_StairCount_232 : Cond.methodLink "StairCount" 232 ⟨"StairCount$Notes", "knownBy", "()I"⟩ ∈ tb := tb_in 850 (by decide +kernel) (by decide +kernel)
theorem lM_StairCount_236 : Cond.methodLink "StairCount" 236 ⟨"StairCount$Past", "push", "(LStairCount$State;)V"⟩ ∈ tb := tb_in 858 (by decide +kernel) (by decide +kernel)
theorem lM_StairCount_239 : Cond.methodLink "StairCount" 239 ⟨"StairCount$Course", "walkTo", "(II)Z"⟩ ∈ tb := tb_in 864 (by decide +kernel) (by decide +kernel)
theorem lM_StairCount_243 : Cond.methodLink "StairCount" 243 ⟨"StairCount$Course", "pass", "(I)V"⟩ ∈ tb := tb_in 911 (by decide +kernel) (by decide +kernel)
theorem lM_StairCount_246 : Cond.methodLink "StairCount" 246 ⟨"StairCount$Past", "pop", "(LStairCount$State;)Z"⟩ ∈ tb := tb_in 930 (by decide +kernel) (by decide +kernel)
theorem lM_StairCount_253 : Cond.methodLink "StairCount" 253 ⟨"StairCount", "startTrial", "(I)LStairCount$State;"⟩ ∈ tb := tb_in 946 (by decide +kernel) (by decide +kernel)
theorem lM_StairCount_257 : Cond.methodLink "StairCount" 257 ⟨"StairCount$Course", "passOne", "()V"⟩ ∈ tb := tb_in 954 (by decide +kernel) (by decide +kernel)
theorem lM_StairCount_260 : Cond.methodLink "StairCount" 260 ⟨"java/lang/Math", "max", "(II)I"⟩ ∈ tb := tb_in 967 (by decide +kernel) (by decide +kernel)
theorem lM_StairCount_265 : Cond.methodLink "StairCount" 265 ⟨"StairCount$Ways", "seek", "(LStairCount$Course;I)V"⟩ ∈ tb := tb_in 976 (by decide +kernel) (by decide +kernel)
theorem lM_StairCount_276 : Cond.methodLink "StairCount" 276 ⟨"StairCount", "isPai\x72", "(II)Z"⟩ ∈ tb := tb_in 995 (by decide +kernel) (by decide +kernel)
theorem lM_StairCount_279 : Cond.methodLink "StairCount" 279 ⟨"StairCount", "restBits", "(III)I"⟩ ∈ tb := tb_in 1011 (by decide +kernel) (by decide +kernel)
theorem lM_StairCount_282 : Cond.methodLink "StairCount" 282 ⟨"java/lang/Intege\x72", "bitCount", "(I)I"⟩ ∈ tb := tb_in 1018 (by decide +kernel) (by decide +kernel)
theorem lM_StairCount_285 : Cond.methodLink "StairCount" 285 ⟨"StairCount", "gain", "(III)I"⟩ ∈ tb := tb_in 1015 (by decide +kernel) (by decide +kernel)
theorem lM_StairCount_293 : Cond.methodLink "StairCount" 293 ⟨"StairCount", "commonPart", "(II)I"⟩ ∈ tb := tb_in 1033 (by decide +kernel) (by decide +kernel)
theorem lM_StairCount_296 : Cond.methodLink "StairCount" 296 ⟨"StairCount$Notes", "add", "(IIIZ)I"⟩ ∈ tb := tb_in 1040 (by decide +kernel) (by decide +kernel)
theorem lM_StairCount_300 : Cond.methodLink "StairCount" 300 ⟨"StairCount$Notes", "addStrike", "(I)I"⟩ ∈ tb := tb_in 1048 (by decide +kernel) (by decide +kernel)
theorem lM_StairCount_306 : Cond.methodLink "StairCount" 306 ⟨"StairCount", "startGuess", "()V"⟩ ∈ tb := tb_in 1060 (by decide +kernel) (by decide +kernel)
theorem lM_StairCount_309 : Cond.methodLink "StairCount" 309 ⟨"StairCount$Guess", "possible", "(LStairCount$Course;LStairCount$Notes;II)I"⟩ ∈ tb := tb_in 1069 (by decide +kernel) (by decide +kernel)
theorem lM_StairCount_313 : Cond.methodLink "StairCount" 313 ⟨"StairCount$Guess", "worst", "(II)I"⟩ ∈ tb := tb_in 1084 (by decide +kernel) (by decide +kernel)
theorem lM_StairCount_316 : Cond.methodLink "StairCount" 316 ⟨"StairCount$Notes", "weigh", "()V"⟩ ∈ tb := tb_in 1064 (by decide +kernel) (by decide +kernel)
theorem lM_StairCount_322 : Cond.methodLink "StairCount" 322 ⟨"java/util/Arrays", "fill", "([II)V"⟩ ∈ tb := tb_in 1098 (by decide +kernel) (by decide +kernel)
theorem lM_StairCount_79 : Cond.methodLink "StairCount" 79 ⟨"StairCount", "putBytes", "(I)V"⟩ ∈ tb := tb_in 480 (by decide +kernel) (by decide +kernel)
theorem lM_StairCount_83 : Cond.methodLink "StairCount" 83 ⟨"StairCount$Reade\x72", "read", "([BI)I"⟩ ∈ tb := tb_in 488 (by decide +kernel) (by decide +kernel)
theorem lM_StairCount_94 : Cond.methodLink "StairCount" 94 ⟨"StairCount$State", "take", "(LStairCount$State;)V"⟩ ∈ tb := tb_in 709 (by decide +kernel) (by decide +kernel)
theorem lM_StairCount_98 : Cond.methodLink "StairCount" 98 ⟨"StairCount$Notes", "clea\x72", "()V"⟩ ∈ tb := tb_in 716 (by decide +kernel) (by decide +kernel)
theorem lM_StairCountModel_145 : Cond.methodLink "StairCountModel" 145 ⟨"StairCountModel", "begins", "()V"⟩ ∈ tb := tb_in 1196 (by decide +kernel) (by decide +kernel)
theorem lM_StairCountModel_160 : Cond.methodLink "StairCountModel" 160 ⟨"StairCountModel", "here", "()I"⟩ ∈ tb := tb_in 1420 (by decide +kernel) (by decide +kernel)
theorem lM_StairCountModel_170 : Cond.methodLink "StairCountModel" 170 ⟨"StairCountModel", "isSmall", "(I)Z"⟩ ∈ tb := tb_in 1424 (by decide +kernel) (by decide +kernel)
theorem lM_StairCountModel_174 : Cond.methodLink "StairCountModel" 174 ⟨"StairCountModel", "word", "()I"⟩ ∈ tb := tb_in 1427 (by decide +kernel) (by decide +kernel)
theorem lM_StairCountModel_180 : Cond.methodLink "StairCountModel" 180 ⟨"StairCountModel", "name", "()V"⟩ ∈ tb := tb_in 1434 (by decide +kernel) (by decide +kernel)
theorem lM_StairCountModel_183 : Cond.methodLink "StairCountModel" 183 ⟨"StairCountModel", "isDigit", "(I)Z"⟩ ∈ tb := tb_in 1438 (by decide +kernel) (by decide +kernel)
theorem lM_StairCountModel_187 : Cond.methodLink "StairCountModel" 187 ⟨"StairCountModel", "sign", "(I)V"⟩ ∈ tb := tb_in 1442 (by decide +kernel) (by decide +kernel)
theorem lM_StairCountModel_193 : Cond.methodLink "StairCountModel" 193 ⟨"java/lang/String", "length", "()I"⟩ ∈ tb := tb_in 1432 (by decide +kernel) (by decide +kernel)
theorem lM_StairCountModel_198 : Cond.methodLink "StairCountModel" 198 ⟨"java/lang/String", "charAt", "(I)C"⟩ ∈ tb := tb_in 1433 (by decide +kernel) (by decide +kernel)
theorem lM_StairCountModel_208 : Cond.methodLink "StairCountModel" 208 ⟨"StairCountModel", "token", "()V"⟩ ∈ tb := tb_in 1416 (by decide +kernel) (by decide +kernel)
theorem lM_StairCountModel_211 : Cond.methodLink "StairCountModel" 211 ⟨"StairCountModel", "wrong", "(I)V"⟩ ∈ tb := tb_in 1450 (by decide +kernel) (by decide +kernel)
theorem lM_StairCountModel_214 : Cond.methodLink "StairCountModel" 214 ⟨"StairCountModel", "found", "([IIII)I"⟩ ∈ tb := tb_in 1474 (by decide +kernel) (by decide +kernel)
theorem lM_StairCountModel_218 : Cond.methodLink "StairCountModel" 218 ⟨"StairCountModel", "freshe\x72", "(I)I"⟩ ∈ tb := tb_in 1458 (by decide +kernel) (by decide +kernel)
theorem lM_StairCountModel_222 : Cond.methodLink "StairCountModel" 222 ⟨"StairCountModel", "goOn", "()V"⟩ ∈ tb := tb_in 1485 (by decide +kernel) (by decide +kernel)
theorem lM_StairCountModel_228 : Cond.methodLink "StairCountModel" 228 ⟨"StairCountModel", "isFull", "(I)Z"⟩ ∈ tb := tb_in 1454 (by decide +kernel) (by decide +kernel)
theorem lM_StairCountModel_231 : Cond.methodLink "StairCountModel" 231 ⟨"StairCountModel", "numeral", "(II)I"⟩ ∈ tb := tb_in 1462 (by decide +kernel) (by decide +kernel)
theorem lM_StairCountModel_235 : Cond.methodLink "StairCountModel" 235 ⟨"StairCountModel", "reads", "(II)V"⟩ ∈ tb := tb_in 1412 (by decide +kernel) (by decide +kernel)
theorem lM_StairCountModel_239 : Cond.methodLink "StairCountModel" 239 ⟨"StairCountModel", "personLine", "()V"⟩ ∈ tb := tb_in 1466 (by decide +kernel) (by decide +kernel)
theorem lM_StairCountModel_242 : Cond.methodLink "StairCountModel" 242 ⟨"StairCountModel", "tallyLine", "(I)V"⟩ ∈ tb := tb_in 1477 (by decide +kernel) (by decide +kernel)
theorem lM_StairCountModel_245 : Cond.methodLink "StairCountModel" 245 ⟨"StairCountModel", "ladderLine", "()V"⟩ ∈ tb := tb_in 1489 (by decide +kernel) (by decide +kernel)
theorem lM_StairCountModel_248 : Cond.methodLink "StairCountModel" 248 ⟨"StairCountModel", "goingLine", "(I)V"⟩ ∈ tb := tb_in 1493 (by decide +kernel) (by decide +kernel)
theorem lM_StairCountModel_251 : Cond.methodLink "StairCountModel" 251 ⟨"StairCountModel", "lawLine", "()V"⟩ ∈ tb := tb_in 1497 (by decide +kernel) (by decide +kernel)
theorem lM_StairCountModel_254 : Cond.methodLink "StairCountModel" 254 ⟨"StairCountModel", "isSign", "(I)Z"⟩ ∈ tb := tb_in 1537 (by decide +kernel) (by decide +kernel)
theorem lM_StairCountModel_260 : Cond.methodLink "StairCountModel" 260 ⟨"StairCountModel", "fresh", "([III)I"⟩ ∈ tb := tb_in 1470 (by decide +kernel) (by decide +kernel)
theorem lM_StairCountModel_264 : Cond.methodLink "StairCountModel" 264 ⟨"StairCountModel", "personAhead", "()I"⟩ ∈ tb := tb_in 1481 (by decide +kernel) (by decide +kernel)
theorem lM_StairCountModel_267 : Cond.methodLink "StairCountModel" 267 ⟨"StairCountModel", "expression", "()V"⟩ ∈ tb := tb_in 1501 (by decide +kernel) (by decide +kernel)
theorem lM_StairCountModel_273 : Cond.methodLink "StairCountModel" 273 ⟨"StairCountModel", "conjunction", "()V"⟩ ∈ tb := tb_in 1505 (by decide +kernel) (by decide +kernel)
theorem lM_StairCountModel_276 : Cond.methodLink "StairCountModel" 276 ⟨"StairCountModel", "isWord", "(I)Z"⟩ ∈ tb := tb_in 1513 (by decide +kernel) (by decide +kernel)
theorem lM_StairCountModel_279 : Cond.methodLink "StairCountModel" 279 ⟨"StairCountModel", "knot", "()V"⟩ ∈ tb := tb_in 1517 (by decide +kernel) (by decide +kernel)
theorem lM_StairCountModel_282 : Cond.methodLink "StairCountModel" 282 ⟨"StairCountModel", "puts", "(II)V"⟩ ∈ tb := tb_in 1521 (by decide +kernel) (by decide +kernel)
theorem lM_StairCountModel_285 : Cond.methodLink "StairCountModel" 285 ⟨"StairCountModel", "negation", "()V"⟩ ∈ tb := tb_in 1509 (by decide +kernel) (by decide +kernel)
theorem lM_StairCountModel_288 : Cond.methodLink "StairCountModel" 288 ⟨"StairCountModel", "sum", "()V"⟩ ∈ tb := tb_in 1525 (by decide +kernel) (by decide +kernel)
theorem lM_StairCountModel_291 : Cond.methodLink "StairCountModel" 291 ⟨"StairCountModel", "product", "()V"⟩ ∈ tb := tb_in 1529 (by decide +kernel) (by decide +kernel)
theorem lM_StairCountModel_294 : Cond.methodLink "StairCountModel" 294 ⟨"StairCountModel", "primary", "()V"⟩ ∈ tb := tb_in 1533 (by decide +kernel) (by decide +kernel)
theorem lM_StairCountModel_300 : Cond.methodLink "StairCountModel" 300 ⟨"StairCountModel", "line", "()V"⟩ ∈ tb := tb_in 1446 (by decide +kernel) (by decide +kernel)
theorem lM_StairCountModel_306 : Cond.methodLink "StairCountModel" 306 ⟨"StairCountModel", "half", "([I)V"⟩ ∈ tb := tb_in 1541 (by decide +kernel) (by decide +kernel)
theorem lM_StairCountModel_323 : Cond.methodLink "StairCountModel" 323 ⟨"StairCountModel", "is", "(Z)J"⟩ ∈ tb := tb_in 1617 (by decide +kernel) (by decide +kernel)
theorem lM_StairCountModel_327 : Cond.methodLink "StairCountModel" 327 ⟨"java/lang/Math", "abs", "(J)J"⟩ ∈ tb := tb_in 1620 (by decide +kernel) (by decide +kernel)
theorem lM_StairCountModel_337 : Cond.methodLink "StairCountModel" 337 ⟨"StairCountModel", "works", "(I)Z"⟩ ∈ tb := tb_in 1613 (by decide +kernel) (by decide +kernel)
theorem lM_StairCountModel_343 : Cond.methodLink "StairCountModel" 343 ⟨"StairCountModel", "starts", "(I)V"⟩ ∈ tb := tb_in 1200 (by decide +kernel) (by decide +kernel)
theorem lM_StairCountModel_346 : Cond.methodLink "StairCountModel" 346 ⟨"StairCountModel", "isPerson", "(I)Z"⟩ ∈ tb := tb_in 1556 (by decide +kernel) (by decide +kernel)
theorem lM_StairCountModel_349 : Cond.methodLink "StairCountModel" 349 ⟨"StairCountModel", "isFlight", "(I)Z"⟩ ∈ tb := tb_in 1568 (by decide +kernel) (by decide +kernel)
theorem lM_StairCountModel_355 : Cond.methodLink "StairCountModel" 355 ⟨"StairCountModel", "tallyAt", "(III)I"⟩ ∈ tb := tb_in 1572 (by decide +kernel) (by decide +kernel)
theorem lM_StairCountModel_359 : Cond.methodLink "StairCountModel" 359 ⟨"StairCountModel", "forceOf", "(I)I"⟩ ∈ tb := tb_in 1593 (by decide +kernel) (by decide +kernel)
theorem lM_StairCountModel_362 : Cond.methodLink "StairCountModel" 362 ⟨"StairCountModel", "manyOn", "(II)I"⟩ ∈ tb := tb_in 1597 (by decide +kernel) (by decide +kernel)
theorem lM_StairCountModel_365 : Cond.methodLink "StairCountModel" 365 ⟨"StairCountModel", "hasLaw", "(I)Z"⟩ ∈ tb := tb_in 1605 (by decide +kernel) (by decide +kernel)
theorem lM_StairCountModel_368 : Cond.methodLink "StairCountModel" 368 ⟨"StairCountModel", "goes", "(I)Z"⟩ ∈ tb := tb_in 1609 (by decide +kernel) (by decide +kernel)
theorem lM_StairCountModel_371 : Cond.methodLink "StairCountModel" 371 ⟨"java/lang/Math", "min", "(JJ)J"⟩ ∈ tb := tb_in 1625 (by decide +kernel) (by decide +kernel)
theorem lM_StairCountModel_375 : Cond.methodLink "StairCountModel" 375 ⟨"java/lang/Math", "max", "(JJ)J"⟩ ∈ tb := tb_in 1626 (by decide +kernel) (by decide +kernel)
theorem lM_StairCountModel_378 : Cond.methodLink "StairCountModel" 378 ⟨"StairCountModel", "calls", "(III)V"⟩ ∈ tb := tb_in 1589 (by decide +kernel) (by decide +kernel)
theorem lM_StairCountModel_382 : Cond.methodLink "StairCountModel" 382 ⟨"StairCountModel", "within", "(IIII)I"⟩ ∈ tb := tb_in 1601 (by decide +kernel) (by decide +kernel)
theorem lM_StairCountModel_386 : Cond.methodLink "StairCountModel" 386 ⟨"StairCountModel", "steepWith", "(IIII)I"⟩ ∈ tb := tb_in 1585 (by decide +kernel) (by decide +kernel)
theorem lM_StairCountModel_389 : Cond.methodLink "StairCountModel" 389 ⟨"StairCountModel", "steepOf", "(III)I"⟩ ∈ tb := tb_in 1581 (by decide +kernel) (by decide +kernel)
theorem lM_StairCountModel_396 : Cond.methodLink "StairCountModel" 396 ⟨"StairCountModel", "canClimb", "(III)Z"⟩ ∈ tb := tb_in 1695 (by decide +kernel) (by decide +kernel)
theorem lM_StairCountModel_400 : Cond.methodLink "StairCountModel" 400 ⟨"StairCountModel", "doesFall", "(IZ)Z"⟩ ∈ tb := tb_in 1699 (by decide +kernel) (by decide +kernel)
theorem lM_StairCountModel_404 : Cond.methodLink "StairCountModel" 404 ⟨"java/lang/Math", "max", "(II)I"⟩ ∈ tb := tb_in 1690 (by decide +kernel) (by decide +kernel)
theorem lM_StairCountModel_406 : Cond.methodLink "StairCountModel" 406 ⟨"java/lang/Math", "min", "(II)I"⟩ ∈ tb := tb_in 1705 (by decide +kernel) (by decide +kernel)
theorem lM_StairCountModel_408 : Cond.methodLink "StairCountModel" 408 ⟨"StairCountModel", "goesUp", "(IIZ)Z"⟩ ∈ tb := tb_in 1691 (by decide +kernel) (by decide +kernel)
theorem lM_StairCountModel_412 : Cond.methodLink "StairCountModel" 412 ⟨"StairCountModel", "goesTo", "(IIIZ)V"⟩ ∈ tb := tb_in 1686 (by decide +kernel) (by decide +kernel)
theorem lM_StairCountModel_416 : Cond.methodLink "StairCountModel" 416 ⟨"StairCountModel", "ropes", "(III)V"⟩ ∈ tb := tb_in 1726 (by decide +kernel) (by decide +kernel)
theorem lM_StairCountModel_422 : Cond.methodLink "StairCountModel" 422 ⟨"StairCountModel", "isAhead", "(II)Z"⟩ ∈ tb := tb_in 1661 (by decide +kernel) (by decide +kernel)
theorem lM_StairCountModel_426 : Cond.methodLink "StairCountModel" 426 ⟨"StairCountModel", "laysOrde\x72", "(II)V"⟩ ∈ tb := tb_in 1657 (by decide +kernel) (by decide +kernel)
theorem lM_StairCountModel_429 : Cond.methodLink "StairCountModel" 429 ⟨"StairCountModel", "does", "(IIZ)V"⟩ ∈ tb := tb_in 1722 (by decide +kernel) (by decide +kernel)
theorem lM_StairCountModel_433 : Cond.methodLink "StairCountModel" 433 ⟨"StairCountModel", "passes", "(IZ)V"⟩ ∈ tb := tb_in 1718 (by decide +kernel) (by decide +kernel)
theorem lM_StairCountModel_437 : Cond.methodLink "StairCountModel" 437 ⟨"StairCountModel", "areOf", "(II)Z"⟩ ∈ tb := tb_in 1564 (by decide +kernel) (by decide +kernel)
theorem lM_StairCountModel_441 : Cond.methodLink "StairCountModel" 441 ⟨"StairCountModel", "outward", "(I)I"⟩ ∈ tb := tb_in 1631 (by decide +kernel) (by decide +kernel)
theorem lM_StairCountModel_444 : Cond.methodLink "StairCountModel" 444 ⟨"StairCountModel", "isFloo\x72", "(I)Z"⟩ ∈ tb := tb_in 1642 (by decide +kernel) (by decide +kernel)
theorem lM_StairCountModel_447 : Cond.methodLink "StairCountModel" 447 ⟨"StairCountModel", "isStronge\x72", "(II)Z"⟩ ∈ tb := tb_in 1646 (by decide +kernel) (by decide +kernel)
theorem lM_StairCountModel_450 : Cond.methodLink "StairCountModel" 450 ⟨"StairCountModel", "isHou\x72", "(I)Z"⟩ ∈ tb := tb_in 1654 (by decide +kernel) (by decide +kernel)
theorem lM_StairCountModel_457 : Cond.methodLink "StairCountModel" 457 ⟨"StairCountModel", "copies", "(II)V"⟩ ∈ tb := tb_in 1682 (by decide +kernel) (by decide +kernel)
theorem lM_StairCountModel_460 : Cond.methodLink "StairCountModel" 460 ⟨"StairCountModel", "keepNow", "()V"⟩ ∈ tb := tb_in 1678 (by decide +kernel) (by decide +kernel)
theorem lM_StairCountModel_463 : Cond.methodLink "StairCountModel" 463 ⟨"StairCountModel", "goesOn", "(I)V"⟩ ∈ tb := tb_in 1734 (by decide +kernel) (by decide +kernel)
theorem lM_StairCountModel_466 : Cond.methodLink "StairCountModel" 466 ⟨"StairCountModel", "sumOf", "([II)I"⟩ ∈ tb := tb_in 1738 (by decide +kernel) (by decide +kernel)
theorem lM_StairCountModel_470 : Cond.methodLink "StairCountModel" 470 ⟨"StairCountModel", "entries", "(I)I"⟩ ∈ tb := tb_in 1742 (by decide +kernel) (by decide +kernel)
theorem lM_StairCountModel_473 : Cond.methodLink "StairCountModel" 473 ⟨"StairCountModel", "getsUp", "(II)I"⟩ ∈ tb := tb_in 1754 (by decide +kernel) (by decide +kernel)
theorem lM_StairCountModel_477 : Cond.methodLink "StairCountModel" 477 ⟨"StairCountModel", "betters", "(IIII)Z"⟩ ∈ tb := tb_in 1779 (by decide +kernel) (by decide +kernel)
theorem lM_StairCountModel_481 : Cond.methodLink "StairCountModel" 481 ⟨"StairCountModel", "laysWays", "(II)V"⟩ ∈ tb := tb_in 1774 (by decide +kernel) (by decide +kernel)
theorem lM_StairCountModel_484 : Cond.methodLink "StairCountModel" 484 ⟨"StairCountModel", "areTwo", "(II)Z"⟩ ∈ tb := tb_in 1787 (by decide +kernel) (by decide +kernel)
theorem lM_StairCountModel_487 : Cond.methodLink "StairCountModel" 487 ⟨"StairCountModel", "hasOf", "(IIII)I"⟩ ∈ tb := tb_in 1811 (by decide +kernel) (by decide +kernel)
theorem lM_StairCountModel_490 : Cond.methodLink "StairCountModel" 490 ⟨"StairCountModel", "isRest", "(IIII)Z"⟩ ∈ tb := tb_in 1807 (by decide +kernel) (by decide +kernel)
theorem lM_StairCountModel_493 : Cond.methodLink "StairCountModel" 493 ⟨"StairCountModel", "restOf", "(IIII)I"⟩ ∈ tb := tb_in 1803 (by decide +kernel) (by decide +kernel)
theorem lM_StairCountModel_500 : Cond.methodLink "StairCountModel" 500 ⟨"StairCountModel", "knownMany", "()I"⟩ ∈ tb := tb_in 1845 (by decide +kernel) (by decide +kernel)
theorem lM_StairCountModel_503 : Cond.methodLink "StairCountModel" 503 ⟨"StairCountModel", "isSo", "(I)Z"⟩ ∈ tb := tb_in 1853 (by decide +kernel) (by decide +kernel)
theorem lM_StairCountModel_506 : Cond.methodLink "StairCountModel" 506 ⟨"StairCountModel", "fitsHad", "(I)Z"⟩ ∈ tb := tb_in 1849 (by decide +kernel) (by decide +kernel)
theorem lM_StairCountModel_509 : Cond.methodLink "StairCountModel" 509 ⟨"StairCountModel", "hadsOf", "(II)I"⟩ ∈ tb := tb_in 1841 (by decide +kernel) (by decide +kernel)
theorem lM_StairCountModel_512 : Cond.methodLink "StairCountModel" 512 ⟨"StairCountModel", "worstAt", "(II)I"⟩ ∈ tb := tb_in 1861 (by decide +kernel) (by decide +kernel)
theorem lQ_StairCount_Course_156 : Cond.constantLong "StairCount$Course" 156 (-9223372036854775808) ∈ tb := tb_in 768 (by decide +kernel) (by decide +kernel)
theorem lQ_StairCount_Course_163 : Cond.constantLong "StairCount$Course" 163 99 ∈ tb := tb_in 893 (by decide +kernel) (by decide +kernel)
theorem lQ_StairCount_Course_184 : Cond.constantLong "StairCount$Course" 184 (-99) ∈ tb := tb_in 778 (by decide +kernel) (by decide +kernel)
theorem lQ_StairCount_Course_186 : Cond.constantLong "StairCount$Course" 186 999 ∈ tb := tb_in 779 (by decide +kernel) (by decide +kernel)
theorem lQ_StairCount_Course_219 : Cond.constantLong "StairCount$Course" 219 1000000000000 ∈ tb := tb_in 776 (by decide +kernel) (by decide +kernel)
theorem lQ_StairCount_Course_221 : Cond.constantLong "StairCount$Course" 221 (-1000000000000) ∈ tb := tb_in 777 (by decide +kernel) (by decide +kernel)
theorem lQ_StairCount_197 : Cond.constantLong "StairCount" 197 (-9223372036854775808) ∈ tb := tb_in 837 (by decide +kernel) (by decide +kernel)
theorem lQ_StairCount_288 : Cond.constantLong "StairCount" 288 (-1) ∈ tb := tb_in 1032 (by decide +kernel) (by decide +kernel)
theorem lQ_StairCountModel_333 : Cond.constantLong "StairCountModel" 333 1000000000000 ∈ tb := tb_in 1623 (by decide +kernel) (by decide +kernel)
theorem lQ_StairCountModel_335 : Cond.constantLong "StairCountModel" 335 (-1000000000000) ∈ tb := tb_in 1624 (by decide +kernel) (by decide +kernel)
theorem lQ_StairCountModel_455 : Cond.constantLong "StairCountModel" 455 (-9223372036854775808) ∈ tb := tb_in 1673 (by decide +kernel) (by decide +kernel)
theorem lQ_StairCountModel_496 : Cond.constantLong "StairCountModel" 496 (-1) ∈ tb := tb_in 1823 (by decide +kernel) (by decide +kernel)
theorem lQ_StairCountModel_498 : Cond.constantLong "StairCountModel" 498 100 ∈ tb := tb_in 1824 (by decide +kernel) (by decide +kernel)
def mi_X0_begin : MI := (⟨RX0, "begin", "(LStairCount$Plan;LStairCount$State;I)V"⟩, prog_2_method_2_code, 4, none)
theorem mv_X0_begin : mV mi_X0_begin 0 3 := ⟨⟨tb_in 9 (by decide +kernel) (by decide +kernel), ⟨by decide +kernel, by decide +kernel, by decide +kernel⟩, tb_in 758 (by decide +kernel) (by decide +kernel), by decide⟩, ⟨_, _, rfl⟩, tb_in 756 (by decide +kernel) (by decide +kernel), tb_in 757 (by decide +kernel) (by decide +kernel)⟩
def mi_X0_rankOf : MI := (⟨RX0, "rankOf", "(I)I"⟩, prog_2_method_7_code, 4, (some .int))
theorem mv_X0_rankOf : mV mi_X0_rankOf 0 1 := ⟨⟨tb_in 9 (by decide +kernel) (by decide +kernel), ⟨by decide +kernel, by decide +kernel, by decide +kernel⟩, tb_in 824 (by decide +kernel) (by decide +kernel), by decide⟩, ⟨_, _, rfl⟩, tb_in 823 (by decide +kernel) (by decide +kernel), tb_sel 36 (by decide +kernel) (by decide +kernel)⟩
def mi_X0_comesFirst : MI := (⟨RX0, "comesFirst", "(II)Z"⟩, prog_2_method_6_code, 5, (some .boolean))
theorem mv_X0_comesFirst : mV mi_X0_comesFirst 0 2 := ⟨⟨tb_in 9 (by decide +kernel) (by decide +kernel), ⟨by decide +kernel, by decide +kernel, by decide +kernel⟩, tb_in 820 (by decide +kernel) (by decide +kernel), by decide⟩, ⟨_, _, rfl⟩, tb_in 819 (by decide +kernel) (by decide +kernel), tb_sel 35 (by decide +kernel) (by decide +kernel)⟩
def mi_X0_lineUp : MI := (⟨RX0, "lineUp", "(I)V"⟩, prog_2_method_5_code, 5, none)
theorem mv_X0_lineUp : mV mi_X0_lineUp 0 1 := ⟨⟨tb_in 9 (by decide +kernel) (by decide +kernel), ⟨by decide +kernel, by decide +kernel, by decide +kernel⟩, tb_in 816 (by decide +kernel) (by decide +kernel), by decide⟩, ⟨_, _, rfl⟩, tb_in 814 (by decide +kernel) (by decide +kernel), tb_in 815 (by decide +kernel) (by decide +kernel)⟩
def mi_X7_addTired : MI := (⟨RX7, "addTired", "(II)V"⟩, prog_9_method_5_code, 3, none)
theorem mv_X7_addTired : mV mi_X7_addTired 7 2 := ⟨⟨tb_in 4 (by decide +kernel) (by decide +kernel), ⟨by decide +kernel, by decide +kernel, by decide +kernel⟩, tb_in 897 (by decide +kernel) (by decide +kernel), by decide⟩, ⟨_, _, rfl⟩, tb_in 895 (by decide +kernel) (by decide +kernel), tb_in 896 (by decide +kernel) (by decide +kernel)⟩
def mi_X0_swing : MI := (⟨RX0, "swing", "(II)V"⟩, prog_2_method_8_code, 6, none)
theorem mv_X0_swing : mV mi_X0_swing 0 2 := ⟨⟨tb_in 9 (by decide +kernel) (by decide +kernel), ⟨by decide +kernel, by decide +kernel, by decide +kernel⟩, tb_in 925 (by decide +kernel) (by decide +kernel), by decide⟩, ⟨_, _, rfl⟩, tb_in 924 (by decide +kernel) (by decide +kernel), tb_sel 39 (by decide +kernel) (by decide +kernel)⟩
def mi_X7_drawn : MI := (⟨RX7, "drawn", "()I"⟩, prog_9_method_7_code, 1, (some .int))
theorem mv_X7_drawn : mV mi_X7_drawn 7 0 := ⟨⟨tb_in 4 (by decide +kernel) (by decide +kernel), ⟨by decide +kernel, by decide +kernel, by decide +kernel⟩, tb_in 888 (by decide +kernel) (by decide +kernel), by decide⟩, ⟨_, _, rfl⟩, tb_in 886 (by decide +kernel) (by decide +kernel), tb_in 887 (by decide +kernel) (by decide +kernel)⟩
def mi_X0_slips : MI := (⟨RX0, "slips", "()Z"⟩, prog_2_method_11_code, 1, (some .boolean))
theorem mv_X0_slips : mV mi_X0_slips 0 0 := ⟨⟨tb_in 9 (by decide +kernel) (by decide +kernel), ⟨by decide +kernel, by decide +kernel, by decide +kernel⟩, tb_in 884 (by decide +kernel) (by decide +kernel), by decide⟩, ⟨_, _, rfl⟩, tb_in 883 (by decide +kernel) (by decide +kernel), tb_sel 38 (by decide +kernel) (by decide +kernel)⟩
def mi_X0_joined : MI := (⟨RX0, "joined", "(IJJ)J"⟩, prog_2_method_16_code, 7, (some .long))
theorem ms_X0_joined : mS mi_X0_joined 3 := ⟨⟨tb_in 9 (by decide +kernel) (by decide +kernel), ⟨by decide +kernel, by decide +kernel, by decide +kernel⟩, tb_in 775 (by decide +kernel) (by decide +kernel), by decide⟩, tb_in 774 (by decide +kernel) (by decide +kernel)⟩
def mi_X0_nameOf : MI := (⟨RX0, "nameOf", "(III)I"⟩, prog_2_method_15_code, 6, (some .int))
theorem mv_X0_nameOf : mV mi_X0_nameOf 0 3 := ⟨⟨tb_in 9 (by decide +kernel) (by decide +kernel), ⟨by decide +kernel, by decide +kernel, by decide +kernel⟩, tb_in 772 (by decide +kernel) (by decide +kernel), by decide⟩, ⟨_, _, rfl⟩, tb_in 771 (by decide +kernel) (by decide +kernel), tb_sel 32 (by decide +kernel) (by decide +kernel)⟩
def mi_X10_cell : MI := (⟨RX10, "cell", "(II)I"⟩, prog_1_method_17_code, 2, (some .int))
theorem ms_X10_cell : mS mi_X10_cell 2 := ⟨⟨tb_in 1 (by decide +kernel) (by decide +kernel), ⟨by decide +kernel, by decide +kernel, by decide +kernel⟩, tb_in 648 (by decide +kernel) (by decide +kernel), by decide⟩, tb_in 647 (by decide +kernel) (by decide +kernel)⟩
def mi_X0_valueOf : MI := (⟨RX0, "valueOf", "(IIII)J"⟩, prog_2_method_14_code, 11, (some .long))
theorem mv_X0_valueOf : mV mi_X0_valueOf 0 4 := ⟨⟨tb_in 9 (by decide +kernel) (by decide +kernel), ⟨by decide +kernel, by decide +kernel, by decide +kernel⟩, tb_in 766 (by decide +kernel) (by decide +kernel), by decide⟩, ⟨_, _, rfl⟩, tb_in 764 (by decide +kernel) (by decide +kernel), tb_in 765 (by decide +kernel) (by decide +kernel)⟩
def mi_X0_steepOf : MI := (⟨RX0, "steepOf", "(III)I"⟩, prog_2_method_12_code, 6, (some .int))
theorem mv_X0_steepOf : mV mi_X0_steepOf 0 3 := ⟨⟨tb_in 9 (by decide +kernel) (by decide +kernel), ⟨by decide +kernel, by decide +kernel, by decide +kernel⟩, tb_in 762 (by decide +kernel) (by decide +kernel), by decide⟩, ⟨_, _, rfl⟩, tb_in 760 (by decide +kernel) (by decide +kernel), tb_in 761 (by decide +kernel) (by decide +kernel)⟩
def mi_X7_addTally : MI := (⟨RX7, "addTally", "(II)V"⟩, prog_9_method_4_code, 3, none)
theorem mv_X7_addTally : mV mi_X7_addTally 7 2 := ⟨⟨tb_in 4 (by decide +kernel) (by decide +kernel), ⟨by decide +kernel, by decide +kernel, by decide +kernel⟩, tb_in 871 (by decide +kernel) (by decide +kernel), by decide⟩, ⟨_, _, rfl⟩, tb_in 869 (by decide +kernel) (by decide +kernel), tb_in 870 (by decide +kernel) (by decide +kernel)⟩
def mi_X0_rise : MI := (⟨RX0, "rise", "(II)Z"⟩, prog_2_method_10_code, 6, (some .boolean))
theorem mv_X0_rise : mV mi_X0_rise 0 2 := ⟨⟨tb_in 9 (by decide +kernel) (by decide +kernel), ⟨by decide +kernel, by decide +kernel, by decide +kernel⟩, tb_in 879 (by decide +kernel) (by decide +kernel), by decide⟩, ⟨_, _, rfl⟩, tb_in 878 (by decide +kernel) (by decide +kernel), tb_sel 37 (by decide +kernel) (by decide +kernel)⟩
def mi_X0_walkTo : MI := (⟨RX0, "walkTo", "(II)Z"⟩, prog_2_method_9_code, 4, (some .boolean))
theorem mv_X0_walkTo : mV mi_X0_walkTo 0 2 := ⟨⟨tb_in 9 (by decide +kernel) (by decide +kernel), ⟨by decide +kernel, by decide +kernel, by decide +kernel⟩, tb_in 867 (by decide +kernel) (by decide +kernel), by decide⟩, ⟨_, _, rfl⟩, tb_in 865 (by decide +kernel) (by decide +kernel), tb_in 866 (by decide +kernel) (by decide +kernel)⟩
def mi_X0_passOne : MI := (⟨RX0, "passOne", "()V"⟩, prog_2_method_4_code, 5, none)
theorem mv_X0_passOne : mV mi_X0_passOne 0 0 := ⟨⟨tb_in 9 (by decide +kernel) (by decide +kernel), ⟨by decide +kernel, by decide +kernel, by decide +kernel⟩, tb_in 919 (by decide +kernel) (by decide +kernel), by decide⟩, ⟨_, _, rfl⟩, tb_in 917 (by decide +kernel) (by decide +kernel), tb_in 918 (by decide +kernel) (by decide +kernel)⟩
def mi_X5_firstHour : MI := (⟨RX5, "firstHou\x72", "(I)I"⟩, prog_7_method_4_code, 4, (some .int))
theorem mv_X5_firstHour : mV mi_X5_firstHour 5 1 := ⟨⟨tb_in 2 (by decide +kernel) (by decide +kernel), ⟨by decide +kernel, by decide +kernel, by decide +kernel⟩, tb_in 832 (by decide +kernel) (by decide +kernel), by decide⟩, ⟨_, _, rfl⟩, tb_in 830 (by decide +kernel) (by decide +kernel), tb_in 831 (by decide +kernel) (by decide +kernel)⟩
def mi_X0_pass : MI := (⟨RX0, "pass", "(I)V"⟩, prog_2_method_3_code, 5, none)
theorem mv_X0_pass : mV mi_X0_pass 0 1 := ⟨⟨tb_in 9 (by decide +kernel) (by decide +kernel), ⟨by decide +kernel, by decide +kernel, by decide +kernel⟩, tb_in 914 (by decide +kernel) (by decide +kernel), by decide⟩, ⟨_, _, rfl⟩, tb_in 912 (by decide +kernel) (by decide +kernel), tb_in 913 (by decide +kernel) (by decide +kernel)⟩
def mi_X0_costUp : MI := (⟨RX0, "costUp", "(II)I"⟩, prog_2_method_13_code, 4, (some .int))
theorem mv_X0_costUp : mV mi_X0_costUp 0 2 := ⟨⟨tb_in 9 (by decide +kernel) (by decide +kernel), ⟨by decide +kernel, by decide +kernel, by decide +kernel⟩, tb_in 985 (by decide +kernel) (by decide +kernel), by decide⟩, ⟨_, _, rfl⟩, tb_in 983 (by decide +kernel) (by decide +kernel), tb_in 984 (by decide +kernel) (by decide +kernel)⟩
def mi_X3_hold : MI := (⟨RX3, "hold", "(ILStairCount$State;)Z"⟩, prog_5_method_7_code, 5, (some .boolean))
theorem mv_X3_hold : mV mi_X3_hold 3 2 := ⟨⟨tb_in 8 (by decide +kernel) (by decide +kernel), ⟨by decide +kernel, by decide +kernel, by decide +kernel⟩, tb_in 1079 (by decide +kernel) (by decide +kernel), by decide⟩, ⟨_, _, rfl⟩, tb_in 1077 (by decide +kernel) (by decide +kernel), tb_in 1078 (by decide +kernel) (by decide +kernel)⟩
def mi_X7_take : MI := (⟨RX7, "take", "(LStairCount$State;)V"⟩, prog_9_method_3_code, 2, none)
theorem mv_X7_take : mV mi_X7_take 7 1 := ⟨⟨tb_in 4 (by decide +kernel) (by decide +kernel), ⟨by decide +kernel, by decide +kernel, by decide +kernel⟩, tb_in 712 (by decide +kernel) (by decide +kernel), by decide⟩, ⟨_, _, rfl⟩, tb_in 710 (by decide +kernel) (by decide +kernel), tb_in 711 (by decide +kernel) (by decide +kernel)⟩
def mi_X1_possible : MI := (⟨RX1, "possible", "(LStairCount$Course;LStairCount$Notes;II)I"⟩, prog_3_method_2_code, 10, (some .int))
theorem mv_X1_possible : mV mi_X1_possible 1 4 := ⟨⟨tb_in 11 (by decide +kernel) (by decide +kernel), ⟨by decide +kernel, by decide +kernel, by decide +kernel⟩, tb_in 1072 (by decide +kernel) (by decide +kernel), by decide⟩, ⟨_, _, rfl⟩, tb_in 1070 (by decide +kernel) (by decide +kernel), tb_in 1071 (by decide +kernel) (by decide +kernel)⟩
def mi_J7_fill_53178 : MI := (⟨RJ7, "fill", "([II)V"⟩, prog_29_method_103_code, 4, none)
theorem ms_J7_fill_53178 : mS mi_J7_fill_53178 2 := ⟨⟨tb_in 10 (by decide +kernel) (by decide +kernel), ⟨by decide +kernel, by decide +kernel, by decide +kernel⟩, tb_in 356 (by decide +kernel) (by decide +kernel), by decide⟩, tb_in 355 (by decide +kernel) (by decide +kernel)⟩
def mi_X1_worst : MI := (⟨RX1, "worst", "(II)I"⟩, prog_3_method_3_code, 6, (some .int))
theorem mv_X1_worst : mV mi_X1_worst 1 2 := ⟨⟨tb_in 11 (by decide +kernel) (by decide +kernel), ⟨by decide +kernel, by decide +kernel, by decide +kernel⟩, tb_in 1087 (by decide +kernel) (by decide +kernel), by decide⟩, ⟨_, _, rfl⟩, tb_in 1085 (by decide +kernel) (by decide +kernel), tb_in 1086 (by decide +kernel) (by decide +kernel)⟩
def mi_X2_clear : MI := (⟨RX2, "clea\x72", "()V"⟩, prog_4_method_2_code, 1, none)
theorem mv_X2_clear : mV mi_X2_clear 2 0 := ⟨⟨tb_in 3 (by decide +kernel) (by decide +kernel), ⟨by decide +kernel, by decide +kernel, by decide +kernel⟩, tb_in 587 (by decide +kernel) (by decide +kernel), by decide⟩, ⟨_, _, rfl⟩, tb_in 585 (by decide +kernel) (by decide +kernel), tb_in 586 (by decide +kernel) (by decide +kernel)⟩
def mi_X2_hasLaw : MI := (⟨RX2, "hasLaw", "(I)Z"⟩, prog_4_method_3_code, 2, (some .boolean))
theorem mv_X2_hasLaw : mV mi_X2_hasLaw 2 1 := ⟨⟨tb_in 3 (by decide +kernel) (by decide +kernel), ⟨by decide +kernel, by decide +kernel, by decide +kernel⟩, tb_in 673 (by decide +kernel) (by decide +kernel), by decide⟩, ⟨_, _, rfl⟩, tb_in 671 (by decide +kernel) (by decide +kernel), tb_in 672 (by decide +kernel) (by decide +kernel)⟩
def mi_X2_put : MI := (⟨RX2, "put", "(II)V"⟩, prog_4_method_4_code, 3, none)
theorem mv_X2_put : mV mi_X2_put 2 2 := ⟨⟨tb_in 3 (by decide +kernel) (by decide +kernel), ⟨by decide +kernel, by decide +kernel, by decide +kernel⟩, tb_in 704 (by decide +kernel) (by decide +kernel), by decide⟩, ⟨_, _, rfl⟩, tb_in 702 (by decide +kernel) (by decide +kernel), tb_in 703 (by decide +kernel) (by decide +kernel)⟩
def mi_X3_clear : MI := (⟨RX3, "clea\x72", "()V"⟩, prog_5_method_2_code, 1, none)
theorem mv_X3_clear : mV mi_X3_clear 3 0 := ⟨⟨tb_in 8 (by decide +kernel) (by decide +kernel), ⟨by decide +kernel, by decide +kernel, by decide +kernel⟩, tb_in 719 (by decide +kernel) (by decide +kernel), by decide⟩, ⟨_, _, rfl⟩, tb_in 717 (by decide +kernel) (by decide +kernel), tb_in 718 (by decide +kernel) (by decide +kernel)⟩
def mi_X3_add : MI := (⟨RX3, "add", "(IIIZ)I"⟩, prog_5_method_3_code, 5, (some .int))
theorem mv_X3_add : mV mi_X3_add 3 4 := ⟨⟨tb_in 8 (by decide +kernel) (by decide +kernel), ⟨by decide +kernel, by decide +kernel, by decide +kernel⟩, tb_in 1043 (by decide +kernel) (by decide +kernel), by decide⟩, ⟨_, _, rfl⟩, tb_in 1041 (by decide +kernel) (by decide +kernel), tb_in 1042 (by decide +kernel) (by decide +kernel)⟩
def mi_X3_addStrike : MI := (⟨RX3, "addStrike", "(I)I"⟩, prog_5_method_4_code, 2, (some .int))
theorem mv_X3_addStrike : mV mi_X3_addStrike 3 1 := ⟨⟨tb_in 8 (by decide +kernel) (by decide +kernel), ⟨by decide +kernel, by decide +kernel, by decide +kernel⟩, tb_in 1051 (by decide +kernel) (by decide +kernel), by decide⟩, ⟨_, _, rfl⟩, tb_in 1049 (by decide +kernel) (by decide +kernel), tb_in 1050 (by decide +kernel) (by decide +kernel)⟩
def mi_X3_knownBy : MI := (⟨RX3, "knownBy", "()I"⟩, prog_5_method_5_code, 1, (some .int))
theorem mv_X3_knownBy : mV mi_X3_knownBy 3 0 := ⟨⟨tb_in 8 (by decide +kernel) (by decide +kernel), ⟨by decide +kernel, by decide +kernel, by decide +kernel⟩, tb_in 853 (by decide +kernel) (by decide +kernel), by decide⟩, ⟨_, _, rfl⟩, tb_in 851 (by decide +kernel) (by decide +kernel), tb_in 852 (by decide +kernel) (by decide +kernel)⟩
def mi_X3_weigh : MI := (⟨RX3, "weigh", "()V"⟩, prog_5_method_6_code, 2, none)
theorem mv_X3_weigh : mV mi_X3_weigh 3 0 := ⟨⟨tb_in 8 (by decide +kernel) (by decide +kernel), ⟨by decide +kernel, by decide +kernel, by decide +kernel⟩, tb_in 1067 (by decide +kernel) (by decide +kernel), by decide⟩, ⟨_, _, rfl⟩, tb_in 1065 (by decide +kernel) (by decide +kernel), tb_in 1066 (by decide +kernel) (by decide +kernel)⟩
def mi_X4_clear : MI := (⟨RX4, "clea\x72", "()V"⟩, prog_6_method_2_code, 1, none)
theorem mv_X4_clear : mV mi_X4_clear 4 0 := ⟨⟨tb_in 7 (by decide +kernel) (by decide +kernel), ⟨by decide +kernel, by decide +kernel, by decide +kernel⟩, tb_in 723 (by decide +kernel) (by decide +kernel), by decide⟩, ⟨_, _, rfl⟩, tb_in 721 (by decide +kernel) (by decide +kernel), tb_in 722 (by decide +kernel) (by decide +kernel)⟩
def mi_X4_push : MI := (⟨RX4, "push", "(LStairCount$State;)V"⟩, prog_6_method_3_code, 2, none)
theorem mv_X4_push : mV mi_X4_push 4 1 := ⟨⟨tb_in 7 (by decide +kernel) (by decide +kernel), ⟨by decide +kernel, by decide +kernel, by decide +kernel⟩, tb_in 861 (by decide +kernel) (by decide +kernel), by decide⟩, ⟨_, _, rfl⟩, tb_in 859 (by decide +kernel) (by decide +kernel), tb_in 860 (by decide +kernel) (by decide +kernel)⟩
def mi_X4_pop : MI := (⟨RX4, "pop", "(LStairCount$State;)Z"⟩, prog_6_method_4_code, 2, (some .boolean))
theorem mv_X4_pop : mV mi_X4_pop 4 1 := ⟨⟨tb_in 7 (by decide +kernel) (by decide +kernel), ⟨by decide +kernel, by decide +kernel, by decide +kernel⟩, tb_in 933 (by decide +kernel) (by decide +kernel), by decide⟩, ⟨_, _, rfl⟩, tb_in 931 (by decide +kernel) (by decide +kernel), tb_in 932 (by decide +kernel) (by decide +kernel)⟩
def mi_X7_clear : MI := (⟨RX7, "clea\x72", "()V"⟩, prog_9_method_2_code, 1, none)
theorem mv_X7_clear : mV mi_X7_clear 7 0 := ⟨⟨tb_in 4 (by decide +kernel) (by decide +kernel), ⟨by decide +kernel, by decide +kernel, by decide +kernel⟩, tb_in 592 (by decide +kernel) (by decide +kernel), by decide⟩, ⟨_, _, rfl⟩, tb_in 590 (by decide +kernel) (by decide +kernel), tb_in 591 (by decide +kernel) (by decide +kernel)⟩
def mi_X5_clear : MI := (⟨RX5, "clea\x72", "()V"⟩, prog_7_method_2_code, 1, none)
theorem mv_X5_clear : mV mi_X5_clear 5 0 := ⟨⟨tb_in 2 (by decide +kernel) (by decide +kernel), ⟨by decide +kernel, by decide +kernel, by decide +kernel⟩, tb_in 583 (by decide +kernel) (by decide +kernel), by decide⟩, ⟨_, _, rfl⟩, tb_in 581 (by decide +kernel) (by decide +kernel), tb_in 582 (by decide +kernel) (by decide +kernel)⟩
def mi_X5_personOf : MI := (⟨RX5, "personOf", "(I)I"⟩, prog_7_method_3_code, 3, (some .int))
theorem mv_X5_personOf : mV mi_X5_personOf 5 1 := ⟨⟨tb_in 2 (by decide +kernel) (by decide +kernel), ⟨by decide +kernel, by decide +kernel, by decide +kernel⟩, tb_in 637 (by decide +kernel) (by decide +kernel), by decide⟩, ⟨_, _, rfl⟩, tb_in 635 (by decide +kernel) (by decide +kernel), tb_in 636 (by decide +kernel) (by decide +kernel)⟩
def mi_X6_kind : MI := (⟨RX6, "kind", "()I"⟩, prog_8_method_3_code, 1, (some .int))
theorem mv_X6_kind : mV mi_X6_kind 6 0 := ⟨⟨tb_in 5 (by decide +kernel) (by decide +kernel), ⟨by decide +kernel, by decide +kernel, by decide +kernel⟩, tb_in 597 (by decide +kernel) (by decide +kernel), by decide⟩, ⟨_, _, rfl⟩, tb_in 596 (by decide +kernel) (by decide +kernel), tb_sel 5 (by decide +kernel) (by decide +kernel)⟩
def mi_X6_advance : MI := (⟨RX6, "advance", "()V"⟩, prog_8_method_5_code, 1, none)
theorem mv_X6_advance : mV mi_X6_advance 6 0 := ⟨⟨tb_in 5 (by decide +kernel) (by decide +kernel), ⟨by decide +kernel, by decide +kernel, by decide +kernel⟩, tb_in 617 (by decide +kernel) (by decide +kernel), by decide⟩, ⟨_, _, rfl⟩, tb_in 616 (by decide +kernel) (by decide +kernel), tb_sel 10 (by decide +kernel) (by decide +kernel)⟩
def mi_X6_fail : MI := (⟨RX6, "fail", "(I)V"⟩, prog_8_method_6_code, 2, none)
theorem mv_X6_fail : mV mi_X6_fail 6 1 := ⟨⟨tb_in 5 (by decide +kernel) (by decide +kernel), ⟨by decide +kernel, by decide +kernel, by decide +kernel⟩, tb_in 609 (by decide +kernel) (by decide +kernel), by decide⟩, ⟨_, _, rfl⟩, tb_in 608 (by decide +kernel) (by decide +kernel), tb_sel 8 (by decide +kernel) (by decide +kernel)⟩
def mi_X6_value : MI := (⟨RX6, "value", "()I"⟩, prog_8_method_4_code, 1, (some .int))
theorem mv_X6_value : mV mi_X6_value 6 0 := ⟨⟨tb_in 5 (by decide +kernel) (by decide +kernel), ⟨by decide +kernel, by decide +kernel, by decide +kernel⟩, tb_in 629 (by decide +kernel) (by decide +kernel), by decide⟩, ⟨_, _, rfl⟩, tb_in 628 (by decide +kernel) (by decide +kernel), tb_sel 13 (by decide +kernel) (by decide +kernel)⟩
def mi_X6_look : MI := (⟨RX6, "look", "(II)I"⟩, prog_8_method_9_code, 3, (some .int))
theorem mv_X6_look : mV mi_X6_look 6 2 := ⟨⟨tb_in 5 (by decide +kernel) (by decide +kernel), ⟨by decide +kernel, by decide +kernel, by decide +kernel⟩, tb_in 625 (by decide +kernel) (by decide +kernel), by decide⟩, ⟨_, _, rfl⟩, tb_in 624 (by decide +kernel) (by decide +kernel), tb_sel 12 (by decide +kernel) (by decide +kernel)⟩
def mi_X6_number : MI := (⟨RX6, "numbe\x72", "(II)I"⟩, prog_8_method_10_code, 4, (some .int))
theorem mv_X6_number : mV mi_X6_number 6 2 := ⟨⟨tb_in 5 (by decide +kernel) (by decide +kernel), ⟨by decide +kernel, by decide +kernel, by decide +kernel⟩, tb_in 621 (by decide +kernel) (by decide +kernel), by decide⟩, ⟨_, _, rfl⟩, tb_in 620 (by decide +kernel) (by decide +kernel), tb_sel 11 (by decide +kernel) (by decide +kernel)⟩
def mi_X6_takeWord : MI := (⟨RX6, "takeWord", "(II)V"⟩, prog_8_method_8_code, 3, none)
theorem mv_X6_takeWord : mV mi_X6_takeWord 6 2 := ⟨⟨tb_in 5 (by decide +kernel) (by decide +kernel), ⟨by decide +kernel, by decide +kernel, by decide +kernel⟩, tb_in 613 (by decide +kernel) (by decide +kernel), by decide⟩, ⟨_, _, rfl⟩, tb_in 612 (by decide +kernel) (by decide +kernel), tb_sel 9 (by decide +kernel) (by decide +kernel)⟩
def mi_X6_readFlight : MI := (⟨RX6, "readFlight", "()V"⟩, prog_8_method_12_code, 2, none)
theorem mv_X6_readFlight : mV mi_X6_readFlight 6 0 := ⟨⟨tb_in 5 (by decide +kernel) (by decide +kernel), ⟨by decide +kernel, by decide +kernel, by decide +kernel⟩, tb_in 605 (by decide +kernel) (by decide +kernel), by decide⟩, ⟨_, _, rfl⟩, tb_in 604 (by decide +kernel) (by decide +kernel), tb_sel 7 (by decide +kernel) (by decide +kernel)⟩
def mi_X6_knownPerson : MI := (⟨RX6, "knownPerson", "()I"⟩, prog_8_method_11_code, 2, (some .int))
theorem mv_X6_knownPerson : mV mi_X6_knownPerson 6 0 := ⟨⟨tb_in 5 (by decide +kernel) (by decide +kernel), ⟨by decide +kernel, by decide +kernel, by decide +kernel⟩, tb_in 645 (by decide +kernel) (by decide +kernel), by decide⟩, ⟨_, _, rfl⟩, tb_in 644 (by decide +kernel) (by decide +kernel), tb_sel 16 (by decide +kernel) (by decide +kernel)⟩
def mi_X6_readGoing : MI := (⟨RX6, "readGoing", "(I)V"⟩, prog_8_method_16_code, 5, none)
theorem mv_X6_readGoing : mV mi_X6_readGoing 6 1 := ⟨⟨tb_in 5 (by decide +kernel) (by decide +kernel), ⟨by decide +kernel, by decide +kernel, by decide +kernel⟩, tb_in 656 (by decide +kernel) (by decide +kernel), by decide⟩, ⟨_, _, rfl⟩, tb_in 655 (by decide +kernel) (by decide +kernel), tb_sel 18 (by decide +kernel) (by decide +kernel)⟩
def mi_X6_readLadder : MI := (⟨RX6, "readLadde\x72", "()V"⟩, prog_8_method_15_code, 4, none)
theorem mv_X6_readLadder : mV mi_X6_readLadder 6 0 := ⟨⟨tb_in 5 (by decide +kernel) (by decide +kernel), ⟨by decide +kernel, by decide +kernel, by decide +kernel⟩, tb_in 652 (by decide +kernel) (by decide +kernel), by decide⟩, ⟨_, _, rfl⟩, tb_in 651 (by decide +kernel) (by decide +kernel), tb_sel 17 (by decide +kernel) (by decide +kernel)⟩
def mi_X6_await : MI := (⟨RX6, "await", "(I)V"⟩, prog_8_method_23_code, 2, none)
theorem mv_X6_await : mV mi_X6_await 6 1 := ⟨⟨tb_in 5 (by decide +kernel) (by decide +kernel), ⟨by decide +kernel, by decide +kernel, by decide +kernel⟩, tb_in 688 (by decide +kernel) (by decide +kernel), by decide⟩, ⟨_, _, rfl⟩, tb_in 687 (by decide +kernel) (by decide +kernel), tb_sel 24 (by decide +kernel) (by decide +kernel)⟩
def mi_X6_emit : MI := (⟨RX6, "emit", "(II)V"⟩, prog_8_method_26_code, 3, none)
theorem mv_X6_emit : mV mi_X6_emit 6 2 := ⟨⟨tb_in 5 (by decide +kernel) (by decide +kernel), ⟨by decide +kernel, by decide +kernel, by decide +kernel⟩, tb_in 700 (by decide +kernel) (by decide +kernel), by decide⟩, ⟨_, _, rfl⟩, tb_in 699 (by decide +kernel) (by decide +kernel), tb_sel 27 (by decide +kernel) (by decide +kernel)⟩
def mi_X6_takeKnot : MI := (⟨RX6, "takeKnot", "()V"⟩, prog_8_method_22_code, 1, none)
theorem mv_X6_takeKnot : mV mi_X6_takeKnot 6 0 := ⟨⟨tb_in 5 (by decide +kernel) (by decide +kernel), ⟨by decide +kernel, by decide +kernel, by decide +kernel⟩, tb_in 696 (by decide +kernel) (by decide +kernel), by decide⟩, ⟨_, _, rfl⟩, tb_in 695 (by decide +kernel) (by decide +kernel), tb_sel 26 (by decide +kernel) (by decide +kernel)⟩
def mi_X6_strength : MI := (⟨RX6, "strength", "(I)I"⟩, prog_8_method_27_code, 1, (some .int))
theorem ms_X6_strength : mS mi_X6_strength 1 := ⟨⟨tb_in 5 (by decide +kernel) (by decide +kernel), ⟨by decide +kernel, by decide +kernel, by decide +kernel⟩, tb_in 680 (by decide +kernel) (by decide +kernel), by decide⟩, tb_in 679 (by decide +kernel) (by decide +kernel)⟩
def mi_X6_waitingStrength : MI := (⟨RX6, "waitingStrength", "()I"⟩, prog_8_method_24_code, 1, (some .int))
theorem mv_X6_waitingStrength : mV mi_X6_waitingStrength 6 0 := ⟨⟨tb_in 5 (by decide +kernel) (by decide +kernel), ⟨by decide +kernel, by decide +kernel, by decide +kernel⟩, tb_in 692 (by decide +kernel) (by decide +kernel), by decide⟩, ⟨_, _, rfl⟩, tb_in 691 (by decide +kernel) (by decide +kernel), tb_sel 25 (by decide +kernel) (by decide +kernel)⟩
def mi_X6_readPart : MI := (⟨RX6, "readPart", "(I)Z"⟩, prog_8_method_21_code, 4, (some .boolean))
theorem mv_X6_readPart : mV mi_X6_readPart 6 1 := ⟨⟨tb_in 5 (by decide +kernel) (by decide +kernel), ⟨by decide +kernel, by decide +kernel, by decide +kernel⟩, tb_in 684 (by decide +kernel) (by decide +kernel), by decide⟩, ⟨_, _, rfl⟩, tb_in 683 (by decide +kernel) (by decide +kernel), tb_sel 23 (by decide +kernel) (by decide +kernel)⟩
def mi_X6_release : MI := (⟨RX6, "release", "(I)V"⟩, prog_8_method_25_code, 3, none)
theorem mv_X6_release : mV mi_X6_release 6 1 := ⟨⟨tb_in 5 (by decide +kernel) (by decide +kernel), ⟨by decide +kernel, by decide +kernel, by decide +kernel⟩, tb_in 708 (by decide +kernel) (by decide +kernel), by decide⟩, ⟨_, _, rfl⟩, tb_in 707 (by decide +kernel) (by decide +kernel), tb_sel 28 (by decide +kernel) (by decide +kernel)⟩
def mi_X6_readE : MI := (⟨RX6, "readE", "()V"⟩, prog_8_method_20_code, 5, none)
theorem mv_X6_readE : mV mi_X6_readE 6 0 := ⟨⟨tb_in 5 (by decide +kernel) (by decide +kernel), ⟨by decide +kernel, by decide +kernel, by decide +kernel⟩, tb_in 677 (by decide +kernel) (by decide +kernel), by decide⟩, ⟨_, _, rfl⟩, tb_in 676 (by decide +kernel) (by decide +kernel), tb_sel 22 (by decide +kernel) (by decide +kernel)⟩
def mi_X6_readLaw : MI := (⟨RX6, "readLaw", "()V"⟩, prog_8_method_19_code, 2, none)
theorem mv_X6_readLaw : mV mi_X6_readLaw 6 0 := ⟨⟨tb_in 5 (by decide +kernel) (by decide +kernel), ⟨by decide +kernel, by decide +kernel, by decide +kernel⟩, tb_in 669 (by decide +kernel) (by decide +kernel), by decide⟩, ⟨_, _, rfl⟩, tb_in 668 (by decide +kernel) (by decide +kernel), tb_sel 21 (by decide +kernel) (by decide +kernel)⟩
def mi_X6_readPerson : MI := (⟨RX6, "readPerson", "()V"⟩, prog_8_method_13_code, 4, none)
theorem mv_X6_readPerson : mV mi_X6_readPerson 6 0 := ⟨⟨tb_in 5 (by decide +kernel) (by decide +kernel), ⟨by decide +kernel, by decide +kernel, by decide +kernel⟩, tb_in 633 (by decide +kernel) (by decide +kernel), by decide⟩, ⟨_, _, rfl⟩, tb_in 632 (by decide +kernel) (by decide +kernel), tb_sel 14 (by decide +kernel) (by decide +kernel)⟩
def mi_X6_readSeed : MI := (⟨RX6, "readSeed", "()V"⟩, prog_8_method_18_code, 1, none)
theorem mv_X6_readSeed : mV mi_X6_readSeed 6 0 := ⟨⟨tb_in 5 (by decide +kernel) (by decide +kernel), ⟨by decide +kernel, by decide +kernel, by decide +kernel⟩, tb_in 664 (by decide +kernel) (by decide +kernel), by decide⟩, ⟨_, _, rfl⟩, tb_in 663 (by decide +kernel) (by decide +kernel), tb_sel 20 (by decide +kernel) (by decide +kernel)⟩
def mi_X6_readSlip : MI := (⟨RX6, "readSlip", "()V"⟩, prog_8_method_17_code, 1, none)
theorem mv_X6_readSlip : mV mi_X6_readSlip 6 0 := ⟨⟨tb_in 5 (by decide +kernel) (by decide +kernel), ⟨by decide +kernel, by decide +kernel, by decide +kernel⟩, tb_in 660 (by decide +kernel) (by decide +kernel), by decide⟩, ⟨_, _, rfl⟩, tb_in 659 (by decide +kernel) (by decide +kernel), tb_sel 19 (by decide +kernel) (by decide +kernel)⟩
def mi_X6_readTally : MI := (⟨RX6, "readTally", "(I)V"⟩, prog_8_method_14_code, 5, none)
theorem mv_X6_readTally : mV mi_X6_readTally 6 1 := ⟨⟨tb_in 5 (by decide +kernel) (by decide +kernel), ⟨by decide +kernel, by decide +kernel, by decide +kernel⟩, tb_in 641 (by decide +kernel) (by decide +kernel), by decide⟩, ⟨_, _, rfl⟩, tb_in 640 (by decide +kernel) (by decide +kernel), tb_sel 15 (by decide +kernel) (by decide +kernel)⟩
def mi_X6_readLine : MI := (⟨RX6, "readLine", "()V"⟩, prog_8_method_7_code, 2, none)
theorem mv_X6_readLine : mV mi_X6_readLine 6 0 := ⟨⟨tb_in 5 (by decide +kernel) (by decide +kernel), ⟨by decide +kernel, by decide +kernel, by decide +kernel⟩, tb_in 601 (by decide +kernel) (by decide +kernel), by decide⟩, ⟨_, _, rfl⟩, tb_in 600 (by decide +kernel) (by decide +kernel), tb_sel 6 (by decide +kernel) (by decide +kernel)⟩
def mi_X8_isDigit : MI := (⟨RX8, "isDigit", "(I)Z"⟩, prog_10_method_4_code, 1, (some .boolean))
theorem ms_X8_isDigit : mS mi_X8_isDigit 1 := ⟨⟨tb_in 6 (by decide +kernel) (by decide +kernel), ⟨by decide +kernel, by decide +kernel, by decide +kernel⟩, tb_in 498 (by decide +kernel) (by decide +kernel), by decide⟩, tb_in 497 (by decide +kernel) (by decide +kernel)⟩
def mi_X8_put : MI := (⟨RX8, "put", "(III)V"⟩, prog_10_method_3_code, 4, none)
theorem mv_X8_put : mV mi_X8_put 8 3 := ⟨⟨tb_in 6 (by decide +kernel) (by decide +kernel), ⟨by decide +kernel, by decide +kernel, by decide +kernel⟩, tb_in 510 (by decide +kernel) (by decide +kernel), by decide⟩, ⟨_, _, rfl⟩, tb_in 509 (by decide +kernel) (by decide +kernel), tb_sel 2 (by decide +kernel) (by decide +kernel)⟩
def mi_X8_cutNumber : MI := (⟨RX8, "cutNumbe\x72", "([BII)I"⟩, prog_10_method_6_code, 6, (some .int))
theorem mv_X8_cutNumber : mV mi_X8_cutNumber 8 3 := ⟨⟨tb_in 6 (by decide +kernel) (by decide +kernel), ⟨by decide +kernel, by decide +kernel, by decide +kernel⟩, tb_in 502 (by decide +kernel) (by decide +kernel), by decide⟩, ⟨_, _, rfl⟩, tb_in 501 (by decide +kernel) (by decide +kernel), tb_sel 1 (by decide +kernel) (by decide +kernel)⟩
def mi_X8_doubleKind : MI := (⟨RX8, "doubleKind", "(II)I"⟩, prog_10_method_10_code, 2, (some .int))
theorem ms_X8_doubleKind : mS mi_X8_doubleKind 2 := ⟨⟨tb_in 6 (by decide +kernel) (by decide +kernel), ⟨by decide +kernel, by decide +kernel, by decide +kernel⟩, tb_in 576 (by decide +kernel) (by decide +kernel), by decide⟩, tb_in 575 (by decide +kernel) (by decide +kernel)⟩
def mi_X8_singleKind : MI := (⟨RX8, "singleKind", "(I)I"⟩, prog_10_method_11_code, 1, (some .int))
theorem ms_X8_singleKind : mS mi_X8_singleKind 1 := ⟨⟨tb_in 6 (by decide +kernel) (by decide +kernel), ⟨by decide +kernel, by decide +kernel, by decide +kernel⟩, tb_in 579 (by decide +kernel) (by decide +kernel), by decide⟩, tb_in 578 (by decide +kernel) (by decide +kernel)⟩
def mi_X8_cutSign : MI := (⟨RX8, "cutSign", "([BII)I"⟩, prog_10_method_9_code, 6, (some .int))
theorem mv_X8_cutSign : mV mi_X8_cutSign 8 3 := ⟨⟨tb_in 6 (by decide +kernel) (by decide +kernel), ⟨by decide +kernel, by decide +kernel, by decide +kernel⟩, tb_in 573 (by decide +kernel) (by decide +kernel), by decide⟩, ⟨_, _, rfl⟩, tb_in 572 (by decide +kernel) (by decide +kernel), tb_sel 4 (by decide +kernel) (by decide +kernel)⟩
def mi_X8_isLetter : MI := (⟨RX8, "isLette\x72", "(I)Z"⟩, prog_10_method_5_code, 1, (some .boolean))
theorem ms_X8_isLetter : mS mi_X8_isLetter 1 := ⟨⟨tb_in 6 (by decide +kernel) (by decide +kernel), ⟨by decide +kernel, by decide +kernel, by decide +kernel⟩, tb_in 513 (by decide +kernel) (by decide +kernel), by decide⟩, tb_in 512 (by decide +kernel) (by decide +kernel)⟩
def mi_X8_kindOf : MI := (⟨RX8, "kindOf", "(I)I"⟩, prog_10_method_8_code, 5, (some .int))
theorem ms_X8_kindOf : mS mi_X8_kindOf 1 := ⟨⟨tb_in 6 (by decide +kernel) (by decide +kernel), ⟨by decide +kernel, by decide +kernel, by decide +kernel⟩, tb_in 520 (by decide +kernel) (by decide +kernel), by decide⟩, tb_in 519 (by decide +kernel) (by decide +kernel)⟩
def mi_X8_cutWord : MI := (⟨RX8, "cutWord", "([BII)I"⟩, prog_10_method_7_code, 6, (some .int))
theorem mv_X8_cutWord : mV mi_X8_cutWord 8 3 := ⟨⟨tb_in 6 (by decide +kernel) (by decide +kernel), ⟨by decide +kernel, by decide +kernel, by decide +kernel⟩, tb_in 517 (by decide +kernel) (by decide +kernel), by decide⟩, ⟨_, _, rfl⟩, tb_in 516 (by decide +kernel) (by decide +kernel), tb_sel 3 (by decide +kernel) (by decide +kernel)⟩
def mi_X8_cut : MI := (⟨RX8, "cut", "([BI)V"⟩, prog_10_method_2_code, 6, none)
theorem mv_X8_cut : mV mi_X8_cut 8 2 := ⟨⟨tb_in 6 (by decide +kernel) (by decide +kernel), ⟨by decide +kernel, by decide +kernel, by decide +kernel⟩, tb_in 495 (by decide +kernel) (by decide +kernel), by decide⟩, ⟨_, _, rfl⟩, tb_in 493 (by decide +kernel) (by decide +kernel), tb_in 494 (by decide +kernel) (by decide +kernel)⟩
def mi_X6_read : MI := (⟨RX6, "read", "([BI)I"⟩, prog_8_method_2_code, 5, (some .int))
theorem mv_X6_read : mV mi_X6_read 6 2 := ⟨⟨tb_in 5 (by decide +kernel) (by decide +kernel), ⟨by decide +kernel, by decide +kernel, by decide +kernel⟩, tb_in 491 (by decide +kernel) (by decide +kernel), by decide⟩, ⟨_, _, rfl⟩, tb_in 489 (by decide +kernel) (by decide +kernel), tb_in 490 (by decide +kernel) (by decide +kernel)⟩
def mi_X7_tallies : MI := (⟨RX7, "tallies", "()I"⟩, prog_9_method_6_code, 3, (some .int))
theorem mv_X7_tallies : mV mi_X7_tallies 7 0 := ⟨⟨tb_in 4 (by decide +kernel) (by decide +kernel), ⟨by decide +kernel, by decide +kernel, by decide +kernel⟩, tb_in 846 (by decide +kernel) (by decide +kernel), by decide⟩, ⟨_, _, rfl⟩, tb_in 844 (by decide +kernel) (by decide +kernel), tb_in 845 (by decide +kernel) (by decide +kernel)⟩
def mi_X7_sumOf : MI := (⟨RX7, "sumOf", "([I)I"⟩, prog_9_method_8_code, 3, (some .int))
theorem ms_X7_sumOf : mS mi_X7_sumOf 1 := ⟨⟨tb_in 4 (by decide +kernel) (by decide +kernel), ⟨by decide +kernel, by decide +kernel, by decide +kernel⟩, tb_in 849 (by decide +kernel) (by decide +kernel), by decide⟩, tb_in 848 (by decide +kernel) (by decide +kernel)⟩
def mi_X9_move : MI := (⟨RX9, "move", "(III)V"⟩, prog_11_method_3_code, 6, none)
theorem mv_X9_move : mV mi_X9_move 9 3 := ⟨⟨tb_in 12 (by decide +kernel) (by decide +kernel), ⟨by decide +kernel, by decide +kernel, by decide +kernel⟩, tb_in 989 (by decide +kernel) (by decide +kernel), by decide⟩, ⟨_, _, rfl⟩, tb_in 988 (by decide +kernel) (by decide +kernel), tb_sel 41 (by decide +kernel) (by decide +kernel)⟩
def mi_X9_seek : MI := (⟨RX9, "seek", "(LStairCount$Course;I)V"⟩, prog_11_method_2_code, 6, none)
theorem mv_X9_seek : mV mi_X9_seek 9 2 := ⟨⟨tb_in 12 (by decide +kernel) (by decide +kernel), ⟨by decide +kernel, by decide +kernel, by decide +kernel⟩, tb_in 979 (by decide +kernel) (by decide +kernel), by decide⟩, ⟨_, _, rfl⟩, tb_in 977 (by decide +kernel) (by decide +kernel), tb_in 978 (by decide +kernel) (by decide +kernel)⟩
def mi_X10_putBytes : MI := (⟨RX10, "putBytes", "(I)V"⟩, prog_1_method_3_code, 3, none)
theorem mv_X10_putBytes : mV mi_X10_putBytes 10 1 := ⟨⟨tb_in 1 (by decide +kernel) (by decide +kernel), ⟨by decide +kernel, by decide +kernel, by decide +kernel⟩, tb_in 483 (by decide +kernel) (by decide +kernel), by decide⟩, ⟨_, _, rfl⟩, tb_in 482 (by decide +kernel) (by decide +kernel), tb_sel 0 (by decide +kernel) (by decide +kernel)⟩
def mi_X10_feed : MI := (⟨RX10, "feed", "(IIIII)I"⟩, prog_1_method_2_code, 6, (some .int))
theorem mv_X10_feed : mV mi_X10_feed 10 5 := ⟨⟨tb_in 1 (by decide +kernel) (by decide +kernel), ⟨by decide +kernel, by decide +kernel, by decide +kernel⟩, tb_in 479 (by decide +kernel) (by decide +kernel), by decide⟩, ⟨_, _, rfl⟩, tb_in 477 (by decide +kernel) (by decide +kernel), tb_in 478 (by decide +kernel) (by decide +kernel)⟩
def mi_X10_text : MI := (⟨RX10, "text", "(I)I"⟩, prog_1_method_4_code, 4, (some .int))
theorem mv_X10_text : mV mi_X10_text 10 1 := ⟨⟨tb_in 1 (by decide +kernel) (by decide +kernel), ⟨by decide +kernel, by decide +kernel, by decide +kernel⟩, tb_in 487 (by decide +kernel) (by decide +kernel), by decide⟩, ⟨_, _, rfl⟩, tb_in 485 (by decide +kernel) (by decide +kernel), tb_in 486 (by decide +kernel) (by decide +kernel)⟩
def mi_X10_fault : MI := (⟨RX10, "fault", "(I)I"⟩, prog_1_method_5_code, 2, (some .int))
theorem mv_X10_fault : mV mi_X10_fault 10 1 := ⟨⟨tb_in 1 (by decide +kernel) (by decide +kernel), ⟨by decide +kernel, by decide +kernel, by decide +kernel⟩, tb_in 727 (by decide +kernel) (by decide +kernel), by decide⟩, ⟨_, _, rfl⟩, tb_in 725 (by decide +kernel) (by decide +kernel), tb_in 726 (by decide +kernel) (by decide +kernel)⟩
def mi_X10_isPerson : MI := (⟨RX10, "isPerson", "(I)Z"⟩, prog_1_method_6_code, 2, (some .boolean))
theorem mv_X10_isPerson : mV mi_X10_isPerson 10 1 := ⟨⟨tb_in 1 (by decide +kernel) (by decide +kernel), ⟨by decide +kernel, by decide +kernel, by decide +kernel⟩, tb_in 740 (by decide +kernel) (by decide +kernel), by decide⟩, ⟨_, _, rfl⟩, tb_in 739 (by decide +kernel) (by decide +kernel), tb_sel 29 (by decide +kernel) (by decide +kernel)⟩
def mi_X10_isFlight : MI := (⟨RX10, "isFlight", "(I)Z"⟩, prog_1_method_7_code, 2, (some .boolean))
theorem mv_X10_isFlight : mV mi_X10_isFlight 10 1 := ⟨⟨tb_in 1 (by decide +kernel) (by decide +kernel), ⟨by decide +kernel, by decide +kernel, by decide +kernel⟩, tb_in 744 (by decide +kernel) (by decide +kernel), by decide⟩, ⟨_, _, rfl⟩, tb_in 743 (by decide +kernel) (by decide +kernel), tb_sel 30 (by decide +kernel) (by decide +kernel)⟩
def mi_X10_isFloor : MI := (⟨RX10, "isFloo\x72", "(I)Z"⟩, prog_1_method_8_code, 2, (some .boolean))
theorem mv_X10_isFloor : mV mi_X10_isFloor 10 1 := ⟨⟨tb_in 1 (by decide +kernel) (by decide +kernel), ⟨by decide +kernel, by decide +kernel, by decide +kernel⟩, tb_in 804 (by decide +kernel) (by decide +kernel), by decide⟩, ⟨_, _, rfl⟩, tb_in 803 (by decide +kernel) (by decide +kernel), tb_sel 33 (by decide +kernel) (by decide +kernel)⟩
def mi_X10_isPair : MI := (⟨RX10, "isPai\x72", "(II)Z"⟩, prog_1_method_9_code, 3, (some .boolean))
theorem mv_X10_isPair : mV mi_X10_isPair 10 2 := ⟨⟨tb_in 1 (by decide +kernel) (by decide +kernel), ⟨by decide +kernel, by decide +kernel, by decide +kernel⟩, tb_in 998 (by decide +kernel) (by decide +kernel), by decide⟩, ⟨_, _, rfl⟩, tb_in 997 (by decide +kernel) (by decide +kernel), tb_sel 42 (by decide +kernel) (by decide +kernel)⟩
def mi_X10_lookAtNow : MI := (⟨RX10, "lookAtNow", "()V"⟩, prog_1_method_10_code, 1, none)
theorem mv_X10_lookAtNow : mV mi_X10_lookAtNow 10 0 := ⟨⟨tb_in 1 (by decide +kernel) (by decide +kernel), ⟨by decide +kernel, by decide +kernel, by decide +kernel⟩, tb_in 754 (by decide +kernel) (by decide +kernel), by decide⟩, ⟨_, _, rfl⟩, tb_in 753 (by decide +kernel) (by decide +kernel), tb_sel 31 (by decide +kernel) (by decide +kernel)⟩
def mi_X10_named : MI := (⟨RX10, "named", "(I)I"⟩, prog_1_method_11_code, 2, (some .int))
theorem mv_X10_named : mV mi_X10_named 10 1 := ⟨⟨tb_in 1 (by decide +kernel) (by decide +kernel), ⟨by decide +kernel, by decide +kernel, by decide +kernel⟩, tb_in 731 (by decide +kernel) (by decide +kernel), by decide⟩, ⟨_, _, rfl⟩, tb_in 729 (by decide +kernel) (by decide +kernel), tb_in 730 (by decide +kernel) (by decide +kernel)⟩
def mi_X10_tally : MI := (⟨RX10, "tally", "(II)I"⟩, prog_1_method_13_code, 3, (some .int))
theorem mv_X10_tally : mV mi_X10_tally 10 2 := ⟨⟨tb_in 1 (by decide +kernel) (by decide +kernel), ⟨by decide +kernel, by decide +kernel, by decide +kernel⟩, tb_in 736 (by decide +kernel) (by decide +kernel), by decide⟩, ⟨_, _, rfl⟩, tb_in 734 (by decide +kernel) (by decide +kernel), tb_in 735 (by decide +kernel) (by decide +kernel)⟩
def mi_X10_steep : MI := (⟨RX10, "steep", "(II)I"⟩, prog_1_method_14_code, 3, (some .int))
theorem mv_X10_steep : mV mi_X10_steep 10 2 := ⟨⟨tb_in 1 (by decide +kernel) (by decide +kernel), ⟨by decide +kernel, by decide +kernel, by decide +kernel⟩, tb_in 750 (by decide +kernel) (by decide +kernel), by decide⟩, ⟨_, _, rfl⟩, tb_in 748 (by decide +kernel) (by decide +kernel), tb_in 749 (by decide +kernel) (by decide +kernel)⟩
def mi_X10_told : MI := (⟨RX10, "told", "(I)I"⟩, prog_1_method_18_code, 1, (some .int))
theorem ms_X10_told : mS mi_X10_told 1 := ⟨⟨tb_in 1 (by decide +kernel) (by decide +kernel), ⟨by decide +kernel, by decide +kernel, by decide +kernel⟩, tb_in 792 (by decide +kernel) (by decide +kernel), by decide⟩, tb_in 791 (by decide +kernel) (by decide +kernel)⟩
def mi_X10_entry : MI := (⟨RX10, "entry", "(I)I"⟩, prog_1_method_15_code, 4, (some .int))
theorem mv_X10_entry : mV mi_X10_entry 10 1 := ⟨⟨tb_in 1 (by decide +kernel) (by decide +kernel), ⟨by decide +kernel, by decide +kernel, by decide +kernel⟩, tb_in 789 (by decide +kernel) (by decide +kernel), by decide⟩, ⟨_, _, rfl⟩, tb_in 787 (by decide +kernel) (by decide +kernel), tb_in 788 (by decide +kernel) (by decide +kernel)⟩
def mi_X10_beside : MI := (⟨RX10, "beside", "(III)I"⟩, prog_1_method_16_code, 6, (some .int))
theorem mv_X10_beside : mV mi_X10_beside 10 3 := ⟨⟨tb_in 1 (by decide +kernel) (by decide +kernel), ⟨by decide +kernel, by decide +kernel, by decide +kernel⟩, tb_in 796 (by decide +kernel) (by decide +kernel), by decide⟩, ⟨_, _, rfl⟩, tb_in 794 (by decide +kernel) (by decide +kernel), tb_in 795 (by decide +kernel) (by decide +kernel)⟩
def mi_X10_aheadInCrowd : MI := (⟨RX10, "aheadInCrowd", "(I)I"⟩, prog_1_method_20_code, 5, (some .int))
theorem mv_X10_aheadInCrowd : mV mi_X10_aheadInCrowd 10 1 := ⟨⟨tb_in 1 (by decide +kernel) (by decide +kernel), ⟨by decide +kernel, by decide +kernel, by decide +kernel⟩, tb_in 808 (by decide +kernel) (by decide +kernel), by decide⟩, ⟨_, _, rfl⟩, tb_in 807 (by decide +kernel) (by decide +kernel), tb_sel 34 (by decide +kernel) (by decide +kernel)⟩
def mi_X10_crowd : MI := (⟨RX10, "crowd", "(II)I"⟩, prog_1_method_19_code, 4, (some .int))
theorem mv_X10_crowd : mV mi_X10_crowd 10 2 := ⟨⟨tb_in 1 (by decide +kernel) (by decide +kernel), ⟨by decide +kernel, by decide +kernel, by decide +kernel⟩, tb_in 800 (by decide +kernel) (by decide +kernel), by decide⟩, ⟨_, _, rfl⟩, tb_in 798 (by decide +kernel) (by decide +kernel), tb_in 799 (by decide +kernel) (by decide +kernel)⟩
def mi_X10_order : MI := (⟨RX10, "orde\x72", "(II)I"⟩, prog_1_method_21_code, 3, (some .int))
theorem mv_X10_order : mV mi_X10_order 10 2 := ⟨⟨tb_in 1 (by decide +kernel) (by decide +kernel), ⟨by decide +kernel, by decide +kernel, by decide +kernel⟩, tb_in 812 (by decide +kernel) (by decide +kernel), by decide⟩, ⟨_, _, rfl⟩, tb_in 810 (by decide +kernel) (by decide +kernel), tb_in 811 (by decide +kernel) (by decide +kernel)⟩
def mi_X10_soon : MI := (⟨RX10, "soon", "(I)I"⟩, prog_1_method_22_code, 3, (some .int))
theorem mv_X10_soon : mV mi_X10_soon 10 1 := ⟨⟨tb_in 1 (by decide +kernel) (by decide +kernel), ⟨by decide +kernel, by decide +kernel, by decide +kernel⟩, tb_in 828 (by decide +kernel) (by decide +kernel), by decide⟩, ⟨_, _, rfl⟩, tb_in 826 (by decide +kernel) (by decide +kernel), tb_in 827 (by decide +kernel) (by decide +kernel)⟩
def mi_X10_law : MI := (⟨RX10, "law", "(III)J"⟩, prog_1_method_23_code, 4, (some .long))
theorem mv_X10_law : mV mi_X10_law 10 3 := ⟨⟨tb_in 1 (by decide +kernel) (by decide +kernel), ⟨by decide +kernel, by decide +kernel, by decide +kernel⟩, tb_in 836 (by decide +kernel) (by decide +kernel), by decide⟩, ⟨_, _, rfl⟩, tb_in 834 (by decide +kernel) (by decide +kernel), tb_in 835 (by decide +kernel) (by decide +kernel)⟩
def mi_X10_count : MI := (⟨RX10, "count", "(I)I"⟩, prog_1_method_24_code, 2, (some .int))
theorem mv_X10_count : mV mi_X10_count 10 1 := ⟨⟨tb_in 1 (by decide +kernel) (by decide +kernel), ⟨by decide +kernel, by decide +kernel, by decide +kernel⟩, tb_in 842 (by decide +kernel) (by decide +kernel), by decide⟩, ⟨_, _, rfl⟩, tb_in 840 (by decide +kernel) (by decide +kernel), tb_in 841 (by decide +kernel) (by decide +kernel)⟩
def mi_X10_walk : MI := (⟨RX10, "walk", "(II)I"⟩, prog_1_method_25_code, 3, (some .int))
theorem mv_X10_walk : mV mi_X10_walk 10 2 := ⟨⟨tb_in 1 (by decide +kernel) (by decide +kernel), ⟨by decide +kernel, by decide +kernel, by decide +kernel⟩, tb_in 857 (by decide +kernel) (by decide +kernel), by decide⟩, ⟨_, _, rfl⟩, tb_in 855 (by decide +kernel) (by decide +kernel), tb_in 856 (by decide +kernel) (by decide +kernel)⟩
def mi_X10_carry : MI := (⟨RX10, "carry", "(II)Z"⟩, prog_1_method_26_code, 3, (some .boolean))
theorem mv_X10_carry : mV mi_X10_carry 10 2 := ⟨⟨tb_in 1 (by decide +kernel) (by decide +kernel), ⟨by decide +kernel, by decide +kernel, by decide +kernel⟩, tb_in 902 (by decide +kernel) (by decide +kernel), by decide⟩, ⟨_, _, rfl⟩, tb_in 900 (by decide +kernel) (by decide +kernel), tb_in 901 (by decide +kernel) (by decide +kernel)⟩
def mi_X10_right : MI := (⟨RX10, "right", "(II)I"⟩, prog_1_method_27_code, 4, (some .int))
theorem mv_X10_right : mV mi_X10_right 10 2 := ⟨⟨tb_in 1 (by decide +kernel) (by decide +kernel), ⟨by decide +kernel, by decide +kernel, by decide +kernel⟩, tb_in 906 (by decide +kernel) (by decide +kernel), by decide⟩, ⟨_, _, rfl⟩, tb_in 904 (by decide +kernel) (by decide +kernel), tb_in 905 (by decide +kernel) (by decide +kernel)⟩
def mi_X10_go : MI := (⟨RX10, "go", "(I)I"⟩, prog_1_method_28_code, 2, (some .int))
theorem mv_X10_go : mV mi_X10_go 10 1 := ⟨⟨tb_in 1 (by decide +kernel) (by decide +kernel), ⟨by decide +kernel, by decide +kernel, by decide +kernel⟩, tb_in 910 (by decide +kernel) (by decide +kernel), by decide⟩, ⟨_, _, rfl⟩, tb_in 908 (by decide +kernel) (by decide +kernel), tb_in 909 (by decide +kernel) (by decide +kernel)⟩
def mi_X10_undo : MI := (⟨RX10, "undo", "()I"⟩, prog_1_method_29_code, 1, (some .int))
theorem mv_X10_undo : mV mi_X10_undo 10 0 := ⟨⟨tb_in 1 (by decide +kernel) (by decide +kernel), ⟨by decide +kernel, by decide +kernel, by decide +kernel⟩, tb_in 929 (by decide +kernel) (by decide +kernel), by decide⟩, ⟨_, _, rfl⟩, tb_in 927 (by decide +kernel) (by decide +kernel), tb_in 928 (by decide +kernel) (by decide +kernel)⟩
def mi_X10_keep : MI := (⟨RX10, "keep", "()I"⟩, prog_1_method_30_code, 1, (some .int))
theorem mv_X10_keep : mV mi_X10_keep 10 0 := ⟨⟨tb_in 1 (by decide +kernel) (by decide +kernel), ⟨by decide +kernel, by decide +kernel, by decide +kernel⟩, tb_in 937 (by decide +kernel) (by decide +kernel), by decide⟩, ⟨_, _, rfl⟩, tb_in 935 (by decide +kernel) (by decide +kernel), tb_in 936 (by decide +kernel) (by decide +kernel)⟩
def mi_X10_back : MI := (⟨RX10, "back", "()I"⟩, prog_1_method_31_code, 1, (some .int))
theorem mv_X10_back : mV mi_X10_back 10 0 := ⟨⟨tb_in 1 (by decide +kernel) (by decide +kernel), ⟨by decide +kernel, by decide +kernel, by decide +kernel⟩, tb_in 941 (by decide +kernel) (by decide +kernel), by decide⟩, ⟨_, _, rfl⟩, tb_in 939 (by decide +kernel) (by decide +kernel), tb_in 940 (by decide +kernel) (by decide +kernel)⟩
def mi_X10_startTrial : MI := (⟨RX10, "startTrial", "(I)LStairCount$State;"⟩, prog_1_method_32_code, 2, (some (.object "StairCount$State")))
theorem mv_X10_startTrial : mV mi_X10_startTrial 10 1 := ⟨⟨tb_in 1 (by decide +kernel) (by decide +kernel), ⟨by decide +kernel, by decide +kernel, by decide +kernel⟩, tb_in 949 (by decide +kernel) (by decide +kernel), by decide⟩, ⟨_, _, rfl⟩, tb_in 948 (by decide +kernel) (by decide +kernel), tb_sel 40 (by decide +kernel) (by decide +kernel)⟩
def mi_X10_ahead : MI := (⟨RX10, "ahead", "(III)I"⟩, prog_1_method_33_code, 6, (some .int))
theorem mv_X10_ahead : mV mi_X10_ahead 10 3 := ⟨⟨tb_in 1 (by decide +kernel) (by decide +kernel), ⟨by decide +kernel, by decide +kernel, by decide +kernel⟩, tb_in 945 (by decide +kernel) (by decide +kernel), by decide⟩, ⟨_, _, rfl⟩, tb_in 943 (by decide +kernel) (by decide +kernel), tb_in 944 (by decide +kernel) (by decide +kernel)⟩
def mi_X10_there : MI := (⟨RX10, "there", "(II)I"⟩, prog_1_method_34_code, 5, (some .int))
theorem mv_X10_there : mV mi_X10_there 10 2 := ⟨⟨tb_in 1 (by decide +kernel) (by decide +kernel), ⟨by decide +kernel, by decide +kernel, by decide +kernel⟩, tb_in 953 (by decide +kernel) (by decide +kernel), by decide⟩, ⟨_, _, rfl⟩, tb_in 951 (by decide +kernel) (by decide +kernel), tb_in 952 (by decide +kernel) (by decide +kernel)⟩
def mi_X10_highest : MI := (⟨RX10, "highest", "(I)I"⟩, prog_1_method_35_code, 3, (some .int))
theorem mv_X10_highest : mV mi_X10_highest 10 1 := ⟨⟨tb_in 1 (by decide +kernel) (by decide +kernel), ⟨by decide +kernel, by decide +kernel, by decide +kernel⟩, tb_in 958 (by decide +kernel) (by decide +kernel), by decide⟩, ⟨_, _, rfl⟩, tb_in 956 (by decide +kernel) (by decide +kernel), tb_in 957 (by decide +kernel) (by decide +kernel)⟩
def mi_X10_climbs : MI := (⟨RX10, "climbs", "(II)I"⟩, prog_1_method_36_code, 6, (some .int))
theorem mv_X10_climbs : mV mi_X10_climbs 10 2 := ⟨⟨tb_in 1 (by decide +kernel) (by decide +kernel), ⟨by decide +kernel, by decide +kernel, by decide +kernel⟩, tb_in 962 (by decide +kernel) (by decide +kernel), by decide⟩, ⟨_, _, rfl⟩, tb_in 960 (by decide +kernel) (by decide +kernel), tb_in 961 (by decide +kernel) (by decide +kernel)⟩
def mi_X10_level : MI := (⟨RX10, "level", "(I)I"⟩, prog_1_method_37_code, 4, (some .int))
theorem mv_X10_level : mV mi_X10_level 10 1 := ⟨⟨tb_in 1 (by decide +kernel) (by decide +kernel), ⟨by decide +kernel, by decide +kernel, by decide +kernel⟩, tb_in 966 (by decide +kernel) (by decide +kernel), by decide⟩, ⟨_, _, rfl⟩, tb_in 964 (by decide +kernel) (by decide +kernel), tb_in 965 (by decide +kernel) (by decide +kernel)⟩
def mi_X10_ease : MI := (⟨RX10, "ease", "(II)I"⟩, prog_1_method_38_code, 4, (some .int))
theorem mv_X10_ease : mV mi_X10_ease 10 2 := ⟨⟨tb_in 1 (by decide +kernel) (by decide +kernel), ⟨by decide +kernel, by decide +kernel, by decide +kernel⟩, tb_in 971 (by decide +kernel) (by decide +kernel), by decide⟩, ⟨_, _, rfl⟩, tb_in 969 (by decide +kernel) (by decide +kernel), tb_in 970 (by decide +kernel) (by decide +kernel)⟩
def mi_X10_way : MI := (⟨RX10, "way", "(III)I"⟩, prog_1_method_39_code, 4, (some .int))
theorem mv_X10_way : mV mi_X10_way 10 3 := ⟨⟨tb_in 1 (by decide +kernel) (by decide +kernel), ⟨by decide +kernel, by decide +kernel, by decide +kernel⟩, tb_in 975 (by decide +kernel) (by decide +kernel), by decide⟩, ⟨_, _, rfl⟩, tb_in 973 (by decide +kernel) (by decide +kernel), tb_in 974 (by decide +kernel) (by decide +kernel)⟩
def mi_X10_meet : MI := (⟨RX10, "meet", "(III)I"⟩, prog_1_method_40_code, 8, (some .int))
theorem mv_X10_meet : mV mi_X10_meet 10 3 := ⟨⟨tb_in 1 (by decide +kernel) (by decide +kernel), ⟨by decide +kernel, by decide +kernel, by decide +kernel⟩, tb_in 994 (by decide +kernel) (by decide +kernel), by decide⟩, ⟨_, _, rfl⟩, tb_in 992 (by decide +kernel) (by decide +kernel), tb_in 993 (by decide +kernel) (by decide +kernel)⟩
def mi_X10_steepest : MI := (⟨RX10, "steepest", "(I)I"⟩, prog_1_method_41_code, 6, (some .int))
theorem mv_X10_steepest : mV mi_X10_steepest 10 1 := ⟨⟨tb_in 1 (by decide +kernel) (by decide +kernel), ⟨by decide +kernel, by decide +kernel, by decide +kernel⟩, tb_in 1002 (by decide +kernel) (by decide +kernel), by decide⟩, ⟨_, _, rfl⟩, tb_in 1000 (by decide +kernel) (by decide +kernel), tb_in 1001 (by decide +kernel) (by decide +kernel)⟩
def mi_X10_wall : MI := (⟨RX10, "wall", "()I"⟩, prog_1_method_42_code, 5, (some .int))
theorem mv_X10_wall : mV mi_X10_wall 10 0 := ⟨⟨tb_in 1 (by decide +kernel) (by decide +kernel), ⟨by decide +kernel, by decide +kernel, by decide +kernel⟩, tb_in 1006 (by decide +kernel) (by decide +kernel), by decide⟩, ⟨_, _, rfl⟩, tb_in 1004 (by decide +kernel) (by decide +kernel), tb_in 1005 (by decide +kernel) (by decide +kernel)⟩
def mi_J6_bitCount_0f7a4 : MI := (⟨RJ6, "bitCount", "(I)I"⟩, prog_19_method_49_code, 1, (some .int))
theorem ms_J6_bitCount_0f7a4 : mS mi_J6_bitCount_0f7a4 1 := ⟨⟨tb_in 25 (by decide +kernel) (by decide +kernel), ⟨by decide +kernel, by decide +kernel, by decide +kernel⟩, tb_in 1020 (by decide +kernel) (by decide +kernel), by decide⟩, tb_in 1019 (by decide +kernel) (by decide +kernel)⟩
def mi_X10_gain : MI := (⟨RX10, "gain", "(III)I"⟩, prog_1_method_46_code, 3, (some .int))
theorem ms_X10_gain : mS mi_X10_gain 3 := ⟨⟨tb_in 1 (by decide +kernel) (by decide +kernel), ⟨by decide +kernel, by decide +kernel, by decide +kernel⟩, tb_in 1017 (by decide +kernel) (by decide +kernel), by decide⟩, tb_in 1016 (by decide +kernel) (by decide +kernel)⟩
def mi_X10_restBits : MI := (⟨RX10, "restBits", "(III)I"⟩, prog_1_method_45_code, 12, (some .int))
theorem mv_X10_restBits : mV mi_X10_restBits 10 3 := ⟨⟨tb_in 1 (by decide +kernel) (by decide +kernel), ⟨by decide +kernel, by decide +kernel, by decide +kernel⟩, tb_in 1014 (by decide +kernel) (by decide +kernel), by decide⟩, ⟨_, _, rfl⟩, tb_in 1013 (by decide +kernel) (by decide +kernel), tb_sel 43 (by decide +kernel) (by decide +kernel)⟩
def mi_X10_rests : MI := (⟨RX10, "rests", "(III)I"⟩, prog_1_method_43_code, 4, (some .int))
theorem mv_X10_rests : mV mi_X10_rests 10 3 := ⟨⟨tb_in 1 (by decide +kernel) (by decide +kernel), ⟨by decide +kernel, by decide +kernel, by decide +kernel⟩, tb_in 1010 (by decide +kernel) (by decide +kernel), by decide⟩, ⟨_, _, rfl⟩, tb_in 1008 (by decide +kernel) (by decide +kernel), tb_in 1009 (by decide +kernel) (by decide +kernel)⟩
def mi_X10_rest : MI := (⟨RX10, "rest", "(IIII)I"⟩, prog_1_method_44_code, 8, (some .int))
theorem mv_X10_rest : mV mi_X10_rest 10 4 := ⟨⟨tb_in 1 (by decide +kernel) (by decide +kernel), ⟨by decide +kernel, by decide +kernel, by decide +kernel⟩, tb_in 1027 (by decide +kernel) (by decide +kernel), by decide⟩, ⟨_, _, rfl⟩, tb_in 1025 (by decide +kernel) (by decide +kernel), tb_in 1026 (by decide +kernel) (by decide +kernel)⟩
def mi_X10_commonPart : MI := (⟨RX10, "commonPart", "(II)I"⟩, prog_1_method_48_code, 3, (some .int))
theorem ms_X10_commonPart : mS mi_X10_commonPart 2 := ⟨⟨tb_in 1 (by decide +kernel) (by decide +kernel), ⟨by decide +kernel, by decide +kernel, by decide +kernel⟩, tb_in 1035 (by decide +kernel) (by decide +kernel), by decide⟩, tb_in 1034 (by decide +kernel) (by decide +kernel)⟩
def mi_X10_sure : MI := (⟨RX10, "sure", "(II)J"⟩, prog_1_method_47_code, 9, (some .long))
theorem mv_X10_sure : mV mi_X10_sure 10 2 := ⟨⟨tb_in 1 (by decide +kernel) (by decide +kernel), ⟨by decide +kernel, by decide +kernel, by decide +kernel⟩, tb_in 1031 (by decide +kernel) (by decide +kernel), by decide⟩, ⟨_, _, rfl⟩, tb_in 1029 (by decide +kernel) (by decide +kernel), tb_in 1030 (by decide +kernel) (by decide +kernel)⟩
def mi_X10_note : MI := (⟨RX10, "note", "(IIIZ)I"⟩, prog_1_method_49_code, 5, (some .int))
theorem mv_X10_note : mV mi_X10_note 10 4 := ⟨⟨tb_in 1 (by decide +kernel) (by decide +kernel), ⟨by decide +kernel, by decide +kernel, by decide +kernel⟩, tb_in 1039 (by decide +kernel) (by decide +kernel), by decide⟩, ⟨_, _, rfl⟩, tb_in 1037 (by decide +kernel) (by decide +kernel), tb_in 1038 (by decide +kernel) (by decide +kernel)⟩
def mi_X10_strike : MI := (⟨RX10, "strike", "(I)I"⟩, prog_1_method_50_code, 2, (some .int))
theorem mv_X10_strike : mV mi_X10_strike 10 1 := ⟨⟨tb_in 1 (by decide +kernel) (by decide +kernel), ⟨by decide +kernel, by decide +kernel, by decide +kernel⟩, tb_in 1047 (by decide +kernel) (by decide +kernel), by decide⟩, ⟨_, _, rfl⟩, tb_in 1045 (by decide +kernel) (by decide +kernel), tb_in 1046 (by decide +kernel) (by decide +kernel)⟩
def mi_X10_known : MI := (⟨RX10, "known", "(I)Z"⟩, prog_1_method_51_code, 2, (some .boolean))
theorem mv_X10_known : mV mi_X10_known 10 1 := ⟨⟨tb_in 1 (by decide +kernel) (by decide +kernel), ⟨by decide +kernel, by decide +kernel, by decide +kernel⟩, tb_in 1055 (by decide +kernel) (by decide +kernel), by decide⟩, ⟨_, _, rfl⟩, tb_in 1053 (by decide +kernel) (by decide +kernel), tb_in 1054 (by decide +kernel) (by decide +kernel)⟩
def mi_X10_startGuess : MI := (⟨RX10, "startGuess", "()V"⟩, prog_1_method_54_code, 1, none)
theorem mv_X10_startGuess : mV mi_X10_startGuess 10 0 := ⟨⟨tb_in 1 (by decide +kernel) (by decide +kernel), ⟨by decide +kernel, by decide +kernel, by decide +kernel⟩, tb_in 1063 (by decide +kernel) (by decide +kernel), by decide⟩, ⟨_, _, rfl⟩, tb_in 1062 (by decide +kernel) (by decide +kernel), tb_sel 44 (by decide +kernel) (by decide +kernel)⟩
def mi_X10_hads : MI := (⟨RX10, "hads", "(II)I"⟩, prog_1_method_52_code, 3, (some .int))
theorem mv_X10_hads : mV mi_X10_hads 10 2 := ⟨⟨tb_in 1 (by decide +kernel) (by decide +kernel), ⟨by decide +kernel, by decide +kernel, by decide +kernel⟩, tb_in 1059 (by decide +kernel) (by decide +kernel), by decide⟩, ⟨_, _, rfl⟩, tb_in 1057 (by decide +kernel) (by decide +kernel), tb_in 1058 (by decide +kernel) (by decide +kernel)⟩
def mi_X10_ask : MI := (⟨RX10, "ask", "(III)I"⟩, prog_1_method_53_code, 9, (some .int))
theorem mv_X10_ask : mV mi_X10_ask 10 3 := ⟨⟨tb_in 1 (by decide +kernel) (by decide +kernel), ⟨by decide +kernel, by decide +kernel, by decide +kernel⟩, tb_in 1083 (by decide +kernel) (by decide +kernel), by decide⟩, ⟨_, _, rfl⟩, tb_in 1081 (by decide +kernel) (by decide +kernel), tb_in 1082 (by decide +kernel) (by decide +kernel)⟩
def mi_X10_chance : MI := (⟨RX10, "chance", "(IIII)I"⟩, prog_1_method_55_code, 9, (some .int))
theorem mv_X10_chance : mV mi_X10_chance 10 4 := ⟨⟨tb_in 1 (by decide +kernel) (by decide +kernel), ⟨by decide +kernel, by decide +kernel, by decide +kernel⟩, tb_in 1093 (by decide +kernel) (by decide +kernel), by decide⟩, ⟨_, _, rfl⟩, tb_in 1091 (by decide +kernel) (by decide +kernel), tb_in 1092 (by decide +kernel) (by decide +kernel)⟩
def mi_X10_tried : MI := (⟨RX10, "tried", "(III)I"⟩, prog_1_method_56_code, 6, (some .int))
theorem mv_X10_tried : mV mi_X10_tried 10 3 := ⟨⟨tb_in 1 (by decide +kernel) (by decide +kernel), ⟨by decide +kernel, by decide +kernel, by decide +kernel⟩, tb_in 1097 (by decide +kernel) (by decide +kernel), by decide⟩, ⟨_, _, rfl⟩, tb_in 1095 (by decide +kernel) (by decide +kernel), tb_in 1096 (by decide +kernel) (by decide +kernel)⟩
def mi_X11_thrown : MI := (⟨RX11, "thrown", "()I"⟩, prog_13_method_2_code, 1, (some .int))
theorem mv_X11_thrown : mV mi_X11_thrown 11 0 := ⟨⟨tb_in 13 (by decide +kernel) (by decide +kernel), ⟨by decide +kernel, by decide +kernel, by decide +kernel⟩, tb_in 1403 (by decide +kernel) (by decide +kernel), by decide⟩, ⟨_, _, rfl⟩, tb_in 1401 (by decide +kernel) (by decide +kernel), tb_in 1402 (by decide +kernel) (by decide +kernel)⟩
def mi_X11_feed : MI := (⟨RX11, "feed", "(IIIII)I"⟩, prog_13_method_3_code, 8, (some .int))
theorem mv_X11_feed : mV mi_X11_feed 11 5 := ⟨⟨tb_in 13 (by decide +kernel) (by decide +kernel), ⟨by decide +kernel, by decide +kernel, by decide +kernel⟩, tb_in 1407 (by decide +kernel) (by decide +kernel), by decide⟩, ⟨_, _, rfl⟩, tb_in 1405 (by decide +kernel) (by decide +kernel), tb_in 1406 (by decide +kernel) (by decide +kernel)⟩
def mi_X11_here : MI := (⟨RX11, "here", "()I"⟩, prog_13_method_4_code, 1, (some .int))
theorem mv_X11_here : mV mi_X11_here 11 0 := ⟨⟨tb_in 13 (by decide +kernel) (by decide +kernel), ⟨by decide +kernel, by decide +kernel, by decide +kernel⟩, tb_in 1423 (by decide +kernel) (by decide +kernel), by decide⟩, ⟨_, _, rfl⟩, tb_in 1422 (by decide +kernel) (by decide +kernel), tb_sel 50 (by decide +kernel) (by decide +kernel)⟩
def mi_X11_isSmall : MI := (⟨RX11, "isSmall", "(I)Z"⟩, prog_13_method_5_code, 1, (some .boolean))
theorem ms_X11_isSmall : mS mi_X11_isSmall 1 := ⟨⟨tb_in 13 (by decide +kernel) (by decide +kernel), ⟨by decide +kernel, by decide +kernel, by decide +kernel⟩, tb_in 1426 (by decide +kernel) (by decide +kernel), by decide⟩, tb_in 1425 (by decide +kernel) (by decide +kernel)⟩
def mi_X11_isDigit : MI := (⟨RX11, "isDigit", "(I)Z"⟩, prog_13_method_6_code, 1, (some .boolean))
theorem ms_X11_isDigit : mS mi_X11_isDigit 1 := ⟨⟨tb_in 13 (by decide +kernel) (by decide +kernel), ⟨by decide +kernel, by decide +kernel, by decide +kernel⟩, tb_in 1440 (by decide +kernel) (by decide +kernel), by decide⟩, tb_in 1439 (by decide +kernel) (by decide +kernel)⟩
def mi_X11_name : MI := (⟨RX11, "name", "()V"⟩, prog_13_method_10_code, 2, none)
theorem mv_X11_name : mV mi_X11_name 11 0 := ⟨⟨tb_in 13 (by decide +kernel) (by decide +kernel), ⟨by decide +kernel, by decide +kernel, by decide +kernel⟩, tb_in 1437 (by decide +kernel) (by decide +kernel), by decide⟩, ⟨_, _, rfl⟩, tb_in 1436 (by decide +kernel) (by decide +kernel), tb_sel 52 (by decide +kernel) (by decide +kernel)⟩
def mi_X11_sign : MI := (⟨RX11, "sign", "(I)V"⟩, prog_13_method_8_code, 2, none)
theorem mv_X11_sign : mV mi_X11_sign 11 1 := ⟨⟨tb_in 13 (by decide +kernel) (by decide +kernel), ⟨by decide +kernel, by decide +kernel, by decide +kernel⟩, tb_in 1445 (by decide +kernel) (by decide +kernel), by decide⟩, ⟨_, _, rfl⟩, tb_in 1444 (by decide +kernel) (by decide +kernel), tb_sel 53 (by decide +kernel) (by decide +kernel)⟩
def mi_X11_word : MI := (⟨RX11, "word", "()I"⟩, prog_13_method_9_code, 4, (some .int))
theorem mv_X11_word : mV mi_X11_word 11 0 := ⟨⟨tb_in 13 (by decide +kernel) (by decide +kernel), ⟨by decide +kernel, by decide +kernel, by decide +kernel⟩, tb_in 1430 (by decide +kernel) (by decide +kernel), by decide⟩, ⟨_, _, rfl⟩, tb_in 1429 (by decide +kernel) (by decide +kernel), tb_sel 51 (by decide +kernel) (by decide +kernel)⟩
def mi_X11_token : MI := (⟨RX11, "token", "()V"⟩, prog_13_method_7_code, 2, none)
theorem mv_X11_token : mV mi_X11_token 11 0 := ⟨⟨tb_in 13 (by decide +kernel) (by decide +kernel), ⟨by decide +kernel, by decide +kernel, by decide +kernel⟩, tb_in 1419 (by decide +kernel) (by decide +kernel), by decide⟩, ⟨_, _, rfl⟩, tb_in 1418 (by decide +kernel) (by decide +kernel), tb_sel 49 (by decide +kernel) (by decide +kernel)⟩
def mi_X11_wrong : MI := (⟨RX11, "wrong", "(I)V"⟩, prog_13_method_11_code, 2, none)
theorem mv_X11_wrong : mV mi_X11_wrong 11 1 := ⟨⟨tb_in 13 (by decide +kernel) (by decide +kernel), ⟨by decide +kernel, by decide +kernel, by decide +kernel⟩, tb_in 1453 (by decide +kernel) (by decide +kernel), by decide⟩, ⟨_, _, rfl⟩, tb_in 1452 (by decide +kernel) (by decide +kernel), tb_sel 55 (by decide +kernel) (by decide +kernel)⟩
def mi_X11_isWord : MI := (⟨RX11, "isWord", "(I)Z"⟩, prog_13_method_12_code, 2, (some .boolean))
theorem mv_X11_isWord : mV mi_X11_isWord 11 1 := ⟨⟨tb_in 13 (by decide +kernel) (by decide +kernel), ⟨by decide +kernel, by decide +kernel, by decide +kernel⟩, tb_in 1516 (by decide +kernel) (by decide +kernel), by decide⟩, ⟨_, _, rfl⟩, tb_in 1515 (by decide +kernel) (by decide +kernel), tb_sel 70 (by decide +kernel) (by decide +kernel)⟩
def mi_X11_isSign : MI := (⟨RX11, "isSign", "(I)Z"⟩, prog_13_method_13_code, 2, (some .boolean))
theorem mv_X11_isSign : mV mi_X11_isSign 11 1 := ⟨⟨tb_in 13 (by decide +kernel) (by decide +kernel), ⟨by decide +kernel, by decide +kernel, by decide +kernel⟩, tb_in 1540 (by decide +kernel) (by decide +kernel), by decide⟩, ⟨_, _, rfl⟩, tb_in 1539 (by decide +kernel) (by decide +kernel), tb_sel 76 (by decide +kernel) (by decide +kernel)⟩
def mi_X11_goOn : MI := (⟨RX11, "goOn", "()V"⟩, prog_13_method_14_code, 1, none)
theorem mv_X11_goOn : mV mi_X11_goOn 11 0 := ⟨⟨tb_in 13 (by decide +kernel) (by decide +kernel), ⟨by decide +kernel, by decide +kernel, by decide +kernel⟩, tb_in 1488 (by decide +kernel) (by decide +kernel), by decide⟩, ⟨_, _, rfl⟩, tb_in 1487 (by decide +kernel) (by decide +kernel), tb_sel 63 (by decide +kernel) (by decide +kernel)⟩
def mi_X11_numeral : MI := (⟨RX11, "numeral", "(II)I"⟩, prog_13_method_15_code, 4, (some .int))
theorem mv_X11_numeral : mV mi_X11_numeral 11 2 := ⟨⟨tb_in 13 (by decide +kernel) (by decide +kernel), ⟨by decide +kernel, by decide +kernel, by decide +kernel⟩, tb_in 1465 (by decide +kernel) (by decide +kernel), by decide⟩, ⟨_, _, rfl⟩, tb_in 1464 (by decide +kernel) (by decide +kernel), tb_sel 58 (by decide +kernel) (by decide +kernel)⟩
def mi_X11_found : MI := (⟨RX11, "found", "([IIII)I"⟩, prog_13_method_16_code, 5, (some .int))
theorem ms_X11_found : mS mi_X11_found 4 := ⟨⟨tb_in 13 (by decide +kernel) (by decide +kernel), ⟨by decide +kernel, by decide +kernel, by decide +kernel⟩, tb_in 1476 (by decide +kernel) (by decide +kernel), by decide⟩, tb_in 1475 (by decide +kernel) (by decide +kernel)⟩
def mi_X11_fresh : MI := (⟨RX11, "fresh", "([III)I"⟩, prog_13_method_17_code, 5, (some .int))
theorem mv_X11_fresh : mV mi_X11_fresh 11 3 := ⟨⟨tb_in 13 (by decide +kernel) (by decide +kernel), ⟨by decide +kernel, by decide +kernel, by decide +kernel⟩, tb_in 1473 (by decide +kernel) (by decide +kernel), by decide⟩, ⟨_, _, rfl⟩, tb_in 1472 (by decide +kernel) (by decide +kernel), tb_sel 60 (by decide +kernel) (by decide +kernel)⟩
def mi_X11_fresher : MI := (⟨RX11, "freshe\x72", "(I)I"⟩, prog_13_method_18_code, 2, (some .int))
theorem mv_X11_fresher : mV mi_X11_fresher 11 1 := ⟨⟨tb_in 13 (by decide +kernel) (by decide +kernel), ⟨by decide +kernel, by decide +kernel, by decide +kernel⟩, tb_in 1461 (by decide +kernel) (by decide +kernel), by decide⟩, ⟨_, _, rfl⟩, tb_in 1460 (by decide +kernel) (by decide +kernel), tb_sel 57 (by decide +kernel) (by decide +kernel)⟩
def mi_X11_reads : MI := (⟨RX11, "reads", "(II)V"⟩, prog_13_method_19_code, 3, none)
theorem mv_X11_reads : mV mi_X11_reads 11 2 := ⟨⟨tb_in 13 (by decide +kernel) (by decide +kernel), ⟨by decide +kernel, by decide +kernel, by decide +kernel⟩, tb_in 1415 (by decide +kernel) (by decide +kernel), by decide⟩, ⟨_, _, rfl⟩, tb_in 1414 (by decide +kernel) (by decide +kernel), tb_sel 48 (by decide +kernel) (by decide +kernel)⟩
def mi_X11_personAhead : MI := (⟨RX11, "personAhead", "()I"⟩, prog_13_method_20_code, 2, (some .int))
theorem mv_X11_personAhead : mV mi_X11_personAhead 11 0 := ⟨⟨tb_in 13 (by decide +kernel) (by decide +kernel), ⟨by decide +kernel, by decide +kernel, by decide +kernel⟩, tb_in 1484 (by decide +kernel) (by decide +kernel), by decide⟩, ⟨_, _, rfl⟩, tb_in 1483 (by decide +kernel) (by decide +kernel), tb_sel 62 (by decide +kernel) (by decide +kernel)⟩
def mi_X11_isFull : MI := (⟨RX11, "isFull", "(I)Z"⟩, prog_13_method_21_code, 2, (some .boolean))
theorem mv_X11_isFull : mV mi_X11_isFull 11 1 := ⟨⟨tb_in 13 (by decide +kernel) (by decide +kernel), ⟨by decide +kernel, by decide +kernel, by decide +kernel⟩, tb_in 1457 (by decide +kernel) (by decide +kernel), by decide⟩, ⟨_, _, rfl⟩, tb_in 1456 (by decide +kernel) (by decide +kernel), tb_sel 56 (by decide +kernel) (by decide +kernel)⟩
def mi_X11_goingLine : MI := (⟨RX11, "goingLine", "(I)V"⟩, prog_13_method_26_code, 3, none)
theorem mv_X11_goingLine : mV mi_X11_goingLine 11 1 := ⟨⟨tb_in 13 (by decide +kernel) (by decide +kernel), ⟨by decide +kernel, by decide +kernel, by decide +kernel⟩, tb_in 1496 (by decide +kernel) (by decide +kernel), by decide⟩, ⟨_, _, rfl⟩, tb_in 1495 (by decide +kernel) (by decide +kernel), tb_sel 65 (by decide +kernel) (by decide +kernel)⟩
def mi_X11_ladderLine : MI := (⟨RX11, "ladderLine", "()V"⟩, prog_13_method_25_code, 2, none)
theorem mv_X11_ladderLine : mV mi_X11_ladderLine 11 0 := ⟨⟨tb_in 13 (by decide +kernel) (by decide +kernel), ⟨by decide +kernel, by decide +kernel, by decide +kernel⟩, tb_in 1492 (by decide +kernel) (by decide +kernel), by decide⟩, ⟨_, _, rfl⟩, tb_in 1491 (by decide +kernel) (by decide +kernel), tb_sel 64 (by decide +kernel) (by decide +kernel)⟩
def mi_X11_knot : MI := (⟨RX11, "knot", "()V"⟩, prog_13_method_29_code, 1, none)
theorem mv_X11_knot : mV mi_X11_knot 11 0 := ⟨⟨tb_in 13 (by decide +kernel) (by decide +kernel), ⟨by decide +kernel, by decide +kernel, by decide +kernel⟩, tb_in 1520 (by decide +kernel) (by decide +kernel), by decide⟩, ⟨_, _, rfl⟩, tb_in 1519 (by decide +kernel) (by decide +kernel), tb_sel 71 (by decide +kernel) (by decide +kernel)⟩
def mi_X11_puts : MI := (⟨RX11, "puts", "(II)V"⟩, prog_13_method_28_code, 3, none)
theorem mv_X11_puts : mV mi_X11_puts 11 2 := ⟨⟨tb_in 13 (by decide +kernel) (by decide +kernel), ⟨by decide +kernel, by decide +kernel, by decide +kernel⟩, tb_in 1524 (by decide +kernel) (by decide +kernel), by decide⟩, ⟨_, _, rfl⟩, tb_in 1523 (by decide +kernel) (by decide +kernel), tb_sel 72 (by decide +kernel) (by decide +kernel)⟩
def mi_X11_expression : MI := (⟨RX11, "expression", "()V"⟩, prog_13_method_30_code, 1, none)
theorem mv_X11_expression : mV mi_X11_expression 11 0 := ⟨⟨tb_in 13 (by decide +kernel) (by decide +kernel), ⟨by decide +kernel, by decide +kernel, by decide +kernel⟩, tb_in 1504 (by decide +kernel) (by decide +kernel), by decide⟩, ⟨_, _, rfl⟩, tb_in 1503 (by decide +kernel) (by decide +kernel), tb_sel 67 (by decide +kernel) (by decide +kernel)⟩
def mi_X11_conjunction : MI := (⟨RX11, "conjunction", "()V"⟩, prog_13_method_31_code, 1, none)
theorem mv_X11_conjunction : mV mi_X11_conjunction 11 0 := ⟨⟨tb_in 13 (by decide +kernel) (by decide +kernel), ⟨by decide +kernel, by decide +kernel, by decide +kernel⟩, tb_in 1508 (by decide +kernel) (by decide +kernel), by decide⟩, ⟨_, _, rfl⟩, tb_in 1507 (by decide +kernel) (by decide +kernel), tb_sel 68 (by decide +kernel) (by decide +kernel)⟩
def mi_X11_negation : MI := (⟨RX11, "negation", "()V"⟩, prog_13_method_32_code, 2, none)
theorem mv_X11_negation : mV mi_X11_negation 11 0 := ⟨⟨tb_in 13 (by decide +kernel) (by decide +kernel), ⟨by decide +kernel, by decide +kernel, by decide +kernel⟩, tb_in 1512 (by decide +kernel) (by decide +kernel), by decide⟩, ⟨_, _, rfl⟩, tb_in 1511 (by decide +kernel) (by decide +kernel), tb_sel 69 (by decide +kernel) (by decide +kernel)⟩
def mi_X11_sum : MI := (⟨RX11, "sum", "()V"⟩, prog_13_method_33_code, 2, none)
theorem mv_X11_sum : mV mi_X11_sum 11 0 := ⟨⟨tb_in 13 (by decide +kernel) (by decide +kernel), ⟨by decide +kernel, by decide +kernel, by decide +kernel⟩, tb_in 1528 (by decide +kernel) (by decide +kernel), by decide⟩, ⟨_, _, rfl⟩, tb_in 1527 (by decide +kernel) (by decide +kernel), tb_sel 73 (by decide +kernel) (by decide +kernel)⟩
def mi_X11_product : MI := (⟨RX11, "product", "()V"⟩, prog_13_method_34_code, 2, none)
theorem mv_X11_product : mV mi_X11_product 11 0 := ⟨⟨tb_in 13 (by decide +kernel) (by decide +kernel), ⟨by decide +kernel, by decide +kernel, by decide +kernel⟩, tb_in 1532 (by decide +kernel) (by decide +kernel), by decide⟩, ⟨_, _, rfl⟩, tb_in 1531 (by decide +kernel) (by decide +kernel), tb_sel 74 (by decide +kernel) (by decide +kernel)⟩
def mi_X11_primary : MI := (⟨RX11, "primary", "()V"⟩, prog_13_method_35_code, 2, none)
theorem mv_X11_primary : mV mi_X11_primary 11 0 := ⟨⟨tb_in 13 (by decide +kernel) (by decide +kernel), ⟨by decide +kernel, by decide +kernel, by decide +kernel⟩, tb_in 1536 (by decide +kernel) (by decide +kernel), by decide⟩, ⟨_, _, rfl⟩, tb_in 1535 (by decide +kernel) (by decide +kernel), tb_sel 75 (by decide +kernel) (by decide +kernel)⟩
def mi_X11_lawLine : MI := (⟨RX11, "lawLine", "()V"⟩, prog_13_method_27_code, 2, none)
theorem mv_X11_lawLine : mV mi_X11_lawLine 11 0 := ⟨⟨tb_in 13 (by decide +kernel) (by decide +kernel), ⟨by decide +kernel, by decide +kernel, by decide +kernel⟩, tb_in 1500 (by decide +kernel) (by decide +kernel), by decide⟩, ⟨_, _, rfl⟩, tb_in 1499 (by decide +kernel) (by decide +kernel), tb_sel 66 (by decide +kernel) (by decide +kernel)⟩
def mi_X11_personLine : MI := (⟨RX11, "personLine", "()V"⟩, prog_13_method_23_code, 3, none)
theorem mv_X11_personLine : mV mi_X11_personLine 11 0 := ⟨⟨tb_in 13 (by decide +kernel) (by decide +kernel), ⟨by decide +kernel, by decide +kernel, by decide +kernel⟩, tb_in 1469 (by decide +kernel) (by decide +kernel), by decide⟩, ⟨_, _, rfl⟩, tb_in 1468 (by decide +kernel) (by decide +kernel), tb_sel 59 (by decide +kernel) (by decide +kernel)⟩
def mi_X11_tallyLine : MI := (⟨RX11, "tallyLine", "(I)V"⟩, prog_13_method_24_code, 5, none)
theorem mv_X11_tallyLine : mV mi_X11_tallyLine 11 1 := ⟨⟨tb_in 13 (by decide +kernel) (by decide +kernel), ⟨by decide +kernel, by decide +kernel, by decide +kernel⟩, tb_in 1480 (by decide +kernel) (by decide +kernel), by decide⟩, ⟨_, _, rfl⟩, tb_in 1479 (by decide +kernel) (by decide +kernel), tb_sel 61 (by decide +kernel) (by decide +kernel)⟩
def mi_X11_line : MI := (⟨RX11, "line", "()V"⟩, prog_13_method_22_code, 3, none)
theorem mv_X11_line : mV mi_X11_line 11 0 := ⟨⟨tb_in 13 (by decide +kernel) (by decide +kernel), ⟨by decide +kernel, by decide +kernel, by decide +kernel⟩, tb_in 1449 (by decide +kernel) (by decide +kernel), by decide⟩, ⟨_, _, rfl⟩, tb_in 1448 (by decide +kernel) (by decide +kernel), tb_sel 54 (by decide +kernel) (by decide +kernel)⟩
def mi_X11_half : MI := (⟨RX11, "half", "([I)V"⟩, prog_13_method_36_code, 3, none)
theorem ms_X11_half : mS mi_X11_half 1 := ⟨⟨tb_in 13 (by decide +kernel) (by decide +kernel), ⟨by decide +kernel, by decide +kernel, by decide +kernel⟩, tb_in 1543 (by decide +kernel) (by decide +kernel), by decide⟩, tb_in 1542 (by decide +kernel) (by decide +kernel)⟩
def mi_X11_starts : MI := (⟨RX11, "starts", "(I)V"⟩, prog_13_method_44_code, 4, none)
theorem mv_X11_starts : mV mi_X11_starts 11 1 := ⟨⟨tb_in 13 (by decide +kernel) (by decide +kernel), ⟨by decide +kernel, by decide +kernel, by decide +kernel⟩, tb_in 1203 (by decide +kernel) (by decide +kernel), by decide⟩, ⟨_, _, rfl⟩, tb_in 1202 (by decide +kernel) (by decide +kernel), tb_sel 47 (by decide +kernel) (by decide +kernel)⟩
def mi_X11_begins : MI := (⟨RX11, "begins", "()V"⟩, prog_13_method_45_code, 1, none)
theorem mv_X11_begins : mV mi_X11_begins 11 0 := ⟨⟨tb_in 13 (by decide +kernel) (by decide +kernel), ⟨by decide +kernel, by decide +kernel, by decide +kernel⟩, tb_in 1199 (by decide +kernel) (by decide +kernel), by decide⟩, ⟨_, _, rfl⟩, tb_in 1198 (by decide +kernel) (by decide +kernel), tb_sel 46 (by decide +kernel) (by decide +kernel)⟩
def mi_X11_text : MI := (⟨RX11, "text", "(I)I"⟩, prog_13_method_37_code, 3, (some .int))
theorem mv_X11_text : mV mi_X11_text 11 1 := ⟨⟨tb_in 13 (by decide +kernel) (by decide +kernel), ⟨by decide +kernel, by decide +kernel, by decide +kernel⟩, tb_in 1411 (by decide +kernel) (by decide +kernel), by decide⟩, ⟨_, _, rfl⟩, tb_in 1409 (by decide +kernel) (by decide +kernel), tb_in 1410 (by decide +kernel) (by decide +kernel)⟩
def mi_X11_fault : MI := (⟨RX11, "fault", "(I)I"⟩, prog_13_method_38_code, 2, (some .int))
theorem mv_X11_fault : mV mi_X11_fault 11 1 := ⟨⟨tb_in 13 (by decide +kernel) (by decide +kernel), ⟨by decide +kernel, by decide +kernel, by decide +kernel⟩, tb_in 1547 (by decide +kernel) (by decide +kernel), by decide⟩, ⟨_, _, rfl⟩, tb_in 1545 (by decide +kernel) (by decide +kernel), tb_in 1546 (by decide +kernel) (by decide +kernel)⟩
def mi_X11_named : MI := (⟨RX11, "named", "(I)I"⟩, prog_13_method_39_code, 2, (some .int))
theorem mv_X11_named : mV mi_X11_named 11 1 := ⟨⟨tb_in 13 (by decide +kernel) (by decide +kernel), ⟨by decide +kernel, by decide +kernel, by decide +kernel⟩, tb_in 1551 (by decide +kernel) (by decide +kernel), by decide⟩, ⟨_, _, rfl⟩, tb_in 1549 (by decide +kernel) (by decide +kernel), tb_in 1550 (by decide +kernel) (by decide +kernel)⟩
def mi_X11_is : MI := (⟨RX11, "is", "(Z)J"⟩, prog_13_method_40_code, 1, (some .long))
theorem ms_X11_is : mS mi_X11_is 1 := ⟨⟨tb_in 13 (by decide +kernel) (by decide +kernel), ⟨by decide +kernel, by decide +kernel, by decide +kernel⟩, tb_in 1619 (by decide +kernel) (by decide +kernel), by decide⟩, tb_in 1618 (by decide +kernel) (by decide +kernel)⟩
def mi_X11_works : MI := (⟨RX11, "works", "(I)Z"⟩, prog_13_method_41_code, 8, (some .boolean))
theorem mv_X11_works : mV mi_X11_works 11 1 := ⟨⟨tb_in 13 (by decide +kernel) (by decide +kernel), ⟨by decide +kernel, by decide +kernel, by decide +kernel⟩, tb_in 1616 (by decide +kernel) (by decide +kernel), by decide⟩, ⟨_, _, rfl⟩, tb_in 1615 (by decide +kernel) (by decide +kernel), tb_sel 89 (by decide +kernel) (by decide +kernel)⟩
def mi_X11_goes : MI := (⟨RX11, "goes", "(I)Z"⟩, prog_13_method_42_code, 3, (some .boolean))
theorem mv_X11_goes : mV mi_X11_goes 11 1 := ⟨⟨tb_in 13 (by decide +kernel) (by decide +kernel), ⟨by decide +kernel, by decide +kernel, by decide +kernel⟩, tb_in 1612 (by decide +kernel) (by decide +kernel), by decide⟩, ⟨_, _, rfl⟩, tb_in 1611 (by decide +kernel) (by decide +kernel), tb_sel 88 (by decide +kernel) (by decide +kernel)⟩
def mi_X11_hasLaw : MI := (⟨RX11, "hasLaw", "(I)Z"⟩, prog_13_method_43_code, 2, (some .boolean))
theorem mv_X11_hasLaw : mV mi_X11_hasLaw 11 1 := ⟨⟨tb_in 13 (by decide +kernel) (by decide +kernel), ⟨by decide +kernel, by decide +kernel, by decide +kernel⟩, tb_in 1608 (by decide +kernel) (by decide +kernel), by decide⟩, ⟨_, _, rfl⟩, tb_in 1607 (by decide +kernel) (by decide +kernel), tb_sel 87 (by decide +kernel) (by decide +kernel)⟩
def mi_X11_copies : MI := (⟨RX11, "copies", "(II)V"⟩, prog_13_method_46_code, 4, none)
theorem mv_X11_copies : mV mi_X11_copies 11 2 := ⟨⟨tb_in 13 (by decide +kernel) (by decide +kernel), ⟨by decide +kernel, by decide +kernel, by decide +kernel⟩, tb_in 1685 (by decide +kernel) (by decide +kernel), by decide⟩, ⟨_, _, rfl⟩, tb_in 1684 (by decide +kernel) (by decide +kernel), tb_sel 95 (by decide +kernel) (by decide +kernel)⟩
def mi_X11_isPerson : MI := (⟨RX11, "isPerson", "(I)Z"⟩, prog_13_method_47_code, 2, (some .boolean))
theorem mv_X11_isPerson : mV mi_X11_isPerson 11 1 := ⟨⟨tb_in 13 (by decide +kernel) (by decide +kernel), ⟨by decide +kernel, by decide +kernel, by decide +kernel⟩, tb_in 1559 (by decide +kernel) (by decide +kernel), by decide⟩, ⟨_, _, rfl⟩, tb_in 1558 (by decide +kernel) (by decide +kernel), tb_sel 77 (by decide +kernel) (by decide +kernel)⟩
def mi_X11_isFlight : MI := (⟨RX11, "isFlight", "(I)Z"⟩, prog_13_method_48_code, 2, (some .boolean))
theorem mv_X11_isFlight : mV mi_X11_isFlight 11 1 := ⟨⟨tb_in 13 (by decide +kernel) (by decide +kernel), ⟨by decide +kernel, by decide +kernel, by decide +kernel⟩, tb_in 1571 (by decide +kernel) (by decide +kernel), by decide⟩, ⟨_, _, rfl⟩, tb_in 1570 (by decide +kernel) (by decide +kernel), tb_sel 79 (by decide +kernel) (by decide +kernel)⟩
def mi_X11_isFloor : MI := (⟨RX11, "isFloo\x72", "(I)Z"⟩, prog_13_method_49_code, 2, (some .boolean))
theorem mv_X11_isFloor : mV mi_X11_isFloor 11 1 := ⟨⟨tb_in 13 (by decide +kernel) (by decide +kernel), ⟨by decide +kernel, by decide +kernel, by decide +kernel⟩, tb_in 1645 (by decide +kernel) (by decide +kernel), by decide⟩, ⟨_, _, rfl⟩, tb_in 1644 (by decide +kernel) (by decide +kernel), tb_sel 90 (by decide +kernel) (by decide +kernel)⟩
def mi_X11_areOf : MI := (⟨RX11, "areOf", "(II)Z"⟩, prog_13_method_50_code, 3, (some .boolean))
theorem mv_X11_areOf : mV mi_X11_areOf 11 2 := ⟨⟨tb_in 13 (by decide +kernel) (by decide +kernel), ⟨by decide +kernel, by decide +kernel, by decide +kernel⟩, tb_in 1567 (by decide +kernel) (by decide +kernel), by decide⟩, ⟨_, _, rfl⟩, tb_in 1566 (by decide +kernel) (by decide +kernel), tb_sel 78 (by decide +kernel) (by decide +kernel)⟩
def mi_X11_forceOf : MI := (⟨RX11, "forceOf", "(I)I"⟩, prog_13_method_52_code, 2, (some .int))
theorem mv_X11_forceOf : mV mi_X11_forceOf 11 1 := ⟨⟨tb_in 13 (by decide +kernel) (by decide +kernel), ⟨by decide +kernel, by decide +kernel, by decide +kernel⟩, tb_in 1596 (by decide +kernel) (by decide +kernel), by decide⟩, ⟨_, _, rfl⟩, tb_in 1595 (by decide +kernel) (by decide +kernel), tb_sel 84 (by decide +kernel) (by decide +kernel)⟩
def mi_X11_manyOn : MI := (⟨RX11, "manyOn", "(II)I"⟩, prog_13_method_53_code, 5, (some .int))
theorem mv_X11_manyOn : mV mi_X11_manyOn 11 2 := ⟨⟨tb_in 13 (by decide +kernel) (by decide +kernel), ⟨by decide +kernel, by decide +kernel, by decide +kernel⟩, tb_in 1600 (by decide +kernel) (by decide +kernel), by decide⟩, ⟨_, _, rfl⟩, tb_in 1599 (by decide +kernel) (by decide +kernel), tb_sel 85 (by decide +kernel) (by decide +kernel)⟩
def mi_X11_tallyAt : MI := (⟨RX11, "tallyAt", "(III)I"⟩, prog_13_method_54_code, 4, (some .int))
theorem mv_X11_tallyAt : mV mi_X11_tallyAt 11 3 := ⟨⟨tb_in 13 (by decide +kernel) (by decide +kernel), ⟨by decide +kernel, by decide +kernel, by decide +kernel⟩, tb_in 1575 (by decide +kernel) (by decide +kernel), by decide⟩, ⟨_, _, rfl⟩, tb_in 1574 (by decide +kernel) (by decide +kernel), tb_sel 80 (by decide +kernel) (by decide +kernel)⟩
def mi_X11_calls : MI := (⟨RX11, "calls", "(III)V"⟩, prog_13_method_55_code, 4, none)
theorem mv_X11_calls : mV mi_X11_calls 11 3 := ⟨⟨tb_in 13 (by decide +kernel) (by decide +kernel), ⟨by decide +kernel, by decide +kernel, by decide +kernel⟩, tb_in 1592 (by decide +kernel) (by decide +kernel), by decide⟩, ⟨_, _, rfl⟩, tb_in 1591 (by decide +kernel) (by decide +kernel), tb_sel 83 (by decide +kernel) (by decide +kernel)⟩
def mi_X11_within : MI := (⟨RX11, "within", "(IIII)I"⟩, prog_13_method_56_code, 5, (some .int))
theorem mv_X11_within : mV mi_X11_within 11 4 := ⟨⟨tb_in 13 (by decide +kernel) (by decide +kernel), ⟨by decide +kernel, by decide +kernel, by decide +kernel⟩, tb_in 1604 (by decide +kernel) (by decide +kernel), by decide⟩, ⟨_, _, rfl⟩, tb_in 1603 (by decide +kernel) (by decide +kernel), tb_sel 86 (by decide +kernel) (by decide +kernel)⟩
def mi_X11_steepWith : MI := (⟨RX11, "steepWith", "(IIII)I"⟩, prog_13_method_57_code, 5, (some .int))
theorem mv_X11_steepWith : mV mi_X11_steepWith 11 4 := ⟨⟨tb_in 13 (by decide +kernel) (by decide +kernel), ⟨by decide +kernel, by decide +kernel, by decide +kernel⟩, tb_in 1588 (by decide +kernel) (by decide +kernel), by decide⟩, ⟨_, _, rfl⟩, tb_in 1587 (by decide +kernel) (by decide +kernel), tb_sel 82 (by decide +kernel) (by decide +kernel)⟩
def mi_X11_steepOf : MI := (⟨RX11, "steepOf", "(III)I"⟩, prog_13_method_58_code, 4, (some .int))
theorem mv_X11_steepOf : mV mi_X11_steepOf 11 3 := ⟨⟨tb_in 13 (by decide +kernel) (by decide +kernel), ⟨by decide +kernel, by decide +kernel, by decide +kernel⟩, tb_in 1584 (by decide +kernel) (by decide +kernel), by decide⟩, ⟨_, _, rfl⟩, tb_in 1583 (by decide +kernel) (by decide +kernel), tb_sel 81 (by decide +kernel) (by decide +kernel)⟩
def mi_X11_canClimb : MI := (⟨RX11, "canClimb", "(III)Z"⟩, prog_13_method_59_code, 4, (some .boolean))
theorem mv_X11_canClimb : mV mi_X11_canClimb 11 3 := ⟨⟨tb_in 13 (by decide +kernel) (by decide +kernel), ⟨by decide +kernel, by decide +kernel, by decide +kernel⟩, tb_in 1698 (by decide +kernel) (by decide +kernel), by decide⟩, ⟨_, _, rfl⟩, tb_in 1697 (by decide +kernel) (by decide +kernel), tb_sel 98 (by decide +kernel) (by decide +kernel)⟩
def mi_X11_doesFall : MI := (⟨RX11, "doesFall", "(IZ)Z"⟩, prog_13_method_60_code, 4, (some .boolean))
theorem mv_X11_doesFall : mV mi_X11_doesFall 11 2 := ⟨⟨tb_in 13 (by decide +kernel) (by decide +kernel), ⟨by decide +kernel, by decide +kernel, by decide +kernel⟩, tb_in 1702 (by decide +kernel) (by decide +kernel), by decide⟩, ⟨_, _, rfl⟩, tb_in 1701 (by decide +kernel) (by decide +kernel), tb_sel 99 (by decide +kernel) (by decide +kernel)⟩
def mi_X11_goesUp : MI := (⟨RX11, "goesUp", "(IIZ)Z"⟩, prog_13_method_61_code, 8, (some .boolean))
theorem mv_X11_goesUp : mV mi_X11_goesUp 11 3 := ⟨⟨tb_in 13 (by decide +kernel) (by decide +kernel), ⟨by decide +kernel, by decide +kernel, by decide +kernel⟩, tb_in 1694 (by decide +kernel) (by decide +kernel), by decide⟩, ⟨_, _, rfl⟩, tb_in 1693 (by decide +kernel) (by decide +kernel), tb_sel 97 (by decide +kernel) (by decide +kernel)⟩
def mi_X11_goesTo : MI := (⟨RX11, "goesTo", "(IIIZ)V"⟩, prog_13_method_62_code, 7, none)
theorem mv_X11_goesTo : mV mi_X11_goesTo 11 4 := ⟨⟨tb_in 13 (by decide +kernel) (by decide +kernel), ⟨by decide +kernel, by decide +kernel, by decide +kernel⟩, tb_in 1689 (by decide +kernel) (by decide +kernel), by decide⟩, ⟨_, _, rfl⟩, tb_in 1688 (by decide +kernel) (by decide +kernel), tb_sel 96 (by decide +kernel) (by decide +kernel)⟩
def mi_X11_ropes : MI := (⟨RX11, "ropes", "(III)V"⟩, prog_13_method_63_code, 6, none)
theorem mv_X11_ropes : mV mi_X11_ropes 11 3 := ⟨⟨tb_in 13 (by decide +kernel) (by decide +kernel), ⟨by decide +kernel, by decide +kernel, by decide +kernel⟩, tb_in 1729 (by decide +kernel) (by decide +kernel), by decide⟩, ⟨_, _, rfl⟩, tb_in 1728 (by decide +kernel) (by decide +kernel), tb_sel 102 (by decide +kernel) (by decide +kernel)⟩
def mi_X11_does : MI := (⟨RX11, "does", "(IIZ)V"⟩, prog_13_method_64_code, 5, none)
theorem mv_X11_does : mV mi_X11_does 11 3 := ⟨⟨tb_in 13 (by decide +kernel) (by decide +kernel), ⟨by decide +kernel, by decide +kernel, by decide +kernel⟩, tb_in 1725 (by decide +kernel) (by decide +kernel), by decide⟩, ⟨_, _, rfl⟩, tb_in 1724 (by decide +kernel) (by decide +kernel), tb_sel 101 (by decide +kernel) (by decide +kernel)⟩
def mi_X11_isAhead : MI := (⟨RX11, "isAhead", "(II)Z"⟩, prog_13_method_65_code, 5, (some .boolean))
theorem mv_X11_isAhead : mV mi_X11_isAhead 11 2 := ⟨⟨tb_in 13 (by decide +kernel) (by decide +kernel), ⟨by decide +kernel, by decide +kernel, by decide +kernel⟩, tb_in 1664 (by decide +kernel) (by decide +kernel), by decide⟩, ⟨_, _, rfl⟩, tb_in 1663 (by decide +kernel) (by decide +kernel), tb_sel 93 (by decide +kernel) (by decide +kernel)⟩
def mi_X11_laysOrder : MI := (⟨RX11, "laysOrde\x72", "(II)V"⟩, prog_13_method_66_code, 5, none)
theorem mv_X11_laysOrder : mV mi_X11_laysOrder 11 2 := ⟨⟨tb_in 13 (by decide +kernel) (by decide +kernel), ⟨by decide +kernel, by decide +kernel, by decide +kernel⟩, tb_in 1660 (by decide +kernel) (by decide +kernel), by decide⟩, ⟨_, _, rfl⟩, tb_in 1659 (by decide +kernel) (by decide +kernel), tb_sel 92 (by decide +kernel) (by decide +kernel)⟩
def mi_X11_passes : MI := (⟨RX11, "passes", "(IZ)V"⟩, prog_13_method_67_code, 4, none)
theorem mv_X11_passes : mV mi_X11_passes 11 2 := ⟨⟨tb_in 13 (by decide +kernel) (by decide +kernel), ⟨by decide +kernel, by decide +kernel, by decide +kernel⟩, tb_in 1721 (by decide +kernel) (by decide +kernel), by decide⟩, ⟨_, _, rfl⟩, tb_in 1720 (by decide +kernel) (by decide +kernel), tb_sel 100 (by decide +kernel) (by decide +kernel)⟩
def mi_X11_goesOn : MI := (⟨RX11, "goesOn", "(I)V"⟩, prog_13_method_68_code, 3, none)
theorem mv_X11_goesOn : mV mi_X11_goesOn 11 1 := ⟨⟨tb_in 13 (by decide +kernel) (by decide +kernel), ⟨by decide +kernel, by decide +kernel, by decide +kernel⟩, tb_in 1737 (by decide +kernel) (by decide +kernel), by decide⟩, ⟨_, _, rfl⟩, tb_in 1736 (by decide +kernel) (by decide +kernel), tb_sel 103 (by decide +kernel) (by decide +kernel)⟩
def mi_X11_sumOf : MI := (⟨RX11, "sumOf", "([II)I"⟩, prog_13_method_69_code, 5, (some .int))
theorem mv_X11_sumOf : mV mi_X11_sumOf 11 2 := ⟨⟨tb_in 13 (by decide +kernel) (by decide +kernel), ⟨by decide +kernel, by decide +kernel, by decide +kernel⟩, tb_in 1741 (by decide +kernel) (by decide +kernel), by decide⟩, ⟨_, _, rfl⟩, tb_in 1740 (by decide +kernel) (by decide +kernel), tb_sel 104 (by decide +kernel) (by decide +kernel)⟩
def mi_X11_entries : MI := (⟨RX11, "entries", "(I)I"⟩, prog_13_method_70_code, 4, (some .int))
theorem mv_X11_entries : mV mi_X11_entries 11 1 := ⟨⟨tb_in 13 (by decide +kernel) (by decide +kernel), ⟨by decide +kernel, by decide +kernel, by decide +kernel⟩, tb_in 1745 (by decide +kernel) (by decide +kernel), by decide⟩, ⟨_, _, rfl⟩, tb_in 1744 (by decide +kernel) (by decide +kernel), tb_sel 105 (by decide +kernel) (by decide +kernel)⟩
def mi_X11_person : MI := (⟨RX11, "person", "(II)I"⟩, prog_13_method_71_code, 3, (some .int))
theorem mv_X11_person : mV mi_X11_person 11 2 := ⟨⟨tb_in 13 (by decide +kernel) (by decide +kernel), ⟨by decide +kernel, by decide +kernel, by decide +kernel⟩, tb_in 1555 (by decide +kernel) (by decide +kernel), by decide⟩, ⟨_, _, rfl⟩, tb_in 1553 (by decide +kernel) (by decide +kernel), tb_in 1554 (by decide +kernel) (by decide +kernel)⟩
def mi_X11_tally : MI := (⟨RX11, "tally", "(II)I"⟩, prog_13_method_72_code, 3, (some .int))
theorem mv_X11_tally : mV mi_X11_tally 11 2 := ⟨⟨tb_in 13 (by decide +kernel) (by decide +kernel), ⟨by decide +kernel, by decide +kernel, by decide +kernel⟩, tb_in 1563 (by decide +kernel) (by decide +kernel), by decide⟩, ⟨_, _, rfl⟩, tb_in 1561 (by decide +kernel) (by decide +kernel), tb_in 1562 (by decide +kernel) (by decide +kernel)⟩
def mi_X11_steep : MI := (⟨RX11, "steep", "(II)I"⟩, prog_13_method_73_code, 3, (some .int))
theorem mv_X11_steep : mV mi_X11_steep 11 2 := ⟨⟨tb_in 13 (by decide +kernel) (by decide +kernel), ⟨by decide +kernel, by decide +kernel, by decide +kernel⟩, tb_in 1580 (by decide +kernel) (by decide +kernel), by decide⟩, ⟨_, _, rfl⟩, tb_in 1578 (by decide +kernel) (by decide +kernel), tb_in 1579 (by decide +kernel) (by decide +kernel)⟩
def mi_X11_outward : MI := (⟨RX11, "outward", "(I)I"⟩, prog_13_method_74_code, 1, (some .int))
theorem ms_X11_outward : mS mi_X11_outward 1 := ⟨⟨tb_in 13 (by decide +kernel) (by decide +kernel), ⟨by decide +kernel, by decide +kernel, by decide +kernel⟩, tb_in 1633 (by decide +kernel) (by decide +kernel), by decide⟩, tb_in 1632 (by decide +kernel) (by decide +kernel)⟩
def mi_X11_entry : MI := (⟨RX11, "entry", "(I)I"⟩, prog_13_method_75_code, 4, (some .int))
theorem mv_X11_entry : mV mi_X11_entry 11 1 := ⟨⟨tb_in 13 (by decide +kernel) (by decide +kernel), ⟨by decide +kernel, by decide +kernel, by decide +kernel⟩, tb_in 1630 (by decide +kernel) (by decide +kernel), by decide⟩, ⟨_, _, rfl⟩, tb_in 1628 (by decide +kernel) (by decide +kernel), tb_in 1629 (by decide +kernel) (by decide +kernel)⟩
def mi_X11_beside : MI := (⟨RX11, "beside", "(III)I"⟩, prog_13_method_76_code, 6, (some .int))
theorem mv_X11_beside : mV mi_X11_beside 11 3 := ⟨⟨tb_in 13 (by decide +kernel) (by decide +kernel), ⟨by decide +kernel, by decide +kernel, by decide +kernel⟩, tb_in 1637 (by decide +kernel) (by decide +kernel), by decide⟩, ⟨_, _, rfl⟩, tb_in 1635 (by decide +kernel) (by decide +kernel), tb_in 1636 (by decide +kernel) (by decide +kernel)⟩
def mi_X11_isStronger : MI := (⟨RX11, "isStronge\x72", "(II)Z"⟩, prog_13_method_77_code, 3, (some .boolean))
theorem mv_X11_isStronger : mV mi_X11_isStronger 11 2 := ⟨⟨tb_in 13 (by decide +kernel) (by decide +kernel), ⟨by decide +kernel, by decide +kernel, by decide +kernel⟩, tb_in 1649 (by decide +kernel) (by decide +kernel), by decide⟩, ⟨_, _, rfl⟩, tb_in 1648 (by decide +kernel) (by decide +kernel), tb_sel 91 (by decide +kernel) (by decide +kernel)⟩
def mi_X11_crowd : MI := (⟨RX11, "crowd", "(II)I"⟩, prog_13_method_78_code, 6, (some .int))
theorem mv_X11_crowd : mV mi_X11_crowd 11 2 := ⟨⟨tb_in 13 (by decide +kernel) (by decide +kernel), ⟨by decide +kernel, by decide +kernel, by decide +kernel⟩, tb_in 1641 (by decide +kernel) (by decide +kernel), by decide⟩, ⟨_, _, rfl⟩, tb_in 1639 (by decide +kernel) (by decide +kernel), tb_in 1640 (by decide +kernel) (by decide +kernel)⟩
def mi_X11_isHour : MI := (⟨RX11, "isHou\x72", "(I)Z"⟩, prog_13_method_79_code, 1, (some .boolean))
theorem ms_X11_isHour : mS mi_X11_isHour 1 := ⟨⟨tb_in 13 (by decide +kernel) (by decide +kernel), ⟨by decide +kernel, by decide +kernel, by decide +kernel⟩, tb_in 1656 (by decide +kernel) (by decide +kernel), by decide⟩, tb_in 1655 (by decide +kernel) (by decide +kernel)⟩
def mi_X11_order : MI := (⟨RX11, "orde\x72", "(II)I"⟩, prog_13_method_80_code, 3, (some .int))
theorem mv_X11_order : mV mi_X11_order 11 2 := ⟨⟨tb_in 13 (by decide +kernel) (by decide +kernel), ⟨by decide +kernel, by decide +kernel, by decide +kernel⟩, tb_in 1653 (by decide +kernel) (by decide +kernel), by decide⟩, ⟨_, _, rfl⟩, tb_in 1651 (by decide +kernel) (by decide +kernel), tb_in 1652 (by decide +kernel) (by decide +kernel)⟩
def mi_X11_soon : MI := (⟨RX11, "soon", "(I)I"⟩, prog_13_method_81_code, 4, (some .int))
theorem mv_X11_soon : mV mi_X11_soon 11 1 := ⟨⟨tb_in 13 (by decide +kernel) (by decide +kernel), ⟨by decide +kernel, by decide +kernel, by decide +kernel⟩, tb_in 1668 (by decide +kernel) (by decide +kernel), by decide⟩, ⟨_, _, rfl⟩, tb_in 1666 (by decide +kernel) (by decide +kernel), tb_in 1667 (by decide +kernel) (by decide +kernel)⟩
def mi_X11_law : MI := (⟨RX11, "law", "(III)J"⟩, prog_13_method_82_code, 4, (some .long))
theorem mv_X11_law : mV mi_X11_law 11 3 := ⟨⟨tb_in 13 (by decide +kernel) (by decide +kernel), ⟨by decide +kernel, by decide +kernel, by decide +kernel⟩, tb_in 1672 (by decide +kernel) (by decide +kernel), by decide⟩, ⟨_, _, rfl⟩, tb_in 1670 (by decide +kernel) (by decide +kernel), tb_in 1671 (by decide +kernel) (by decide +kernel)⟩
def mi_X11_keepNow : MI := (⟨RX11, "keepNow", "()V"⟩, prog_13_method_83_code, 2, none)
theorem mv_X11_keepNow : mV mi_X11_keepNow 11 0 := ⟨⟨tb_in 13 (by decide +kernel) (by decide +kernel), ⟨by decide +kernel, by decide +kernel, by decide +kernel⟩, tb_in 1681 (by decide +kernel) (by decide +kernel), by decide⟩, ⟨_, _, rfl⟩, tb_in 1680 (by decide +kernel) (by decide +kernel), tb_sel 94 (by decide +kernel) (by decide +kernel)⟩
def mi_X11_walk : MI := (⟨RX11, "walk", "(II)I"⟩, prog_13_method_84_code, 3, (some .int))
theorem mv_X11_walk : mV mi_X11_walk 11 2 := ⟨⟨tb_in 13 (by decide +kernel) (by decide +kernel), ⟨by decide +kernel, by decide +kernel, by decide +kernel⟩, tb_in 1677 (by decide +kernel) (by decide +kernel), by decide⟩, ⟨_, _, rfl⟩, tb_in 1675 (by decide +kernel) (by decide +kernel), tb_in 1676 (by decide +kernel) (by decide +kernel)⟩
def mi_X11_carry : MI := (⟨RX11, "carry", "(II)Z"⟩, prog_13_method_85_code, 3, (some .boolean))
theorem mv_X11_carry : mV mi_X11_carry 11 2 := ⟨⟨tb_in 13 (by decide +kernel) (by decide +kernel), ⟨by decide +kernel, by decide +kernel, by decide +kernel⟩, tb_in 1709 (by decide +kernel) (by decide +kernel), by decide⟩, ⟨_, _, rfl⟩, tb_in 1707 (by decide +kernel) (by decide +kernel), tb_in 1708 (by decide +kernel) (by decide +kernel)⟩
def mi_X11_right : MI := (⟨RX11, "right", "(II)I"⟩, prog_13_method_86_code, 4, (some .int))
theorem mv_X11_right : mV mi_X11_right 11 2 := ⟨⟨tb_in 13 (by decide +kernel) (by decide +kernel), ⟨by decide +kernel, by decide +kernel, by decide +kernel⟩, tb_in 1713 (by decide +kernel) (by decide +kernel), by decide⟩, ⟨_, _, rfl⟩, tb_in 1711 (by decide +kernel) (by decide +kernel), tb_in 1712 (by decide +kernel) (by decide +kernel)⟩
def mi_X11_go : MI := (⟨RX11, "go", "(I)I"⟩, prog_13_method_87_code, 3, (some .int))
theorem mv_X11_go : mV mi_X11_go 11 1 := ⟨⟨tb_in 13 (by decide +kernel) (by decide +kernel), ⟨by decide +kernel, by decide +kernel, by decide +kernel⟩, tb_in 1717 (by decide +kernel) (by decide +kernel), by decide⟩, ⟨_, _, rfl⟩, tb_in 1715 (by decide +kernel) (by decide +kernel), tb_in 1716 (by decide +kernel) (by decide +kernel)⟩
def mi_X11_ahead : MI := (⟨RX11, "ahead", "(III)I"⟩, prog_13_method_88_code, 4, (some .int))
theorem mv_X11_ahead : mV mi_X11_ahead 11 3 := ⟨⟨tb_in 13 (by decide +kernel) (by decide +kernel), ⟨by decide +kernel, by decide +kernel, by decide +kernel⟩, tb_in 1733 (by decide +kernel) (by decide +kernel), by decide⟩, ⟨_, _, rfl⟩, tb_in 1731 (by decide +kernel) (by decide +kernel), tb_in 1732 (by decide +kernel) (by decide +kernel)⟩
def mi_X11_there : MI := (⟨RX11, "there", "(II)I"⟩, prog_13_method_89_code, 4, (some .int))
theorem mv_X11_there : mV mi_X11_there 11 2 := ⟨⟨tb_in 13 (by decide +kernel) (by decide +kernel), ⟨by decide +kernel, by decide +kernel, by decide +kernel⟩, tb_in 1749 (by decide +kernel) (by decide +kernel), by decide⟩, ⟨_, _, rfl⟩, tb_in 1747 (by decide +kernel) (by decide +kernel), tb_in 1748 (by decide +kernel) (by decide +kernel)⟩
def mi_X11_getsUp : MI := (⟨RX11, "getsUp", "(II)I"⟩, prog_13_method_90_code, 3, (some .int))
theorem mv_X11_getsUp : mV mi_X11_getsUp 11 2 := ⟨⟨tb_in 13 (by decide +kernel) (by decide +kernel), ⟨by decide +kernel, by decide +kernel, by decide +kernel⟩, tb_in 1757 (by decide +kernel) (by decide +kernel), by decide⟩, ⟨_, _, rfl⟩, tb_in 1756 (by decide +kernel) (by decide +kernel), tb_sel 106 (by decide +kernel) (by decide +kernel)⟩
def mi_X11_highest : MI := (⟨RX11, "highest", "(I)I"⟩, prog_13_method_91_code, 2, (some .int))
theorem mv_X11_highest : mV mi_X11_highest 11 1 := ⟨⟨tb_in 13 (by decide +kernel) (by decide +kernel), ⟨by decide +kernel, by decide +kernel, by decide +kernel⟩, tb_in 1753 (by decide +kernel) (by decide +kernel), by decide⟩, ⟨_, _, rfl⟩, tb_in 1751 (by decide +kernel) (by decide +kernel), tb_in 1752 (by decide +kernel) (by decide +kernel)⟩
def mi_X11_climbs : MI := (⟨RX11, "climbs", "(II)I"⟩, prog_13_method_92_code, 4, (some .int))
theorem mv_X11_climbs : mV mi_X11_climbs 11 2 := ⟨⟨tb_in 13 (by decide +kernel) (by decide +kernel), ⟨by decide +kernel, by decide +kernel, by decide +kernel⟩, tb_in 1761 (by decide +kernel) (by decide +kernel), by decide⟩, ⟨_, _, rfl⟩, tb_in 1759 (by decide +kernel) (by decide +kernel), tb_in 1760 (by decide +kernel) (by decide +kernel)⟩
def mi_X11_level : MI := (⟨RX11, "level", "(I)I"⟩, prog_13_method_93_code, 4, (some .int))
theorem mv_X11_level : mV mi_X11_level 11 1 := ⟨⟨tb_in 13 (by decide +kernel) (by decide +kernel), ⟨by decide +kernel, by decide +kernel, by decide +kernel⟩, tb_in 1765 (by decide +kernel) (by decide +kernel), by decide⟩, ⟨_, _, rfl⟩, tb_in 1763 (by decide +kernel) (by decide +kernel), tb_in 1764 (by decide +kernel) (by decide +kernel)⟩
def mi_X11_ease : MI := (⟨RX11, "ease", "(II)I"⟩, prog_13_method_94_code, 4, (some .int))
theorem mv_X11_ease : mV mi_X11_ease 11 2 := ⟨⟨tb_in 13 (by decide +kernel) (by decide +kernel), ⟨by decide +kernel, by decide +kernel, by decide +kernel⟩, tb_in 1769 (by decide +kernel) (by decide +kernel), by decide⟩, ⟨_, _, rfl⟩, tb_in 1767 (by decide +kernel) (by decide +kernel), tb_in 1768 (by decide +kernel) (by decide +kernel)⟩
def mi_X11_betters : MI := (⟨RX11, "betters", "(IIII)Z"⟩, prog_13_method_95_code, 8, (some .boolean))
theorem mv_X11_betters : mV mi_X11_betters 11 4 := ⟨⟨tb_in 13 (by decide +kernel) (by decide +kernel), ⟨by decide +kernel, by decide +kernel, by decide +kernel⟩, tb_in 1782 (by decide +kernel) (by decide +kernel), by decide⟩, ⟨_, _, rfl⟩, tb_in 1781 (by decide +kernel) (by decide +kernel), tb_sel 108 (by decide +kernel) (by decide +kernel)⟩
def mi_X11_laysWays : MI := (⟨RX11, "laysWays", "(II)V"⟩, prog_13_method_96_code, 5, none)
theorem mv_X11_laysWays : mV mi_X11_laysWays 11 2 := ⟨⟨tb_in 13 (by decide +kernel) (by decide +kernel), ⟨by decide +kernel, by decide +kernel, by decide +kernel⟩, tb_in 1777 (by decide +kernel) (by decide +kernel), by decide⟩, ⟨_, _, rfl⟩, tb_in 1776 (by decide +kernel) (by decide +kernel), tb_sel 107 (by decide +kernel) (by decide +kernel)⟩
def mi_X11_way : MI := (⟨RX11, "way", "(III)I"⟩, prog_13_method_97_code, 4, (some .int))
theorem mv_X11_way : mV mi_X11_way 11 3 := ⟨⟨tb_in 13 (by decide +kernel) (by decide +kernel), ⟨by decide +kernel, by decide +kernel, by decide +kernel⟩, tb_in 1773 (by decide +kernel) (by decide +kernel), by decide⟩, ⟨_, _, rfl⟩, tb_in 1771 (by decide +kernel) (by decide +kernel), tb_in 1772 (by decide +kernel) (by decide +kernel)⟩
def mi_X11_areTwo : MI := (⟨RX11, "areTwo", "(II)Z"⟩, prog_13_method_98_code, 3, (some .boolean))
theorem mv_X11_areTwo : mV mi_X11_areTwo 11 2 := ⟨⟨tb_in 13 (by decide +kernel) (by decide +kernel), ⟨by decide +kernel, by decide +kernel, by decide +kernel⟩, tb_in 1790 (by decide +kernel) (by decide +kernel), by decide⟩, ⟨_, _, rfl⟩, tb_in 1789 (by decide +kernel) (by decide +kernel), tb_sel 109 (by decide +kernel) (by decide +kernel)⟩
def mi_X11_meet : MI := (⟨RX11, "meet", "(III)I"⟩, prog_13_method_99_code, 7, (some .int))
theorem mv_X11_meet : mV mi_X11_meet 11 3 := ⟨⟨tb_in 13 (by decide +kernel) (by decide +kernel), ⟨by decide +kernel, by decide +kernel, by decide +kernel⟩, tb_in 1786 (by decide +kernel) (by decide +kernel), by decide⟩, ⟨_, _, rfl⟩, tb_in 1784 (by decide +kernel) (by decide +kernel), tb_in 1785 (by decide +kernel) (by decide +kernel)⟩
def mi_X11_steepest : MI := (⟨RX11, "steepest", "(I)I"⟩, prog_13_method_100_code, 4, (some .int))
theorem mv_X11_steepest : mV mi_X11_steepest 11 1 := ⟨⟨tb_in 13 (by decide +kernel) (by decide +kernel), ⟨by decide +kernel, by decide +kernel, by decide +kernel⟩, tb_in 1794 (by decide +kernel) (by decide +kernel), by decide⟩, ⟨_, _, rfl⟩, tb_in 1792 (by decide +kernel) (by decide +kernel), tb_in 1793 (by decide +kernel) (by decide +kernel)⟩
def mi_X11_wall : MI := (⟨RX11, "wall", "()I"⟩, prog_13_method_101_code, 5, (some .int))
theorem mv_X11_wall : mV mi_X11_wall 11 0 := ⟨⟨tb_in 13 (by decide +kernel) (by decide +kernel), ⟨by decide +kernel, by decide +kernel, by decide +kernel⟩, tb_in 1798 (by decide +kernel) (by decide +kernel), by decide⟩, ⟨_, _, rfl⟩, tb_in 1796 (by decide +kernel) (by decide +kernel), tb_in 1797 (by decide +kernel) (by decide +kernel)⟩
def mi_X11_hasOf : MI := (⟨RX11, "hasOf", "(IIII)I"⟩, prog_13_method_102_code, 6, (some .int))
theorem mv_X11_hasOf : mV mi_X11_hasOf 11 4 := ⟨⟨tb_in 13 (by decide +kernel) (by decide +kernel), ⟨by decide +kernel, by decide +kernel, by decide +kernel⟩, tb_in 1814 (by decide +kernel) (by decide +kernel), by decide⟩, ⟨_, _, rfl⟩, tb_in 1813 (by decide +kernel) (by decide +kernel), tb_sel 112 (by decide +kernel) (by decide +kernel)⟩
def mi_X11_isRest : MI := (⟨RX11, "isRest", "(IIII)Z"⟩, prog_13_method_103_code, 7, (some .boolean))
theorem mv_X11_isRest : mV mi_X11_isRest 11 4 := ⟨⟨tb_in 13 (by decide +kernel) (by decide +kernel), ⟨by decide +kernel, by decide +kernel, by decide +kernel⟩, tb_in 1810 (by decide +kernel) (by decide +kernel), by decide⟩, ⟨_, _, rfl⟩, tb_in 1809 (by decide +kernel) (by decide +kernel), tb_sel 111 (by decide +kernel) (by decide +kernel)⟩
def mi_X11_restOf : MI := (⟨RX11, "restOf", "(IIII)I"⟩, prog_13_method_104_code, 7, (some .int))
theorem mv_X11_restOf : mV mi_X11_restOf 11 4 := ⟨⟨tb_in 13 (by decide +kernel) (by decide +kernel), ⟨by decide +kernel, by decide +kernel, by decide +kernel⟩, tb_in 1806 (by decide +kernel) (by decide +kernel), by decide⟩, ⟨_, _, rfl⟩, tb_in 1805 (by decide +kernel) (by decide +kernel), tb_sel 110 (by decide +kernel) (by decide +kernel)⟩
def mi_X11_rests : MI := (⟨RX11, "rests", "(III)I"⟩, prog_13_method_105_code, 4, (some .int))
theorem mv_X11_rests : mV mi_X11_rests 11 3 := ⟨⟨tb_in 13 (by decide +kernel) (by decide +kernel), ⟨by decide +kernel, by decide +kernel, by decide +kernel⟩, tb_in 1802 (by decide +kernel) (by decide +kernel), by decide⟩, ⟨_, _, rfl⟩, tb_in 1800 (by decide +kernel) (by decide +kernel), tb_in 1801 (by decide +kernel) (by decide +kernel)⟩
def mi_X11_rest : MI := (⟨RX11, "rest", "(IIII)I"⟩, prog_13_method_106_code, 5, (some .int))
theorem mv_X11_rest : mV mi_X11_rest 11 4 := ⟨⟨tb_in 13 (by decide +kernel) (by decide +kernel), ⟨by decide +kernel, by decide +kernel, by decide +kernel⟩, tb_in 1818 (by decide +kernel) (by decide +kernel), by decide⟩, ⟨_, _, rfl⟩, tb_in 1816 (by decide +kernel) (by decide +kernel), tb_in 1817 (by decide +kernel) (by decide +kernel)⟩
def mi_X11_sure : MI := (⟨RX11, "sure", "(II)J"⟩, prog_13_method_107_code, 13, (some .long))
theorem mv_X11_sure : mV mi_X11_sure 11 2 := ⟨⟨tb_in 13 (by decide +kernel) (by decide +kernel), ⟨by decide +kernel, by decide +kernel, by decide +kernel⟩, tb_in 1822 (by decide +kernel) (by decide +kernel), by decide⟩, ⟨_, _, rfl⟩, tb_in 1820 (by decide +kernel) (by decide +kernel), tb_in 1821 (by decide +kernel) (by decide +kernel)⟩
def mi_X11_note : MI := (⟨RX11, "note", "(IIIZ)I"⟩, prog_13_method_108_code, 5, (some .int))
theorem mv_X11_note : mV mi_X11_note 11 4 := ⟨⟨tb_in 13 (by decide +kernel) (by decide +kernel), ⟨by decide +kernel, by decide +kernel, by decide +kernel⟩, tb_in 1828 (by decide +kernel) (by decide +kernel), by decide⟩, ⟨_, _, rfl⟩, tb_in 1826 (by decide +kernel) (by decide +kernel), tb_in 1827 (by decide +kernel) (by decide +kernel)⟩
def mi_X11_strike : MI := (⟨RX11, "strike", "(I)I"⟩, prog_13_method_109_code, 2, (some .int))
theorem mv_X11_strike : mV mi_X11_strike 11 1 := ⟨⟨tb_in 13 (by decide +kernel) (by decide +kernel), ⟨by decide +kernel, by decide +kernel, by decide +kernel⟩, tb_in 1832 (by decide +kernel) (by decide +kernel), by decide⟩, ⟨_, _, rfl⟩, tb_in 1830 (by decide +kernel) (by decide +kernel), tb_in 1831 (by decide +kernel) (by decide +kernel)⟩
def mi_X11_known : MI := (⟨RX11, "known", "(I)Z"⟩, prog_13_method_110_code, 2, (some .boolean))
theorem mv_X11_known : mV mi_X11_known 11 1 := ⟨⟨tb_in 13 (by decide +kernel) (by decide +kernel), ⟨by decide +kernel, by decide +kernel, by decide +kernel⟩, tb_in 1836 (by decide +kernel) (by decide +kernel), by decide⟩, ⟨_, _, rfl⟩, tb_in 1834 (by decide +kernel) (by decide +kernel), tb_in 1835 (by decide +kernel) (by decide +kernel)⟩
def mi_X11_knownMany : MI := (⟨RX11, "knownMany", "()I"⟩, prog_13_method_111_code, 1, (some .int))
theorem mv_X11_knownMany : mV mi_X11_knownMany 11 0 := ⟨⟨tb_in 13 (by decide +kernel) (by decide +kernel), ⟨by decide +kernel, by decide +kernel, by decide +kernel⟩, tb_in 1848 (by decide +kernel) (by decide +kernel), by decide⟩, ⟨_, _, rfl⟩, tb_in 1847 (by decide +kernel) (by decide +kernel), tb_sel 114 (by decide +kernel) (by decide +kernel)⟩
def mi_X11_isSo : MI := (⟨RX11, "isSo", "(I)Z"⟩, prog_13_method_112_code, 3, (some .boolean))
theorem mv_X11_isSo : mV mi_X11_isSo 11 1 := ⟨⟨tb_in 13 (by decide +kernel) (by decide +kernel), ⟨by decide +kernel, by decide +kernel, by decide +kernel⟩, tb_in 1856 (by decide +kernel) (by decide +kernel), by decide⟩, ⟨_, _, rfl⟩, tb_in 1855 (by decide +kernel) (by decide +kernel), tb_sel 116 (by decide +kernel) (by decide +kernel)⟩
def mi_X11_fitsHad : MI := (⟨RX11, "fitsHad", "(I)Z"⟩, prog_13_method_113_code, 3, (some .boolean))
theorem mv_X11_fitsHad : mV mi_X11_fitsHad 11 1 := ⟨⟨tb_in 13 (by decide +kernel) (by decide +kernel), ⟨by decide +kernel, by decide +kernel, by decide +kernel⟩, tb_in 1852 (by decide +kernel) (by decide +kernel), by decide⟩, ⟨_, _, rfl⟩, tb_in 1851 (by decide +kernel) (by decide +kernel), tb_sel 115 (by decide +kernel) (by decide +kernel)⟩
def mi_X11_hadsOf : MI := (⟨RX11, "hadsOf", "(II)I"⟩, prog_13_method_114_code, 6, (some .int))
theorem mv_X11_hadsOf : mV mi_X11_hadsOf 11 2 := ⟨⟨tb_in 13 (by decide +kernel) (by decide +kernel), ⟨by decide +kernel, by decide +kernel, by decide +kernel⟩, tb_in 1844 (by decide +kernel) (by decide +kernel), by decide⟩, ⟨_, _, rfl⟩, tb_in 1843 (by decide +kernel) (by decide +kernel), tb_sel 113 (by decide +kernel) (by decide +kernel)⟩
def mi_X11_hads : MI := (⟨RX11, "hads", "(II)I"⟩, prog_13_method_115_code, 3, (some .int))
theorem mv_X11_hads : mV mi_X11_hads 11 2 := ⟨⟨tb_in 13 (by decide +kernel) (by decide +kernel), ⟨by decide +kernel, by decide +kernel, by decide +kernel⟩, tb_in 1840 (by decide +kernel) (by decide +kernel), by decide⟩, ⟨_, _, rfl⟩, tb_in 1838 (by decide +kernel) (by decide +kernel), tb_in 1839 (by decide +kernel) (by decide +kernel)⟩
def mi_X11_worstAt : MI := (⟨RX11, "worstAt", "(II)I"⟩, prog_13_method_116_code, 7, (some .int))
theorem mv_X11_worstAt : mV mi_X11_worstAt 11 2 := ⟨⟨tb_in 13 (by decide +kernel) (by decide +kernel), ⟨by decide +kernel, by decide +kernel, by decide +kernel⟩, tb_in 1864 (by decide +kernel) (by decide +kernel), by decide⟩, ⟨_, _, rfl⟩, tb_in 1863 (by decide +kernel) (by decide +kernel), tb_sel 117 (by decide +kernel) (by decide +kernel)⟩
def mi_X11_ask : MI := (⟨RX11, "ask", "(III)I"⟩, prog_13_method_117_code, 7, (some .int))
theorem mv_X11_ask : mV mi_X11_ask 11 3 := ⟨⟨tb_in 13 (by decide +kernel) (by decide +kernel), ⟨by decide +kernel, by decide +kernel, by decide +kernel⟩, tb_in 1860 (by decide +kernel) (by decide +kernel), by decide⟩, ⟨_, _, rfl⟩, tb_in 1858 (by decide +kernel) (by decide +kernel), tb_in 1859 (by decide +kernel) (by decide +kernel)⟩
def mi_X11_chance : MI := (⟨RX11, "chance", "(IIII)I"⟩, prog_13_method_118_code, 9, (some .int))
theorem mv_X11_chance : mV mi_X11_chance 11 4 := ⟨⟨tb_in 13 (by decide +kernel) (by decide +kernel), ⟨by decide +kernel, by decide +kernel, by decide +kernel⟩, tb_in 1868 (by decide +kernel) (by decide +kernel), by decide⟩, ⟨_, _, rfl⟩, tb_in 1866 (by decide +kernel) (by decide +kernel), tb_in 1867 (by decide +kernel) (by decide +kernel)⟩
def mi_X11_tried : MI := (⟨RX11, "tried", "(III)I"⟩, prog_13_method_119_code, 6, (some .int))
theorem mv_X11_tried : mV mi_X11_tried 11 3 := ⟨⟨tb_in 13 (by decide +kernel) (by decide +kernel), ⟨by decide +kernel, by decide +kernel, by decide +kernel⟩, tb_in 1872 (by decide +kernel) (by decide +kernel), by decide⟩, ⟨_, _, rfl⟩, tb_in 1870 (by decide +kernel) (by decide +kernel), tb_in 1871 (by decide +kernel) (by decide +kernel)⟩
def mi_X11_undo : MI := (⟨RX11, "undo", "()I"⟩, prog_13_method_120_code, 1, (some .int))
theorem mv_X11_undo : mV mi_X11_undo 11 0 := ⟨⟨tb_in 13 (by decide +kernel) (by decide +kernel), ⟨by decide +kernel, by decide +kernel, by decide +kernel⟩, tb_in 1876 (by decide +kernel) (by decide +kernel), by decide⟩, ⟨_, _, rfl⟩, tb_in 1874 (by decide +kernel) (by decide +kernel), tb_in 1875 (by decide +kernel) (by decide +kernel)⟩
def mi_X11_keep : MI := (⟨RX11, "keep", "()I"⟩, prog_13_method_121_code, 1, (some .int))
theorem mv_X11_keep : mV mi_X11_keep 11 0 := ⟨⟨tb_in 13 (by decide +kernel) (by decide +kernel), ⟨by decide +kernel, by decide +kernel, by decide +kernel⟩, tb_in 1880 (by decide +kernel) (by decide +kernel), by decide⟩, ⟨_, _, rfl⟩, tb_in 1878 (by decide +kernel) (by decide +kernel), tb_in 1879 (by decide +kernel) (by decide +kernel)⟩
def mi_X11_back : MI := (⟨RX11, "back", "()I"⟩, prog_13_method_122_code, 1, (some .int))
theorem mv_X11_back : mV mi_X11_back 11 0 := ⟨⟨tb_in 13 (by decide +kernel) (by decide +kernel), ⟨by decide +kernel, by decide +kernel, by decide +kernel⟩, tb_in 1884 (by decide +kernel) (by decide +kernel), by decide⟩, ⟨_, _, rfl⟩, tb_in 1882 (by decide +kernel) (by decide +kernel), tb_in 1883 (by decide +kernel) (by decide +kernel)⟩
def mi_X11_count : MI := (⟨RX11, "count", "(I)I"⟩, prog_13_method_123_code, 2, (some .int))
theorem mv_X11_count : mV mi_X11_count 11 1 := ⟨⟨tb_in 13 (by decide +kernel) (by decide +kernel), ⟨by decide +kernel, by decide +kernel, by decide +kernel⟩, tb_in 1888 (by decide +kernel) (by decide +kernel), by decide⟩, ⟨_, _, rfl⟩, tb_in 1886 (by decide +kernel) (by decide +kernel), tb_in 1887 (by decide +kernel) (by decide +kernel)⟩
def RGok (d : Nat) (R : Nat → HH → Option (Unit × HH)) : Prop := (∀ h : HH, Sp mi_X11_expression (d - 1) iU [.ref 255] h (R 0 h)) ∧ (∀ h : HH, Sp mi_X11_conjunction (d - 1) iU [.ref 255] h (R 1 h)) ∧ (∀ h : HH, Sp mi_X11_negation (d - 1) iU [.ref 255] h (R 2 h)) ∧ (∀ h : HH, Sp mi_X11_sum (d - 1) iU [.ref 255] h (R 3 h)) ∧ (∀ h : HH, Sp mi_X11_product (d - 1) iU [.ref 255] h (R 4 h)) ∧ (∀ h : HH, Sp mi_X11_primary (d - 1) iU [.ref 255] h (R 5 h))
