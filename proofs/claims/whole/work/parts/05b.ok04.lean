set_option maxRecDepth 20000 in
theorem ok_46 : ∀ pc e, k_46 pc = some e → okE 46 pc e := tn_ (tn_ (tn_ (tn_ (tn_ (tl_ (oi_aload_n (k := 0) (by decide +kernel) rfl rfl)) (tl_ (oi_getfield (i := 57) (by decide +kernel) rfl ⟨_, _, _, rfl, by decide, mw_673⟩))) (tn_ (tl_ (oi_iconst (n := 4) (by decide +kernel) (by decide +kernel) rfl)) (tn_ (tl_ (oi_iload_n (k := 1) (by decide +kernel) rfl rfl)) (tl_ (oi_imul (by decide +kernel) rfl))))) (tn_ (tn_ (tl_ (oi_iload_n (k := 3) (by decide +kernel) rfl rfl)) (tl_ (oi_iadd (by decide +kernel) rfl))) (tn_ (tl_ (oi_iald (by decide +kernel) rfl)) (tn_ (tl_ (oi_istore (by decide) (by decide +kernel) rfl)) (tl_ (oi_iload (by decide +kernel) rfl)))))) (tn_ (tn_ (tn_ (tl_ (oi_ifne (f := 11) (by decide +kernel) (by decide) rfl)) (tl_ (oi_aload_n (k := 0) (by decide +kernel) rfl rfl))) (tn_ (tl_ (oi_iconst (n := 1) (by decide +kernel) (by decide +kernel) rfl)) (tn_ (tl_ (oi_callV (i := 135) (by decide +kernel) rfl (by decide) (by decide) okm_44 (by decide) (by rfl) mw_857 mw_859 mw_43 mw_53 (by decide +kernel))) (tl_ (oi_goto (f := 36) (by decide +kernel) (by decide)))))) (tn_ (tn_ (tl_ (oi_aload_n (k := 0) (by decide +kernel) rfl rfl)) (tn_ (tl_ (oi_getfield (i := 57) (by decide +kernel) rfl ⟨_, _, _, rfl, by decide, mw_673⟩)) (tl_ (oi_iconst (n := 4) (by decide +kernel) (by decide +kernel) rfl)))) (tn_ (tl_ (oi_iload_n (k := 1) (by decide +kernel) rfl rfl)) (tn_ (tl_ (oi_imul (by decide +kernel) rfl)) (tl_ (oi_iload_n (k := 2) (by decide +kernel) rfl rfl))))))) (tn_ (tn_ (tn_ (tn_ (tl_ (oi_iadd (by decide +kernel) rfl)) (tl_ (oi_aload_n (k := 0) (by decide +kernel) rfl rfl))) (tn_ (tl_ (oi_getfield (i := 57) (by decide +kernel) rfl ⟨_, _, _, rfl, by decide, mw_673⟩)) (tn_ (tl_ (oi_iconst (n := 4) (by decide +kernel) (by decide +kernel) rfl)) (tl_ (oi_iload_n (k := 1) (by decide +kernel) rfl rfl))))) (tn_ (tn_ (tl_ (oi_imul (by decide +kernel) rfl)) (tl_ (oi_iload_n (k := 2) (by decide +kernel) rfl rfl))) (tn_ (tl_ (oi_iadd (by decide +kernel) rfl)) (tn_ (tl_ (oi_iald (by decide +kernel) rfl)) (tl_ (oi_iload (by decide +kernel) rfl)))))) (tn_ (tn_ (tn_ (tl_ (oi_idiv (by decide +kernel) rfl)) (tl_ (oi_iast (by decide +kernel) rfl))) (tn_ (tl_ (oi_aload_n (k := 0) (by decide +kernel) rfl rfl)) (tn_ (tl_ (oi_getfield (i := 54) (by decide +kernel) rfl ⟨_, _, _, rfl, by decide, mw_672⟩)) (tl_ (oi_iload_n (k := 1) (by decide +kernel) rfl rfl))))) (tn_ (tn_ (tl_ (oi_dup2 (by decide +kernel) rfl)) (tn_ (tl_ (oi_iald (by decide +kernel) rfl)) (tl_ (oi_iconst (n := 1) (by decide +kernel) (by decide +kernel) rfl)))) (tn_ (tl_ (oi_iadd (by decide +kernel) rfl)) (tn_ (tl_ (oi_iast (by decide +kernel) rfl)) (tl_ (oi_return (by decide +kernel) rfl)))))))
set_option maxRecDepth 20000 in
theorem ok_47 : ∀ pc e, k_47 pc = some e → okE 47 pc e := tn_ (tn_ (tn_ (tn_ (tl_ (oi_aload_n (k := 0) (by decide +kernel) rfl rfl)) (tn_ (tl_ (oi_getfield (i := 60) (by decide +kernel) rfl ⟨_, _, _, rfl, by decide, mw_674⟩)) (tl_ (oi_iconst (n := 4) (by decide +kernel) (by decide +kernel) rfl)))) (tn_ (tn_ (tl_ (oi_iload_n (k := 1) (by decide +kernel) rfl rfl)) (tl_ (oi_imul (by decide +kernel) rfl))) (tn_ (tl_ (oi_iload_n (k := 2) (by decide +kernel) rfl rfl)) (tl_ (oi_iadd (by decide +kernel) rfl))))) (tn_ (tn_ (tl_ (oi_iald (by decide +kernel) rfl)) (tn_ (tl_ (oi_iflt (f := 20) (by decide +kernel) (by decide) rfl)) (tl_ (oi_aload_n (k := 0) (by decide +kernel) rfl rfl)))) (tn_ (tn_ (tl_ (oi_aload_n (k := 0) (by decide +kernel) rfl rfl)) (tl_ (oi_getfield (i := 60) (by decide +kernel) rfl ⟨_, _, _, rfl, by decide, mw_674⟩))) (tn_ (tl_ (oi_iconst (n := 4) (by decide +kernel) (by decide +kernel) rfl)) (tl_ (oi_iload_n (k := 1) (by decide +kernel) rfl rfl)))))) (tn_ (tn_ (tn_ (tl_ (oi_imul (by decide +kernel) rfl)) (tn_ (tl_ (oi_iload_n (k := 2) (by decide +kernel) rfl rfl)) (tl_ (oi_iadd (by decide +kernel) rfl)))) (tn_ (tn_ (tl_ (oi_iald (by decide +kernel) rfl)) (tl_ (oi_callV (i := 135) (by decide +kernel) rfl (by decide) (by decide) okm_44 (by decide) (by rfl) mw_857 mw_859 mw_43 mw_53 (by decide +kernel)))) (tn_ (tl_ (oi_goto (f := 13) (by decide +kernel) (by decide))) (tl_ (oi_aload_n (k := 0) (by decide +kernel) rfl rfl))))) (tn_ (tn_ (tn_ (tl_ (oi_getfield (i := 54) (by decide +kernel) rfl ⟨_, _, _, rfl, by decide, mw_672⟩)) (tl_ (oi_iload_n (k := 1) (by decide +kernel) rfl rfl))) (tn_ (tl_ (oi_dup2 (by decide +kernel) rfl)) (tl_ (oi_iald (by decide +kernel) rfl)))) (tn_ (tn_ (tl_ (oi_iconst (n := 1) (by decide +kernel) (by decide +kernel) rfl)) (tl_ (oi_iadd (by decide +kernel) rfl))) (tn_ (tl_ (oi_iast (by decide +kernel) rfl)) (tl_ (oi_return (by decide +kernel) rfl))))))
theorem oe_48_0 : okE 48 0 (3, 0, 0, 1) := oi_aload_n (k := 0) (by decide +kernel) rfl rfl
theorem oe_48_1 : okE 48 1 (16, 6, 15, 4) := oi_getfield (i := 129) (by decide +kernel) rfl ⟨_, _, _, rfl, by decide, mw_670⟩
theorem oe_48_4 : okE 48 4 (0, 1, 0, 5) := oi_iconst (n := 1) (by decide +kernel) (by decide +kernel) rfl
theorem oe_48_5 : okE 48 5 (7, 0, 0, 6) := oi_isub (by decide +kernel) rfl
theorem oe_48_6 : okE 48 6 (4, 1, 0, 7) := oi_istore_n (k := 1) (by decide) (by decide +kernel) rfl rfl
theorem oe_48_7 : okE 48 7 (0, 24, 0, 9) := oi_bipush (n := 24) (by decide +kernel) (by decide +kernel) rfl
theorem oe_48_9 : okE 48 9 (3, 0, 0, 10) := oi_aload_n (k := 0) (by decide +kernel) rfl rfl
theorem oe_48_10 : okE 48 10 (16, 6, 16, 13) := oi_getfield (i := 51) (by decide +kernel) rfl ⟨_, _, _, rfl, by decide, mw_671⟩
theorem oe_48_13 : okE 48 13 (2, 1, 0, 14) := oi_iload_n (k := 1) (by decide +kernel) rfl rfl
theorem oe_48_14 : okE 48 14 (30, 0, 0, 15) := oi_iald (by decide +kernel) rfl
theorem oe_48_15 : okE 48 15 (8, 0, 0, 16) := oi_imul (by decide +kernel) rfl
theorem oe_48_16 : okE 48 16 (3, 0, 0, 17) := oi_aload_n (k := 0) (by decide +kernel) rfl rfl
theorem oe_48_17 : okE 48 17 (16, 6, 17, 20) := oi_getfield (i := 54) (by decide +kernel) rfl ⟨_, _, _, rfl, by decide, mw_672⟩
theorem oe_48_20 : okE 48 20 (2, 1, 0, 21) := oi_iload_n (k := 1) (by decide +kernel) rfl rfl
theorem oe_48_21 : okE 48 21 (30, 0, 0, 22) := oi_iald (by decide +kernel) rfl
theorem oe_48_22 : okE 48 22 (6, 0, 0, 23) := oi_iadd (by decide +kernel) rfl
theorem oe_48_23 : okE 48 23 (4, 2, 0, 24) := oi_istore_n (k := 2) (by decide) (by decide +kernel) rfl rfl
theorem oe_48_24 : okE 48 24 (3, 0, 0, 25) := oi_aload_n (k := 0) (by decide +kernel) rfl rfl
theorem oe_48_25 : okE 48 25 (16, 6, 6, 28) := oi_getfield (i := 23) (by decide +kernel) rfl ⟨_, _, _, rfl, by decide, mw_661⟩
theorem oe_48_28 : okE 48 28 (2, 2, 0, 29) := oi_iload_n (k := 2) (by decide +kernel) rfl rfl
theorem oe_48_29 : okE 48 29 (30, 0, 0, 30) := oi_iald (by decide +kernel) rfl
theorem oe_48_30 : okE 48 30 (4, 3, 0, 31) := oi_istore_n (k := 3) (by decide) (by decide +kernel) rfl rfl
theorem oe_48_31 : okE 48 31 (3, 0, 0, 32) := oi_aload_n (k := 0) (by decide +kernel) rfl rfl
theorem oe_48_32 : okE 48 32 (16, 6, 7, 35) := oi_getfield (i := 26) (by decide +kernel) rfl ⟨_, _, _, rfl, by decide, mw_662⟩
theorem oe_48_35 : okE 48 35 (2, 2, 0, 36) := oi_iload_n (k := 2) (by decide +kernel) rfl rfl
theorem oe_48_36 : okE 48 36 (30, 0, 0, 37) := oi_iald (by decide +kernel) rfl
theorem oe_48_37 : okE 48 37 (4, 4, 0, 39) := oi_istore (by decide) (by decide +kernel) rfl
theorem oe_48_39 : okE 48 39 (3, 0, 0, 40) := oi_aload_n (k := 0) (by decide +kernel) rfl rfl
theorem oe_48_40 : okE 48 40 (16, 6, 5, 43) := oi_getfield (i := 20) (by decide +kernel) rfl ⟨_, _, _, rfl, by decide, mw_660⟩
theorem oe_48_43 : okE 48 43 (2, 2, 0, 44) := oi_iload_n (k := 2) (by decide +kernel) rfl rfl
theorem oe_48_44 : okE 48 44 (30, 0, 0, 45) := oi_iald (by decide +kernel) rfl
theorem oe_48_45 : okE 48 45 (62, 1, 295, 0) := sw_ok1
theorem oe_48_96 : okE 48 96 (3, 0, 0, 97) := oi_aload_n (k := 0) (by decide +kernel) rfl rfl
theorem oe_48_97 : okE 48 97 (16, 6, 18, 100) := oi_getfield (i := 57) (by decide +kernel) rfl ⟨_, _, _, rfl, by decide, mw_673⟩
theorem oe_48_100 : okE 48 100 (0, 4, 0, 101) := oi_iconst (n := 4) (by decide +kernel) (by decide +kernel) rfl
theorem oe_48_101 : okE 48 101 (2, 1, 0, 102) := oi_iload_n (k := 1) (by decide +kernel) rfl rfl
theorem oe_48_102 : okE 48 102 (8, 0, 0, 103) := oi_imul (by decide +kernel) rfl
theorem oe_48_103 : okE 48 103 (2, 3, 0, 104) := oi_iload_n (k := 3) (by decide +kernel) rfl rfl
theorem oe_48_104 : okE 48 104 (6, 0, 0, 105) := oi_iadd (by decide +kernel) rfl
theorem oe_48_105 : okE 48 105 (2, 4, 0, 107) := oi_iload (by decide +kernel) rfl
theorem oe_48_107 : okE 48 107 (31, 0, 0, 108) := oi_iast (by decide +kernel) rfl
theorem oe_48_108 : okE 48 108 (3, 0, 0, 109) := oi_aload_n (k := 0) (by decide +kernel) rfl rfl
theorem oe_48_109 : okE 48 109 (16, 6, 17, 112) := oi_getfield (i := 54) (by decide +kernel) rfl ⟨_, _, _, rfl, by decide, mw_672⟩
theorem oe_48_112 : okE 48 112 (2, 1, 0, 113) := oi_iload_n (k := 1) (by decide +kernel) rfl rfl
theorem oe_48_113 : okE 48 113 (15, 0, 0, 114) := oi_dup2 (by decide +kernel) rfl
theorem oe_48_114 : okE 48 114 (30, 0, 0, 115) := oi_iald (by decide +kernel) rfl
theorem oe_48_115 : okE 48 115 (0, 1, 0, 116) := oi_iconst (n := 1) (by decide +kernel) (by decide +kernel) rfl
theorem oe_48_116 : okE 48 116 (6, 0, 0, 117) := oi_iadd (by decide +kernel) rfl
theorem oe_48_117 : okE 48 117 (31, 0, 0, 118) := oi_iast (by decide +kernel) rfl
theorem oe_48_118 : okE 48 118 (18, 0, 0, 309) := oi_goto (f := 191) (by decide +kernel) (by decide)
theorem oe_48_121 : okE 48 121 (3, 0, 0, 122) := oi_aload_n (k := 0) (by decide +kernel) rfl rfl
theorem oe_48_122 : okE 48 122 (16, 6, 18, 125) := oi_getfield (i := 57) (by decide +kernel) rfl ⟨_, _, _, rfl, by decide, mw_673⟩
theorem oe_48_125 : okE 48 125 (0, 4, 0, 126) := oi_iconst (n := 4) (by decide +kernel) (by decide +kernel) rfl
theorem oe_48_126 : okE 48 126 (2, 1, 0, 127) := oi_iload_n (k := 1) (by decide +kernel) rfl rfl
theorem oe_48_127 : okE 48 127 (8, 0, 0, 128) := oi_imul (by decide +kernel) rfl
theorem oe_48_128 : okE 48 128 (2, 3, 0, 129) := oi_iload_n (k := 3) (by decide +kernel) rfl rfl
theorem oe_48_129 : okE 48 129 (6, 0, 0, 130) := oi_iadd (by decide +kernel) rfl
theorem oe_48_130 : okE 48 130 (3, 0, 0, 131) := oi_aload_n (k := 0) (by decide +kernel) rfl rfl
theorem oe_48_131 : okE 48 131 (16, 6, 18, 134) := oi_getfield (i := 57) (by decide +kernel) rfl ⟨_, _, _, rfl, by decide, mw_673⟩
theorem oe_48_134 : okE 48 134 (0, 4, 0, 135) := oi_iconst (n := 4) (by decide +kernel) (by decide +kernel) rfl
theorem oe_48_135 : okE 48 135 (2, 1, 0, 136) := oi_iload_n (k := 1) (by decide +kernel) rfl rfl
theorem oe_48_136 : okE 48 136 (8, 0, 0, 137) := oi_imul (by decide +kernel) rfl
theorem oe_48_137 : okE 48 137 (2, 3, 0, 138) := oi_iload_n (k := 3) (by decide +kernel) rfl rfl
theorem oe_48_138 : okE 48 138 (6, 0, 0, 139) := oi_iadd (by decide +kernel) rfl
theorem oe_48_139 : okE 48 139 (30, 0, 0, 140) := oi_iald (by decide +kernel) rfl
theorem oe_48_140 : okE 48 140 (3, 0, 0, 141) := oi_aload_n (k := 0) (by decide +kernel) rfl rfl
theorem oe_48_141 : okE 48 141 (16, 6, 18, 144) := oi_getfield (i := 57) (by decide +kernel) rfl ⟨_, _, _, rfl, by decide, mw_673⟩
theorem oe_48_144 : okE 48 144 (0, 4, 0, 145) := oi_iconst (n := 4) (by decide +kernel) (by decide +kernel) rfl
theorem oe_48_145 : okE 48 145 (2, 1, 0, 146) := oi_iload_n (k := 1) (by decide +kernel) rfl rfl
theorem oe_48_146 : okE 48 146 (8, 0, 0, 147) := oi_imul (by decide +kernel) rfl
theorem oe_48_147 : okE 48 147 (2, 4, 0, 149) := oi_iload (by decide +kernel) rfl
theorem oe_48_149 : okE 48 149 (6, 0, 0, 150) := oi_iadd (by decide +kernel) rfl
theorem oe_48_150 : okE 48 150 (30, 0, 0, 151) := oi_iald (by decide +kernel) rfl
theorem oe_48_151 : okE 48 151 (6, 0, 0, 152) := oi_iadd (by decide +kernel) rfl
theorem oe_48_152 : okE 48 152 (31, 0, 0, 153) := oi_iast (by decide +kernel) rfl
theorem oe_48_153 : okE 48 153 (3, 0, 0, 154) := oi_aload_n (k := 0) (by decide +kernel) rfl rfl
theorem oe_48_154 : okE 48 154 (16, 6, 17, 157) := oi_getfield (i := 54) (by decide +kernel) rfl ⟨_, _, _, rfl, by decide, mw_672⟩
theorem oe_48_157 : okE 48 157 (2, 1, 0, 158) := oi_iload_n (k := 1) (by decide +kernel) rfl rfl
theorem oe_48_158 : okE 48 158 (15, 0, 0, 159) := oi_dup2 (by decide +kernel) rfl
theorem oe_48_159 : okE 48 159 (30, 0, 0, 160) := oi_iald (by decide +kernel) rfl
theorem oe_48_160 : okE 48 160 (0, 1, 0, 161) := oi_iconst (n := 1) (by decide +kernel) (by decide +kernel) rfl
theorem oe_48_161 : okE 48 161 (6, 0, 0, 162) := oi_iadd (by decide +kernel) rfl
theorem oe_48_162 : okE 48 162 (31, 0, 0, 163) := oi_iast (by decide +kernel) rfl
theorem oe_48_163 : okE 48 163 (18, 0, 0, 309) := oi_goto (f := 146) (by decide +kernel) (by decide)
theorem oe_48_166 : okE 48 166 (3, 0, 0, 167) := oi_aload_n (k := 0) (by decide +kernel) rfl rfl
theorem oe_48_167 : okE 48 167 (16, 6, 18, 170) := oi_getfield (i := 57) (by decide +kernel) rfl ⟨_, _, _, rfl, by decide, mw_673⟩
theorem oe_48_170 : okE 48 170 (0, 4, 0, 171) := oi_iconst (n := 4) (by decide +kernel) (by decide +kernel) rfl
theorem oe_48_171 : okE 48 171 (2, 1, 0, 172) := oi_iload_n (k := 1) (by decide +kernel) rfl rfl
theorem oe_48_172 : okE 48 172 (8, 0, 0, 173) := oi_imul (by decide +kernel) rfl
theorem oe_48_173 : okE 48 173 (2, 3, 0, 174) := oi_iload_n (k := 3) (by decide +kernel) rfl rfl
theorem oe_48_174 : okE 48 174 (6, 0, 0, 175) := oi_iadd (by decide +kernel) rfl
theorem oe_48_175 : okE 48 175 (3, 0, 0, 176) := oi_aload_n (k := 0) (by decide +kernel) rfl rfl
theorem oe_48_176 : okE 48 176 (16, 6, 18, 179) := oi_getfield (i := 57) (by decide +kernel) rfl ⟨_, _, _, rfl, by decide, mw_673⟩
theorem oe_48_179 : okE 48 179 (0, 4, 0, 180) := oi_iconst (n := 4) (by decide +kernel) (by decide +kernel) rfl
theorem oe_48_180 : okE 48 180 (2, 1, 0, 181) := oi_iload_n (k := 1) (by decide +kernel) rfl rfl
theorem oe_48_181 : okE 48 181 (8, 0, 0, 182) := oi_imul (by decide +kernel) rfl
theorem oe_48_182 : okE 48 182 (2, 3, 0, 183) := oi_iload_n (k := 3) (by decide +kernel) rfl rfl
theorem oe_48_183 : okE 48 183 (6, 0, 0, 184) := oi_iadd (by decide +kernel) rfl
theorem oe_48_184 : okE 48 184 (30, 0, 0, 185) := oi_iald (by decide +kernel) rfl
theorem oe_48_185 : okE 48 185 (3, 0, 0, 186) := oi_aload_n (k := 0) (by decide +kernel) rfl rfl
theorem oe_48_186 : okE 48 186 (16, 6, 18, 189) := oi_getfield (i := 57) (by decide +kernel) rfl ⟨_, _, _, rfl, by decide, mw_673⟩
theorem oe_48_189 : okE 48 189 (0, 4, 0, 190) := oi_iconst (n := 4) (by decide +kernel) (by decide +kernel) rfl
theorem oe_48_190 : okE 48 190 (2, 1, 0, 191) := oi_iload_n (k := 1) (by decide +kernel) rfl rfl
theorem oe_48_191 : okE 48 191 (8, 0, 0, 192) := oi_imul (by decide +kernel) rfl
theorem oe_48_192 : okE 48 192 (2, 4, 0, 194) := oi_iload (by decide +kernel) rfl
theorem oe_48_194 : okE 48 194 (6, 0, 0, 195) := oi_iadd (by decide +kernel) rfl
theorem oe_48_195 : okE 48 195 (30, 0, 0, 196) := oi_iald (by decide +kernel) rfl
theorem oe_48_196 : okE 48 196 (7, 0, 0, 197) := oi_isub (by decide +kernel) rfl
theorem oe_48_197 : okE 48 197 (31, 0, 0, 198) := oi_iast (by decide +kernel) rfl
theorem oe_48_198 : okE 48 198 (3, 0, 0, 199) := oi_aload_n (k := 0) (by decide +kernel) rfl rfl
theorem oe_48_199 : okE 48 199 (16, 6, 17, 202) := oi_getfield (i := 54) (by decide +kernel) rfl ⟨_, _, _, rfl, by decide, mw_672⟩
theorem oe_48_202 : okE 48 202 (2, 1, 0, 203) := oi_iload_n (k := 1) (by decide +kernel) rfl rfl
theorem oe_48_203 : okE 48 203 (15, 0, 0, 204) := oi_dup2 (by decide +kernel) rfl
theorem oe_48_204 : okE 48 204 (30, 0, 0, 205) := oi_iald (by decide +kernel) rfl
theorem oe_48_205 : okE 48 205 (0, 1, 0, 206) := oi_iconst (n := 1) (by decide +kernel) (by decide +kernel) rfl
theorem oe_48_206 : okE 48 206 (6, 0, 0, 207) := oi_iadd (by decide +kernel) rfl
theorem oe_48_207 : okE 48 207 (31, 0, 0, 208) := oi_iast (by decide +kernel) rfl
theorem oe_48_208 : okE 48 208 (18, 0, 0, 309) := oi_goto (f := 101) (by decide +kernel) (by decide)
theorem oe_48_211 : okE 48 211 (3, 0, 0, 212) := oi_aload_n (k := 0) (by decide +kernel) rfl rfl
theorem oe_48_212 : okE 48 212 (2, 1, 0, 213) := oi_iload_n (k := 1) (by decide +kernel) rfl rfl
theorem oe_48_213 : okE 48 213 (2, 3, 0, 214) := oi_iload_n (k := 3) (by decide +kernel) rfl rfl
theorem oe_48_214 : okE 48 214 (2, 4, 0, 216) := oi_iload (by decide +kernel) rfl
theorem oe_48_216 : okE 48 216 (70, 46, 4, 219) := oi_callV (i := 143) (by decide +kernel) rfl (by decide) (by decide) okm_46 (by decide) (by rfl) mw_853 mw_855 mw_42 mw_53 (by decide +kernel)
theorem oe_48_219 : okE 48 219 (18, 0, 0, 309) := oi_goto (f := 90) (by decide +kernel) (by decide)
theorem oe_48_222 : okE 48 222 (3, 0, 0, 223) := oi_aload_n (k := 0) (by decide +kernel) rfl rfl
theorem oe_48_223 : okE 48 223 (16, 6, 17, 226) := oi_getfield (i := 54) (by decide +kernel) rfl ⟨_, _, _, rfl, by decide, mw_672⟩
theorem oe_48_226 : okE 48 226 (2, 1, 0, 227) := oi_iload_n (k := 1) (by decide +kernel) rfl rfl
theorem oe_48_227 : okE 48 227 (2, 3, 0, 228) := oi_iload_n (k := 3) (by decide +kernel) rfl rfl
theorem oe_48_228 : okE 48 228 (31, 0, 0, 229) := oi_iast (by decide +kernel) rfl
theorem oe_48_229 : okE 48 229 (18, 0, 0, 309) := oi_goto (f := 80) (by decide +kernel) (by decide)
theorem oe_48_232 : okE 48 232 (3, 0, 0, 233) := oi_aload_n (k := 0) (by decide +kernel) rfl rfl
theorem oe_48_233 : okE 48 233 (16, 6, 17, 236) := oi_getfield (i := 54) (by decide +kernel) rfl ⟨_, _, _, rfl, by decide, mw_672⟩
theorem oe_48_236 : okE 48 236 (2, 1, 0, 237) := oi_iload_n (k := 1) (by decide +kernel) rfl rfl
theorem oe_48_237 : okE 48 237 (3, 0, 0, 238) := oi_aload_n (k := 0) (by decide +kernel) rfl rfl
theorem oe_48_238 : okE 48 238 (16, 6, 18, 241) := oi_getfield (i := 57) (by decide +kernel) rfl ⟨_, _, _, rfl, by decide, mw_673⟩
theorem oe_48_241 : okE 48 241 (0, 4, 0, 242) := oi_iconst (n := 4) (by decide +kernel) (by decide +kernel) rfl
theorem oe_48_242 : okE 48 242 (2, 1, 0, 243) := oi_iload_n (k := 1) (by decide +kernel) rfl rfl
theorem oe_48_243 : okE 48 243 (8, 0, 0, 244) := oi_imul (by decide +kernel) rfl
theorem oe_48_244 : okE 48 244 (2, 3, 0, 245) := oi_iload_n (k := 3) (by decide +kernel) rfl rfl
theorem oe_48_245 : okE 48 245 (6, 0, 0, 246) := oi_iadd (by decide +kernel) rfl
theorem oe_48_246 : okE 48 246 (30, 0, 0, 247) := oi_iald (by decide +kernel) rfl
theorem oe_48_247 : okE 48 247 (51, 255, 0, 250) := oi_ifne (f := 8) (by decide +kernel) (by decide) rfl
theorem oe_48_250 : okE 48 250 (2, 4, 0, 252) := oi_iload (by decide +kernel) rfl
theorem oe_48_252 : okE 48 252 (18, 0, 0, 263) := oi_goto (f := 11) (by decide +kernel) (by decide)
theorem oe_48_255 : okE 48 255 (3, 0, 0, 256) := oi_aload_n (k := 0) (by decide +kernel) rfl rfl
theorem oe_48_256 : okE 48 256 (16, 6, 17, 259) := oi_getfield (i := 54) (by decide +kernel) rfl ⟨_, _, _, rfl, by decide, mw_672⟩
theorem oe_48_259 : okE 48 259 (2, 1, 0, 260) := oi_iload_n (k := 1) (by decide +kernel) rfl rfl
theorem oe_48_260 : okE 48 260 (30, 0, 0, 261) := oi_iald (by decide +kernel) rfl
theorem oe_48_261 : okE 48 261 (0, 1, 0, 262) := oi_iconst (n := 1) (by decide +kernel) (by decide +kernel) rfl
theorem oe_48_262 : okE 48 262 (6, 0, 0, 263) := oi_iadd (by decide +kernel) rfl
theorem oe_48_263 : okE 48 263 (31, 0, 0, 264) := oi_iast (by decide +kernel) rfl
theorem oe_48_264 : okE 48 264 (18, 0, 0, 309) := oi_goto (f := 45) (by decide +kernel) (by decide)
theorem oe_48_267 : okE 48 267 (3, 0, 0, 268) := oi_aload_n (k := 0) (by decide +kernel) rfl rfl
theorem oe_48_268 : okE 48 268 (2, 1, 0, 269) := oi_iload_n (k := 1) (by decide +kernel) rfl rfl
theorem oe_48_269 : okE 48 269 (2, 3, 0, 270) := oi_iload_n (k := 3) (by decide +kernel) rfl rfl
theorem oe_48_270 : okE 48 270 (2, 4, 0, 272) := oi_iload (by decide +kernel) rfl
theorem oe_48_272 : okE 48 272 (70, 45, 4, 275) := oi_callV (i := 147) (by decide +kernel) rfl (by decide) (by decide) okm_45 (by decide) (by rfl) mw_861 mw_863 mw_44 mw_53 (by decide +kernel)
theorem oe_48_275 : okE 48 275 (18, 0, 0, 309) := oi_goto (f := 34) (by decide +kernel) (by decide)
theorem oe_48_278 : okE 48 278 (3, 0, 0, 279) := oi_aload_n (k := 0) (by decide +kernel) rfl rfl
theorem oe_48_279 : okE 48 279 (2, 3, 0, 280) := oi_iload_n (k := 3) (by decide +kernel) rfl rfl
theorem oe_48_280 : okE 48 280 (70, 44, 2, 283) := oi_callV (i := 135) (by decide +kernel) rfl (by decide) (by decide) okm_44 (by decide) (by rfl) mw_857 mw_859 mw_43 mw_53 (by decide +kernel)
theorem oe_48_283 : okE 48 283 (18, 0, 0, 309) := oi_goto (f := 26) (by decide +kernel) (by decide)
theorem oe_48_286 : okE 48 286 (3, 0, 0, 287) := oi_aload_n (k := 0) (by decide +kernel) rfl rfl
theorem oe_48_287 : okE 48 287 (2, 1, 0, 288) := oi_iload_n (k := 1) (by decide +kernel) rfl rfl
theorem oe_48_288 : okE 48 288 (2, 3, 0, 289) := oi_iload_n (k := 3) (by decide +kernel) rfl rfl
theorem oe_48_289 : okE 48 289 (70, 47, 3, 292) := oi_callV (i := 150) (by decide +kernel) rfl (by decide) (by decide) okm_47 (by decide) (by rfl) mw_865 mw_867 mw_45 mw_53 (by decide +kernel)
theorem oe_48_292 : okE 48 292 (18, 0, 0, 309) := oi_goto (f := 17) (by decide +kernel) (by decide)
theorem oe_48_295 : okE 48 295 (3, 0, 0, 296) := oi_aload_n (k := 0) (by decide +kernel) rfl rfl
theorem oe_48_296 : okE 48 296 (3, 0, 0, 297) := oi_aload_n (k := 0) (by decide +kernel) rfl rfl
theorem oe_48_297 : okE 48 297 (16, 6, 18, 300) := oi_getfield (i := 57) (by decide +kernel) rfl ⟨_, _, _, rfl, by decide, mw_673⟩
theorem oe_48_300 : okE 48 300 (0, 4, 0, 301) := oi_iconst (n := 4) (by decide +kernel) (by decide +kernel) rfl
theorem oe_48_301 : okE 48 301 (2, 1, 0, 302) := oi_iload_n (k := 1) (by decide +kernel) rfl rfl
theorem oe_48_302 : okE 48 302 (8, 0, 0, 303) := oi_imul (by decide +kernel) rfl
theorem oe_48_303 : okE 48 303 (2, 3, 0, 304) := oi_iload_n (k := 3) (by decide +kernel) rfl rfl
theorem oe_48_304 : okE 48 304 (6, 0, 0, 305) := oi_iadd (by decide +kernel) rfl
theorem oe_48_305 : okE 48 305 (30, 0, 0, 306) := oi_iald (by decide +kernel) rfl
theorem oe_48_306 : okE 48 306 (70, 43, 2, 309) := oi_callV (i := 153) (by decide +kernel) rfl (by decide) (by decide) okm_43 (by decide) (by rfl) mw_845 mw_847 mw_40 mw_53 (by decide +kernel)
theorem oe_48_309 : okE 48 309 (81, 0, 0, 0) := oi_return (by decide +kernel) rfl
set_option maxRecDepth 20000 in
theorem ok_48 : ∀ pc e, k_48 pc = some e → okE 48 pc e := tn_ (tn_ (tn_ (tn_ (tn_ (tn_ (tn_ (tl_ (oe_48_0)) (tl_ (oe_48_1))) (tn_ (tl_ (oe_48_4)) (tn_ (tl_ (oe_48_5)) (tl_ (oe_48_6))))) (tn_ (tn_ (tl_ (oe_48_7)) (tn_ (tl_ (oe_48_9)) (tl_ (oe_48_10)))) (tn_ (tl_ (oe_48_13)) (tn_ (tl_ (oe_48_14)) (tl_ (oe_48_15)))))) (tn_ (tn_ (tn_ (tl_ (oe_48_16)) (tl_ (oe_48_17))) (tn_ (tl_ (oe_48_20)) (tn_ (tl_ (oe_48_21)) (tl_ (oe_48_22))))) (tn_ (tn_ (tl_ (oe_48_23)) (tn_ (tl_ (oe_48_24)) (tl_ (oe_48_25)))) (tn_ (tl_ (oe_48_28)) (tn_ (tl_ (oe_48_29)) (tl_ (oe_48_30))))))) (tn_ (tn_ (tn_ (tn_ (tl_ (oe_48_31)) (tl_ (oe_48_32))) (tn_ (tl_ (oe_48_35)) (tn_ (tl_ (oe_48_36)) (tl_ (oe_48_37))))) (tn_ (tn_ (tl_ (oe_48_39)) (tn_ (tl_ (oe_48_40)) (tl_ (oe_48_43)))) (tn_ (tl_ (oe_48_44)) (tn_ (tl_ (oe_48_45)) (tl_ (oe_48_96)))))) (tn_ (tn_ (tn_ (tl_ (oe_48_97)) (tl_ (oe_48_100))) (tn_ (tl_ (oe_48_101)) (tn_ (tl_ (oe_48_102)) (tl_ (oe_48_103))))) (tn_ (tn_ (tl_ (oe_48_104)) (tn_ (tl_ (oe_48_105)) (tl_ (oe_48_107)))) (tn_ (tl_ (oe_48_108)) (tn_ (tl_ (oe_48_109)) (tl_ (oe_48_112)))))))) (tn_ (tn_ (tn_ (tn_ (tn_ (tl_ (oe_48_113)) (tl_ (oe_48_114))) (tn_ (tl_ (oe_48_115)) (tn_ (tl_ (oe_48_116)) (tl_ (oe_48_117))))) (tn_ (tn_ (tl_ (oe_48_118)) (tn_ (tl_ (oe_48_121)) (tl_ (oe_48_122)))) (tn_ (tl_ (oe_48_125)) (tn_ (tl_ (oe_48_126)) (tl_ (oe_48_127)))))) (tn_ (tn_ (tn_ (tl_ (oe_48_128)) (tl_ (oe_48_129))) (tn_ (tl_ (oe_48_130)) (tn_ (tl_ (oe_48_131)) (tl_ (oe_48_134))))) (tn_ (tn_ (tl_ (oe_48_135)) (tn_ (tl_ (oe_48_136)) (tl_ (oe_48_137)))) (tn_ (tl_ (oe_48_138)) (tn_ (tl_ (oe_48_139)) (tl_ (oe_48_140))))))) (tn_ (tn_ (tn_ (tn_ (tl_ (oe_48_141)) (tl_ (oe_48_144))) (tn_ (tl_ (oe_48_145)) (tn_ (tl_ (oe_48_146)) (tl_ (oe_48_147))))) (tn_ (tn_ (tl_ (oe_48_149)) (tn_ (tl_ (oe_48_150)) (tl_ (oe_48_151)))) (tn_ (tl_ (oe_48_152)) (tn_ (tl_ (oe_48_153)) (tl_ (oe_48_154)))))) (tn_ (tn_ (tn_ (tl_ (oe_48_157)) (tn_ (tl_ (oe_48_158)) (tl_ (oe_48_159)))) (tn_ (tl_ (oe_48_160)) (tn_ (tl_ (oe_48_161)) (tl_ (oe_48_162))))) (tn_ (tn_ (tl_ (oe_48_163)) (tn_ (tl_ (oe_48_166)) (tl_ (oe_48_167)))) (tn_ (tl_ (oe_48_170)) (tn_ (tl_ (oe_48_171)) (tl_ (oe_48_172))))))))) (tn_ (tn_ (tn_ (tn_ (tn_ (tn_ (tl_ (oe_48_173)) (tl_ (oe_48_174))) (tn_ (tl_ (oe_48_175)) (tn_ (tl_ (oe_48_176)) (tl_ (oe_48_179))))) (tn_ (tn_ (tl_ (oe_48_180)) (tn_ (tl_ (oe_48_181)) (tl_ (oe_48_182)))) (tn_ (tl_ (oe_48_183)) (tn_ (tl_ (oe_48_184)) (tl_ (oe_48_185)))))) (tn_ (tn_ (tn_ (tl_ (oe_48_186)) (tl_ (oe_48_189))) (tn_ (tl_ (oe_48_190)) (tn_ (tl_ (oe_48_191)) (tl_ (oe_48_192))))) (tn_ (tn_ (tl_ (oe_48_194)) (tn_ (tl_ (oe_48_195)) (tl_ (oe_48_196)))) (tn_ (tl_ (oe_48_197)) (tn_ (tl_ (oe_48_198)) (tl_ (oe_48_199))))))) (tn_ (tn_ (tn_ (tn_ (tl_ (oe_48_202)) (tl_ (oe_48_203))) (tn_ (tl_ (oe_48_204)) (tn_ (tl_ (oe_48_205)) (tl_ (oe_48_206))))) (tn_ (tn_ (tl_ (oe_48_207)) (tn_ (tl_ (oe_48_208)) (tl_ (oe_48_211)))) (tn_ (tl_ (oe_48_212)) (tn_ (tl_ (oe_48_213)) (tl_ (oe_48_214)))))) (tn_ (tn_ (tn_ (tl_ (oe_48_216)) (tl_ (oe_48_219))) (tn_ (tl_ (oe_48_222)) (tn_ (tl_ (oe_48_223)) (tl_ (oe_48_226))))) (tn_ (tn_ (tl_ (oe_48_227)) (tn_ (tl_ (oe_48_228)) (tl_ (oe_48_229)))) (tn_ (tl_ (oe_48_232)) (tn_ (tl_ (oe_48_233)) (tl_ (oe_48_236)))))))) (tn_ (tn_ (tn_ (tn_ (tn_ (tl_ (oe_48_237)) (tl_ (oe_48_238))) (tn_ (tl_ (oe_48_241)) (tn_ (tl_ (oe_48_242)) (tl_ (oe_48_243))))) (tn_ (tn_ (tl_ (oe_48_244)) (tn_ (tl_ (oe_48_245)) (tl_ (oe_48_246)))) (tn_ (tl_ (oe_48_247)) (tn_ (tl_ (oe_48_250)) (tl_ (oe_48_252)))))) (tn_ (tn_ (tn_ (tl_ (oe_48_255)) (tl_ (oe_48_256))) (tn_ (tl_ (oe_48_259)) (tn_ (tl_ (oe_48_260)) (tl_ (oe_48_261))))) (tn_ (tn_ (tl_ (oe_48_262)) (tn_ (tl_ (oe_48_263)) (tl_ (oe_48_264)))) (tn_ (tl_ (oe_48_267)) (tn_ (tl_ (oe_48_268)) (tl_ (oe_48_269))))))) (tn_ (tn_ (tn_ (tn_ (tl_ (oe_48_270)) (tl_ (oe_48_272))) (tn_ (tl_ (oe_48_275)) (tn_ (tl_ (oe_48_278)) (tl_ (oe_48_279))))) (tn_ (tn_ (tl_ (oe_48_280)) (tn_ (tl_ (oe_48_283)) (tl_ (oe_48_286)))) (tn_ (tl_ (oe_48_287)) (tn_ (tl_ (oe_48_288)) (tl_ (oe_48_289)))))) (tn_ (tn_ (tn_ (tl_ (oe_48_292)) (tn_ (tl_ (oe_48_295)) (tl_ (oe_48_296)))) (tn_ (tl_ (oe_48_297)) (tn_ (tl_ (oe_48_300)) (tl_ (oe_48_301))))) (tn_ (tn_ (tl_ (oe_48_302)) (tn_ (tl_ (oe_48_303)) (tl_ (oe_48_304)))) (tn_ (tl_ (oe_48_305)) (tn_ (tl_ (oe_48_306)) (tl_ (oe_48_309)))))))))
set_option maxRecDepth 20000 in
theorem ok_49 : ∀ pc e, k_49 pc = some e → okE 49 pc e := tn_ (tn_ (tn_ (tn_ (tn_ (tn_ (tl_ (oi_aload_n (k := 0) (by decide +kernel) rfl rfl)) (tn_ (tl_ (oi_aload_n (k := 0) (by decide +kernel) rfl rfl)) (tl_ (oi_iload_n (k := 1) (by decide +kernel) rfl rfl)))) (tn_ (tl_ (oi_callV (i := 80) (by decide +kernel) rfl (by decide) (by decide) okm_19 (by decide) (by rfl) mw_753 mw_755 mw_26 mw_53 (by decide +kernel))) (tn_ (tl_ (oi_ifne (f := 7) (by decide +kernel) (by decide) rfl)) (tl_ (oi_iconst (n := 1) (by decide +kernel) (by decide +kernel) rfl))))) (tn_ (tn_ (tl_ (oi_goto (f := 19) (by decide +kernel) (by decide))) (tn_ (tl_ (oi_iload_n (k := 3) (by decide +kernel) rfl rfl)) (tl_ (oi_iflt (f := 10) (by decide +kernel) (by decide) rfl)))) (tn_ (tn_ (tl_ (oi_iload_n (k := 3) (by decide +kernel) rfl rfl)) (tl_ (oi_sipush (n := 3000) (by decide +kernel) (by decide +kernel) rfl))) (tn_ (tl_ (oi_if_icmple (f := 7) (by decide +kernel) (by decide) rfl)) (tl_ (oi_iconst (n := 2) (by decide +kernel) (by decide +kernel) rfl)))))) (tn_ (tn_ (tn_ (tl_ (oi_goto (f := 4) (by decide +kernel) (by decide))) (tn_ (tl_ (oi_iconst (n := 0) (by decide +kernel) (by decide +kernel) rfl)) (tl_ (oi_putfield (i := 66) (by decide +kernel) rfl ⟨_, _, _, rfl, by decide, mw_655, rfl, by decide +kernel⟩)))) (tn_ (tl_ (oi_aload_n (k := 0) (by decide +kernel) rfl rfl)) (tn_ (tl_ (oi_getfield (i := 66) (by decide +kernel) rfl ⟨_, _, _, rfl, by decide, mw_655⟩)) (tl_ (oi_ifle (f := 5) (by decide +kernel) (by decide) rfl))))) (tn_ (tn_ (tl_ (oi_iconst (n := 0) (by decide +kernel) (by decide +kernel) rfl)) (tn_ (tl_ (oi_ireturnI (by decide +kernel) rfl)) (tl_ (oi_aload_n (k := 0) (by decide +kernel) rfl rfl)))) (tn_ (tn_ (tl_ (oi_iconst (n := 0) (by decide +kernel) (by decide +kernel) rfl)) (tl_ (oi_putfield (i := 129) (by decide +kernel) rfl ⟨_, _, _, rfl, by decide, mw_670, rfl, by decide +kernel⟩))) (tn_ (tl_ (oi_aload_n (k := 0) (by decide +kernel) rfl rfl)) (tl_ (oi_iconst (n := 0) (by decide +kernel) (by decide +kernel) rfl))))))) (tn_ (tn_ (tn_ (tn_ (tl_ (oi_putfield (i := 156) (by decide +kernel) rfl ⟨_, _, _, rfl, by decide, mw_675, rfl, by decide +kernel⟩)) (tn_ (tl_ (oi_aload_n (k := 0) (by decide +kernel) rfl rfl)) (tl_ (oi_m1 (by decide +kernel) rfl)))) (tn_ (tl_ (oi_putfield (i := 63) (by decide +kernel) rfl ⟨_, _, _, rfl, by decide, mw_676, rfl, by decide +kernel⟩)) (tn_ (tl_ (oi_aload_n (k := 0) (by decide +kernel) rfl rfl)) (tl_ (oi_iconst (n := 0) (by decide +kernel) (by decide +kernel) rfl))))) (tn_ (tn_ (tl_ (oi_putfield (i := 132) (by decide +kernel) rfl ⟨_, _, _, rfl, by decide, mw_677, rfl, by decide +kernel⟩)) (tn_ (tl_ (oi_aload_n (k := 0) (by decide +kernel) rfl rfl)) (tl_ (oi_iload_n (k := 1) (by decide +kernel) rfl rfl)))) (tn_ (tn_ (tl_ (oi_iload_n (k := 2) (by decide +kernel) rfl rfl)) (tl_ (oi_callV (i := 139) (by decide +kernel) rfl (by decide) (by decide) okm_42 (by decide) (by rfl) mw_841 mw_843 mw_39 mw_53 (by decide +kernel)))) (tn_ (tl_ (oi_iconst (n := 0) (by decide +kernel) (by decide +kernel) rfl)) (tl_ (oi_istore (by decide) (by decide +kernel) rfl)))))) (tn_ (tn_ (tn_ (tl_ (oi_aload_n (k := 0) (by decide +kernel) rfl rfl)) (tn_ (tl_ (oi_getfield (i := 129) (by decide +kernel) rfl ⟨_, _, _, rfl, by decide, mw_670⟩)) (tl_ (oi_ifle (f := 85) (by decide +kernel) (by decide) rfl)))) (tn_ (tn_ (tl_ (oi_iload (by decide +kernel) rfl)) (tl_ (oi_ifne (f := 80) (by decide +kernel) (by decide) rfl))) (tn_ (tl_ (oi_aload_n (k := 0) (by decide +kernel) rfl rfl)) (tl_ (oi_getfield (i := 129) (by decide +kernel) rfl ⟨_, _, _, rfl, by decide, mw_670⟩))))) (tn_ (tn_ (tl_ (oi_iconst (n := 1) (by decide +kernel) (by decide +kernel) rfl)) (tn_ (tl_ (oi_isub (by decide +kernel) rfl)) (tl_ (oi_istore (by decide) (by decide +kernel) rfl)))) (tn_ (tn_ (tl_ (oi_aload_n (k := 0) (by decide +kernel) rfl rfl)) (tl_ (oi_getfield (i := 54) (by decide +kernel) rfl ⟨_, _, _, rfl, by decide, mw_672⟩))) (tn_ (tl_ (oi_iload (by decide +kernel) rfl)) (tl_ (oi_iald (by decide +kernel) rfl)))))))) (tn_ (tn_ (tn_ (tn_ (tn_ (tl_ (oi_aload_n (k := 0) (by decide +kernel) rfl rfl)) (tn_ (tl_ (oi_getfield (i := 17) (by decide +kernel) rfl ⟨_, _, _, rfl, by decide, mw_659⟩)) (tl_ (oi_aload_n (k := 0) (by decide +kernel) rfl rfl)))) (tn_ (tl_ (oi_getfield (i := 51) (by decide +kernel) rfl ⟨_, _, _, rfl, by decide, mw_671⟩)) (tn_ (tl_ (oi_iload (by decide +kernel) rfl)) (tl_ (oi_iald (by decide +kernel) rfl))))) (tn_ (tn_ (tl_ (oi_iald (by decide +kernel) rfl)) (tn_ (tl_ (oi_if_icmplt (f := 19) (by decide +kernel) (by decide) rfl)) (tl_ (oi_aload_n (k := 0) (by decide +kernel) rfl rfl)))) (tn_ (tn_ (tl_ (oi_aload_n (k := 0) (by decide +kernel) rfl rfl)) (tl_ (oi_getfield (i := 57) (by decide +kernel) rfl ⟨_, _, _, rfl, by decide, mw_673⟩))) (tn_ (tl_ (oi_iconst (n := 4) (by decide +kernel) (by decide +kernel) rfl)) (tl_ (oi_iload (by decide +kernel) rfl)))))) (tn_ (tn_ (tn_ (tl_ (oi_imul (by decide +kernel) rfl)) (tn_ (tl_ (oi_iald (by decide +kernel) rfl)) (tl_ (oi_callV (i := 153) (by decide +kernel) rfl (by decide) (by decide) okm_43 (by decide) (by rfl) mw_845 mw_847 mw_40 mw_53 (by decide +kernel))))) (tn_ (tl_ (oi_goto (f := 31) (by decide +kernel) (by decide))) (tn_ (tl_ (oi_aload_n (k := 0) (by decide +kernel) rfl rfl)) (tl_ (oi_getfield (i := 156) (by decide +kernel) rfl ⟨_, _, _, rfl, by decide, mw_675⟩))))) (tn_ (tn_ (tl_ (oi_iload_n (k := 3) (by decide +kernel) rfl rfl)) (tn_ (tl_ (oi_if_icmpne (f := 9) (by decide +kernel) (by decide) rfl)) (tl_ (oi_iconst (n := 1) (by decide +kernel) (by decide +kernel) rfl)))) (tn_ (tn_ (tl_ (oi_istore (by decide) (by decide +kernel) rfl)) (tl_ (oi_goto (f := 17) (by decide +kernel) (by decide)))) (tn_ (tl_ (oi_aload_n (k := 0) (by decide +kernel) rfl rfl)) (tl_ (oi_dup (by decide +kernel) rfl))))))) (tn_ (tn_ (tn_ (tn_ (tl_ (oi_getfield (i := 156) (by decide +kernel) rfl ⟨_, _, _, rfl, by decide, mw_675⟩)) (tn_ (tl_ (oi_iconst (n := 1) (by decide +kernel) (by decide +kernel) rfl)) (tl_ (oi_iadd (by decide +kernel) rfl)))) (tn_ (tl_ (oi_putfield (i := 156) (by decide +kernel) rfl ⟨_, _, _, rfl, by decide, mw_675, rfl, by decide +kernel⟩)) (tn_ (tl_ (oi_aload_n (k := 0) (by decide +kernel) rfl rfl)) (tl_ (oi_callV (i := 159) (by decide +kernel) rfl (by decide) (by decide) okm_48 (by decide) (by rfl) mw_849 mw_851 mw_41 mw_53 (by decide +kernel)))))) (tn_ (tn_ (tl_ (oi_goto (f := -86) (by decide +kernel) (by decide))) (tn_ (tl_ (oi_aload_n (k := 0) (by decide +kernel) rfl rfl)) (tl_ (oi_iload (by decide +kernel) rfl)))) (tn_ (tn_ (tl_ (oi_ifeq (f := 7) (by decide +kernel) (by decide) rfl)) (tl_ (oi_iconst (n := 3) (by decide +kernel) (by decide +kernel) rfl))) (tn_ (tl_ (oi_goto (f := 15) (by decide +kernel) (by decide))) (tl_ (oi_aload_n (k := 0) (by decide +kernel) rfl rfl)))))) (tn_ (tn_ (tn_ (tl_ (oi_getfield (i := 63) (by decide +kernel) rfl ⟨_, _, _, rfl, by decide, mw_676⟩)) (tn_ (tl_ (oi_iflt (f := 7) (by decide +kernel) (by decide) rfl)) (tl_ (oi_iconst (n := 4) (by decide +kernel) (by decide +kernel) rfl)))) (tn_ (tn_ (tl_ (oi_goto (f := 4) (by decide +kernel) (by decide))) (tl_ (oi_iconst (n := 0) (by decide +kernel) (by decide +kernel) rfl))) (tn_ (tl_ (oi_putfield (i := 66) (by decide +kernel) rfl ⟨_, _, _, rfl, by decide, mw_655, rfl, by decide +kernel⟩)) (tl_ (oi_aload_n (k := 0) (by decide +kernel) rfl rfl))))) (tn_ (tn_ (tl_ (oi_getfield (i := 66) (by decide +kernel) rfl ⟨_, _, _, rfl, by decide, mw_655⟩)) (tn_ (tl_ (oi_ifle (f := 7) (by decide +kernel) (by decide) rfl)) (tl_ (oi_iconst (n := 0) (by decide +kernel) (by decide +kernel) rfl)))) (tn_ (tn_ (tl_ (oi_goto (f := 7) (by decide +kernel) (by decide))) (tl_ (oi_aload_n (k := 0) (by decide +kernel) rfl rfl))) (tn_ (tl_ (oi_getfield (i := 132) (by decide +kernel) rfl ⟨_, _, _, rfl, by decide, mw_677⟩)) (tl_ (oi_ireturnI (by decide +kernel) rfl))))))))
