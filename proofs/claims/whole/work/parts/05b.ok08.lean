set_option maxRecDepth 20000 in
theorem ok_96 : ∀ pc e, k_96 pc = some e → okE 96 pc e := tn_ (tn_ (tn_ (tl_ (oi_aload_n (k := 0) (by decide +kernel) rfl rfl)) (tl_ (oi_getfield (i := 25) (by decide +kernel) rfl ⟨_, _, _, rfl, by decide, mw_145⟩))) (tn_ (tl_ (oi_bipush (n := 8) (by decide +kernel) (by decide +kernel) rfl)) (tl_ (oi_if_icmplt (f := 7) (by decide +kernel) (by decide) rfl)))) (tn_ (tn_ (tl_ (oi_iconst (n := 1) (by decide +kernel) (by decide +kernel) rfl)) (tl_ (oi_goto (f := 4) (by decide +kernel) (by decide)))) (tn_ (tl_ (oi_iconst (n := 0) (by decide +kernel) (by decide +kernel) rfl)) (tl_ (oi_ireturnZ (by decide +kernel) rfl))))
set_option maxRecDepth 20000 in
theorem ok_97 : ∀ pc e, k_97 pc = some e → okE 97 pc e := tn_ (tn_ (tn_ (tl_ (oi_aload_n (k := 0) (by decide +kernel) rfl rfl)) (tl_ (oi_getfield (i := 25) (by decide +kernel) rfl ⟨_, _, _, rfl, by decide, mw_145⟩))) (tn_ (tl_ (oi_istore_n (k := 1) (by decide) (by decide +kernel) rfl rfl)) (tn_ (tl_ (oi_aload_n (k := 0) (by decide +kernel) rfl rfl)) (tl_ (oi_dup (by decide +kernel) rfl))))) (tn_ (tn_ (tl_ (oi_getfield (i := 25) (by decide +kernel) rfl ⟨_, _, _, rfl, by decide, mw_145⟩)) (tn_ (tl_ (oi_iconst (n := 1) (by decide +kernel) (by decide +kernel) rfl)) (tl_ (oi_iadd (by decide +kernel) rfl)))) (tn_ (tl_ (oi_putfield (i := 25) (by decide +kernel) rfl ⟨_, _, _, rfl, by decide, mw_145, rfl, by decide +kernel⟩)) (tn_ (tl_ (oi_iload_n (k := 1) (by decide +kernel) rfl rfl)) (tl_ (oi_ireturnI (by decide +kernel) rfl)))))
set_option maxRecDepth 20000 in
theorem ok_98 : ∀ pc e, k_98 pc = some e → okE 98 pc e := tn_ (tn_ (tn_ (tl_ (oi_iload_n (k := 1) (by decide +kernel) rfl rfl)) (tl_ (oi_iflt (f := 15) (by decide +kernel) (by decide) rfl))) (tn_ (tl_ (oi_iload_n (k := 1) (by decide +kernel) rfl rfl)) (tn_ (tl_ (oi_aload_n (k := 0) (by decide +kernel) rfl rfl)) (tl_ (oi_getfield (i := 25) (by decide +kernel) rfl ⟨_, _, _, rfl, by decide, mw_145⟩))))) (tn_ (tn_ (tl_ (oi_if_icmpge (f := 7) (by decide +kernel) (by decide) rfl)) (tl_ (oi_iconst (n := 1) (by decide +kernel) (by decide +kernel) rfl))) (tn_ (tl_ (oi_goto (f := 4) (by decide +kernel) (by decide))) (tn_ (tl_ (oi_iconst (n := 0) (by decide +kernel) (by decide +kernel) rfl)) (tl_ (oi_ireturnZ (by decide +kernel) rfl)))))
set_option maxRecDepth 20000 in
theorem ok_99 : ∀ pc e, k_99 pc = some e → okE 99 pc e := tn_ (tn_ (tn_ (tn_ (tl_ (oi_aload_n (k := 0) (by decide +kernel) rfl rfl)) (tl_ (oi_iload_n (k := 1) (by decide +kernel) rfl rfl))) (tn_ (tl_ (oi_callV (i := 29) (by decide +kernel) rfl (by decide) (by decide) okm_98 (by decide) (by rfl) mw_327 mw_311 mw_312 mw_48 (by decide +kernel))) (tl_ (oi_ifeq (f := 24) (by decide +kernel) (by decide) rfl)))) (tn_ (tn_ (tl_ (oi_iload_n (k := 2) (by decide +kernel) rfl rfl)) (tl_ (oi_iflt (f := 20) (by decide +kernel) (by decide) rfl))) (tn_ (tl_ (oi_iload_n (k := 2) (by decide +kernel) rfl rfl)) (tl_ (oi_aload_n (k := 0) (by decide +kernel) rfl rfl))))) (tn_ (tn_ (tn_ (tl_ (oi_getfield (i := 20) (by decide +kernel) rfl ⟨_, _, _, rfl, by decide, mw_141⟩)) (tl_ (oi_iload_n (k := 1) (by decide +kernel) rfl rfl))) (tn_ (tl_ (oi_aald (by decide +kernel) rfl)) (tl_ (oi_getfield (i := 33) (by decide +kernel) rfl ⟨_, _, _, rfl, by decide, mw_108⟩)))) (tn_ (tn_ (tl_ (oi_if_icmpge (f := 7) (by decide +kernel) (by decide) rfl)) (tl_ (oi_iconst (n := 1) (by decide +kernel) (by decide +kernel) rfl))) (tn_ (tl_ (oi_goto (f := 4) (by decide +kernel) (by decide))) (tn_ (tl_ (oi_iconst (n := 0) (by decide +kernel) (by decide +kernel) rfl)) (tl_ (oi_ireturnZ (by decide +kernel) rfl))))))
set_option maxRecDepth 20000 in
theorem ok_100 : ∀ pc e, k_100 pc = some e → okE 100 pc e := tn_ (tn_ (tn_ (tn_ (tl_ (oi_aload_n (k := 0) (by decide +kernel) rfl rfl)) (tl_ (oi_iload_n (k := 1) (by decide +kernel) rfl rfl))) (tn_ (tl_ (oi_callV (i := 29) (by decide +kernel) rfl (by decide) (by decide) okm_98 (by decide) (by rfl) mw_327 mw_311 mw_312 mw_48 (by decide +kernel))) (tl_ (oi_ifeq (f := 24) (by decide +kernel) (by decide) rfl)))) (tn_ (tn_ (tl_ (oi_iload_n (k := 2) (by decide +kernel) rfl rfl)) (tl_ (oi_iflt (f := 20) (by decide +kernel) (by decide) rfl))) (tn_ (tl_ (oi_iload_n (k := 2) (by decide +kernel) rfl rfl)) (tl_ (oi_aload_n (k := 0) (by decide +kernel) rfl rfl))))) (tn_ (tn_ (tn_ (tl_ (oi_getfield (i := 20) (by decide +kernel) rfl ⟨_, _, _, rfl, by decide, mw_141⟩)) (tl_ (oi_iload_n (k := 1) (by decide +kernel) rfl rfl))) (tn_ (tl_ (oi_aald (by decide +kernel) rfl)) (tl_ (oi_getfield (i := 36) (by decide +kernel) rfl ⟨_, _, _, rfl, by decide, mw_117⟩)))) (tn_ (tn_ (tl_ (oi_if_icmpge (f := 7) (by decide +kernel) (by decide) rfl)) (tl_ (oi_iconst (n := 1) (by decide +kernel) (by decide +kernel) rfl))) (tn_ (tl_ (oi_goto (f := 4) (by decide +kernel) (by decide))) (tn_ (tl_ (oi_iconst (n := 0) (by decide +kernel) (by decide +kernel) rfl)) (tl_ (oi_ireturnZ (by decide +kernel) rfl))))))
set_option maxRecDepth 20000 in
theorem ok_101 : ∀ pc e, k_101 pc = some e → okE 101 pc e := tn_ (tn_ (tn_ (tn_ (tn_ (tl_ (oi_iload_n (k := 1) (by decide +kernel) rfl rfl)) (tn_ (tl_ (sw_ok5)) (tl_ (oi_iload_n (k := 2) (by decide +kernel) rfl rfl)))) (tn_ (tn_ (tl_ (oi_callS (i := 39) (by decide +kernel) rfl (by decide) (by decide) okm_103 mw_511 mw_512 mw_48 (by decide +kernel))) (tl_ (oi_ireturnZ (by decide +kernel) rfl))) (tn_ (tl_ (oi_iload_n (k := 2) (by decide +kernel) rfl rfl)) (tl_ (oi_callS (i := 39) (by decide +kernel) rfl (by decide) (by decide) okm_103 mw_511 mw_512 mw_48 (by decide +kernel)))))) (tn_ (tn_ (tl_ (oi_ifeq (f := 14) (by decide +kernel) (by decide) rfl)) (tn_ (tl_ (oi_iload_n (k := 3) (by decide +kernel) rfl rfl)) (tl_ (oi_callS (i := 39) (by decide +kernel) rfl (by decide) (by decide) okm_103 mw_511 mw_512 mw_48 (by decide +kernel))))) (tn_ (tn_ (tl_ (oi_ifeq (f := 7) (by decide +kernel) (by decide) rfl)) (tl_ (oi_iconst (n := 1) (by decide +kernel) (by decide +kernel) rfl))) (tn_ (tl_ (oi_goto (f := 4) (by decide +kernel) (by decide))) (tl_ (oi_iconst (n := 0) (by decide +kernel) (by decide +kernel) rfl)))))) (tn_ (tn_ (tn_ (tl_ (oi_ireturnZ (by decide +kernel) rfl)) (tn_ (tl_ (oi_iload_n (k := 2) (by decide +kernel) rfl rfl)) (tl_ (oi_callS (i := 42) (by decide +kernel) rfl (by decide) (by decide) okm_104 mw_514 mw_515 mw_48 (by decide +kernel))))) (tn_ (tn_ (tl_ (oi_ireturnZ (by decide +kernel) rfl)) (tl_ (oi_iload_n (k := 2) (by decide +kernel) rfl rfl))) (tn_ (tl_ (oi_callS (i := 39) (by decide +kernel) rfl (by decide) (by decide) okm_103 mw_511 mw_512 mw_48 (by decide +kernel))) (tl_ (oi_ifeq (f := 14) (by decide +kernel) (by decide) rfl))))) (tn_ (tn_ (tl_ (oi_iload_n (k := 3) (by decide +kernel) rfl rfl)) (tn_ (tl_ (oi_callS (i := 42) (by decide +kernel) rfl (by decide) (by decide) okm_104 mw_514 mw_515 mw_48 (by decide +kernel))) (tl_ (oi_ifeq (f := 7) (by decide +kernel) (by decide) rfl)))) (tn_ (tn_ (tl_ (oi_iconst (n := 1) (by decide +kernel) (by decide +kernel) rfl)) (tl_ (oi_goto (f := 4) (by decide +kernel) (by decide)))) (tn_ (tl_ (oi_iconst (n := 0) (by decide +kernel) (by decide +kernel) rfl)) (tl_ (oi_ireturnZ (by decide +kernel) rfl))))))) (tn_ (tn_ (tn_ (tn_ (tl_ (oi_iload_n (k := 2) (by decide +kernel) rfl rfl)) (tn_ (tl_ (oi_callS (i := 39) (by decide +kernel) rfl (by decide) (by decide) okm_103 mw_511 mw_512 mw_48 (by decide +kernel))) (tl_ (oi_ifeq (f := 17) (by decide +kernel) (by decide) rfl)))) (tn_ (tn_ (tl_ (oi_iload_n (k := 3) (by decide +kernel) rfl rfl)) (tl_ (oi_iflt (f := 13) (by decide +kernel) (by decide) rfl))) (tn_ (tl_ (oi_iload_n (k := 3) (by decide +kernel) rfl rfl)) (tl_ (oi_bipush (n := 8) (by decide +kernel) (by decide +kernel) rfl))))) (tn_ (tn_ (tl_ (oi_if_icmpge (f := 7) (by decide +kernel) (by decide) rfl)) (tn_ (tl_ (oi_iconst (n := 1) (by decide +kernel) (by decide +kernel) rfl)) (tl_ (oi_goto (f := 4) (by decide +kernel) (by decide))))) (tn_ (tn_ (tl_ (oi_iconst (n := 0) (by decide +kernel) (by decide +kernel) rfl)) (tl_ (oi_ireturnZ (by decide +kernel) rfl))) (tn_ (tl_ (oi_aload_n (k := 0) (by decide +kernel) rfl rfl)) (tl_ (oi_getfield (i := 12) (by decide +kernel) rfl ⟨_, _, _, rfl, by decide, mw_137⟩)))))) (tn_ (tn_ (tn_ (tl_ (oi_iload_n (k := 2) (by decide +kernel) rfl rfl)) (tn_ (tl_ (oi_callV (i := 45) (by decide +kernel) rfl (by decide) (by decide) okm_76 (by decide) (by rfl) mw_517 mw_234 mw_235 mw_49 (by decide +kernel))) (tl_ (oi_ireturnZ (by decide +kernel) rfl)))) (tn_ (tn_ (tl_ (oi_iload_n (k := 2) (by decide +kernel) rfl rfl)) (tl_ (oi_iflt (f := 12) (by decide +kernel) (by decide) rfl))) (tn_ (tl_ (oi_iload_n (k := 2) (by decide +kernel) rfl rfl)) (tl_ (oi_iconst (n := 4) (by decide +kernel) (by decide +kernel) rfl))))) (tn_ (tn_ (tl_ (oi_if_icmpge (f := 7) (by decide +kernel) (by decide) rfl)) (tn_ (tl_ (oi_iconst (n := 1) (by decide +kernel) (by decide +kernel) rfl)) (tl_ (oi_goto (f := 4) (by decide +kernel) (by decide))))) (tn_ (tn_ (tl_ (oi_iconst (n := 0) (by decide +kernel) (by decide +kernel) rfl)) (tl_ (oi_ireturnZ (by decide +kernel) rfl))) (tn_ (tl_ (oi_iconst (n := 0) (by decide +kernel) (by decide +kernel) rfl)) (tl_ (oi_ireturnZ (by decide +kernel) rfl)))))))
set_option maxRecDepth 20000 in
theorem ok_102 : ∀ pc e, k_102 pc = some e → okE 102 pc e := tn_ (tn_ (tn_ (tn_ (tl_ (oi_iload_n (k := 1) (by decide +kernel) rfl rfl)) (tl_ (oi_callS (i := 42) (by decide +kernel) rfl (by decide) (by decide) okm_104 mw_514 mw_515 mw_48 (by decide +kernel)))) (tn_ (tl_ (oi_ifeq (f := 38) (by decide +kernel) (by decide) rfl)) (tn_ (tl_ (oi_iload_n (k := 2) (by decide +kernel) rfl rfl)) (tl_ (oi_callS (i := 42) (by decide +kernel) rfl (by decide) (by decide) okm_104 mw_514 mw_515 mw_48 (by decide +kernel)))))) (tn_ (tn_ (tl_ (oi_ifeq (f := 31) (by decide +kernel) (by decide) rfl)) (tl_ (oi_iload_n (k := 1) (by decide +kernel) rfl rfl))) (tn_ (tl_ (oi_iload_n (k := 2) (by decide +kernel) rfl rfl)) (tn_ (tl_ (oi_if_icmpgt (f := 26) (by decide +kernel) (by decide) rfl)) (tl_ (oi_aload_n (k := 0) (by decide +kernel) rfl rfl)))))) (tn_ (tn_ (tn_ (tl_ (oi_getfield (i := 12) (by decide +kernel) rfl ⟨_, _, _, rfl, by decide, mw_137⟩)) (tl_ (oi_iload_n (k := 3) (by decide +kernel) rfl rfl))) (tn_ (tl_ (oi_callV (i := 45) (by decide +kernel) rfl (by decide) (by decide) okm_76 (by decide) (by rfl) mw_517 mw_234 mw_235 mw_49 (by decide +kernel))) (tn_ (tl_ (oi_ifeq (f := 15) (by decide +kernel) (by decide) rfl)) (tl_ (oi_iload (by decide +kernel) rfl))))) (tn_ (tn_ (tl_ (oi_callS (i := 42) (by decide +kernel) rfl (by decide) (by decide) okm_104 mw_514 mw_515 mw_48 (by decide +kernel))) (tn_ (tl_ (oi_ifeq (f := 7) (by decide +kernel) (by decide) rfl)) (tl_ (oi_iconst (n := 1) (by decide +kernel) (by decide +kernel) rfl)))) (tn_ (tl_ (oi_goto (f := 4) (by decide +kernel) (by decide))) (tn_ (tl_ (oi_iconst (n := 0) (by decide +kernel) (by decide +kernel) rfl)) (tl_ (oi_ireturnZ (by decide +kernel) rfl))))))
set_option maxRecDepth 20000 in
theorem ok_103 : ∀ pc e, k_103 pc = some e → okE 103 pc e := tn_ (tn_ (tn_ (tl_ (oi_iload_n (k := 0) (by decide +kernel) rfl rfl)) (tl_ (oi_iflt (f := 12) (by decide +kernel) (by decide) rfl))) (tn_ (tl_ (oi_iload_n (k := 0) (by decide +kernel) rfl rfl)) (tl_ (oi_iconst (n := 4) (by decide +kernel) (by decide +kernel) rfl)))) (tn_ (tn_ (tl_ (oi_if_icmpge (f := 7) (by decide +kernel) (by decide) rfl)) (tl_ (oi_iconst (n := 1) (by decide +kernel) (by decide +kernel) rfl))) (tn_ (tl_ (oi_goto (f := 4) (by decide +kernel) (by decide))) (tn_ (tl_ (oi_iconst (n := 0) (by decide +kernel) (by decide +kernel) rfl)) (tl_ (oi_ireturnZ (by decide +kernel) rfl)))))
set_option maxRecDepth 20000 in
theorem ok_104 : ∀ pc e, k_104 pc = some e → okE 104 pc e := tn_ (tn_ (tn_ (tl_ (oi_iload_n (k := 0) (by decide +kernel) rfl rfl)) (tl_ (oi_iflt (f := 13) (by decide +kernel) (by decide) rfl))) (tn_ (tl_ (oi_iload_n (k := 0) (by decide +kernel) rfl rfl)) (tl_ (oi_bipush (n := 24) (by decide +kernel) (by decide +kernel) rfl)))) (tn_ (tn_ (tl_ (oi_if_icmpge (f := 7) (by decide +kernel) (by decide) rfl)) (tl_ (oi_iconst (n := 1) (by decide +kernel) (by decide +kernel) rfl))) (tn_ (tl_ (oi_goto (f := 4) (by decide +kernel) (by decide))) (tn_ (tl_ (oi_iconst (n := 0) (by decide +kernel) (by decide +kernel) rfl)) (tl_ (oi_ireturnZ (by decide +kernel) rfl)))))
theorem oe_105_20 : okE 105 20 (0, 0, 0, 21) := oi_iconst (n := 0) (by decide +kernel) (by decide +kernel) rfl
theorem oe_105_21 : okE 105 21 (4, 4, 0, 23) := oi_istore (by decide) (by decide +kernel) rfl
theorem oe_105_23 : okE 105 23 (2, 4, 0, 25) := oi_iload (by decide +kernel) rfl
theorem oe_105_25 : okE 105 25 (3, 0, 0, 26) := oi_aload_n (k := 0) (by decide +kernel) rfl rfl
theorem oe_105_26 : okE 105 26 (24, 0, 0, 27) := oi_alenS (by decide +kernel) rfl rfl
theorem oe_105_27 : okE 105 27 (0, 6, 0, 29) := oi_bipush (n := 6) (by decide +kernel) (by decide +kernel) rfl
theorem oe_105_29 : okE 105 29 (7, 0, 0, 30) := oi_isub (by decide +kernel) rfl
theorem oe_105_30 : okE 105 30 (60, 815, 0, 33) := oi_if_icmpgt (f := 785) (by decide +kernel) (by decide) rfl
theorem oe_105_33 : okE 105 33 (3, 0, 0, 34) := oi_aload_n (k := 0) (by decide +kernel) rfl rfl
theorem oe_105_34 : okE 105 34 (2, 4, 0, 36) := oi_iload (by decide +kernel) rfl
theorem oe_105_36 : okE 105 36 (37, 0, 0, 37) := oi_ialdS (by decide +kernel) rfl rfl
theorem oe_105_37 : okE 105 37 (0, 15, 0, 39) := oi_bipush (n := 15) (by decide +kernel) (by decide +kernel) rfl
theorem oe_105_39 : okE 105 39 (10, 0, 0, 40) := oi_iand (by decide +kernel) rfl
theorem oe_105_40 : okE 105 40 (62, 6, 809, 0) := sw_ok6
theorem oe_105_112 : okE 105 112 (3, 1, 0, 113) := oi_aload_n (k := 1) (by decide +kernel) rfl rfl
theorem oe_105_113 : okE 105 113 (3, 0, 0, 114) := oi_aload_n (k := 0) (by decide +kernel) rfl rfl
theorem oe_105_114 : okE 105 114 (2, 4, 0, 116) := oi_iload (by decide +kernel) rfl
theorem oe_105_116 : okE 105 116 (0, 1, 0, 117) := oi_iconst (n := 1) (by decide +kernel) (by decide +kernel) rfl
theorem oe_105_117 : okE 105 117 (6, 0, 0, 118) := oi_iadd (by decide +kernel) rfl
theorem oe_105_118 : okE 105 118 (37, 0, 0, 119) := oi_ialdS (by decide +kernel) rfl rfl
theorem oe_105_119 : okE 105 119 (3, 3, 0, 120) := oi_aload_n (k := 3) (by decide +kernel) rfl rfl
theorem oe_105_120 : okE 105 120 (91, 0, 0, 123) := trivial
theorem oe_105_123 : okE 105 123 (4, 5, 0, 125) := oi_istore (by decide) (by decide +kernel) rfl
theorem oe_105_125 : okE 105 125 (3, 2, 0, 126) := oi_aload_n (k := 2) (by decide +kernel) rfl rfl
theorem oe_105_126 : okE 105 126 (3, 0, 0, 127) := oi_aload_n (k := 0) (by decide +kernel) rfl rfl
theorem oe_105_127 : okE 105 127 (2, 4, 0, 129) := oi_iload (by decide +kernel) rfl
theorem oe_105_129 : okE 105 129 (0, 1, 0, 130) := oi_iconst (n := 1) (by decide +kernel) (by decide +kernel) rfl
theorem oe_105_130 : okE 105 130 (6, 0, 0, 131) := oi_iadd (by decide +kernel) rfl
theorem oe_105_131 : okE 105 131 (37, 0, 0, 132) := oi_ialdS (by decide +kernel) rfl rfl
theorem oe_105_132 : okE 105 132 (70, 17, 2, 135) := oi_callV (i := 45) (by decide +kernel) rfl (by decide) (by decide) okm_17 (by decide) (by rfl) mw_729 mw_730 mw_731 mw_53 (by decide +kernel)
theorem oe_105_135 : okE 105 135 (4, 6, 0, 137) := oi_istore (by decide) (by decide +kernel) rfl
theorem oe_105_137 : okE 105 137 (3, 2, 0, 138) := oi_aload_n (k := 2) (by decide +kernel) rfl rfl
theorem oe_105_138 : okE 105 138 (70, 14, 1, 141) := oi_callV (i := 46) (by decide +kernel) rfl (by decide) (by decide) okm_14 (by decide) (by rfl) mw_725 mw_726 mw_727 mw_53 (by decide +kernel)
theorem oe_105_141 : okE 105 141 (2, 5, 0, 143) := oi_iload (by decide +kernel) rfl
theorem oe_105_143 : okE 105 143 (56, 148, 0, 146) := oi_if_icmpeq (f := 5) (by decide +kernel) (by decide) rfl
theorem oe_105_146 : okE 105 146 (0, 0, 0, 147) := oi_iconst (n := 0) (by decide +kernel) (by decide +kernel) rfl
theorem oe_105_147 : okE 105 147 (80, 2, 0, 0) := oi_ireturnZ (by decide +kernel) rfl
theorem oe_105_148 : okE 105 148 (2, 5, 0, 150) := oi_iload (by decide +kernel) rfl
theorem oe_105_150 : okE 105 150 (51, 165, 0, 153) := oi_ifne (f := 15) (by decide +kernel) (by decide) rfl
theorem oe_105_153 : okE 105 153 (3, 3, 0, 154) := oi_aload_n (k := 3) (by decide +kernel) rfl rfl
theorem oe_105_154 : okE 105 154 (0, 0, 0, 155) := oi_iconst (n := 0) (by decide +kernel) (by decide +kernel) rfl
theorem oe_105_155 : okE 105 155 (35, 0, 0, 156) := oi_lald (by decide +kernel) rfl
theorem oe_105_156 : okE 105 156 (2, 6, 0, 158) := oi_iload (by decide +kernel) rfl
theorem oe_105_158 : okE 105 158 (21, 0, 0, 159) := oi_i2l (by decide +kernel) rfl
theorem oe_105_159 : okE 105 159 (22, 0, 0, 160) := oi_lcmp (by decide +kernel) rfl
theorem oe_105_160 : okE 105 160 (50, 165, 0, 163) := oi_ifeq (f := 5) (by decide +kernel) (by decide) rfl
theorem oe_105_163 : okE 105 163 (0, 0, 0, 164) := oi_iconst (n := 0) (by decide +kernel) (by decide +kernel) rfl
theorem oe_105_164 : okE 105 164 (80, 2, 0, 0) := oi_ireturnZ (by decide +kernel) rfl
theorem oe_105_165 : okE 105 165 (18, 0, 0, 809) := oi_goto (f := 644) (by decide +kernel) (by decide)
theorem oe_105_168 : okE 105 168 (3, 1, 0, 169) := oi_aload_n (k := 1) (by decide +kernel) rfl rfl
theorem oe_105_169 : okE 105 169 (3, 0, 0, 170) := oi_aload_n (k := 0) (by decide +kernel) rfl rfl
theorem oe_105_170 : okE 105 170 (2, 4, 0, 172) := oi_iload (by decide +kernel) rfl
theorem oe_105_172 : okE 105 172 (0, 1, 0, 173) := oi_iconst (n := 1) (by decide +kernel) (by decide +kernel) rfl
theorem oe_105_173 : okE 105 173 (6, 0, 0, 174) := oi_iadd (by decide +kernel) rfl
theorem oe_105_174 : okE 105 174 (37, 0, 0, 175) := oi_ialdS (by decide +kernel) rfl rfl
theorem oe_105_175 : okE 105 175 (3, 0, 0, 176) := oi_aload_n (k := 0) (by decide +kernel) rfl rfl
theorem oe_105_176 : okE 105 176 (2, 4, 0, 178) := oi_iload (by decide +kernel) rfl
theorem oe_105_178 : okE 105 178 (0, 2, 0, 179) := oi_iconst (n := 2) (by decide +kernel) (by decide +kernel) rfl
theorem oe_105_179 : okE 105 179 (6, 0, 0, 180) := oi_iadd (by decide +kernel) rfl
theorem oe_105_180 : okE 105 180 (37, 0, 0, 181) := oi_ialdS (by decide +kernel) rfl rfl
theorem oe_105_181 : okE 105 181 (70, 1, 3, 184) := oi_callV (i := 50) (by decide +kernel) rfl (by decide) (by decide) okm_1 (by decide) (by rfl) mw_229 mw_230 mw_231 mw_47 (by decide +kernel)
theorem oe_105_184 : okE 105 184 (3, 2, 0, 185) := oi_aload_n (k := 2) (by decide +kernel) rfl rfl
theorem oe_105_185 : okE 105 185 (3, 0, 0, 186) := oi_aload_n (k := 0) (by decide +kernel) rfl rfl
theorem oe_105_186 : okE 105 186 (2, 4, 0, 188) := oi_iload (by decide +kernel) rfl
theorem oe_105_188 : okE 105 188 (0, 1, 0, 189) := oi_iconst (n := 1) (by decide +kernel) (by decide +kernel) rfl
theorem oe_105_189 : okE 105 189 (6, 0, 0, 190) := oi_iadd (by decide +kernel) rfl
theorem oe_105_190 : okE 105 190 (37, 0, 0, 191) := oi_ialdS (by decide +kernel) rfl rfl
theorem oe_105_191 : okE 105 191 (3, 0, 0, 192) := oi_aload_n (k := 0) (by decide +kernel) rfl rfl
theorem oe_105_192 : okE 105 192 (2, 4, 0, 194) := oi_iload (by decide +kernel) rfl
theorem oe_105_194 : okE 105 194 (0, 2, 0, 195) := oi_iconst (n := 2) (by decide +kernel) (by decide +kernel) rfl
theorem oe_105_195 : okE 105 195 (6, 0, 0, 196) := oi_iadd (by decide +kernel) rfl
theorem oe_105_196 : okE 105 196 (37, 0, 0, 197) := oi_ialdS (by decide +kernel) rfl rfl
theorem oe_105_197 : okE 105 197 (70, 18, 3, 200) := oi_callV (i := 54) (by decide +kernel) rfl (by decide) (by decide) okm_18 (by decide) (by rfl) mw_737 mw_738 mw_739 mw_53 (by decide +kernel)
theorem oe_105_200 : okE 105 200 (56, 809, 0, 203) := oi_if_icmpeq (f := 609) (by decide +kernel) (by decide) rfl
theorem oe_105_203 : okE 105 203 (0, 0, 0, 204) := oi_iconst (n := 0) (by decide +kernel) (by decide +kernel) rfl
theorem oe_105_204 : okE 105 204 (80, 2, 0, 0) := oi_ireturnZ (by decide +kernel) rfl
theorem oe_105_205 : okE 105 205 (3, 1, 0, 206) := oi_aload_n (k := 1) (by decide +kernel) rfl rfl
theorem oe_105_206 : okE 105 206 (70, 2, 1, 209) := oi_callV (i := 55) (by decide +kernel) rfl (by decide) (by decide) okm_2 (by decide) (by rfl) mw_241 mw_242 mw_243 mw_47 (by decide +kernel)
theorem oe_105_209 : okE 105 209 (3, 2, 0, 210) := oi_aload_n (k := 2) (by decide +kernel) rfl rfl
theorem oe_105_210 : okE 105 210 (70, 21, 1, 213) := oi_callV (i := 58) (by decide +kernel) rfl (by decide) (by decide) okm_21 (by decide) (by rfl) mw_745 mw_746 mw_747 mw_53 (by decide +kernel)
theorem oe_105_213 : okE 105 213 (56, 809, 0, 216) := oi_if_icmpeq (f := 596) (by decide +kernel) (by decide) rfl
theorem oe_105_216 : okE 105 216 (0, 0, 0, 217) := oi_iconst (n := 0) (by decide +kernel) (by decide +kernel) rfl
theorem oe_105_217 : okE 105 217 (80, 2, 0, 0) := oi_ireturnZ (by decide +kernel) rfl
theorem oe_105_218 : okE 105 218 (3, 1, 0, 219) := oi_aload_n (k := 1) (by decide +kernel) rfl rfl
theorem oe_105_219 : okE 105 219 (3, 0, 0, 220) := oi_aload_n (k := 0) (by decide +kernel) rfl rfl
theorem oe_105_220 : okE 105 220 (2, 4, 0, 222) := oi_iload (by decide +kernel) rfl
theorem oe_105_222 : okE 105 222 (0, 1, 0, 223) := oi_iconst (n := 1) (by decide +kernel) (by decide +kernel) rfl
theorem oe_105_223 : okE 105 223 (6, 0, 0, 224) := oi_iadd (by decide +kernel) rfl
theorem oe_105_224 : okE 105 224 (37, 0, 0, 225) := oi_ialdS (by decide +kernel) rfl rfl
theorem oe_105_225 : okE 105 225 (3, 0, 0, 226) := oi_aload_n (k := 0) (by decide +kernel) rfl rfl
theorem oe_105_226 : okE 105 226 (2, 4, 0, 228) := oi_iload (by decide +kernel) rfl
theorem oe_105_228 : okE 105 228 (0, 2, 0, 229) := oi_iconst (n := 2) (by decide +kernel) (by decide +kernel) rfl
theorem oe_105_229 : okE 105 229 (6, 0, 0, 230) := oi_iadd (by decide +kernel) rfl
theorem oe_105_230 : okE 105 230 (37, 0, 0, 231) := oi_ialdS (by decide +kernel) rfl rfl
theorem oe_105_231 : okE 105 231 (3, 0, 0, 232) := oi_aload_n (k := 0) (by decide +kernel) rfl rfl
theorem oe_105_232 : okE 105 232 (2, 4, 0, 234) := oi_iload (by decide +kernel) rfl
theorem oe_105_234 : okE 105 234 (0, 3, 0, 235) := oi_iconst (n := 3) (by decide +kernel) (by decide +kernel) rfl
theorem oe_105_235 : okE 105 235 (6, 0, 0, 236) := oi_iadd (by decide +kernel) rfl
theorem oe_105_236 : okE 105 236 (37, 0, 0, 237) := oi_ialdS (by decide +kernel) rfl rfl
theorem oe_105_237 : okE 105 237 (3, 0, 0, 238) := oi_aload_n (k := 0) (by decide +kernel) rfl rfl
theorem oe_105_238 : okE 105 238 (2, 4, 0, 240) := oi_iload (by decide +kernel) rfl
theorem oe_105_240 : okE 105 240 (0, 4, 0, 241) := oi_iconst (n := 4) (by decide +kernel) (by decide +kernel) rfl
theorem oe_105_241 : okE 105 241 (6, 0, 0, 242) := oi_iadd (by decide +kernel) rfl
theorem oe_105_242 : okE 105 242 (37, 0, 0, 243) := oi_ialdS (by decide +kernel) rfl rfl
theorem oe_105_243 : okE 105 243 (3, 3, 0, 244) := oi_aload_n (k := 3) (by decide +kernel) rfl rfl
theorem oe_105_244 : okE 105 244 (91, 0, 0, 247) := trivial
theorem oe_105_247 : okE 105 247 (4, 5, 0, 249) := oi_istore (by decide) (by decide +kernel) rfl
theorem oe_105_249 : okE 105 249 (3, 2, 0, 250) := oi_aload_n (k := 2) (by decide +kernel) rfl rfl
theorem oe_105_250 : okE 105 250 (3, 0, 0, 251) := oi_aload_n (k := 0) (by decide +kernel) rfl rfl
theorem oe_105_251 : okE 105 251 (2, 4, 0, 253) := oi_iload (by decide +kernel) rfl
theorem oe_105_253 : okE 105 253 (0, 1, 0, 254) := oi_iconst (n := 1) (by decide +kernel) (by decide +kernel) rfl
theorem oe_105_254 : okE 105 254 (6, 0, 0, 255) := oi_iadd (by decide +kernel) rfl
theorem oe_105_255 : okE 105 255 (37, 0, 0, 256) := oi_ialdS (by decide +kernel) rfl rfl
theorem oe_105_256 : okE 105 256 (3, 0, 0, 257) := oi_aload_n (k := 0) (by decide +kernel) rfl rfl
theorem oe_105_257 : okE 105 257 (2, 4, 0, 259) := oi_iload (by decide +kernel) rfl
theorem oe_105_259 : okE 105 259 (0, 2, 0, 260) := oi_iconst (n := 2) (by decide +kernel) (by decide +kernel) rfl
theorem oe_105_260 : okE 105 260 (6, 0, 0, 261) := oi_iadd (by decide +kernel) rfl
theorem oe_105_261 : okE 105 261 (37, 0, 0, 262) := oi_ialdS (by decide +kernel) rfl rfl
theorem oe_105_262 : okE 105 262 (3, 0, 0, 263) := oi_aload_n (k := 0) (by decide +kernel) rfl rfl
theorem oe_105_263 : okE 105 263 (2, 4, 0, 265) := oi_iload (by decide +kernel) rfl
theorem oe_105_265 : okE 105 265 (0, 3, 0, 266) := oi_iconst (n := 3) (by decide +kernel) (by decide +kernel) rfl
theorem oe_105_266 : okE 105 266 (6, 0, 0, 267) := oi_iadd (by decide +kernel) rfl
theorem oe_105_267 : okE 105 267 (37, 0, 0, 268) := oi_ialdS (by decide +kernel) rfl rfl
theorem oe_105_268 : okE 105 268 (3, 0, 0, 269) := oi_aload_n (k := 0) (by decide +kernel) rfl rfl
theorem oe_105_269 : okE 105 269 (2, 4, 0, 271) := oi_iload (by decide +kernel) rfl
theorem oe_105_271 : okE 105 271 (0, 4, 0, 272) := oi_iconst (n := 4) (by decide +kernel) (by decide +kernel) rfl
theorem oe_105_272 : okE 105 272 (6, 0, 0, 273) := oi_iadd (by decide +kernel) rfl
theorem oe_105_273 : okE 105 273 (37, 0, 0, 274) := oi_ialdS (by decide +kernel) rfl rfl
theorem oe_105_274 : okE 105 274 (70, 25, 5, 277) := oi_callV (i := 62) (by decide +kernel) rfl (by decide) (by decide) okm_25 (by decide) (by rfl) mw_749 mw_750 mw_751 mw_53 (by decide +kernel)
theorem oe_105_277 : okE 105 277 (4, 6, 0, 279) := oi_istore (by decide) (by decide +kernel) rfl
theorem oe_105_279 : okE 105 279 (3, 2, 0, 280) := oi_aload_n (k := 2) (by decide +kernel) rfl rfl
theorem oe_105_280 : okE 105 280 (70, 14, 1, 283) := oi_callV (i := 46) (by decide +kernel) rfl (by decide) (by decide) okm_14 (by decide) (by rfl) mw_725 mw_726 mw_727 mw_53 (by decide +kernel)
theorem oe_105_283 : okE 105 283 (2, 5, 0, 285) := oi_iload (by decide +kernel) rfl
theorem oe_105_285 : okE 105 285 (56, 290, 0, 288) := oi_if_icmpeq (f := 5) (by decide +kernel) (by decide) rfl
theorem oe_105_288 : okE 105 288 (0, 0, 0, 289) := oi_iconst (n := 0) (by decide +kernel) (by decide +kernel) rfl
theorem oe_105_289 : okE 105 289 (80, 2, 0, 0) := oi_ireturnZ (by decide +kernel) rfl
theorem oe_105_290 : okE 105 290 (2, 5, 0, 292) := oi_iload (by decide +kernel) rfl
theorem oe_105_292 : okE 105 292 (51, 307, 0, 295) := oi_ifne (f := 15) (by decide +kernel) (by decide) rfl
theorem oe_105_295 : okE 105 295 (3, 3, 0, 296) := oi_aload_n (k := 3) (by decide +kernel) rfl rfl
theorem oe_105_296 : okE 105 296 (0, 0, 0, 297) := oi_iconst (n := 0) (by decide +kernel) (by decide +kernel) rfl
theorem oe_105_297 : okE 105 297 (35, 0, 0, 298) := oi_lald (by decide +kernel) rfl
theorem oe_105_298 : okE 105 298 (2, 6, 0, 300) := oi_iload (by decide +kernel) rfl
theorem oe_105_300 : okE 105 300 (21, 0, 0, 301) := oi_i2l (by decide +kernel) rfl
theorem oe_105_301 : okE 105 301 (22, 0, 0, 302) := oi_lcmp (by decide +kernel) rfl
theorem oe_105_302 : okE 105 302 (50, 307, 0, 305) := oi_ifeq (f := 5) (by decide +kernel) (by decide) rfl
theorem oe_105_305 : okE 105 305 (0, 0, 0, 306) := oi_iconst (n := 0) (by decide +kernel) (by decide +kernel) rfl
theorem oe_105_306 : okE 105 306 (80, 2, 0, 0) := oi_ireturnZ (by decide +kernel) rfl
theorem oe_105_307 : okE 105 307 (18, 0, 0, 809) := oi_goto (f := 502) (by decide +kernel) (by decide)
theorem oe_105_310 : okE 105 310 (3, 1, 0, 311) := oi_aload_n (k := 1) (by decide +kernel) rfl rfl
theorem oe_105_311 : okE 105 311 (3, 0, 0, 312) := oi_aload_n (k := 0) (by decide +kernel) rfl rfl
theorem oe_105_312 : okE 105 312 (2, 4, 0, 314) := oi_iload (by decide +kernel) rfl
theorem oe_105_314 : okE 105 314 (0, 1, 0, 315) := oi_iconst (n := 1) (by decide +kernel) (by decide +kernel) rfl
theorem oe_105_315 : okE 105 315 (6, 0, 0, 316) := oi_iadd (by decide +kernel) rfl
theorem oe_105_316 : okE 105 316 (37, 0, 0, 317) := oi_ialdS (by decide +kernel) rfl rfl
theorem oe_105_317 : okE 105 317 (3, 0, 0, 318) := oi_aload_n (k := 0) (by decide +kernel) rfl rfl
theorem oe_105_318 : okE 105 318 (2, 4, 0, 320) := oi_iload (by decide +kernel) rfl
theorem oe_105_320 : okE 105 320 (0, 2, 0, 321) := oi_iconst (n := 2) (by decide +kernel) (by decide +kernel) rfl
theorem oe_105_321 : okE 105 321 (6, 0, 0, 322) := oi_iadd (by decide +kernel) rfl
theorem oe_105_322 : okE 105 322 (37, 0, 0, 323) := oi_ialdS (by decide +kernel) rfl rfl
theorem oe_105_323 : okE 105 323 (3, 0, 0, 324) := oi_aload_n (k := 0) (by decide +kernel) rfl rfl
theorem oe_105_324 : okE 105 324 (2, 4, 0, 326) := oi_iload (by decide +kernel) rfl
theorem oe_105_326 : okE 105 326 (0, 3, 0, 327) := oi_iconst (n := 3) (by decide +kernel) (by decide +kernel) rfl
theorem oe_105_327 : okE 105 327 (6, 0, 0, 328) := oi_iadd (by decide +kernel) rfl
theorem oe_105_328 : okE 105 328 (37, 0, 0, 329) := oi_ialdS (by decide +kernel) rfl rfl
theorem oe_105_329 : okE 105 329 (3, 0, 0, 330) := oi_aload_n (k := 0) (by decide +kernel) rfl rfl
theorem oe_105_330 : okE 105 330 (2, 4, 0, 332) := oi_iload (by decide +kernel) rfl
theorem oe_105_332 : okE 105 332 (0, 4, 0, 333) := oi_iconst (n := 4) (by decide +kernel) (by decide +kernel) rfl
theorem oe_105_333 : okE 105 333 (6, 0, 0, 334) := oi_iadd (by decide +kernel) rfl
theorem oe_105_334 : okE 105 334 (37, 0, 0, 335) := oi_ialdS (by decide +kernel) rfl rfl
theorem oe_105_335 : okE 105 335 (3, 0, 0, 336) := oi_aload_n (k := 0) (by decide +kernel) rfl rfl
theorem oe_105_336 : okE 105 336 (2, 4, 0, 338) := oi_iload (by decide +kernel) rfl
theorem oe_105_338 : okE 105 338 (0, 5, 0, 339) := oi_iconst (n := 5) (by decide +kernel) (by decide +kernel) rfl
theorem oe_105_339 : okE 105 339 (6, 0, 0, 340) := oi_iadd (by decide +kernel) rfl
theorem oe_105_340 : okE 105 340 (37, 0, 0, 341) := oi_ialdS (by decide +kernel) rfl rfl
theorem oe_105_341 : okE 105 341 (3, 3, 0, 342) := oi_aload_n (k := 3) (by decide +kernel) rfl rfl
theorem oe_105_342 : okE 105 342 (91, 0, 0, 345) := trivial
theorem oe_105_345 : okE 105 345 (4, 5, 0, 347) := oi_istore (by decide) (by decide +kernel) rfl
theorem oe_105_347 : okE 105 347 (3, 2, 0, 348) := oi_aload_n (k := 2) (by decide +kernel) rfl rfl
theorem oe_105_348 : okE 105 348 (3, 0, 0, 349) := oi_aload_n (k := 0) (by decide +kernel) rfl rfl
theorem oe_105_349 : okE 105 349 (2, 4, 0, 351) := oi_iload (by decide +kernel) rfl
theorem oe_105_351 : okE 105 351 (0, 1, 0, 352) := oi_iconst (n := 1) (by decide +kernel) (by decide +kernel) rfl
theorem oe_105_352 : okE 105 352 (6, 0, 0, 353) := oi_iadd (by decide +kernel) rfl
theorem oe_105_353 : okE 105 353 (37, 0, 0, 354) := oi_ialdS (by decide +kernel) rfl rfl
theorem oe_105_354 : okE 105 354 (3, 0, 0, 355) := oi_aload_n (k := 0) (by decide +kernel) rfl rfl
theorem oe_105_355 : okE 105 355 (2, 4, 0, 357) := oi_iload (by decide +kernel) rfl
theorem oe_105_357 : okE 105 357 (0, 2, 0, 358) := oi_iconst (n := 2) (by decide +kernel) (by decide +kernel) rfl
theorem oe_105_358 : okE 105 358 (6, 0, 0, 359) := oi_iadd (by decide +kernel) rfl
theorem oe_105_359 : okE 105 359 (37, 0, 0, 360) := oi_ialdS (by decide +kernel) rfl rfl
theorem oe_105_360 : okE 105 360 (3, 0, 0, 361) := oi_aload_n (k := 0) (by decide +kernel) rfl rfl
theorem oe_105_361 : okE 105 361 (2, 4, 0, 363) := oi_iload (by decide +kernel) rfl
theorem oe_105_363 : okE 105 363 (0, 3, 0, 364) := oi_iconst (n := 3) (by decide +kernel) (by decide +kernel) rfl
theorem oe_105_364 : okE 105 364 (6, 0, 0, 365) := oi_iadd (by decide +kernel) rfl
