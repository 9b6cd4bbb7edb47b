section WM0
set_option maxRecDepth 20000 in
set_option maxHeartbeats 4000000 in
theorem B_X12_add_0 {k : Nat} {P : Option Nat} {I : Nat → Nat → Int32} {J : Nat → Nat → Int64} {x1 : Int} {x2 : Int} {Q : Option AV → Mem → Prop} (hk : 0 ≤ k) (h : (0 ≤ ((1600 * (gi I 74 40)) + (gi I 74 39)) ∧ ((1600 * (gi I 74 40)) + (gi I 74 39)) < 3200) ∧ (Q none (mem (P, some 5, some 22) (si (si (si I 95 ((1600 * (gi I 74 40)) + (gi I 74 39)).toNat x1) 96 ((1600 * (gi I 74 40)) + (gi I 74 39)).toNat x2) 74 39 ((gi I 74 39) + 1)) J))) : WP k LAY m_X12_add 0 [(0, vR (some 74)), (1, vI x1), (2, vI x2)] [] (mem (P, some 5, some 22) I J) Q := by
  refine st_aload_n (pc' := 1) dX12_add_0 rfl rfl (j := 0) rfl ?_
  refine G_X12_111_74 dX12_add_1 (pc' := 4) rfl rfl ?_
  refine st_sipush (pc' := 7) dX12_add_4 rfl (by decide) ?_
  refine st_aload_n (pc' := 8) dX12_add_7 rfl rfl (j := 0) rfl ?_
  refine G_X12_133_74 dX12_add_8 (pc' := 11) rfl rfl ?_
  refine st_imul (pc' := 12) dX12_add_11 rfl ?_
  refine st_aload_n (pc' := 13) dX12_add_12 rfl rfl (j := 0) rfl ?_
  refine G_X12_130_74 dX12_add_13 (pc' := 16) rfl rfl ?_
  refine st_iadd (pc' := 17) dX12_add_16 rfl ?_
  refine st_iload_n (pc' := 18) dX12_add_17 rfl rfl (j := 1) rfl ?_
  obtain ⟨e1, h⟩ := h
  refine st_iastore (pc' := 19) (M' := (mem (P, some 5, some 22) (si I 95 ((1600 * (gi I 74 40)) + (gi I 74 39)).toNat x1) J)) dX12_add_18 rfl L_95 (by decide) e1 rfl ?_
  refine st_aload_n (pc' := 20) dX12_add_19 rfl rfl (j := 0) rfl ?_
  refine G_X12_114_74 dX12_add_20 (pc' := 23) rfl rfl ?_
  refine st_sipush (pc' := 26) dX12_add_23 rfl (by decide) ?_
  refine st_aload_n (pc' := 27) dX12_add_26 rfl rfl (j := 0) rfl ?_
  refine G_X12_133_74 dX12_add_27 (pc' := 30) rfl rfl ?_
  rw [show gi (si I 95 ((1600 * (gi I 74 40)) + (gi I 74 39)).toNat x1) 74 40 = (gi I 74 40) from (gi_cell _ _ _ _ (by decide))]
  refine st_imul (pc' := 31) dX12_add_30 rfl ?_
  refine st_aload_n (pc' := 32) dX12_add_31 rfl rfl (j := 0) rfl ?_
  refine G_X12_130_74 dX12_add_32 (pc' := 35) rfl rfl ?_
  rw [show gi (si I 95 ((1600 * (gi I 74 40)) + (gi I 74 39)).toNat x1) 74 39 = (gi I 74 39) from (gi_cell _ _ _ _ (by decide))]
  refine st_iadd (pc' := 36) dX12_add_35 rfl ?_
  refine st_iload_n (pc' := 37) dX12_add_36 rfl rfl (j := 2) rfl ?_
  refine st_iastore (pc' := 38) (M' := (mem (P, some 5, some 22) (si (si I 95 ((1600 * (gi I 74 40)) + (gi I 74 39)).toNat x1) 96 ((1600 * (gi I 74 40)) + (gi I 74 39)).toNat x2) J)) dX12_add_37 rfl L_96 (by decide) e1 rfl ?_
  refine st_aload_n (pc' := 39) dX12_add_38 rfl rfl (j := 0) rfl ?_
  refine st_dup (pc' := 40) dX12_add_39 rfl rfl ?_
  refine G_X12_130_74 dX12_add_40 (pc' := 43) rfl rfl ?_
  rw [show gi (si (si I 95 ((1600 * (gi I 74 40)) + (gi I 74 39)).toNat x1) 96 ((1600 * (gi I 74 40)) + (gi I 74 39)).toNat x2) 74 39 = (gi I 74 39) from ((gi_cell _ _ _ _ (by decide)).trans (gi_cell _ _ _ _ (by decide)))]
  refine st_iconst (pc' := 44) dX12_add_43 rfl ?_
  refine st_iadd (pc' := 45) dX12_add_44 rfl ?_
  refine P_X12_130_74 dX12_add_45 (pc' := 48) rfl rfl ?_
  exact st_vret dX12_add_48 rfl rfl h
set_option maxRecDepth 20000 in
set_option maxHeartbeats 4000000 in
theorem B_X12_isOwn_0 {k : Nat} {P : Option Nat} {I : Nat → Nat → Int32} {J : Nat → Nat → Int64} {x1 : Int} {Q : Option AV → Mem → Prop} (hk : 0 ≤ k) (h : inL x1 ∧ ((x1 = 1651470187 → (Q (some (vI 1)) (mem (P, some 5, some 22) I J))) ∧ (¬ x1 = 1651470187 → ((x1 = 1885431653 → (Q (some (vI 1)) (mem (P, some 5, some 22) I J))) ∧ (¬ x1 = 1885431653 → ((x1 = 28518 → (Q (some (vI 1)) (mem (P, some 5, some 22) I J))) ∧ (¬ x1 = 28518 → ((x1 = 465625310579 → (Q (some (vI 1)) (mem (P, some 5, some 22) I J))) ∧ (¬ x1 = 465625310579 → ((¬ x1 = 6449511 → ((x1 = 474147546227 → (Q (some (vI 1)) (mem (P, some 5, some 22) I J))) ∧ (¬ x1 = 474147546227 → ((x1 = 125779751232882 → (Q (some (vI 1)) (mem (P, some 5, some 22) I J))) ∧ (¬ x1 = 125779751232882 → ((x1 = 1885430629 → (Q (some (vI 1)) (mem (P, some 5, some 22) I J))) ∧ (¬ x1 = 1885430629 → ((x1 = 1702454643 → (Q (some (vI 1)) (mem (P, some 5, some 22) I J))) ∧ (¬ x1 = 1702454643 → ((¬ x1 = 499850046565 → ((x1 = 431415715444 → (Q (some (vI 1)) (mem (P, some 5, some 22) I J))) ∧ (¬ x1 = 431415715444 → ((x1 = 1768842088 → (Q (some (vI 1)) (mem (P, some 5, some 22) I J))) ∧ (¬ x1 = 1768842088 → ((x1 = 422877228659 → (Q (some (vI 1)) (mem (P, some 5, some 22) I J))) ∧ (¬ x1 = 422877228659 → ((x1 = 499850634611 → (Q (some (vI 1)) (mem (P, some 5, some 22) I J))) ∧ (¬ x1 = 499850634611 → ((¬ x1 = 499917810803 → ((x1 = 482955849332 → (Q (some (vI 1)) (mem (P, some 5, some 22) I J))) ∧ (¬ x1 = 482955849332 → ((x1 = 461414299507 → (Q (some (vI 1)) (mem (P, some 5, some 22) I J))) ∧ (¬ x1 = 461414299507 → ((x1 = 32485571211914855 → (Q (some (vI 1)) (mem (P, some 5, some 22) I J))) ∧ (¬ x1 = 32485571211914855 → ((x1 = 474214787188 → (Q (some (vI 1)) (mem (P, some 5, some 22) I J))) ∧ (¬ x1 = 474214787188 → ((¬ x1 = 28530 → ((x1 = 6385252 → (Q (some (vI 1)) (mem (P, some 5, some 22) I J))) ∧ (¬ x1 = 6385252 → ((x1 = 7237492 → (Q (some (vI 1)) (mem (P, some 5, some 22) I J))) ∧ (¬ x1 = 7237492 → ((x1 = 6384748 → (Q (some (vI 1)) (mem (P, some 5, some 22) I J))) ∧ (¬ x1 = 6384748 → ((x1 = 7170414 → (Q (some (vI 1)) (mem (P, some 5, some 22) I J))) ∧ (¬ x1 = 7170414 → ((¬ x1 = 7168376 → (Q (some (vI 0)) (mem (P, some 5, some 22) I J))) ∧ (x1 = 7168376 → (Q (some (vI 1)) (mem (P, some 5, some 22) I J))))))))))))) ∧ (x1 = 28530 → (Q (some (vI 1)) (mem (P, some 5, some 22) I J))))))))))))) ∧ (x1 = 499917810803 → (Q (some (vI 1)) (mem (P, some 5, some 22) I J))))))))))))) ∧ (x1 = 499850046565 → (Q (some (vI 1)) (mem (P, some 5, some 22) I J))))))))))))) ∧ (x1 = 6449511 → (Q (some (vI 1)) (mem (P, some 5, some 22) I J))))))))))))) : WP k LAY m_X12_isOwn 0 [(0, vR (some 74)), (1, vL x1)] [] (mem (P, some 5, some 22) I J) Q := by
  refine st_lload_n (pc' := 1) dX12_isOwn_0 rfl rfl (j := 1) rfl ?_
  refine st_ldc2 (pc' := 4) (z := 1651470187) dX12_isOwn_1 rfl q_X12_311 (by decide) ?_
  obtain ⟨e1, h⟩ := h
  refine st_lif_eq (tg := 40) (pc' := 8) (pc1 := 5) dX12_isOwn_4 rfl dX12_isOwn_5 (by decide) rfl e1 (by decide) (fun c => ?_) (fun c => ?_)
  · replace h := h.1 c
    refine st_iconst (pc' := 41) dX12_isOwn_40 rfl ?_
    exact st_iret (ty := .boolean) dX12_isOwn_41 rfl (by decide) rfl h
  · replace h := h.2 c
    refine st_lload_n (pc' := 9) dX12_isOwn_8 rfl rfl (j := 1) rfl ?_
    refine st_ldc2 (pc' := 12) (z := 1885431653) dX12_isOwn_9 rfl q_X12_313 (by decide) ?_
    refine st_lif_eq (tg := 40) (pc' := 16) (pc1 := 13) dX12_isOwn_12 rfl dX12_isOwn_13 (by decide) rfl e1 (by decide) (fun c => ?_) (fun c => ?_)
    · replace h := h.1 c
      refine st_iconst (pc' := 41) dX12_isOwn_40 rfl ?_
      exact st_iret (ty := .boolean) dX12_isOwn_41 rfl (by decide) rfl h
    · replace h := h.2 c
      refine st_lload_n (pc' := 17) dX12_isOwn_16 rfl rfl (j := 1) rfl ?_
      refine st_ldc2 (pc' := 20) (z := 28518) dX12_isOwn_17 rfl q_X12_315 (by decide) ?_
      refine st_lif_eq (tg := 40) (pc' := 24) (pc1 := 21) dX12_isOwn_20 rfl dX12_isOwn_21 (by decide) rfl e1 (by decide) (fun c => ?_) (fun c => ?_)
      · replace h := h.1 c
        refine st_iconst (pc' := 41) dX12_isOwn_40 rfl ?_
        exact st_iret (ty := .boolean) dX12_isOwn_41 rfl (by decide) rfl h
      · replace h := h.2 c
        refine st_lload_n (pc' := 25) dX12_isOwn_24 rfl rfl (j := 1) rfl ?_
        refine st_ldc2 (pc' := 28) (z := 465625310579) dX12_isOwn_25 rfl q_X12_317 (by decide) ?_
        refine st_lif_eq (tg := 40) (pc' := 32) (pc1 := 29) dX12_isOwn_28 rfl dX12_isOwn_29 (by decide) rfl e1 (by decide) (fun c => ?_) (fun c => ?_)
        · replace h := h.1 c
          refine st_iconst (pc' := 41) dX12_isOwn_40 rfl ?_
          exact st_iret (ty := .boolean) dX12_isOwn_41 rfl (by decide) rfl h
        · replace h := h.2 c
          refine st_lload_n (pc' := 33) dX12_isOwn_32 rfl rfl (j := 1) rfl ?_
          refine st_ldc2 (pc' := 36) (z := 6449511) dX12_isOwn_33 rfl q_X12_319 (by decide) ?_
          refine st_lif_ne (tg := 42) (pc' := 40) (pc1 := 37) dX12_isOwn_36 rfl dX12_isOwn_37 (by decide) rfl e1 (by decide) (fun c => ?_) (fun c => ?_)
          · replace h := h.1 c
            refine st_lload_n (pc' := 43) dX12_isOwn_42 rfl rfl (j := 1) rfl ?_
            refine st_ldc2 (pc' := 46) (z := 474147546227) dX12_isOwn_43 rfl q_X12_321 (by decide) ?_
            refine st_lif_eq (tg := 82) (pc' := 50) (pc1 := 47) dX12_isOwn_46 rfl dX12_isOwn_47 (by decide) rfl e1 (by decide) (fun c => ?_) (fun c => ?_)
            · replace h := h.1 c
              refine st_iconst (pc' := 83) dX12_isOwn_82 rfl ?_
              exact st_iret (ty := .boolean) dX12_isOwn_83 rfl (by decide) rfl h
            · replace h := h.2 c
              refine st_lload_n (pc' := 51) dX12_isOwn_50 rfl rfl (j := 1) rfl ?_
              refine st_ldc2 (pc' := 54) (z := 125779751232882) dX12_isOwn_51 rfl q_X12_323 (by decide) ?_
              refine st_lif_eq (tg := 82) (pc' := 58) (pc1 := 55) dX12_isOwn_54 rfl dX12_isOwn_55 (by decide) rfl e1 (by decide) (fun c => ?_) (fun c => ?_)
              · replace h := h.1 c
                refine st_iconst (pc' := 83) dX12_isOwn_82 rfl ?_
                exact st_iret (ty := .boolean) dX12_isOwn_83 rfl (by decide) rfl h
              · replace h := h.2 c
                refine st_lload_n (pc' := 59) dX12_isOwn_58 rfl rfl (j := 1) rfl ?_
                refine st_ldc2 (pc' := 62) (z := 1885430629) dX12_isOwn_59 rfl q_X12_325 (by decide) ?_
                refine st_lif_eq (tg := 82) (pc' := 66) (pc1 := 63) dX12_isOwn_62 rfl dX12_isOwn_63 (by decide) rfl e1 (by decide) (fun c => ?_) (fun c => ?_)
                · replace h := h.1 c
                  refine st_iconst (pc' := 83) dX12_isOwn_82 rfl ?_
                  exact st_iret (ty := .boolean) dX12_isOwn_83 rfl (by decide) rfl h
                · replace h := h.2 c
                  refine st_lload_n (pc' := 67) dX12_isOwn_66 rfl rfl (j := 1) rfl ?_
                  refine st_ldc2 (pc' := 70) (z := 1702454643) dX12_isOwn_67 rfl q_X12_327 (by decide) ?_
                  refine st_lif_eq (tg := 82) (pc' := 74) (pc1 := 71) dX12_isOwn_70 rfl dX12_isOwn_71 (by decide) rfl e1 (by decide) (fun c => ?_) (fun c => ?_)
                  · replace h := h.1 c
                    refine st_iconst (pc' := 83) dX12_isOwn_82 rfl ?_
                    exact st_iret (ty := .boolean) dX12_isOwn_83 rfl (by decide) rfl h
                  · replace h := h.2 c
                    refine st_lload_n (pc' := 75) dX12_isOwn_74 rfl rfl (j := 1) rfl ?_
                    refine st_ldc2 (pc' := 78) (z := 499850046565) dX12_isOwn_75 rfl q_X12_329 (by decide) ?_
                    refine st_lif_ne (tg := 84) (pc' := 82) (pc1 := 79) dX12_isOwn_78 rfl dX12_isOwn_79 (by decide) rfl e1 (by decide) (fun c => ?_) (fun c => ?_)
                    · replace h := h.1 c
                      refine st_lload_n (pc' := 85) dX12_isOwn_84 rfl rfl (j := 1) rfl ?_
                      refine st_ldc2 (pc' := 88) (z := 431415715444) dX12_isOwn_85 rfl q_X12_331 (by decide) ?_
                      refine st_lif_eq (tg := 124) (pc' := 92) (pc1 := 89) dX12_isOwn_88 rfl dX12_isOwn_89 (by decide) rfl e1 (by decide) (fun c => ?_) (fun c => ?_)
                      · replace h := h.1 c
                        refine st_iconst (pc' := 125) dX12_isOwn_124 rfl ?_
                        exact st_iret (ty := .boolean) dX12_isOwn_125 rfl (by decide) rfl h
                      · replace h := h.2 c
                        refine st_lload_n (pc' := 93) dX12_isOwn_92 rfl rfl (j := 1) rfl ?_
                        refine st_ldc2 (pc' := 96) (z := 1768842088) dX12_isOwn_93 rfl q_X12_333 (by decide) ?_
                        refine st_lif_eq (tg := 124) (pc' := 100) (pc1 := 97) dX12_isOwn_96 rfl dX12_isOwn_97 (by decide) rfl e1 (by decide) (fun c => ?_) (fun c => ?_)
                        · replace h := h.1 c
                          refine st_iconst (pc' := 125) dX12_isOwn_124 rfl ?_
                          exact st_iret (ty := .boolean) dX12_isOwn_125 rfl (by decide) rfl h
                        · replace h := h.2 c
                          refine st_lload_n (pc' := 101) dX12_isOwn_100 rfl rfl (j := 1) rfl ?_
                          refine st_ldc2 (pc' := 104) (z := 422877228659) dX12_isOwn_101 rfl q_X12_335 (by decide) ?_
                          refine st_lif_eq (tg := 124) (pc' := 108) (pc1 := 105) dX12_isOwn_104 rfl dX12_isOwn_105 (by decide) rfl e1 (by decide) (fun c => ?_) (fun c => ?_)
                          · replace h := h.1 c
                            refine st_iconst (pc' := 125) dX12_isOwn_124 rfl ?_
                            exact st_iret (ty := .boolean) dX12_isOwn_125 rfl (by decide) rfl h
                          · replace h := h.2 c
                            refine st_lload_n (pc' := 109) dX12_isOwn_108 rfl rfl (j := 1) rfl ?_
                            refine st_ldc2 (pc' := 112) (z := 499850634611) dX12_isOwn_109 rfl q_X12_337 (by decide) ?_
                            refine st_lif_eq (tg := 124) (pc' := 116) (pc1 := 113) dX12_isOwn_112 rfl dX12_isOwn_113 (by decide) rfl e1 (by decide) (fun c => ?_) (fun c => ?_)
                            · replace h := h.1 c
                              refine st_iconst (pc' := 125) dX12_isOwn_124 rfl ?_
                              exact st_iret (ty := .boolean) dX12_isOwn_125 rfl (by decide) rfl h
                            · replace h := h.2 c
                              refine st_lload_n (pc' := 117) dX12_isOwn_116 rfl rfl (j := 1) rfl ?_
                              refine st_ldc2 (pc' := 120) (z := 499917810803) dX12_isOwn_117 rfl q_X12_339 (by decide) ?_
                              refine st_lif_ne (tg := 126) (pc' := 124) (pc1 := 121) dX12_isOwn_120 rfl dX12_isOwn_121 (by decide) rfl e1 (by decide) (fun c => ?_) (fun c => ?_)
                              · replace h := h.1 c
                                refine st_lload_n (pc' := 127) dX12_isOwn_126 rfl rfl (j := 1) rfl ?_
                                refine st_ldc2 (pc' := 130) (z := 482955849332) dX12_isOwn_127 rfl q_X12_341 (by decide) ?_
                                refine st_lif_eq (tg := 166) (pc' := 134) (pc1 := 131) dX12_isOwn_130 rfl dX12_isOwn_131 (by decide) rfl e1 (by decide) (fun c => ?_) (fun c => ?_)
                                · replace h := h.1 c
                                  refine st_iconst (pc' := 167) dX12_isOwn_166 rfl ?_
                                  exact st_iret (ty := .boolean) dX12_isOwn_167 rfl (by decide) rfl h
                                · replace h := h.2 c
                                  refine st_lload_n (pc' := 135) dX12_isOwn_134 rfl rfl (j := 1) rfl ?_
                                  refine st_ldc2 (pc' := 138) (z := 461414299507) dX12_isOwn_135 rfl q_X12_343 (by decide) ?_
                                  refine st_lif_eq (tg := 166) (pc' := 142) (pc1 := 139) dX12_isOwn_138 rfl dX12_isOwn_139 (by decide) rfl e1 (by decide) (fun c => ?_) (fun c => ?_)
                                  · replace h := h.1 c
                                    refine st_iconst (pc' := 167) dX12_isOwn_166 rfl ?_
                                    exact st_iret (ty := .boolean) dX12_isOwn_167 rfl (by decide) rfl h
                                  · replace h := h.2 c
                                    refine st_lload_n (pc' := 143) dX12_isOwn_142 rfl rfl (j := 1) rfl ?_
                                    refine st_ldc2 (pc' := 146) (z := 32485571211914855) dX12_isOwn_143 rfl q_X12_345 (by decide) ?_
                                    refine st_lif_eq (tg := 166) (pc' := 150) (pc1 := 147) dX12_isOwn_146 rfl dX12_isOwn_147 (by decide) rfl e1 (by decide) (fun c => ?_) (fun c => ?_)
                                    · replace h := h.1 c
                                      refine st_iconst (pc' := 167) dX12_isOwn_166 rfl ?_
                                      exact st_iret (ty := .boolean) dX12_isOwn_167 rfl (by decide) rfl h
                                    · replace h := h.2 c
                                      refine st_lload_n (pc' := 151) dX12_isOwn_150 rfl rfl (j := 1) rfl ?_
                                      refine st_ldc2 (pc' := 154) (z := 474214787188) dX12_isOwn_151 rfl q_X12_347 (by decide) ?_
                                      refine st_lif_eq (tg := 166) (pc' := 158) (pc1 := 155) dX12_isOwn_154 rfl dX12_isOwn_155 (by decide) rfl e1 (by decide) (fun c => ?_) (fun c => ?_)
                                      · replace h := h.1 c
                                        refine st_iconst (pc' := 167) dX12_isOwn_166 rfl ?_
                                        exact st_iret (ty := .boolean) dX12_isOwn_167 rfl (by decide) rfl h
                                      · replace h := h.2 c
                                        refine st_lload_n (pc' := 159) dX12_isOwn_158 rfl rfl (j := 1) rfl ?_
                                        refine st_ldc2 (pc' := 162) (z := 28530) dX12_isOwn_159 rfl q_X12_349 (by decide) ?_
                                        refine st_lif_ne (tg := 168) (pc' := 166) (pc1 := 163) dX12_isOwn_162 rfl dX12_isOwn_163 (by decide) rfl e1 (by decide) (fun c => ?_) (fun c => ?_)
                                        · replace h := h.1 c
                                          refine st_lload_n (pc' := 169) dX12_isOwn_168 rfl rfl (j := 1) rfl ?_
                                          refine st_ldc2 (pc' := 172) (z := 6385252) dX12_isOwn_169 rfl q_X12_351 (by decide) ?_
                                          refine st_lif_eq (tg := 208) (pc' := 176) (pc1 := 173) dX12_isOwn_172 rfl dX12_isOwn_173 (by decide) rfl e1 (by decide) (fun c => ?_) (fun c => ?_)
                                          · replace h := h.1 c
                                            refine st_iconst (pc' := 209) dX12_isOwn_208 rfl ?_
                                            exact st_iret (ty := .boolean) dX12_isOwn_209 rfl (by decide) rfl h
                                          · replace h := h.2 c
                                            refine st_lload_n (pc' := 177) dX12_isOwn_176 rfl rfl (j := 1) rfl ?_
                                            refine st_ldc2 (pc' := 180) (z := 7237492) dX12_isOwn_177 rfl q_X12_353 (by decide) ?_
                                            refine st_lif_eq (tg := 208) (pc' := 184) (pc1 := 181) dX12_isOwn_180 rfl dX12_isOwn_181 (by decide) rfl e1 (by decide) (fun c => ?_) (fun c => ?_)
                                            · replace h := h.1 c
                                              refine st_iconst (pc' := 209) dX12_isOwn_208 rfl ?_
                                              exact st_iret (ty := .boolean) dX12_isOwn_209 rfl (by decide) rfl h
                                            · replace h := h.2 c
                                              refine st_lload_n (pc' := 185) dX12_isOwn_184 rfl rfl (j := 1) rfl ?_
                                              refine st_ldc2 (pc' := 188) (z := 6384748) dX12_isOwn_185 rfl q_X12_355 (by decide) ?_
                                              refine st_lif_eq (tg := 208) (pc' := 192) (pc1 := 189) dX12_isOwn_188 rfl dX12_isOwn_189 (by decide) rfl e1 (by decide) (fun c => ?_) (fun c => ?_)
                                              · replace h := h.1 c
                                                refine st_iconst (pc' := 209) dX12_isOwn_208 rfl ?_
                                                exact st_iret (ty := .boolean) dX12_isOwn_209 rfl (by decide) rfl h
                                              · replace h := h.2 c
                                                refine st_lload_n (pc' := 193) dX12_isOwn_192 rfl rfl (j := 1) rfl ?_
                                                refine st_ldc2 (pc' := 196) (z := 7170414) dX12_isOwn_193 rfl q_X12_357 (by decide) ?_
                                                refine st_lif_eq (tg := 208) (pc' := 200) (pc1 := 197) dX12_isOwn_196 rfl dX12_isOwn_197 (by decide) rfl e1 (by decide) (fun c => ?_) (fun c => ?_)
                                                · replace h := h.1 c
                                                  refine st_iconst (pc' := 209) dX12_isOwn_208 rfl ?_
                                                  exact st_iret (ty := .boolean) dX12_isOwn_209 rfl (by decide) rfl h
                                                · replace h := h.2 c
                                                  refine st_lload_n (pc' := 201) dX12_isOwn_200 rfl rfl (j := 1) rfl ?_
                                                  refine st_ldc2 (pc' := 204) (z := 7168376) dX12_isOwn_201 rfl q_X12_359 (by decide) ?_
                                                  refine st_lif_ne (tg := 210) (pc' := 208) (pc1 := 205) dX12_isOwn_204 rfl dX12_isOwn_205 (by decide) rfl e1 (by decide) (fun c => ?_) (fun c => ?_)
                                                  · replace h := h.1 c
                                                    refine st_iconst (pc' := 211) dX12_isOwn_210 rfl ?_
                                                    exact st_iret (ty := .boolean) dX12_isOwn_211 rfl (by decide) rfl h
                                                  · replace h := h.2 c
                                                    refine st_iconst (pc' := 209) dX12_isOwn_208 rfl ?_
                                                    exact st_iret (ty := .boolean) dX12_isOwn_209 rfl (by decide) rfl h
                                        · replace h := h.2 c
                                          refine st_iconst (pc' := 167) dX12_isOwn_166 rfl ?_
                                          exact st_iret (ty := .boolean) dX12_isOwn_167 rfl (by decide) rfl h
                              · replace h := h.2 c
                                refine st_iconst (pc' := 125) dX12_isOwn_124 rfl ?_
                                exact st_iret (ty := .boolean) dX12_isOwn_125 rfl (by decide) rfl h
                    · replace h := h.2 c
                      refine st_iconst (pc' := 83) dX12_isOwn_82 rfl ?_
                      exact st_iret (ty := .boolean) dX12_isOwn_83 rfl (by decide) rfl h
          · replace h := h.2 c
            refine st_iconst (pc' := 41) dX12_isOwn_40 rfl ?_
            exact st_iret (ty := .boolean) dX12_isOwn_41 rfl (by decide) rfl h
set_option maxRecDepth 20000 in
set_option maxHeartbeats 4000000 in
theorem B_X12_ahead_0 {k : Nat} {P : Option Nat} {I : Nat → Nat → Int32} {J : Nat → Nat → Int64}  {Q : Option AV → Mem → Prop} (hk : 0 ≤ k) (h : WP k LAY m_X12_ahead 5 [(0, vR (some 74)), (1, vI (gi I 74 5))] [] (mem (P, some 5, some 22) I J) Q) : WP k LAY m_X12_ahead 0 [(0, vR (some 74))] [] (mem (P, some 5, some 22) I J) Q := by
  refine st_aload_n (pc' := 1) dX12_ahead_0 rfl rfl (j := 0) rfl ?_
  refine G_X12_26_74 dX12_ahead_1 (pc' := 4) rfl rfl ?_
  refine st_istore_n (pc' := 5) (L' := [(1, vI (gi I 74 5)), (0, vR (some 74))]) dX12_ahead_4 rfl rfl (by decide) rfl ?_
  refine WP_sub (L' := [(0, vR (some 74)), (1, vI (gi I 74 5))]) [1, 0] rfl ?_
  exact h
set_option maxRecDepth 20000 in
set_option maxHeartbeats 4000000 in
theorem B_X12_ahead_5 {k : Nat} {P : Option Nat} {I : Nat → Nat → Int32} {J : Nat → Nat → Int64} {x1 : Int} {Q : Option AV → Mem → Prop} (hk : 1 ≤ k) (h : inR x1 ∧ (((gi I 74 2) ≤ x1 → ((x1 < (gi I 74 2) → ((0 ≤ x1 ∧ x1 < 1800) ∧ (((97 ≤ (gi I 75 (x1).toNat) ∧ (gi I 75 (x1).toNat) ≤ 122) → (WP k LAY m_X12_ahead 98 [(0, vR (some 74)), (1, vI x1), (2, vI (b2i (97 ≤ (gi I 75 (x1).toNat) ∧ (gi I 75 (x1).toNat) ≤ 122))), (3, vI (b2i (48 ≤ (gi I 75 (x1).toNat) ∧ (gi I 75 (x1).toNat) ≤ 57)))] [] (mem (P, some 5, some 22) (si (si (si (si I 74 4 x1) 74 5 x1) 74 3 0) 74 12 (-1)) J) Q)) ∧ (¬ (97 ≤ (gi I 75 (x1).toNat) ∧ (gi I 75 (x1).toNat) ≤ 122) → ((¬ (48 ≤ (gi I 75 (x1).toNat) ∧ (gi I 75 (x1).toNat) ≤ 57) → (WP k LAY m_X12_ahead 135 [(0, vR (some 74)), (1, vI x1), (2, vI (b2i (97 ≤ (gi I 75 (x1).toNat) ∧ (gi I 75 (x1).toNat) ≤ 122))), (3, vI (b2i (48 ≤ (gi I 75 (x1).toNat) ∧ (gi I 75 (x1).toNat) ≤ 57)))] [] (mem (P, some 5, some 22) (si (si (si (si I 74 4 x1) 74 5 x1) 74 3 0) 74 12 (-1)) J) Q)) ∧ ((48 ≤ (gi I 75 (x1).toNat) ∧ (gi I 75 (x1).toNat) ≤ 57) → (WP k LAY m_X12_ahead 98 [(0, vR (some 74)), (1, vI x1), (2, vI (b2i (97 ≤ (gi I 75 (x1).toNat) ∧ (gi I 75 (x1).toNat) ≤ 122))), (3, vI (b2i (48 ≤ (gi I 75 (x1).toNat) ∧ (gi I 75 (x1).toNat) ≤ 57)))] [] (mem (P, some 5, some 22) (si (si (si (si I 74 4 x1) 74 5 x1) 74 3 0) 74 12 (-1)) J) Q))))))) ∧ (¬ x1 < (gi I 74 2) → (Q none (mem (P, some 5, some 22) (si (si (si (si I 74 4 x1) 74 5 x1) 74 3 0) 74 12 (-1)) J))))) ∧ (¬ (gi I 74 2) ≤ x1 → ((0 ≤ x1 ∧ x1 < 1800) ∧ (((gi I 75 (x1).toNat) = 32 → (WP k LAY m_X12_ahead 5 [(0, vR (some 74)), (1, vI (x1 + 1))] [] (mem (P, some 5, some 22) I J) Q)) ∧ (¬ (gi I 75 (x1).toNat) = 32 → ((¬ (gi I 75 (x1).toNat) = 10 → ((x1 < (gi I 74 2) → (((97 ≤ (gi I 75 (x1).toNat) ∧ (gi I 75 (x1).toNat) ≤ 122) → (WP k LAY m_X12_ahead 98 [(0, vR (some 74)), (1, vI x1), (2, vI (b2i (97 ≤ (gi I 75 (x1).toNat) ∧ (gi I 75 (x1).toNat) ≤ 122))), (3, vI (b2i (48 ≤ (gi I 75 (x1).toNat) ∧ (gi I 75 (x1).toNat) ≤ 57)))] [] (mem (P, some 5, some 22) (si (si (si (si I 74 4 x1) 74 5 x1) 74 3 0) 74 12 (-1)) J) Q)) ∧ (¬ (97 ≤ (gi I 75 (x1).toNat) ∧ (gi I 75 (x1).toNat) ≤ 122) → ((¬ (48 ≤ (gi I 75 (x1).toNat) ∧ (gi I 75 (x1).toNat) ≤ 57) → (WP k LAY m_X12_ahead 135 [(0, vR (some 74)), (1, vI x1), (2, vI (b2i (97 ≤ (gi I 75 (x1).toNat) ∧ (gi I 75 (x1).toNat) ≤ 122))), (3, vI (b2i (48 ≤ (gi I 75 (x1).toNat) ∧ (gi I 75 (x1).toNat) ≤ 57)))] [] (mem (P, some 5, some 22) (si (si (si (si I 74 4 x1) 74 5 x1) 74 3 0) 74 12 (-1)) J) Q)) ∧ ((48 ≤ (gi I 75 (x1).toNat) ∧ (gi I 75 (x1).toNat) ≤ 57) → (WP k LAY m_X12_ahead 98 [(0, vR (some 74)), (1, vI x1), (2, vI (b2i (97 ≤ (gi I 75 (x1).toNat) ∧ (gi I 75 (x1).toNat) ≤ 122))), (3, vI (b2i (48 ≤ (gi I 75 (x1).toNat) ∧ (gi I 75 (x1).toNat) ≤ 57)))] [] (mem (P, some 5, some 22) (si (si (si (si I 74 4 x1) 74 5 x1) 74 3 0) 74 12 (-1)) J) Q)))))) ∧ (¬ x1 < (gi I 74 2) → (Q none (mem (P, some 5, some 22) (si (si (si (si I 74 4 x1) 74 5 x1) 74 3 0) 74 12 (-1)) J))))) ∧ ((gi I 75 (x1).toNat) = 10 → (WP k LAY m_X12_ahead 5 [(0, vR (some 74)), (1, vI (x1 + 1))] [] (mem (P, some 5, some 22) I J) Q))))))))) : WP k LAY m_X12_ahead 5 [(0, vR (some 74)), (1, vI x1)] [] (mem (P, some 5, some 22) I J) Q := by
  refine st_iload_n (pc' := 6) dX12_ahead_5 rfl rfl (j := 1) rfl ?_
  refine st_aload_n (pc' := 7) dX12_ahead_6 rfl rfl (j := 0) rfl ?_
  refine G_X12_17_74 dX12_ahead_7 (pc' := 10) rfl rfl ?_
  obtain ⟨e1, h⟩ := h
  refine st_icmp_ge (tg := 41) (pc' := 13) dX12_ahead_10 (by decide) rfl e1 (gi_in _ _ _) (fun c => ?_) (fun c => ?_)
  · replace h := h.1 c
    refine st_aload_n (pc' := 42) dX12_ahead_41 rfl rfl (j := 0) rfl ?_
    refine st_iload_n (pc' := 43) dX12_ahead_42 rfl rfl (j := 1) rfl ?_
    refine P_X12_23_74 dX12_ahead_43 (pc' := 46) rfl rfl ?_
    refine st_aload_n (pc' := 47) dX12_ahead_46 rfl rfl (j := 0) rfl ?_
    refine st_iload_n (pc' := 48) dX12_ahead_47 rfl rfl (j := 1) rfl ?_
    refine P_X12_26_74 dX12_ahead_48 (pc' := 51) rfl rfl ?_
    refine st_aload_n (pc' := 52) dX12_ahead_51 rfl rfl (j := 0) rfl ?_
    refine st_iconst (pc' := 53) dX12_ahead_52 rfl ?_
    refine P_X12_20_74 dX12_ahead_53 (pc' := 56) rfl rfl ?_
    refine st_aload_n (pc' := 57) dX12_ahead_56 rfl rfl (j := 0) rfl ?_
    refine st_iconst (pc' := 58) dX12_ahead_57 rfl ?_
    refine P_X12_48_74 dX12_ahead_58 (pc' := 61) rfl rfl ?_
    refine st_iload_n (pc' := 62) dX12_ahead_61 rfl rfl (j := 1) rfl ?_
    refine st_aload_n (pc' := 63) dX12_ahead_62 rfl rfl (j := 0) rfl ?_
    refine G_X12_17_74 dX12_ahead_63 (pc' := 66) rfl rfl ?_
    rw [show gi (si (si (si (si I 74 4 x1) 74 5 x1) 74 3 0) 74 12 (-1)) 74 2 = (gi I 74 2) from ((gi_idx _ _ _ (by decide)).trans ((gi_idx _ _ _ (by decide)).trans ((gi_idx _ _ _ (by decide)).trans (gi_idx _ _ _ (by decide)))))]
    refine st_icmp_lt (tg := 70) (pc' := 69) dX12_ahead_66 (by decide) rfl e1 (gi_in _ _ _) (fun c => ?_) (fun c => ?_)
    · replace h := h.1 c
      refine st_aload_n (pc' := 71) dX12_ahead_70 rfl rfl (j := 0) rfl ?_
      refine G_X12_7_74 dX12_ahead_71 (pc' := 74) rfl rfl ?_
      refine st_iload_n (pc' := 75) dX12_ahead_74 rfl rfl (j := 1) rfl ?_
      obtain ⟨e2, h⟩ := h
      refine st_iaload (pc' := 76) (v := (gi I 75 (x1).toNat)) dX12_ahead_75 rfl L_75 (by decide) e2 (show gi (si (si (si (si I 74 4 x1) 74 5 x1) 74 3 0) 74 12 (-1)) 75 (x1).toNat = (gi I 75 (x1).toNat) from ((gi_cell _ _ _ _ (by decide)).trans ((gi_cell _ _ _ _ (by decide)).trans ((gi_cell _ _ _ _ (by decide)).trans (gi_cell _ _ _ _ (by decide)))))) ?_
      refine st_callS (pc' := 79) (kc := k - 1) (E' := LAY) (cal := m_X12_isLetter) (n := 1) (as := [vI (gi I 75 (x1).toNat)]) (S := []) dX12_ahead_76 rfl l_X12_291 k_X12_isLetter rfl rfl (Nat.le_of_ble_eq_true rfl) (by omega) ⟨Nat.le_refl _, Nat.le_refl _, Nat.le_refl _, Nat.le_refl _⟩ (Q1 := fun r M' => WP k LAY m_X12_ahead 79 [(0, vR (some 74)), (1, vI x1)] (r.toList ++ []) M' Q) (S_X12_isLetter (by omega) (gi_in _ _ _) ?_) (fun r M' q => q)
      change WP _ LAY m_X12_ahead 79 [(0, vR (some 74)), (1, vI x1)] [vI (b2i (97 ≤ (gi I 75 (x1).toNat) ∧ (gi I 75 (x1).toNat) ≤ 122))] (mem (P, some 5, some 22) (si (si (si (si I 74 4 x1) 74 5 x1) 74 3 0) 74 12 (-1)) J) Q
      refine st_istore_n (pc' := 80) (L' := [(2, vI (b2i (97 ≤ (gi I 75 (x1).toNat) ∧ (gi I 75 (x1).toNat) ≤ 122))), (0, vR (some 74)), (1, vI x1)]) dX12_ahead_79 rfl rfl (by decide) rfl ?_
      refine st_aload_n (pc' := 81) dX12_ahead_80 rfl rfl (j := 1) rfl ?_
      refine G_X12_7_74 dX12_ahead_81 (pc' := 84) rfl rfl ?_
      refine st_iload_n (pc' := 85) dX12_ahead_84 rfl rfl (j := 2) rfl ?_
      refine st_iaload (pc' := 86) (v := (gi I 75 (x1).toNat)) dX12_ahead_85 rfl L_75 (by decide) e2 (show gi (si (si (si (si I 74 4 x1) 74 5 x1) 74 3 0) 74 12 (-1)) 75 (x1).toNat = (gi I 75 (x1).toNat) from ((gi_cell _ _ _ _ (by decide)).trans ((gi_cell _ _ _ _ (by decide)).trans ((gi_cell _ _ _ _ (by decide)).trans (gi_cell _ _ _ _ (by decide)))))) ?_
      refine st_callS (pc' := 89) (kc := k - 1) (E' := LAY) (cal := m_X12_isDigit) (n := 1) (as := [vI (gi I 75 (x1).toNat)]) (S := []) dX12_ahead_86 rfl l_X12_295 k_X12_isDigit rfl rfl (Nat.le_of_ble_eq_true rfl) (by omega) ⟨Nat.le_refl _, Nat.le_refl _, Nat.le_refl _, Nat.le_refl _⟩ (Q1 := fun r M' => WP k LAY m_X12_ahead 89 [(2, vI (b2i (97 ≤ (gi I 75 (x1).toNat) ∧ (gi I 75 (x1).toNat) ≤ 122))), (0, vR (some 74)), (1, vI x1)] (r.toList ++ []) M' Q) (S_X12_isDigit (by omega) (gi_in _ _ _) ?_) (fun r M' q => q)
      change WP _ LAY m_X12_ahead 89 [(2, vI (b2i (97 ≤ (gi I 75 (x1).toNat) ∧ (gi I 75 (x1).toNat) ≤ 122))), (0, vR (some 74)), (1, vI x1)] [vI (b2i (48 ≤ (gi I 75 (x1).toNat) ∧ (gi I 75 (x1).toNat) ≤ 57))] (mem (P, some 5, some 22) (si (si (si (si I 74 4 x1) 74 5 x1) 74 3 0) 74 12 (-1)) J) Q
      refine st_istore_n (pc' := 90) (L' := [(3, vI (b2i (48 ≤ (gi I 75 (x1).toNat) ∧ (gi I 75 (x1).toNat) ≤ 57))), (2, vI (b2i (97 ≤ (gi I 75 (x1).toNat) ∧ (gi I 75 (x1).toNat) ≤ 122))), (0, vR (some 74)), (1, vI x1)]) dX12_ahead_89 rfl rfl (by decide) rfl ?_
      refine st_iload_n (pc' := 91) dX12_ahead_90 rfl rfl (j := 1) rfl ?_
      refine st_if_ne (tg := 98) (pc' := 94) dX12_ahead_91 (by decide) rfl (b2i_in _) (fun c => ?_) (fun c => ?_)
      · replace h := h.1 (b2i_t.mp c)
        refine WP_sub (L' := [(0, vR (some 74)), (1, vI x1), (2, vI (b2i (97 ≤ (gi I 75 (x1).toNat) ∧ (gi I 75 (x1).toNat) ≤ 122))), (3, vI (b2i (48 ≤ (gi I 75 (x1).toNat) ∧ (gi I 75 (x1).toNat) ≤ 57)))]) [2, 3, 1, 0] rfl ?_
        exact h
      · replace h := h.2 (b2i_f.mp c)
        refine st_iload_n (pc' := 95) dX12_ahead_94 rfl rfl (j := 0) rfl ?_
        refine st_if_eq (tg := 135) (pc' := 98) dX12_ahead_95 (by decide) rfl (b2i_in _) (fun c => ?_) (fun c => ?_)
        · replace h := h.1 (b2i_f.mp c)
          refine WP_sub (L' := [(0, vR (some 74)), (1, vI x1), (2, vI (b2i (97 ≤ (gi I 75 (x1).toNat) ∧ (gi I 75 (x1).toNat) ≤ 122))), (3, vI (b2i (48 ≤ (gi I 75 (x1).toNat) ∧ (gi I 75 (x1).toNat) ≤ 57)))]) [2, 3, 1, 0] rfl ?_
          exact h
        · replace h := h.2 (b2i_t.mp c)
          refine WP_sub (L' := [(0, vR (some 74)), (1, vI x1), (2, vI (b2i (97 ≤ (gi I 75 (x1).toNat) ∧ (gi I 75 (x1).toNat) ≤ 122))), (3, vI (b2i (48 ≤ (gi I 75 (x1).toNat) ∧ (gi I 75 (x1).toNat) ≤ 57)))]) [2, 3, 1, 0] rfl ?_
          exact h
    · replace h := h.2 c
      exact st_vret dX12_ahead_69 rfl rfl h
  · replace h := h.2 c
    refine st_aload_n (pc' := 14) dX12_ahead_13 rfl rfl (j := 0) rfl ?_
    refine G_X12_7_74 dX12_ahead_14 (pc' := 17) rfl rfl ?_
    refine st_iload_n (pc' := 18) dX12_ahead_17 rfl rfl (j := 1) rfl ?_
    obtain ⟨e3, h⟩ := h
    refine st_iaload (pc' := 19) (v := (gi I 75 (x1).toNat)) dX12_ahead_18 rfl L_75 (by decide) e3 (show gi I 75 (x1).toNat = (gi I 75 (x1).toNat) from rfl) ?_
    refine st_bipush (pc' := 21) dX12_ahead_19 rfl (by decide) ?_
    refine st_icmp_eq (tg := 35) (pc' := 24) dX12_ahead_21 (by decide) rfl (gi_in _ _ _) (by decide) (fun c => ?_) (fun c => ?_)
    · replace h := h.1 c
      refine st_iinc (pc' := 38) (L' := [(1, vI (x1 + 1)), (0, vR (some 74))]) (j := 1) dX12_ahead_35 rfl (by decide) rfl rfl ?_
      refine st_goto (pc' := 5) dX12_ahead_38 (by decide) ?_
      refine WP_sub (L' := [(0, vR (some 74)), (1, vI (x1 + 1))]) [1, 0] rfl ?_
      exact h
    · replace h := h.2 c
      refine st_aload_n (pc' := 25) dX12_ahead_24 rfl rfl (j := 0) rfl ?_
      refine G_X12_7_74 dX12_ahead_25 (pc' := 28) rfl rfl ?_
      refine st_iload_n (pc' := 29) dX12_ahead_28 rfl rfl (j := 1) rfl ?_
      refine st_iaload (pc' := 30) (v := (gi I 75 (x1).toNat)) dX12_ahead_29 rfl L_75 (by decide) e3 (show gi I 75 (x1).toNat = (gi I 75 (x1).toNat) from rfl) ?_
      refine st_bipush (pc' := 32) dX12_ahead_30 rfl (by decide) ?_
      refine st_icmp_ne (tg := 41) (pc' := 35) dX12_ahead_32 (by decide) rfl (gi_in _ _ _) (by decide) (fun c => ?_) (fun c => ?_)
      · replace h := h.1 c
        refine st_aload_n (pc' := 42) dX12_ahead_41 rfl rfl (j := 0) rfl ?_
        refine st_iload_n (pc' := 43) dX12_ahead_42 rfl rfl (j := 1) rfl ?_
        refine P_X12_23_74 dX12_ahead_43 (pc' := 46) rfl rfl ?_
        refine st_aload_n (pc' := 47) dX12_ahead_46 rfl rfl (j := 0) rfl ?_
        refine st_iload_n (pc' := 48) dX12_ahead_47 rfl rfl (j := 1) rfl ?_
        refine P_X12_26_74 dX12_ahead_48 (pc' := 51) rfl rfl ?_
        refine st_aload_n (pc' := 52) dX12_ahead_51 rfl rfl (j := 0) rfl ?_
        refine st_iconst (pc' := 53) dX12_ahead_52 rfl ?_
        refine P_X12_20_74 dX12_ahead_53 (pc' := 56) rfl rfl ?_
        refine st_aload_n (pc' := 57) dX12_ahead_56 rfl rfl (j := 0) rfl ?_
        refine st_iconst (pc' := 58) dX12_ahead_57 rfl ?_
        refine P_X12_48_74 dX12_ahead_58 (pc' := 61) rfl rfl ?_
        refine st_iload_n (pc' := 62) dX12_ahead_61 rfl rfl (j := 1) rfl ?_
        refine st_aload_n (pc' := 63) dX12_ahead_62 rfl rfl (j := 0) rfl ?_
        refine G_X12_17_74 dX12_ahead_63 (pc' := 66) rfl rfl ?_
        rw [show gi (si (si (si (si I 74 4 x1) 74 5 x1) 74 3 0) 74 12 (-1)) 74 2 = (gi I 74 2) from ((gi_idx _ _ _ (by decide)).trans ((gi_idx _ _ _ (by decide)).trans ((gi_idx _ _ _ (by decide)).trans (gi_idx _ _ _ (by decide)))))]
        refine st_icmp_lt (tg := 70) (pc' := 69) dX12_ahead_66 (by decide) rfl e1 (gi_in _ _ _) (fun c => ?_) (fun c => ?_)
        · replace h := h.1 c
          refine st_aload_n (pc' := 71) dX12_ahead_70 rfl rfl (j := 0) rfl ?_
          refine G_X12_7_74 dX12_ahead_71 (pc' := 74) rfl rfl ?_
          refine st_iload_n (pc' := 75) dX12_ahead_74 rfl rfl (j := 1) rfl ?_
          refine st_iaload (pc' := 76) (v := (gi I 75 (x1).toNat)) dX12_ahead_75 rfl L_75 (by decide) e3 (show gi (si (si (si (si I 74 4 x1) 74 5 x1) 74 3 0) 74 12 (-1)) 75 (x1).toNat = (gi I 75 (x1).toNat) from ((gi_cell _ _ _ _ (by decide)).trans ((gi_cell _ _ _ _ (by decide)).trans ((gi_cell _ _ _ _ (by decide)).trans (gi_cell _ _ _ _ (by decide)))))) ?_
          refine st_callS (pc' := 79) (kc := k - 1) (E' := LAY) (cal := m_X12_isLetter) (n := 1) (as := [vI (gi I 75 (x1).toNat)]) (S := []) dX12_ahead_76 rfl l_X12_291 k_X12_isLetter rfl rfl (Nat.le_of_ble_eq_true rfl) (by omega) ⟨Nat.le_refl _, Nat.le_refl _, Nat.le_refl _, Nat.le_refl _⟩ (Q1 := fun r M' => WP k LAY m_X12_ahead 79 [(0, vR (some 74)), (1, vI x1)] (r.toList ++ []) M' Q) (S_X12_isLetter (by omega) (gi_in _ _ _) ?_) (fun r M' q => q)
          change WP _ LAY m_X12_ahead 79 [(0, vR (some 74)), (1, vI x1)] [vI (b2i (97 ≤ (gi I 75 (x1).toNat) ∧ (gi I 75 (x1).toNat) ≤ 122))] (mem (P, some 5, some 22) (si (si (si (si I 74 4 x1) 74 5 x1) 74 3 0) 74 12 (-1)) J) Q
          refine st_istore_n (pc' := 80) (L' := [(2, vI (b2i (97 ≤ (gi I 75 (x1).toNat) ∧ (gi I 75 (x1).toNat) ≤ 122))), (0, vR (some 74)), (1, vI x1)]) dX12_ahead_79 rfl rfl (by decide) rfl ?_
          refine st_aload_n (pc' := 81) dX12_ahead_80 rfl rfl (j := 1) rfl ?_
          refine G_X12_7_74 dX12_ahead_81 (pc' := 84) rfl rfl ?_
          refine st_iload_n (pc' := 85) dX12_ahead_84 rfl rfl (j := 2) rfl ?_
          refine st_iaload (pc' := 86) (v := (gi I 75 (x1).toNat)) dX12_ahead_85 rfl L_75 (by decide) e3 (show gi (si (si (si (si I 74 4 x1) 74 5 x1) 74 3 0) 74 12 (-1)) 75 (x1).toNat = (gi I 75 (x1).toNat) from ((gi_cell _ _ _ _ (by decide)).trans ((gi_cell _ _ _ _ (by decide)).trans ((gi_cell _ _ _ _ (by decide)).trans (gi_cell _ _ _ _ (by decide)))))) ?_
          refine st_callS (pc' := 89) (kc := k - 1) (E' := LAY) (cal := m_X12_isDigit) (n := 1) (as := [vI (gi I 75 (x1).toNat)]) (S := []) dX12_ahead_86 rfl l_X12_295 k_X12_isDigit rfl rfl (Nat.le_of_ble_eq_true rfl) (by omega) ⟨Nat.le_refl _, Nat.le_refl _, Nat.le_refl _, Nat.le_refl _⟩ (Q1 := fun r M' => WP k LAY m_X12_ahead 89 [(2, vI (b2i (97 ≤ (gi I 75 (x1).toNat) ∧ (gi I 75 (x1).toNat) ≤ 122))), (0, vR (some 74)), (1, vI x1)] (r.toList ++ []) M' Q) (S_X12_isDigit (by omega) (gi_in _ _ _) ?_) (fun r M' q => q)
          change WP _ LAY m_X12_ahead 89 [(2, vI (b2i (97 ≤ (gi I 75 (x1).toNat) ∧ (gi I 75 (x1).toNat) ≤ 122))), (0, vR (some 74)), (1, vI x1)] [vI (b2i (48 ≤ (gi I 75 (x1).toNat) ∧ (gi I 75 (x1).toNat) ≤ 57))] (mem (P, some 5, some 22) (si (si (si (si I 74 4 x1) 74 5 x1) 74 3 0) 74 12 (-1)) J) Q
          refine st_istore_n (pc' := 90) (L' := [(3, vI (b2i (48 ≤ (gi I 75 (x1).toNat) ∧ (gi I 75 (x1).toNat) ≤ 57))), (2, vI (b2i (97 ≤ (gi I 75 (x1).toNat) ∧ (gi I 75 (x1).toNat) ≤ 122))), (0, vR (some 74)), (1, vI x1)]) dX12_ahead_89 rfl rfl (by decide) rfl ?_
          refine st_iload_n (pc' := 91) dX12_ahead_90 rfl rfl (j := 1) rfl ?_
          refine st_if_ne (tg := 98) (pc' := 94) dX12_ahead_91 (by decide) rfl (b2i_in _) (fun c => ?_) (fun c => ?_)
          · replace h := h.1 (b2i_t.mp c)
            refine WP_sub (L' := [(0, vR (some 74)), (1, vI x1), (2, vI (b2i (97 ≤ (gi I 75 (x1).toNat) ∧ (gi I 75 (x1).toNat) ≤ 122))), (3, vI (b2i (48 ≤ (gi I 75 (x1).toNat) ∧ (gi I 75 (x1).toNat) ≤ 57)))]) [2, 3, 1, 0] rfl ?_
            exact h
          · replace h := h.2 (b2i_f.mp c)
            refine st_iload_n (pc' := 95) dX12_ahead_94 rfl rfl (j := 0) rfl ?_
            refine st_if_eq (tg := 135) (pc' := 98) dX12_ahead_95 (by decide) rfl (b2i_in _) (fun c => ?_) (fun c => ?_)
            · replace h := h.1 (b2i_f.mp c)
              refine WP_sub (L' := [(0, vR (some 74)), (1, vI x1), (2, vI (b2i (97 ≤ (gi I 75 (x1).toNat) ∧ (gi I 75 (x1).toNat) ≤ 122))), (3, vI (b2i (48 ≤ (gi I 75 (x1).toNat) ∧ (gi I 75 (x1).toNat) ≤ 57)))]) [2, 3, 1, 0] rfl ?_
              exact h
            · replace h := h.2 (b2i_t.mp c)
              refine WP_sub (L' := [(0, vR (some 74)), (1, vI x1), (2, vI (b2i (97 ≤ (gi I 75 (x1).toNat) ∧ (gi I 75 (x1).toNat) ≤ 122))), (3, vI (b2i (48 ≤ (gi I 75 (x1).toNat) ∧ (gi I 75 (x1).toNat) ≤ 57)))]) [2, 3, 1, 0] rfl ?_
              exact h
        · replace h := h.2 c
          exact st_vret dX12_ahead_69 rfl rfl h
      · replace h := h.2 c
        refine st_iinc (pc' := 38) (L' := [(1, vI (x1 + 1)), (0, vR (some 74))]) (j := 1) dX12_ahead_35 rfl (by decide) rfl rfl ?_
        refine st_goto (pc' := 5) dX12_ahead_38 (by decide) ?_
        refine WP_sub (L' := [(0, vR (some 74)), (1, vI (x1 + 1))]) [1, 0] rfl ?_
        exact h
set_option maxRecDepth 20000 in
set_option maxHeartbeats 4000000 in
theorem B_X12_ahead_98 {k : Nat} {P : Option Nat} {I : Nat → Nat → Int32} {J : Nat → Nat → Int64} {x1 : Int} {x2 : Int} {x3 : Int} {Q : Option AV → Mem → Prop} (hk : 1 ≤ k) (h : inR x1 ∧ ((x1 ≤ 0 → (WP k LAY m_X12_ahead 135 [(0, vR (some 74)), (1, vI x1), (2, vI x2), (3, vI x3)] [] (mem (P, some 5, some 22) I J) Q)) ∧ (¬ x1 ≤ 0 → ((0 ≤ (x1 - 1) ∧ (x1 - 1) < 1800) ∧ (((97 ≤ (gi I 75 (x1 - 1).toNat) ∧ (gi I 75 (x1 - 1).toNat) ≤ 122) → (WP k LAY m_X12_ahead 135 [(0, vR (some 74)), (1, vI x1), (2, vI x2), (3, vI x3)] [] (mem (P, some 5, some 22) (si I 74 12 x1) J) Q)) ∧ (¬ (97 ≤ (gi I 75 (x1 - 1).toNat) ∧ (gi I 75 (x1 - 1).toNat) ≤ 122) → ((¬ (48 ≤ (gi I 75 (x1 - 1).toNat) ∧ (gi I 75 (x1 - 1).toNat) ≤ 57) → (WP k LAY m_X12_ahead 135 [(0, vR (some 74)), (1, vI x1), (2, vI x2), (3, vI x3)] [] (mem (P, some 5, some 22) I J) Q)) ∧ ((48 ≤ (gi I 75 (x1 - 1).toNat) ∧ (gi I 75 (x1 - 1).toNat) ≤ 57) → (WP k LAY m_X12_ahead 135 [(0, vR (some 74)), (1, vI x1), (2, vI x2), (3, vI x3)] [] (mem (P, some 5, some 22) (si I 74 12 x1) J) Q))))))))) : WP k LAY m_X12_ahead 98 [(0, vR (some 74)), (1, vI x1), (2, vI x2), (3, vI x3)] [] (mem (P, some 5, some 22) I J) Q := by
  refine st_iload_n (pc' := 99) dX12_ahead_98 rfl rfl (j := 1) rfl ?_
  obtain ⟨e1, h⟩ := h
  refine st_if_le (tg := 135) (pc' := 102) dX12_ahead_99 (by decide) rfl e1 (fun c => ?_) (fun c => ?_)
  · replace h := h.1 c
    exact h
  · replace h := h.2 c
    refine st_aload_n (pc' := 103) dX12_ahead_102 rfl rfl (j := 0) rfl ?_
    refine G_X12_7_74 dX12_ahead_103 (pc' := 106) rfl rfl ?_
    refine st_iload_n (pc' := 107) dX12_ahead_106 rfl rfl (j := 1) rfl ?_
    refine st_iconst (pc' := 108) dX12_ahead_107 rfl ?_
    refine st_isub (pc' := 109) dX12_ahead_108 rfl ?_
    obtain ⟨e2, h⟩ := h
    refine st_iaload (pc' := 110) (v := (gi I 75 (x1 - 1).toNat)) dX12_ahead_109 rfl L_75 (by decide) e2 (show gi I 75 (x1 - 1).toNat = (gi I 75 (x1 - 1).toNat) from rfl) ?_
    refine st_callS (pc' := 113) (kc := k - 1) (E' := LAY) (cal := m_X12_isLetter) (n := 1) (as := [vI (gi I 75 (x1 - 1).toNat)]) (S := []) dX12_ahead_110 rfl l_X12_291 k_X12_isLetter rfl rfl (Nat.le_of_ble_eq_true rfl) (by omega) ⟨Nat.le_refl _, Nat.le_refl _, Nat.le_refl _, Nat.le_refl _⟩ (Q1 := fun r M' => WP k LAY m_X12_ahead 113 [(0, vR (some 74)), (1, vI x1), (2, vI x2), (3, vI x3)] (r.toList ++ []) M' Q) (S_X12_isLetter (by omega) (gi_in _ _ _) ?_) (fun r M' q => q)
    change WP _ LAY m_X12_ahead 113 [(0, vR (some 74)), (1, vI x1), (2, vI x2), (3, vI x3)] [vI (b2i (97 ≤ (gi I 75 (x1 - 1).toNat) ∧ (gi I 75 (x1 - 1).toNat) ≤ 122))] (mem (P, some 5, some 22) I J) Q
    refine st_if_ne (tg := 130) (pc' := 116) dX12_ahead_113 (by decide) rfl (b2i_in _) (fun c => ?_) (fun c => ?_)
    · replace h := h.1 (b2i_t.mp c)
      refine st_aload_n (pc' := 131) dX12_ahead_130 rfl rfl (j := 0) rfl ?_
      refine st_iload_n (pc' := 132) dX12_ahead_131 rfl rfl (j := 1) rfl ?_
      refine P_X12_48_74 dX12_ahead_132 (pc' := 135) rfl rfl ?_
      exact h
    · replace h := h.2 (b2i_f.mp c)
      refine st_aload_n (pc' := 117) dX12_ahead_116 rfl rfl (j := 0) rfl ?_
      refine G_X12_7_74 dX12_ahead_117 (pc' := 120) rfl rfl ?_
      refine st_iload_n (pc' := 121) dX12_ahead_120 rfl rfl (j := 1) rfl ?_
      refine st_iconst (pc' := 122) dX12_ahead_121 rfl ?_
      refine st_isub (pc' := 123) dX12_ahead_122 rfl ?_
      refine st_iaload (pc' := 124) (v := (gi I 75 (x1 - 1).toNat)) dX12_ahead_123 rfl L_75 (by decide) e2 (show gi I 75 (x1 - 1).toNat = (gi I 75 (x1 - 1).toNat) from rfl) ?_
      refine st_callS (pc' := 127) (kc := k - 1) (E' := LAY) (cal := m_X12_isDigit) (n := 1) (as := [vI (gi I 75 (x1 - 1).toNat)]) (S := []) dX12_ahead_124 rfl l_X12_295 k_X12_isDigit rfl rfl (Nat.le_of_ble_eq_true rfl) (by omega) ⟨Nat.le_refl _, Nat.le_refl _, Nat.le_refl _, Nat.le_refl _⟩ (Q1 := fun r M' => WP k LAY m_X12_ahead 127 [(0, vR (some 74)), (1, vI x1), (2, vI x2), (3, vI x3)] (r.toList ++ []) M' Q) (S_X12_isDigit (by omega) (gi_in _ _ _) ?_) (fun r M' q => q)
      change WP _ LAY m_X12_ahead 127 [(0, vR (some 74)), (1, vI x1), (2, vI x2), (3, vI x3)] [vI (b2i (48 ≤ (gi I 75 (x1 - 1).toNat) ∧ (gi I 75 (x1 - 1).toNat) ≤ 57))] (mem (P, some 5, some 22) I J) Q
      refine st_if_eq (tg := 135) (pc' := 130) dX12_ahead_127 (by decide) rfl (b2i_in _) (fun c => ?_) (fun c => ?_)
      · replace h := h.1 (b2i_f.mp c)
        exact h
      · replace h := h.2 (b2i_t.mp c)
        refine st_aload_n (pc' := 131) dX12_ahead_130 rfl rfl (j := 0) rfl ?_
        refine st_iload_n (pc' := 132) dX12_ahead_131 rfl rfl (j := 1) rfl ?_
        refine P_X12_48_74 dX12_ahead_132 (pc' := 135) rfl rfl ?_
        exact h
set_option maxRecDepth 20000 in
set_option maxHeartbeats 4000000 in
theorem B_X12_ahead_135 {k : Nat} {P : Option Nat} {I : Nat → Nat → Int32} {J : Nat → Nat → Int64} {x1 : Int} {x2 : Int} {x3 : Int} {Q : Option AV → Mem → Prop} (hk : 0 ≤ k) (h : inR x2 ∧ ((¬ x2 = 0 → ((x2 = 0 → ((x2 = 0 → (WP k LAY m_X12_ahead 199 [(0, vR (some 74)), (1, vI x1), (2, vI x2), (3, vI x3)] [vI 4] (mem (P, some 5, some 22) (si (si (si (si I 74 6 0) 74 3 3) 74 5 (x1 + 1)) 74 3 2) (sl J 74 7 0)) Q)) ∧ (¬ x2 = 0 → (WP k LAY m_X12_ahead 199 [(0, vR (some 74)), (1, vI x1), (2, vI x2), (3, vI x3)] [vI 6] (mem (P, some 5, some 22) (si (si (si (si I 74 6 0) 74 3 3) 74 5 (x1 + 1)) 74 3 2) (sl J 74 7 0)) Q)))) ∧ (¬ x2 = 0 → ((x2 = 0 → (WP k LAY m_X12_ahead 199 [(0, vR (some 74)), (1, vI x1), (2, vI x2), (3, vI x3)] [vI 4] (mem (P, some 5, some 22) (si (si (si (si I 74 6 0) 74 3 3) 74 5 (x1 + 1)) 74 3 1) (sl J 74 7 0)) Q)) ∧ (¬ x2 = 0 → (WP k LAY m_X12_ahead 199 [(0, vR (some 74)), (1, vI x1), (2, vI x2), (3, vI x3)] [vI 6] (mem (P, some 5, some 22) (si (si (si (si I 74 6 0) 74 3 3) 74 5 (x1 + 1)) 74 3 1) (sl J 74 7 0)) Q)))))) ∧ (x2 = 0 → (inR x3 ∧ ((¬ x3 = 0 → ((x2 = 0 → ((x2 = 0 → (WP k LAY m_X12_ahead 199 [(0, vR (some 74)), (1, vI x1), (2, vI x2), (3, vI x3)] [vI 4] (mem (P, some 5, some 22) (si (si (si (si I 74 6 0) 74 3 3) 74 5 (x1 + 1)) 74 3 2) (sl J 74 7 0)) Q)) ∧ (¬ x2 = 0 → (WP k LAY m_X12_ahead 199 [(0, vR (some 74)), (1, vI x1), (2, vI x2), (3, vI x3)] [vI 6] (mem (P, some 5, some 22) (si (si (si (si I 74 6 0) 74 3 3) 74 5 (x1 + 1)) 74 3 2) (sl J 74 7 0)) Q)))) ∧ (¬ x2 = 0 → ((x2 = 0 → (WP k LAY m_X12_ahead 199 [(0, vR (some 74)), (1, vI x1), (2, vI x2), (3, vI x3)] [vI 4] (mem (P, some 5, some 22) (si (si (si (si I 74 6 0) 74 3 3) 74 5 (x1 + 1)) 74 3 1) (sl J 74 7 0)) Q)) ∧ (¬ x2 = 0 → (WP k LAY m_X12_ahead 199 [(0, vR (some 74)), (1, vI x1), (2, vI x2), (3, vI x3)] [vI 6] (mem (P, some 5, some 22) (si (si (si (si I 74 6 0) 74 3 3) 74 5 (x1 + 1)) 74 3 1) (sl J 74 7 0)) Q)))))) ∧ (x3 = 0 → ((0 ≤ x1 ∧ x1 < 1800) ∧ (Q none (mem (P, some 5, some 22) (si (si (si (si I 74 6 0) 74 3 3) 74 5 (x1 + 1)) 74 6 (gi I 75 (x1).toNat)) (sl J 74 7 0)))))))))) : WP k LAY m_X12_ahead 135 [(0, vR (some 74)), (1, vI x1), (2, vI x2), (3, vI x3)] [] (mem (P, some 5, some 22) I J) Q := by
  refine st_aload_n (pc' := 136) dX12_ahead_135 rfl rfl (j := 0) rfl ?_
  refine st_iconst (pc' := 137) dX12_ahead_136 rfl ?_
  refine P_X12_29_74 dX12_ahead_137 (pc' := 140) rfl rfl ?_
  refine st_aload_n (pc' := 141) dX12_ahead_140 rfl rfl (j := 0) rfl ?_
  refine st_lconst (pc' := 142) (z := 0) dX12_ahead_141 rfl (by decide) ?_
  refine P_X12_32_74 dX12_ahead_142 (pc' := 145) rfl rfl ?_
  refine st_aload_n (pc' := 146) dX12_ahead_145 rfl rfl (j := 0) rfl ?_
  refine st_iconst (pc' := 147) dX12_ahead_146 rfl ?_
  refine P_X12_20_74 dX12_ahead_147 (pc' := 150) rfl rfl ?_
  refine st_aload_n (pc' := 151) dX12_ahead_150 rfl rfl (j := 0) rfl ?_
  refine st_iload_n (pc' := 152) dX12_ahead_151 rfl rfl (j := 1) rfl ?_
  refine st_iconst (pc' := 153) dX12_ahead_152 rfl ?_
  refine st_iadd (pc' := 154) dX12_ahead_153 rfl ?_
  refine P_X12_26_74 dX12_ahead_154 (pc' := 157) rfl rfl ?_
  refine st_iload_n (pc' := 158) dX12_ahead_157 rfl rfl (j := 2) rfl ?_
  obtain ⟨e1, h⟩ := h
  refine st_if_ne (tg := 176) (pc' := 161) dX12_ahead_158 (by decide) rfl e1 (fun c => ?_) (fun c => ?_)
  · replace h := h.1 c
    refine st_aload_n (pc' := 177) dX12_ahead_176 rfl rfl (j := 0) rfl ?_
    refine st_iload_n (pc' := 178) dX12_ahead_177 rfl rfl (j := 2) rfl ?_
    refine st_if_eq (tg := 185) (pc' := 181) dX12_ahead_178 (by decide) rfl e1 (fun c => ?_) (fun c => ?_)
    · replace h := h.1 c
      refine st_iconst (pc' := 186) dX12_ahead_185 rfl ?_
      refine P_X12_20_74 dX12_ahead_186 (pc' := 189) rfl rfl ?_
      refine st_iload_n (pc' := 190) dX12_ahead_189 rfl rfl (j := 2) rfl ?_
      refine st_if_eq (tg := 198) (pc' := 193) dX12_ahead_190 (by decide) rfl e1 (fun c => ?_) (fun c => ?_)
      · replace h := h.1 c
        refine st_iconst (pc' := 199) dX12_ahead_198 rfl ?_
        exact h
      · replace h := h.2 c
        refine st_bipush (pc' := 195) dX12_ahead_193 rfl (by decide) ?_
        refine st_goto (pc' := 199) dX12_ahead_195 (by decide) ?_
        exact h
    · replace h := h.2 c
      refine st_iconst (pc' := 182) dX12_ahead_181 rfl ?_
      refine st_goto (pc' := 186) dX12_ahead_182 (by decide) ?_
      refine P_X12_20_74 dX12_ahead_186 (pc' := 189) rfl rfl ?_
      refine st_iload_n (pc' := 190) dX12_ahead_189 rfl rfl (j := 2) rfl ?_
      refine st_if_eq (tg := 198) (pc' := 193) dX12_ahead_190 (by decide) rfl e1 (fun c => ?_) (fun c => ?_)
      · replace h := h.1 c
        refine st_iconst (pc' := 199) dX12_ahead_198 rfl ?_
        exact h
      · replace h := h.2 c
        refine st_bipush (pc' := 195) dX12_ahead_193 rfl (by decide) ?_
        refine st_goto (pc' := 199) dX12_ahead_195 (by decide) ?_
        exact h
  · replace h := h.2 c
    refine st_iload_n (pc' := 162) dX12_ahead_161 rfl rfl (j := 3) rfl ?_
    obtain ⟨e2, h⟩ := h
    refine st_if_ne (tg := 176) (pc' := 165) dX12_ahead_162 (by decide) rfl e2 (fun c => ?_) (fun c => ?_)
    · replace h := h.1 c
      refine st_aload_n (pc' := 177) dX12_ahead_176 rfl rfl (j := 0) rfl ?_
      refine st_iload_n (pc' := 178) dX12_ahead_177 rfl rfl (j := 2) rfl ?_
      refine st_if_eq (tg := 185) (pc' := 181) dX12_ahead_178 (by decide) rfl e1 (fun c => ?_) (fun c => ?_)
      · replace h := h.1 c
        refine st_iconst (pc' := 186) dX12_ahead_185 rfl ?_
        refine P_X12_20_74 dX12_ahead_186 (pc' := 189) rfl rfl ?_
        refine st_iload_n (pc' := 190) dX12_ahead_189 rfl rfl (j := 2) rfl ?_
        refine st_if_eq (tg := 198) (pc' := 193) dX12_ahead_190 (by decide) rfl e1 (fun c => ?_) (fun c => ?_)
        · replace h := h.1 c
          refine st_iconst (pc' := 199) dX12_ahead_198 rfl ?_
          exact h
        · replace h := h.2 c
          refine st_bipush (pc' := 195) dX12_ahead_193 rfl (by decide) ?_
          refine st_goto (pc' := 199) dX12_ahead_195 (by decide) ?_
          exact h
      · replace h := h.2 c
        refine st_iconst (pc' := 182) dX12_ahead_181 rfl ?_
        refine st_goto (pc' := 186) dX12_ahead_182 (by decide) ?_
        refine P_X12_20_74 dX12_ahead_186 (pc' := 189) rfl rfl ?_
        refine st_iload_n (pc' := 190) dX12_ahead_189 rfl rfl (j := 2) rfl ?_
        refine st_if_eq (tg := 198) (pc' := 193) dX12_ahead_190 (by decide) rfl e1 (fun c => ?_) (fun c => ?_)
        · replace h := h.1 c
          refine st_iconst (pc' := 199) dX12_ahead_198 rfl ?_
          exact h
        · replace h := h.2 c
          refine st_bipush (pc' := 195) dX12_ahead_193 rfl (by decide) ?_
          refine st_goto (pc' := 199) dX12_ahead_195 (by decide) ?_
          exact h
    · replace h := h.2 c
      refine st_aload_n (pc' := 166) dX12_ahead_165 rfl rfl (j := 0) rfl ?_
      refine st_aload_n (pc' := 167) dX12_ahead_166 rfl rfl (j := 0) rfl ?_
      refine G_X12_7_74 dX12_ahead_167 (pc' := 170) rfl rfl ?_
      refine st_iload_n (pc' := 171) dX12_ahead_170 rfl rfl (j := 1) rfl ?_
      obtain ⟨e3, h⟩ := h
      refine st_iaload (pc' := 172) (v := (gi I 75 (x1).toNat)) dX12_ahead_171 rfl L_75 (by decide) e3 (show gi (si (si (si I 74 6 0) 74 3 3) 74 5 (x1 + 1)) 75 (x1).toNat = (gi I 75 (x1).toNat) from ((gi_cell _ _ _ _ (by decide)).trans ((gi_cell _ _ _ _ (by decide)).trans (gi_cell _ _ _ _ (by decide))))) ?_
      refine P_X12_29_74 dX12_ahead_172 (pc' := 175) rfl rfl ?_
      exact st_vret dX12_ahead_175 rfl rfl h
set_option maxRecDepth 20000 in
set_option maxHeartbeats 4000000 in
theorem B_X12_ahead_199 {k : Nat} {P : Option Nat} {I : Nat → Nat → Int32} {J : Nat → Nat → Int64} {x1 : Int} {x2 : Int} {x3 : Int} {s0 : Int} {Q : Option AV → Mem → Prop} (hk : 0 ≤ k) (h : WP k LAY m_X12_ahead 204 [(0, vR (some 74)), (1, vI x1), (2, vI x2), (3, vI x3), (4, vI s0), (5, vI 0)] [] (mem (P, some 5, some 22) I J) Q) : WP k LAY m_X12_ahead 199 [(0, vR (some 74)), (1, vI x1), (2, vI x2), (3, vI x3)] [vI s0] (mem (P, some 5, some 22) I J) Q := by
  refine st_istore (pc' := 201) (L' := [(4, vI s0), (0, vR (some 74)), (1, vI x1), (2, vI x2), (3, vI x3)]) dX12_ahead_199 rfl (by decide) rfl ?_
  refine st_iconst (pc' := 202) dX12_ahead_201 rfl ?_
  refine st_istore (pc' := 204) (L' := [(5, vI 0), (4, vI s0), (0, vR (some 74)), (1, vI x1), (2, vI x2), (3, vI x3)]) dX12_ahead_202 rfl (by decide) rfl ?_
  refine WP_sub (L' := [(0, vR (some 74)), (1, vI x1), (2, vI x2), (3, vI x3), (4, vI s0), (5, vI 0)]) [2, 3, 4, 5, 1, 0] rfl ?_
  exact h
set_option maxRecDepth 20000 in
set_option maxHeartbeats 4000000 in
theorem B_X12_ahead_204 {k : Nat} {P : Option Nat} {I : Nat → Nat → Int32} {J : Nat → Nat → Int64} {x1 : Int} {x2 : Int} {x3 : Int} {x4 : Int} {x5 : Int} {Q : Option AV → Mem → Prop} (hk : 1 ≤ k) (h : inR x1 ∧ (((gi I 74 2) ≤ x1 → (WP k LAY m_X12_ahead 334 [(0, vR (some 74)), (1, vI x1), (2, vI x2), (4, vI x4), (5, vI x5)] [] (mem (P, some 5, some 22) I J) Q)) ∧ (¬ (gi I 74 2) ≤ x1 → (inR x2 ∧ ((x2 = 0 → ((0 ≤ x1 ∧ x1 < 1800) ∧ ((¬ (48 ≤ (gi I 75 (x1).toNat) ∧ (gi I 75 (x1).toNat) ≤ 57) → (WP k LAY m_X12_ahead 334 [(0, vR (some 74)), (1, vI x1), (2, vI x2), (4, vI x4), (5, vI x5)] [] (mem (P, some 5, some 22) I J) Q)) ∧ ((48 ≤ (gi I 75 (x1).toNat) ∧ (gi I 75 (x1).toNat) ≤ 57) → (inR x5 ∧ (inR x4 ∧ ((¬ x5 = x4 → ((8 ≤ x5 → ((x4 ≤ x5 → (WP k LAY m_X12_ahead 204 [(0, vR (some 74)), (1, vI (x1 + 1)), (2, vI x2), (3, vI x3), (4, vI x4), (5, vI (x5 + 1))] [] (mem (P, some 5, some 22) I J) Q)) ∧ (¬ x4 ≤ x5 → (inR x3 ∧ ((x3 = 0 → (WP k LAY m_X12_ahead 204 [(0, vR (some 74)), (1, vI (x1 + 1)), (2, vI x2), (3, vI x3), (4, vI x4), (5, vI (x5 + 1))] [] (mem (P, some 5, some 22) I J) Q)) ∧ (¬ x3 = 0 → (WP k LAY m_X12_ahead 204 [(0, vR (some 74)), (1, vI (x1 + 1)), (2, vI x2), (3, vI x3), (4, vI x4), (5, vI (x5 + 1))] [] (mem (P, some 5, some 22) (si I 74 6 (((10 * (gi I 74 6)) + (gi I 75 (x1).toNat)) - 48)) J) Q))))))) ∧ (¬ 8 ≤ x5 → ((x2 = 0 → ((x4 ≤ x5 → (WP k LAY m_X12_ahead 204 [(0, vR (some 74)), (1, vI (x1 + 1)), (2, vI x2), (3, vI x3), (4, vI x4), (5, vI (x5 + 1))] [] (mem (P, some 5, some 22) I J) Q)) ∧ (¬ x4 ≤ x5 → (inR x3 ∧ ((x3 = 0 → (WP k LAY m_X12_ahead 204 [(0, vR (some 74)), (1, vI (x1 + 1)), (2, vI x2), (3, vI x3), (4, vI x4), (5, vI (x5 + 1))] [] (mem (P, some 5, some 22) I J) Q)) ∧ (¬ x3 = 0 → (WP k LAY m_X12_ahead 204 [(0, vR (some 74)), (1, vI (x1 + 1)), (2, vI x2), (3, vI x3), (4, vI x4), (5, vI (x5 + 1))] [] (mem (P, some 5, some 22) (si I 74 6 (((10 * (gi I 74 6)) + (gi I 75 (x1).toNat)) - 48)) J) Q))))))) ∧ (¬ x2 = 0 → ((x4 ≤ x5 → (WP k LAY m_X12_ahead 204 [(0, vR (some 74)), (1, vI (x1 + 1)), (2, vI x2), (3, vI x3), (4, vI x4), (5, vI (x5 + 1))] [] (mem (P, some 5, some 22) I (sl J 74 7 (or64 (shl64 (gl J 74 7) 8) (gi I 75 (x1).toNat)))) Q)) ∧ (¬ x4 ≤ x5 → (inR x3 ∧ ((x3 = 0 → (WP k LAY m_X12_ahead 204 [(0, vR (some 74)), (1, vI (x1 + 1)), (2, vI x2), (3, vI x3), (4, vI x4), (5, vI (x5 + 1))] [] (mem (P, some 5, some 22) I (sl J 74 7 (or64 (shl64 (gl J 74 7) 8) (gi I 75 (x1).toNat)))) Q)) ∧ (¬ x3 = 0 → (WP k LAY m_X12_ahead 204 [(0, vR (some 74)), (1, vI (x1 + 1)), (2, vI x2), (3, vI x3), (4, vI x4), (5, vI (x5 + 1))] [] (mem (P, some 5, some 22) (si I 74 6 (((10 * (gi I 74 6)) + (gi I 75 (x1).toNat)) - 48)) (sl J 74 7 (or64 (shl64 (gl J 74 7) 8) (gi I 75 (x1).toNat)))) Q))))))))))) ∧ (x5 = x4 → ((¬ (gi I 74 12) = (-1) → ((8 ≤ x5 → ((x4 ≤ x5 → (WP k LAY m_X12_ahead 204 [(0, vR (some 74)), (1, vI (x1 + 1)), (2, vI x2), (3, vI x3), (4, vI x4), (5, vI (x5 + 1))] [] (mem (P, some 5, some 22) I J) Q)) ∧ (¬ x4 ≤ x5 → (inR x3 ∧ ((x3 = 0 → (WP k LAY m_X12_ahead 204 [(0, vR (some 74)), (1, vI (x1 + 1)), (2, vI x2), (3, vI x3), (4, vI x4), (5, vI (x5 + 1))] [] (mem (P, some 5, some 22) I J) Q)) ∧ (¬ x3 = 0 → (WP k LAY m_X12_ahead 204 [(0, vR (some 74)), (1, vI (x1 + 1)), (2, vI x2), (3, vI x3), (4, vI x4), (5, vI (x5 + 1))] [] (mem (P, some 5, some 22) (si I 74 6 (((10 * (gi I 74 6)) + (gi I 75 (x1).toNat)) - 48)) J) Q))))))) ∧ (¬ 8 ≤ x5 → ((x2 = 0 → ((x4 ≤ x5 → (WP k LAY m_X12_ahead 204 [(0, vR (some 74)), (1, vI (x1 + 1)), (2, vI x2), (3, vI x3), (4, vI x4), (5, vI (x5 + 1))] [] (mem (P, some 5, some 22) I J) Q)) ∧ (¬ x4 ≤ x5 → (inR x3 ∧ ((x3 = 0 → (WP k LAY m_X12_ahead 204 [(0, vR (some 74)), (1, vI (x1 + 1)), (2, vI x2), (3, vI x3), (4, vI x4), (5, vI (x5 + 1))] [] (mem (P, some 5, some 22) I J) Q)) ∧ (¬ x3 = 0 → (WP k LAY m_X12_ahead 204 [(0, vR (some 74)), (1, vI (x1 + 1)), (2, vI x2), (3, vI x3), (4, vI x4), (5, vI (x5 + 1))] [] (mem (P, some 5, some 22) (si I 74 6 (((10 * (gi I 74 6)) + (gi I 75 (x1).toNat)) - 48)) J) Q))))))) ∧ (¬ x2 = 0 → ((x4 ≤ x5 → (WP k LAY m_X12_ahead 204 [(0, vR (some 74)), (1, vI (x1 + 1)), (2, vI x2), (3, vI x3), (4, vI x4), (5, vI (x5 + 1))] [] (mem (P, some 5, some 22) I (sl J 74 7 (or64 (shl64 (gl J 74 7) 8) (gi I 75 (x1).toNat)))) Q)) ∧ (¬ x4 ≤ x5 → (inR x3 ∧ ((x3 = 0 → (WP k LAY m_X12_ahead 204 [(0, vR (some 74)), (1, vI (x1 + 1)), (2, vI x2), (3, vI x3), (4, vI x4), (5, vI (x5 + 1))] [] (mem (P, some 5, some 22) I (sl J 74 7 (or64 (shl64 (gl J 74 7) 8) (gi I 75 (x1).toNat)))) Q)) ∧ (¬ x3 = 0 → (WP k LAY m_X12_ahead 204 [(0, vR (some 74)), (1, vI (x1 + 1)), (2, vI x2), (3, vI x3), (4, vI x4), (5, vI (x5 + 1))] [] (mem (P, some 5, some 22) (si I 74 6 (((10 * (gi I 74 6)) + (gi I 75 (x1).toNat)) - 48)) (sl J 74 7 (or64 (shl64 (gl J 74 7) 8) (gi I 75 (x1).toNat)))) Q))))))))))) ∧ ((gi I 74 12) = (-1) → ((8 ≤ x5 → ((x4 ≤ x5 → (WP k LAY m_X12_ahead 204 [(0, vR (some 74)), (1, vI (x1 + 1)), (2, vI x2), (3, vI x3), (4, vI x4), (5, vI (x5 + 1))] [] (mem (P, some 5, some 22) (si I 74 12 x1) J) Q)) ∧ (¬ x4 ≤ x5 → (inR x3 ∧ ((x3 = 0 → (WP k LAY m_X12_ahead 204 [(0, vR (some 74)), (1, vI (x1 + 1)), (2, vI x2), (3, vI x3), (4, vI x4), (5, vI (x5 + 1))] [] (mem (P, some 5, some 22) (si I 74 12 x1) J) Q)) ∧ (¬ x3 = 0 → (WP k LAY m_X12_ahead 204 [(0, vR (some 74)), (1, vI (x1 + 1)), (2, vI x2), (3, vI x3), (4, vI x4), (5, vI (x5 + 1))] [] (mem (P, some 5, some 22) (si (si I 74 12 x1) 74 6 (((10 * (gi I 74 6)) + (gi I 75 (x1).toNat)) - 48)) J) Q))))))) ∧ (¬ 8 ≤ x5 → ((x2 = 0 → ((x4 ≤ x5 → (WP k LAY m_X12_ahead 204 [(0, vR (some 74)), (1, vI (x1 + 1)), (2, vI x2), (3, vI x3), (4, vI x4), (5, vI (x5 + 1))] [] (mem (P, some 5, some 22) (si I 74 12 x1) J) Q)) ∧ (¬ x4 ≤ x5 → (inR x3 ∧ ((x3 = 0 → (WP k LAY m_X12_ahead 204 [(0, vR (some 74)), (1, vI (x1 + 1)), (2, vI x2), (3, vI x3), (4, vI x4), (5, vI (x5 + 1))] [] (mem (P, some 5, some 22) (si I 74 12 x1) J) Q)) ∧ (¬ x3 = 0 → (WP k LAY m_X12_ahead 204 [(0, vR (some 74)), (1, vI (x1 + 1)), (2, vI x2), (3, vI x3), (4, vI x4), (5, vI (x5 + 1))] [] (mem (P, some 5, some 22) (si (si I 74 12 x1) 74 6 (((10 * (gi I 74 6)) + (gi I 75 (x1).toNat)) - 48)) J) Q))))))) ∧ (¬ x2 = 0 → ((x4 ≤ x5 → (WP k LAY m_X12_ahead 204 [(0, vR (some 74)), (1, vI (x1 + 1)), (2, vI x2), (3, vI x3), (4, vI x4), (5, vI (x5 + 1))] [] (mem (P, some 5, some 22) (si I 74 12 x1) (sl J 74 7 (or64 (shl64 (gl J 74 7) 8) (gi I 75 (x1).toNat)))) Q)) ∧ (¬ x4 ≤ x5 → (inR x3 ∧ ((x3 = 0 → (WP k LAY m_X12_ahead 204 [(0, vR (some 74)), (1, vI (x1 + 1)), (2, vI x2), (3, vI x3), (4, vI x4), (5, vI (x5 + 1))] [] (mem (P, some 5, some 22) (si I 74 12 x1) (sl J 74 7 (or64 (shl64 (gl J 74 7) 8) (gi I 75 (x1).toNat)))) Q)) ∧ (¬ x3 = 0 → (WP k LAY m_X12_ahead 204 [(0, vR (some 74)), (1, vI (x1 + 1)), (2, vI x2), (3, vI x3), (4, vI x4), (5, vI (x5 + 1))] [] (mem (P, some 5, some 22) (si (si I 74 12 x1) 74 6 (((10 * (gi I 74 6)) + (gi I 75 (x1).toNat)) - 48)) (sl J 74 7 (or64 (shl64 (gl J 74 7) 8) (gi I 75 (x1).toNat)))) Q)))))))))))))))))))) ∧ (¬ x2 = 0 → ((0 ≤ x1 ∧ x1 < 1800) ∧ ((¬ (97 ≤ (gi I 75 (x1).toNat) ∧ (gi I 75 (x1).toNat) ≤ 122) → (WP k LAY m_X12_ahead 334 [(0, vR (some 74)), (1, vI x1), (2, vI x2), (4, vI x4), (5, vI x5)] [] (mem (P, some 5, some 22) I J) Q)) ∧ ((97 ≤ (gi I 75 (x1).toNat) ∧ (gi I 75 (x1).toNat) ≤ 122) → (inR x5 ∧ (inR x4 ∧ ((¬ x5 = x4 → ((8 ≤ x5 → ((x4 ≤ x5 → (WP k LAY m_X12_ahead 204 [(0, vR (some 74)), (1, vI (x1 + 1)), (2, vI x2), (3, vI x3), (4, vI x4), (5, vI (x5 + 1))] [] (mem (P, some 5, some 22) I J) Q)) ∧ (¬ x4 ≤ x5 → (inR x3 ∧ ((x3 = 0 → (WP k LAY m_X12_ahead 204 [(0, vR (some 74)), (1, vI (x1 + 1)), (2, vI x2), (3, vI x3), (4, vI x4), (5, vI (x5 + 1))] [] (mem (P, some 5, some 22) I J) Q)) ∧ (¬ x3 = 0 → (WP k LAY m_X12_ahead 204 [(0, vR (some 74)), (1, vI (x1 + 1)), (2, vI x2), (3, vI x3), (4, vI x4), (5, vI (x5 + 1))] [] (mem (P, some 5, some 22) (si I 74 6 (((10 * (gi I 74 6)) + (gi I 75 (x1).toNat)) - 48)) J) Q))))))) ∧ (¬ 8 ≤ x5 → ((x2 = 0 → ((x4 ≤ x5 → (WP k LAY m_X12_ahead 204 [(0, vR (some 74)), (1, vI (x1 + 1)), (2, vI x2), (3, vI x3), (4, vI x4), (5, vI (x5 + 1))] [] (mem (P, some 5, some 22) I J) Q)) ∧ (¬ x4 ≤ x5 → (inR x3 ∧ ((x3 = 0 → (WP k LAY m_X12_ahead 204 [(0, vR (some 74)), (1, vI (x1 + 1)), (2, vI x2), (3, vI x3), (4, vI x4), (5, vI (x5 + 1))] [] (mem (P, some 5, some 22) I J) Q)) ∧ (¬ x3 = 0 → (WP k LAY m_X12_ahead 204 [(0, vR (some 74)), (1, vI (x1 + 1)), (2, vI x2), (3, vI x3), (4, vI x4), (5, vI (x5 + 1))] [] (mem (P, some 5, some 22) (si I 74 6 (((10 * (gi I 74 6)) + (gi I 75 (x1).toNat)) - 48)) J) Q))))))) ∧ (¬ x2 = 0 → ((x4 ≤ x5 → (WP k LAY m_X12_ahead 204 [(0, vR (some 74)), (1, vI (x1 + 1)), (2, vI x2), (3, vI x3), (4, vI x4), (5, vI (x5 + 1))] [] (mem (P, some 5, some 22) I (sl J 74 7 (or64 (shl64 (gl J 74 7) 8) (gi I 75 (x1).toNat)))) Q)) ∧ (¬ x4 ≤ x5 → (inR x3 ∧ ((x3 = 0 → (WP k LAY m_X12_ahead 204 [(0, vR (some 74)), (1, vI (x1 + 1)), (2, vI x2), (3, vI x3), (4, vI x4), (5, vI (x5 + 1))] [] (mem (P, some 5, some 22) I (sl J 74 7 (or64 (shl64 (gl J 74 7) 8) (gi I 75 (x1).toNat)))) Q)) ∧ (¬ x3 = 0 → (WP k LAY m_X12_ahead 204 [(0, vR (some 74)), (1, vI (x1 + 1)), (2, vI x2), (3, vI x3), (4, vI x4), (5, vI (x5 + 1))] [] (mem (P, some 5, some 22) (si I 74 6 (((10 * (gi I 74 6)) + (gi I 75 (x1).toNat)) - 48)) (sl J 74 7 (or64 (shl64 (gl J 74 7) 8) (gi I 75 (x1).toNat)))) Q))))))))))) ∧ (x5 = x4 → ((¬ (gi I 74 12) = (-1) → ((8 ≤ x5 → ((x4 ≤ x5 → (WP k LAY m_X12_ahead 204 [(0, vR (some 74)), (1, vI (x1 + 1)), (2, vI x2), (3, vI x3), (4, vI x4), (5, vI (x5 + 1))] [] (mem (P, some 5, some 22) I J) Q)) ∧ (¬ x4 ≤ x5 → (inR x3 ∧ ((x3 = 0 → (WP k LAY m_X12_ahead 204 [(0, vR (some 74)), (1, vI (x1 + 1)), (2, vI x2), (3, vI x3), (4, vI x4), (5, vI (x5 + 1))] [] (mem (P, some 5, some 22) I J) Q)) ∧ (¬ x3 = 0 → (WP k LAY m_X12_ahead 204 [(0, vR (some 74)), (1, vI (x1 + 1)), (2, vI x2), (3, vI x3), (4, vI x4), (5, vI (x5 + 1))] [] (mem (P, some 5, some 22) (si I 74 6 (((10 * (gi I 74 6)) + (gi I 75 (x1).toNat)) - 48)) J) Q))))))) ∧ (¬ 8 ≤ x5 → ((x2 = 0 → ((x4 ≤ x5 → (WP k LAY m_X12_ahead 204 [(0, vR (some 74)), (1, vI (x1 + 1)), (2, vI x2), (3, vI x3), (4, vI x4), (5, vI (x5 + 1))] [] (mem (P, some 5, some 22) I J) Q)) ∧ (¬ x4 ≤ x5 → (inR x3 ∧ ((x3 = 0 → (WP k LAY m_X12_ahead 204 [(0, vR (some 74)), (1, vI (x1 + 1)), (2, vI x2), (3, vI x3), (4, vI x4), (5, vI (x5 + 1))] [] (mem (P, some 5, some 22) I J) Q)) ∧ (¬ x3 = 0 → (WP k LAY m_X12_ahead 204 [(0, vR (some 74)), (1, vI (x1 + 1)), (2, vI x2), (3, vI x3), (4, vI x4), (5, vI (x5 + 1))] [] (mem (P, some 5, some 22) (si I 74 6 (((10 * (gi I 74 6)) + (gi I 75 (x1).toNat)) - 48)) J) Q))))))) ∧ (¬ x2 = 0 → ((x4 ≤ x5 → (WP k LAY m_X12_ahead 204 [(0, vR (some 74)), (1, vI (x1 + 1)), (2, vI x2), (3, vI x3), (4, vI x4), (5, vI (x5 + 1))] [] (mem (P, some 5, some 22) I (sl J 74 7 (or64 (shl64 (gl J 74 7) 8) (gi I 75 (x1).toNat)))) Q)) ∧ (¬ x4 ≤ x5 → (inR x3 ∧ ((x3 = 0 → (WP k LAY m_X12_ahead 204 [(0, vR (some 74)), (1, vI (x1 + 1)), (2, vI x2), (3, vI x3), (4, vI x4), (5, vI (x5 + 1))] [] (mem (P, some 5, some 22) I (sl J 74 7 (or64 (shl64 (gl J 74 7) 8) (gi I 75 (x1).toNat)))) Q)) ∧ (¬ x3 = 0 → (WP k LAY m_X12_ahead 204 [(0, vR (some 74)), (1, vI (x1 + 1)), (2, vI x2), (3, vI x3), (4, vI x4), (5, vI (x5 + 1))] [] (mem (P, some 5, some 22) (si I 74 6 (((10 * (gi I 74 6)) + (gi I 75 (x1).toNat)) - 48)) (sl J 74 7 (or64 (shl64 (gl J 74 7) 8) (gi I 75 (x1).toNat)))) Q))))))))))) ∧ ((gi I 74 12) = (-1) → ((8 ≤ x5 → ((x4 ≤ x5 → (WP k LAY m_X12_ahead 204 [(0, vR (some 74)), (1, vI (x1 + 1)), (2, vI x2), (3, vI x3), (4, vI x4), (5, vI (x5 + 1))] [] (mem (P, some 5, some 22) (si I 74 12 x1) J) Q)) ∧ (¬ x4 ≤ x5 → (inR x3 ∧ ((x3 = 0 → (WP k LAY m_X12_ahead 204 [(0, vR (some 74)), (1, vI (x1 + 1)), (2, vI x2), (3, vI x3), (4, vI x4), (5, vI (x5 + 1))] [] (mem (P, some 5, some 22) (si I 74 12 x1) J) Q)) ∧ (¬ x3 = 0 → (WP k LAY m_X12_ahead 204 [(0, vR (some 74)), (1, vI (x1 + 1)), (2, vI x2), (3, vI x3), (4, vI x4), (5, vI (x5 + 1))] [] (mem (P, some 5, some 22) (si (si I 74 12 x1) 74 6 (((10 * (gi I 74 6)) + (gi I 75 (x1).toNat)) - 48)) J) Q))))))) ∧ (¬ 8 ≤ x5 → ((x2 = 0 → ((x4 ≤ x5 → (WP k LAY m_X12_ahead 204 [(0, vR (some 74)), (1, vI (x1 + 1)), (2, vI x2), (3, vI x3), (4, vI x4), (5, vI (x5 + 1))] [] (mem (P, some 5, some 22) (si I 74 12 x1) J) Q)) ∧ (¬ x4 ≤ x5 → (inR x3 ∧ ((x3 = 0 → (WP k LAY m_X12_ahead 204 [(0, vR (some 74)), (1, vI (x1 + 1)), (2, vI x2), (3, vI x3), (4, vI x4), (5, vI (x5 + 1))] [] (mem (P, some 5, some 22) (si I 74 12 x1) J) Q)) ∧ (¬ x3 = 0 → (WP k LAY m_X12_ahead 204 [(0, vR (some 74)), (1, vI (x1 + 1)), (2, vI x2), (3, vI x3), (4, vI x4), (5, vI (x5 + 1))] [] (mem (P, some 5, some 22) (si (si I 74 12 x1) 74 6 (((10 * (gi I 74 6)) + (gi I 75 (x1).toNat)) - 48)) J) Q))))))) ∧ (¬ x2 = 0 → ((x4 ≤ x5 → (WP k LAY m_X12_ahead 204 [(0, vR (some 74)), (1, vI (x1 + 1)), (2, vI x2), (3, vI x3), (4, vI x4), (5, vI (x5 + 1))] [] (mem (P, some 5, some 22) (si I 74 12 x1) (sl J 74 7 (or64 (shl64 (gl J 74 7) 8) (gi I 75 (x1).toNat)))) Q)) ∧ (¬ x4 ≤ x5 → (inR x3 ∧ ((x3 = 0 → (WP k LAY m_X12_ahead 204 [(0, vR (some 74)), (1, vI (x1 + 1)), (2, vI x2), (3, vI x3), (4, vI x4), (5, vI (x5 + 1))] [] (mem (P, some 5, some 22) (si I 74 12 x1) (sl J 74 7 (or64 (shl64 (gl J 74 7) 8) (gi I 75 (x1).toNat)))) Q)) ∧ (¬ x3 = 0 → (WP k LAY m_X12_ahead 204 [(0, vR (some 74)), (1, vI (x1 + 1)), (2, vI x2), (3, vI x3), (4, vI x4), (5, vI (x5 + 1))] [] (mem (P, some 5, some 22) (si (si I 74 12 x1) 74 6 (((10 * (gi I 74 6)) + (gi I 75 (x1).toNat)) - 48)) (sl J 74 7 (or64 (shl64 (gl J 74 7) 8) (gi I 75 (x1).toNat)))) Q))))))))))))))))))))))))) : WP k LAY m_X12_ahead 204 [(0, vR (some 74)), (1, vI x1), (2, vI x2), (3, vI x3), (4, vI x4), (5, vI x5)] [] (mem (P, some 5, some 22) I J) Q := by
  refine st_iload_n (pc' := 205) dX12_ahead_204 rfl rfl (j := 1) rfl ?_
  refine st_aload_n (pc' := 206) dX12_ahead_205 rfl rfl (j := 0) rfl ?_
  refine G_X12_17_74 dX12_ahead_206 (pc' := 209) rfl rfl ?_
  obtain ⟨e1, h⟩ := h
  refine st_icmp_ge (tg := 334) (pc' := 212) dX12_ahead_209 (by decide) rfl e1 (gi_in _ _ _) (fun c => ?_) (fun c => ?_)
  · replace h := h.1 c
    refine WP_sub (L' := [(0, vR (some 74)), (1, vI x1), (2, vI x2), (4, vI x4), (5, vI x5)]) [0, 1, 2, 4, 5] rfl ?_
    exact h
  · replace h := h.2 c
    refine st_iload_n (pc' := 213) dX12_ahead_212 rfl rfl (j := 2) rfl ?_
    obtain ⟨e2, h⟩ := h
    refine st_if_eq (tg := 231) (pc' := 216) dX12_ahead_213 (by decide) rfl e2 (fun c => ?_) (fun c => ?_)
    · replace h := h.1 c
      refine st_aload_n (pc' := 232) dX12_ahead_231 rfl rfl (j := 0) rfl ?_
      refine G_X12_7_74 dX12_ahead_232 (pc' := 235) rfl rfl ?_
      refine st_iload_n (pc' := 236) dX12_ahead_235 rfl rfl (j := 1) rfl ?_
      obtain ⟨e3, h⟩ := h
      refine st_iaload (pc' := 237) (v := (gi I 75 (x1).toNat)) dX12_ahead_236 rfl L_75 (by decide) e3 (show gi I 75 (x1).toNat = (gi I 75 (x1).toNat) from rfl) ?_
      refine st_callS (pc' := 240) (kc := k - 1) (E' := LAY) (cal := m_X12_isDigit) (n := 1) (as := [vI (gi I 75 (x1).toNat)]) (S := []) dX12_ahead_237 rfl l_X12_295 k_X12_isDigit rfl rfl (Nat.le_of_ble_eq_true rfl) (by omega) ⟨Nat.le_refl _, Nat.le_refl _, Nat.le_refl _, Nat.le_refl _⟩ (Q1 := fun r M' => WP k LAY m_X12_ahead 240 [(0, vR (some 74)), (1, vI x1), (2, vI x2), (3, vI x3), (4, vI x4), (5, vI x5)] (r.toList ++ []) M' Q) (S_X12_isDigit (by omega) (gi_in _ _ _) ?_) (fun r M' q => q)
      change WP _ LAY m_X12_ahead 240 [(0, vR (some 74)), (1, vI x1), (2, vI x2), (3, vI x3), (4, vI x4), (5, vI x5)] [vI (b2i (48 ≤ (gi I 75 (x1).toNat) ∧ (gi I 75 (x1).toNat) ≤ 57))] (mem (P, some 5, some 22) I J) Q
      refine st_if_eq (tg := 334) (pc' := 243) dX12_ahead_240 (by decide) rfl (b2i_in _) (fun c => ?_) (fun c => ?_)
      · replace h := h.1 (b2i_f.mp c)
        refine WP_sub (L' := [(0, vR (some 74)), (1, vI x1), (2, vI x2), (4, vI x4), (5, vI x5)]) [0, 1, 2, 4, 5] rfl ?_
        exact h
      · replace h := h.2 (b2i_t.mp c)
        refine st_iload (pc' := 245) dX12_ahead_243 rfl (j := 5) rfl ?_
        refine st_iload (pc' := 247) dX12_ahead_245 rfl (j := 4) rfl ?_
        obtain ⟨e4, h⟩ := h
        obtain ⟨e5, h⟩ := h
        refine st_icmp_ne (tg := 263) (pc' := 250) dX12_ahead_247 (by decide) rfl e4 e5 (fun c => ?_) (fun c => ?_)
        · replace h := h.1 c
          refine st_iload (pc' := 265) dX12_ahead_263 rfl (j := 5) rfl ?_
          refine st_bipush (pc' := 267) dX12_ahead_265 rfl (by decide) ?_
          refine st_icmp_ge (tg := 293) (pc' := 270) dX12_ahead_267 (by decide) rfl e4 (by decide) (fun c => ?_) (fun c => ?_)
          · replace h := h.1 c
            refine st_iload (pc' := 295) dX12_ahead_293 rfl (j := 5) rfl ?_
            refine st_iload (pc' := 297) dX12_ahead_295 rfl (j := 4) rfl ?_
            refine st_icmp_ge (tg := 325) (pc' := 300) dX12_ahead_297 (by decide) rfl e4 e5 (fun c => ?_) (fun c => ?_)
            · replace h := h.1 c
              refine st_iinc (pc' := 328) (L' := [(5, vI (x5 + 1)), (0, vR (some 74)), (1, vI x1), (2, vI x2), (3, vI x3), (4, vI x4)]) (j := 5) dX12_ahead_325 rfl (by decide) rfl rfl ?_
              refine st_iinc (pc' := 331) (L' := [(1, vI (x1 + 1)), (5, vI (x5 + 1)), (0, vR (some 74)), (2, vI x2), (3, vI x3), (4, vI x4)]) (j := 2) dX12_ahead_328 rfl (by decide) rfl rfl ?_
              refine st_goto (pc' := 204) dX12_ahead_331 (by decide) ?_
              refine WP_sub (L' := [(0, vR (some 74)), (1, vI (x1 + 1)), (2, vI x2), (3, vI x3), (4, vI x4), (5, vI (x5 + 1))]) [2, 0, 3, 4, 5, 1] rfl ?_
              exact h
            · replace h := h.2 c
              refine st_iload_n (pc' := 301) dX12_ahead_300 rfl rfl (j := 3) rfl ?_
              obtain ⟨e6, h⟩ := h
              refine st_if_eq (tg := 325) (pc' := 304) dX12_ahead_301 (by decide) rfl e6 (fun c => ?_) (fun c => ?_)
              · replace h := h.1 c
                refine st_iinc (pc' := 328) (L' := [(5, vI (x5 + 1)), (0, vR (some 74)), (1, vI x1), (2, vI x2), (3, vI x3), (4, vI x4)]) (j := 5) dX12_ahead_325 rfl (by decide) rfl rfl ?_
                refine st_iinc (pc' := 331) (L' := [(1, vI (x1 + 1)), (5, vI (x5 + 1)), (0, vR (some 74)), (2, vI x2), (3, vI x3), (4, vI x4)]) (j := 2) dX12_ahead_328 rfl (by decide) rfl rfl ?_
                refine st_goto (pc' := 204) dX12_ahead_331 (by decide) ?_
                refine WP_sub (L' := [(0, vR (some 74)), (1, vI (x1 + 1)), (2, vI x2), (3, vI x3), (4, vI x4), (5, vI (x5 + 1))]) [2, 0, 3, 4, 5, 1] rfl ?_
                exact h
              · replace h := h.2 c
                refine st_aload_n (pc' := 305) dX12_ahead_304 rfl rfl (j := 0) rfl ?_
                refine st_bipush (pc' := 307) dX12_ahead_305 rfl (by decide) ?_
                refine st_aload_n (pc' := 308) dX12_ahead_307 rfl rfl (j := 0) rfl ?_
                refine G_X12_29_74 dX12_ahead_308 (pc' := 311) rfl rfl ?_
                refine st_imul (pc' := 312) dX12_ahead_311 rfl ?_
                refine st_aload_n (pc' := 313) dX12_ahead_312 rfl rfl (j := 0) rfl ?_
                refine G_X12_7_74 dX12_ahead_313 (pc' := 316) rfl rfl ?_
                refine st_iload_n (pc' := 317) dX12_ahead_316 rfl rfl (j := 1) rfl ?_
                refine st_iaload (pc' := 318) (v := (gi I 75 (x1).toNat)) dX12_ahead_317 rfl L_75 (by decide) e3 (show gi I 75 (x1).toNat = (gi I 75 (x1).toNat) from rfl) ?_
                refine st_iadd (pc' := 319) dX12_ahead_318 rfl ?_
                refine st_bipush (pc' := 321) dX12_ahead_319 rfl (by decide) ?_
                refine st_isub (pc' := 322) dX12_ahead_321 rfl ?_
                refine P_X12_29_74 dX12_ahead_322 (pc' := 325) rfl rfl ?_
                refine st_iinc (pc' := 328) (L' := [(5, vI (x5 + 1)), (0, vR (some 74)), (1, vI x1), (2, vI x2), (3, vI x3), (4, vI x4)]) (j := 5) dX12_ahead_325 rfl (by decide) rfl rfl ?_
                refine st_iinc (pc' := 331) (L' := [(1, vI (x1 + 1)), (5, vI (x5 + 1)), (0, vR (some 74)), (2, vI x2), (3, vI x3), (4, vI x4)]) (j := 2) dX12_ahead_328 rfl (by decide) rfl rfl ?_
                refine st_goto (pc' := 204) dX12_ahead_331 (by decide) ?_
                refine WP_sub (L' := [(0, vR (some 74)), (1, vI (x1 + 1)), (2, vI x2), (3, vI x3), (4, vI x4), (5, vI (x5 + 1))]) [2, 0, 3, 4, 5, 1] rfl ?_
                exact h
          · replace h := h.2 c
            refine st_iload_n (pc' := 271) dX12_ahead_270 rfl rfl (j := 2) rfl ?_
            refine st_if_eq (tg := 293) (pc' := 274) dX12_ahead_271 (by decide) rfl e2 (fun c => ?_) (fun c => ?_)
            · replace h := h.1 c
              refine st_iload (pc' := 295) dX12_ahead_293 rfl (j := 5) rfl ?_
              refine st_iload (pc' := 297) dX12_ahead_295 rfl (j := 4) rfl ?_
              refine st_icmp_ge (tg := 325) (pc' := 300) dX12_ahead_297 (by decide) rfl e4 e5 (fun c => ?_) (fun c => ?_)
              · replace h := h.1 c
                refine st_iinc (pc' := 328) (L' := [(5, vI (x5 + 1)), (0, vR (some 74)), (1, vI x1), (2, vI x2), (3, vI x3), (4, vI x4)]) (j := 5) dX12_ahead_325 rfl (by decide) rfl rfl ?_
                refine st_iinc (pc' := 331) (L' := [(1, vI (x1 + 1)), (5, vI (x5 + 1)), (0, vR (some 74)), (2, vI x2), (3, vI x3), (4, vI x4)]) (j := 2) dX12_ahead_328 rfl (by decide) rfl rfl ?_
                refine st_goto (pc' := 204) dX12_ahead_331 (by decide) ?_
                refine WP_sub (L' := [(0, vR (some 74)), (1, vI (x1 + 1)), (2, vI x2), (3, vI x3), (4, vI x4), (5, vI (x5 + 1))]) [2, 0, 3, 4, 5, 1] rfl ?_
                exact h
              · replace h := h.2 c
                refine st_iload_n (pc' := 301) dX12_ahead_300 rfl rfl (j := 3) rfl ?_
                obtain ⟨e7, h⟩ := h
                refine st_if_eq (tg := 325) (pc' := 304) dX12_ahead_301 (by decide) rfl e7 (fun c => ?_) (fun c => ?_)
                · replace h := h.1 c
                  refine st_iinc (pc' := 328) (L' := [(5, vI (x5 + 1)), (0, vR (some 74)), (1, vI x1), (2, vI x2), (3, vI x3), (4, vI x4)]) (j := 5) dX12_ahead_325 rfl (by decide) rfl rfl ?_
                  refine st_iinc (pc' := 331) (L' := [(1, vI (x1 + 1)), (5, vI (x5 + 1)), (0, vR (some 74)), (2, vI x2), (3, vI x3), (4, vI x4)]) (j := 2) dX12_ahead_328 rfl (by decide) rfl rfl ?_
                  refine st_goto (pc' := 204) dX12_ahead_331 (by decide) ?_
                  refine WP_sub (L' := [(0, vR (some 74)), (1, vI (x1 + 1)), (2, vI x2), (3, vI x3), (4, vI x4), (5, vI (x5 + 1))]) [2, 0, 3, 4, 5, 1] rfl ?_
                  exact h
                · replace h := h.2 c
                  refine st_aload_n (pc' := 305) dX12_ahead_304 rfl rfl (j := 0) rfl ?_
                  refine st_bipush (pc' := 307) dX12_ahead_305 rfl (by decide) ?_
                  refine st_aload_n (pc' := 308) dX12_ahead_307 rfl rfl (j := 0) rfl ?_
                  refine G_X12_29_74 dX12_ahead_308 (pc' := 311) rfl rfl ?_
                  refine st_imul (pc' := 312) dX12_ahead_311 rfl ?_
                  refine st_aload_n (pc' := 313) dX12_ahead_312 rfl rfl (j := 0) rfl ?_
                  refine G_X12_7_74 dX12_ahead_313 (pc' := 316) rfl rfl ?_
                  refine st_iload_n (pc' := 317) dX12_ahead_316 rfl rfl (j := 1) rfl ?_
                  refine st_iaload (pc' := 318) (v := (gi I 75 (x1).toNat)) dX12_ahead_317 rfl L_75 (by decide) e3 (show gi I 75 (x1).toNat = (gi I 75 (x1).toNat) from rfl) ?_
                  refine st_iadd (pc' := 319) dX12_ahead_318 rfl ?_
                  refine st_bipush (pc' := 321) dX12_ahead_319 rfl (by decide) ?_
                  refine st_isub (pc' := 322) dX12_ahead_321 rfl ?_
                  refine P_X12_29_74 dX12_ahead_322 (pc' := 325) rfl rfl ?_
                  refine st_iinc (pc' := 328) (L' := [(5, vI (x5 + 1)), (0, vR (some 74)), (1, vI x1), (2, vI x2), (3, vI x3), (4, vI x4)]) (j := 5) dX12_ahead_325 rfl (by decide) rfl rfl ?_
                  refine st_iinc (pc' := 331) (L' := [(1, vI (x1 + 1)), (5, vI (x5 + 1)), (0, vR (some 74)), (2, vI x2), (3, vI x3), (4, vI x4)]) (j := 2) dX12_ahead_328 rfl (by decide) rfl rfl ?_
                  refine st_goto (pc' := 204) dX12_ahead_331 (by decide) ?_
                  refine WP_sub (L' := [(0, vR (some 74)), (1, vI (x1 + 1)), (2, vI x2), (3, vI x3), (4, vI x4), (5, vI (x5 + 1))]) [2, 0, 3, 4, 5, 1] rfl ?_
                  exact h
            · replace h := h.2 c
              refine st_aload_n (pc' := 275) dX12_ahead_274 rfl rfl (j := 0) rfl ?_
              refine st_aload_n (pc' := 276) dX12_ahead_275 rfl rfl (j := 0) rfl ?_
              refine G_X12_32_74 dX12_ahead_276 (pc' := 279) rfl rfl ?_
              refine st_bipush (pc' := 281) dX12_ahead_279 rfl (by decide) ?_
              refine st_lshl (pc' := 282) (z := (shl64 (gl J 74 7) 8)) dX12_ahead_281 rfl rfl ?_
              refine st_aload_n (pc' := 283) dX12_ahead_282 rfl rfl (j := 0) rfl ?_
              refine G_X12_7_74 dX12_ahead_283 (pc' := 286) rfl rfl ?_
              refine st_iload_n (pc' := 287) dX12_ahead_286 rfl rfl (j := 1) rfl ?_
              refine st_iaload (pc' := 288) (v := (gi I 75 (x1).toNat)) dX12_ahead_287 rfl L_75 (by decide) e3 (show gi I 75 (x1).toNat = (gi I 75 (x1).toNat) from rfl) ?_
              refine st_i2l (pc' := 289) dX12_ahead_288 rfl (gi_in _ _ _) ?_
              refine st_lor (pc' := 290) (z := (or64 (shl64 (gl J 74 7) 8) (gi I 75 (x1).toNat))) dX12_ahead_289 rfl rfl ?_
              refine P_X12_32_74 dX12_ahead_290 (pc' := 293) rfl rfl ?_
              refine st_iload (pc' := 295) dX12_ahead_293 rfl (j := 5) rfl ?_
              refine st_iload (pc' := 297) dX12_ahead_295 rfl (j := 4) rfl ?_
              refine st_icmp_ge (tg := 325) (pc' := 300) dX12_ahead_297 (by decide) rfl e4 e5 (fun c => ?_) (fun c => ?_)
              · replace h := h.1 c
                refine st_iinc (pc' := 328) (L' := [(5, vI (x5 + 1)), (0, vR (some 74)), (1, vI x1), (2, vI x2), (3, vI x3), (4, vI x4)]) (j := 5) dX12_ahead_325 rfl (by decide) rfl rfl ?_
                refine st_iinc (pc' := 331) (L' := [(1, vI (x1 + 1)), (5, vI (x5 + 1)), (0, vR (some 74)), (2, vI x2), (3, vI x3), (4, vI x4)]) (j := 2) dX12_ahead_328 rfl (by decide) rfl rfl ?_
                refine st_goto (pc' := 204) dX12_ahead_331 (by decide) ?_
                refine WP_sub (L' := [(0, vR (some 74)), (1, vI (x1 + 1)), (2, vI x2), (3, vI x3), (4, vI x4), (5, vI (x5 + 1))]) [2, 0, 3, 4, 5, 1] rfl ?_
                exact h
              · replace h := h.2 c
                refine st_iload_n (pc' := 301) dX12_ahead_300 rfl rfl (j := 3) rfl ?_
                obtain ⟨e8, h⟩ := h
                refine st_if_eq (tg := 325) (pc' := 304) dX12_ahead_301 (by decide) rfl e8 (fun c => ?_) (fun c => ?_)
                · replace h := h.1 c
                  refine st_iinc (pc' := 328) (L' := [(5, vI (x5 + 1)), (0, vR (some 74)), (1, vI x1), (2, vI x2), (3, vI x3), (4, vI x4)]) (j := 5) dX12_ahead_325 rfl (by decide) rfl rfl ?_
                  refine st_iinc (pc' := 331) (L' := [(1, vI (x1 + 1)), (5, vI (x5 + 1)), (0, vR (some 74)), (2, vI x2), (3, vI x3), (4, vI x4)]) (j := 2) dX12_ahead_328 rfl (by decide) rfl rfl ?_
                  refine st_goto (pc' := 204) dX12_ahead_331 (by decide) ?_
                  refine WP_sub (L' := [(0, vR (some 74)), (1, vI (x1 + 1)), (2, vI x2), (3, vI x3), (4, vI x4), (5, vI (x5 + 1))]) [2, 0, 3, 4, 5, 1] rfl ?_
                  exact h
                · replace h := h.2 c
                  refine st_aload_n (pc' := 305) dX12_ahead_304 rfl rfl (j := 0) rfl ?_
                  refine st_bipush (pc' := 307) dX12_ahead_305 rfl (by decide) ?_
                  refine st_aload_n (pc' := 308) dX12_ahead_307 rfl rfl (j := 0) rfl ?_
                  refine G_X12_29_74 dX12_ahead_308 (pc' := 311) rfl rfl ?_
                  refine st_imul (pc' := 312) dX12_ahead_311 rfl ?_
                  refine st_aload_n (pc' := 313) dX12_ahead_312 rfl rfl (j := 0) rfl ?_
                  refine G_X12_7_74 dX12_ahead_313 (pc' := 316) rfl rfl ?_
                  refine st_iload_n (pc' := 317) dX12_ahead_316 rfl rfl (j := 1) rfl ?_
                  refine st_iaload (pc' := 318) (v := (gi I 75 (x1).toNat)) dX12_ahead_317 rfl L_75 (by decide) e3 (show gi I 75 (x1).toNat = (gi I 75 (x1).toNat) from rfl) ?_
                  refine st_iadd (pc' := 319) dX12_ahead_318 rfl ?_
                  refine st_bipush (pc' := 321) dX12_ahead_319 rfl (by decide) ?_
                  refine st_isub (pc' := 322) dX12_ahead_321 rfl ?_
                  refine P_X12_29_74 dX12_ahead_322 (pc' := 325) rfl rfl ?_
                  refine st_iinc (pc' := 328) (L' := [(5, vI (x5 + 1)), (0, vR (some 74)), (1, vI x1), (2, vI x2), (3, vI x3), (4, vI x4)]) (j := 5) dX12_ahead_325 rfl (by decide) rfl rfl ?_
                  refine st_iinc (pc' := 331) (L' := [(1, vI (x1 + 1)), (5, vI (x5 + 1)), (0, vR (some 74)), (2, vI x2), (3, vI x3), (4, vI x4)]) (j := 2) dX12_ahead_328 rfl (by decide) rfl rfl ?_
                  refine st_goto (pc' := 204) dX12_ahead_331 (by decide) ?_
                  refine WP_sub (L' := [(0, vR (some 74)), (1, vI (x1 + 1)), (2, vI x2), (3, vI x3), (4, vI x4), (5, vI (x5 + 1))]) [2, 0, 3, 4, 5, 1] rfl ?_
                  exact h
        · replace h := h.2 c
          refine st_aload_n (pc' := 251) dX12_ahead_250 rfl rfl (j := 0) rfl ?_
          refine G_X12_48_74 dX12_ahead_251 (pc' := 254) rfl rfl ?_
          refine st_iconst (pc' := 255) dX12_ahead_254 rfl ?_
          refine st_icmp_ne (tg := 263) (pc' := 258) dX12_ahead_255 (by decide) rfl (gi_in _ _ _) (by decide) (fun c => ?_) (fun c => ?_)
          · replace h := h.1 c
            refine st_iload (pc' := 265) dX12_ahead_263 rfl (j := 5) rfl ?_
            refine st_bipush (pc' := 267) dX12_ahead_265 rfl (by decide) ?_
            refine st_icmp_ge (tg := 293) (pc' := 270) dX12_ahead_267 (by decide) rfl e4 (by decide) (fun c => ?_) (fun c => ?_)
            · replace h := h.1 c
              refine st_iload (pc' := 295) dX12_ahead_293 rfl (j := 5) rfl ?_
              refine st_iload (pc' := 297) dX12_ahead_295 rfl (j := 4) rfl ?_
              refine st_icmp_ge (tg := 325) (pc' := 300) dX12_ahead_297 (by decide) rfl e4 e5 (fun c => ?_) (fun c => ?_)
              · replace h := h.1 c
                refine st_iinc (pc' := 328) (L' := [(5, vI (x5 + 1)), (0, vR (some 74)), (1, vI x1), (2, vI x2), (3, vI x3), (4, vI x4)]) (j := 5) dX12_ahead_325 rfl (by decide) rfl rfl ?_
                refine st_iinc (pc' := 331) (L' := [(1, vI (x1 + 1)), (5, vI (x5 + 1)), (0, vR (some 74)), (2, vI x2), (3, vI x3), (4, vI x4)]) (j := 2) dX12_ahead_328 rfl (by decide) rfl rfl ?_
                refine st_goto (pc' := 204) dX12_ahead_331 (by decide) ?_
                refine WP_sub (L' := [(0, vR (some 74)), (1, vI (x1 + 1)), (2, vI x2), (3, vI x3), (4, vI x4), (5, vI (x5 + 1))]) [2, 0, 3, 4, 5, 1] rfl ?_
                exact h
              · replace h := h.2 c
                refine st_iload_n (pc' := 301) dX12_ahead_300 rfl rfl (j := 3) rfl ?_
                obtain ⟨e9, h⟩ := h
                refine st_if_eq (tg := 325) (pc' := 304) dX12_ahead_301 (by decide) rfl e9 (fun c => ?_) (fun c => ?_)
                · replace h := h.1 c
                  refine st_iinc (pc' := 328) (L' := [(5, vI (x5 + 1)), (0, vR (some 74)), (1, vI x1), (2, vI x2), (3, vI x3), (4, vI x4)]) (j := 5) dX12_ahead_325 rfl (by decide) rfl rfl ?_
                  refine st_iinc (pc' := 331) (L' := [(1, vI (x1 + 1)), (5, vI (x5 + 1)), (0, vR (some 74)), (2, vI x2), (3, vI x3), (4, vI x4)]) (j := 2) dX12_ahead_328 rfl (by decide) rfl rfl ?_
                  refine st_goto (pc' := 204) dX12_ahead_331 (by decide) ?_
                  refine WP_sub (L' := [(0, vR (some 74)), (1, vI (x1 + 1)), (2, vI x2), (3, vI x3), (4, vI x4), (5, vI (x5 + 1))]) [2, 0, 3, 4, 5, 1] rfl ?_
                  exact h
                · replace h := h.2 c
                  refine st_aload_n (pc' := 305) dX12_ahead_304 rfl rfl (j := 0) rfl ?_
                  refine st_bipush (pc' := 307) dX12_ahead_305 rfl (by decide) ?_
                  refine st_aload_n (pc' := 308) dX12_ahead_307 rfl rfl (j := 0) rfl ?_
                  refine G_X12_29_74 dX12_ahead_308 (pc' := 311) rfl rfl ?_
                  refine st_imul (pc' := 312) dX12_ahead_311 rfl ?_
                  refine st_aload_n (pc' := 313) dX12_ahead_312 rfl rfl (j := 0) rfl ?_
                  refine G_X12_7_74 dX12_ahead_313 (pc' := 316) rfl rfl ?_
                  refine st_iload_n (pc' := 317) dX12_ahead_316 rfl rfl (j := 1) rfl ?_
                  refine st_iaload (pc' := 318) (v := (gi I 75 (x1).toNat)) dX12_ahead_317 rfl L_75 (by decide) e3 (show gi I 75 (x1).toNat = (gi I 75 (x1).toNat) from rfl) ?_
                  refine st_iadd (pc' := 319) dX12_ahead_318 rfl ?_
                  refine st_bipush (pc' := 321) dX12_ahead_319 rfl (by decide) ?_
                  refine st_isub (pc' := 322) dX12_ahead_321 rfl ?_
                  refine P_X12_29_74 dX12_ahead_322 (pc' := 325) rfl rfl ?_
                  refine st_iinc (pc' := 328) (L' := [(5, vI (x5 + 1)), (0, vR (some 74)), (1, vI x1), (2, vI x2), (3, vI x3), (4, vI x4)]) (j := 5) dX12_ahead_325 rfl (by decide) rfl rfl ?_
                  refine st_iinc (pc' := 331) (L' := [(1, vI (x1 + 1)), (5, vI (x5 + 1)), (0, vR (some 74)), (2, vI x2), (3, vI x3), (4, vI x4)]) (j := 2) dX12_ahead_328 rfl (by decide) rfl rfl ?_
                  refine st_goto (pc' := 204) dX12_ahead_331 (by decide) ?_
                  refine WP_sub (L' := [(0, vR (some 74)), (1, vI (x1 + 1)), (2, vI x2), (3, vI x3), (4, vI x4), (5, vI (x5 + 1))]) [2, 0, 3, 4, 5, 1] rfl ?_
                  exact h
            · replace h := h.2 c
              refine st_iload_n (pc' := 271) dX12_ahead_270 rfl rfl (j := 2) rfl ?_
              refine st_if_eq (tg := 293) (pc' := 274) dX12_ahead_271 (by decide) rfl e2 (fun c => ?_) (fun c => ?_)
              · replace h := h.1 c
                refine st_iload (pc' := 295) dX12_ahead_293 rfl (j := 5) rfl ?_
                refine st_iload (pc' := 297) dX12_ahead_295 rfl (j := 4) rfl ?_
                refine st_icmp_ge (tg := 325) (pc' := 300) dX12_ahead_297 (by decide) rfl e4 e5 (fun c => ?_) (fun c => ?_)
                · replace h := h.1 c
                  refine st_iinc (pc' := 328) (L' := [(5, vI (x5 + 1)), (0, vR (some 74)), (1, vI x1), (2, vI x2), (3, vI x3), (4, vI x4)]) (j := 5) dX12_ahead_325 rfl (by decide) rfl rfl ?_
                  refine st_iinc (pc' := 331) (L' := [(1, vI (x1 + 1)), (5, vI (x5 + 1)), (0, vR (some 74)), (2, vI x2), (3, vI x3), (4, vI x4)]) (j := 2) dX12_ahead_328 rfl (by decide) rfl rfl ?_
                  refine st_goto (pc' := 204) dX12_ahead_331 (by decide) ?_
                  refine WP_sub (L' := [(0, vR (some 74)), (1, vI (x1 + 1)), (2, vI x2), (3, vI x3), (4, vI x4), (5, vI (x5 + 1))]) [2, 0, 3, 4, 5, 1] rfl ?_
                  exact h
                · replace h := h.2 c
                  refine st_iload_n (pc' := 301) dX12_ahead_300 rfl rfl (j := 3) rfl ?_
                  obtain ⟨e10, h⟩ := h
                  refine st_if_eq (tg := 325) (pc' := 304) dX12_ahead_301 (by decide) rfl e10 (fun c => ?_) (fun c => ?_)
                  · replace h := h.1 c
                    refine st_iinc (pc' := 328) (L' := [(5, vI (x5 + 1)), (0, vR (some 74)), (1, vI x1), (2, vI x2), (3, vI x3), (4, vI x4)]) (j := 5) dX12_ahead_325 rfl (by decide) rfl rfl ?_
                    refine st_iinc (pc' := 331) (L' := [(1, vI (x1 + 1)), (5, vI (x5 + 1)), (0, vR (some 74)), (2, vI x2), (3, vI x3), (4, vI x4)]) (j := 2) dX12_ahead_328 rfl (by decide) rfl rfl ?_
                    refine st_goto (pc' := 204) dX12_ahead_331 (by decide) ?_
                    refine WP_sub (L' := [(0, vR (some 74)), (1, vI (x1 + 1)), (2, vI x2), (3, vI x3), (4, vI x4), (5, vI (x5 + 1))]) [2, 0, 3, 4, 5, 1] rfl ?_
                    exact h
                  · replace h := h.2 c
                    refine st_aload_n (pc' := 305) dX12_ahead_304 rfl rfl (j := 0) rfl ?_
                    refine st_bipush (pc' := 307) dX12_ahead_305 rfl (by decide) ?_
                    refine st_aload_n (pc' := 308) dX12_ahead_307 rfl rfl (j := 0) rfl ?_
                    refine G_X12_29_74 dX12_ahead_308 (pc' := 311) rfl rfl ?_
                    refine st_imul (pc' := 312) dX12_ahead_311 rfl ?_
                    refine st_aload_n (pc' := 313) dX12_ahead_312 rfl rfl (j := 0) rfl ?_
                    refine G_X12_7_74 dX12_ahead_313 (pc' := 316) rfl rfl ?_
                    refine st_iload_n (pc' := 317) dX12_ahead_316 rfl rfl (j := 1) rfl ?_
                    refine st_iaload (pc' := 318) (v := (gi I 75 (x1).toNat)) dX12_ahead_317 rfl L_75 (by decide) e3 (show gi I 75 (x1).toNat = (gi I 75 (x1).toNat) from rfl) ?_
                    refine st_iadd (pc' := 319) dX12_ahead_318 rfl ?_
                    refine st_bipush (pc' := 321) dX12_ahead_319 rfl (by decide) ?_
                    refine st_isub (pc' := 322) dX12_ahead_321 rfl ?_
                    refine P_X12_29_74 dX12_ahead_322 (pc' := 325) rfl rfl ?_
                    refine st_iinc (pc' := 328) (L' := [(5, vI (x5 + 1)), (0, vR (some 74)), (1, vI x1), (2, vI x2), (3, vI x3), (4, vI x4)]) (j := 5) dX12_ahead_325 rfl (by decide) rfl rfl ?_
                    refine st_iinc (pc' := 331) (L' := [(1, vI (x1 + 1)), (5, vI (x5 + 1)), (0, vR (some 74)), (2, vI x2), (3, vI x3), (4, vI x4)]) (j := 2) dX12_ahead_328 rfl (by decide) rfl rfl ?_
                    refine st_goto (pc' := 204) dX12_ahead_331 (by decide) ?_
                    refine WP_sub (L' := [(0, vR (some 74)), (1, vI (x1 + 1)), (2, vI x2), (3, vI x3), (4, vI x4), (5, vI (x5 + 1))]) [2, 0, 3, 4, 5, 1] rfl ?_
                    exact h
              · replace h := h.2 c
                refine st_aload_n (pc' := 275) dX12_ahead_274 rfl rfl (j := 0) rfl ?_
                refine st_aload_n (pc' := 276) dX12_ahead_275 rfl rfl (j := 0) rfl ?_
                refine G_X12_32_74 dX12_ahead_276 (pc' := 279) rfl rfl ?_
                refine st_bipush (pc' := 281) dX12_ahead_279 rfl (by decide) ?_
                refine st_lshl (pc' := 282) (z := (shl64 (gl J 74 7) 8)) dX12_ahead_281 rfl rfl ?_
                refine st_aload_n (pc' := 283) dX12_ahead_282 rfl rfl (j := 0) rfl ?_
                refine G_X12_7_74 dX12_ahead_283 (pc' := 286) rfl rfl ?_
                refine st_iload_n (pc' := 287) dX12_ahead_286 rfl rfl (j := 1) rfl ?_
                refine st_iaload (pc' := 288) (v := (gi I 75 (x1).toNat)) dX12_ahead_287 rfl L_75 (by decide) e3 (show gi I 75 (x1).toNat = (gi I 75 (x1).toNat) from rfl) ?_
                refine st_i2l (pc' := 289) dX12_ahead_288 rfl (gi_in _ _ _) ?_
                refine st_lor (pc' := 290) (z := (or64 (shl64 (gl J 74 7) 8) (gi I 75 (x1).toNat))) dX12_ahead_289 rfl rfl ?_
                refine P_X12_32_74 dX12_ahead_290 (pc' := 293) rfl rfl ?_
                refine st_iload (pc' := 295) dX12_ahead_293 rfl (j := 5) rfl ?_
                refine st_iload (pc' := 297) dX12_ahead_295 rfl (j := 4) rfl ?_
                refine st_icmp_ge (tg := 325) (pc' := 300) dX12_ahead_297 (by decide) rfl e4 e5 (fun c => ?_) (fun c => ?_)
                · replace h := h.1 c
                  refine st_iinc (pc' := 328) (L' := [(5, vI (x5 + 1)), (0, vR (some 74)), (1, vI x1), (2, vI x2), (3, vI x3), (4, vI x4)]) (j := 5) dX12_ahead_325 rfl (by decide) rfl rfl ?_
                  refine st_iinc (pc' := 331) (L' := [(1, vI (x1 + 1)), (5, vI (x5 + 1)), (0, vR (some 74)), (2, vI x2), (3, vI x3), (4, vI x4)]) (j := 2) dX12_ahead_328 rfl (by decide) rfl rfl ?_
                  refine st_goto (pc' := 204) dX12_ahead_331 (by decide) ?_
                  refine WP_sub (L' := [(0, vR (some 74)), (1, vI (x1 + 1)), (2, vI x2), (3, vI x3), (4, vI x4), (5, vI (x5 + 1))]) [2, 0, 3, 4, 5, 1] rfl ?_
                  exact h
                · replace h := h.2 c
                  refine st_iload_n (pc' := 301) dX12_ahead_300 rfl rfl (j := 3) rfl ?_
                  obtain ⟨e11, h⟩ := h
                  refine st_if_eq (tg := 325) (pc' := 304) dX12_ahead_301 (by decide) rfl e11 (fun c => ?_) (fun c => ?_)
                  · replace h := h.1 c
                    refine st_iinc (pc' := 328) (L' := [(5, vI (x5 + 1)), (0, vR (some 74)), (1, vI x1), (2, vI x2), (3, vI x3), (4, vI x4)]) (j := 5) dX12_ahead_325 rfl (by decide) rfl rfl ?_
                    refine st_iinc (pc' := 331) (L' := [(1, vI (x1 + 1)), (5, vI (x5 + 1)), (0, vR (some 74)), (2, vI x2), (3, vI x3), (4, vI x4)]) (j := 2) dX12_ahead_328 rfl (by decide) rfl rfl ?_
                    refine st_goto (pc' := 204) dX12_ahead_331 (by decide) ?_
                    refine WP_sub (L' := [(0, vR (some 74)), (1, vI (x1 + 1)), (2, vI x2), (3, vI x3), (4, vI x4), (5, vI (x5 + 1))]) [2, 0, 3, 4, 5, 1] rfl ?_
                    exact h
                  · replace h := h.2 c
                    refine st_aload_n (pc' := 305) dX12_ahead_304 rfl rfl (j := 0) rfl ?_
                    refine st_bipush (pc' := 307) dX12_ahead_305 rfl (by decide) ?_
                    refine st_aload_n (pc' := 308) dX12_ahead_307 rfl rfl (j := 0) rfl ?_
                    refine G_X12_29_74 dX12_ahead_308 (pc' := 311) rfl rfl ?_
                    refine st_imul (pc' := 312) dX12_ahead_311 rfl ?_
                    refine st_aload_n (pc' := 313) dX12_ahead_312 rfl rfl (j := 0) rfl ?_
                    refine G_X12_7_74 dX12_ahead_313 (pc' := 316) rfl rfl ?_
                    refine st_iload_n (pc' := 317) dX12_ahead_316 rfl rfl (j := 1) rfl ?_
                    refine st_iaload (pc' := 318) (v := (gi I 75 (x1).toNat)) dX12_ahead_317 rfl L_75 (by decide) e3 (show gi I 75 (x1).toNat = (gi I 75 (x1).toNat) from rfl) ?_
                    refine st_iadd (pc' := 319) dX12_ahead_318 rfl ?_
                    refine st_bipush (pc' := 321) dX12_ahead_319 rfl (by decide) ?_
                    refine st_isub (pc' := 322) dX12_ahead_321 rfl ?_
                    refine P_X12_29_74 dX12_ahead_322 (pc' := 325) rfl rfl ?_
                    refine st_iinc (pc' := 328) (L' := [(5, vI (x5 + 1)), (0, vR (some 74)), (1, vI x1), (2, vI x2), (3, vI x3), (4, vI x4)]) (j := 5) dX12_ahead_325 rfl (by decide) rfl rfl ?_
                    refine st_iinc (pc' := 331) (L' := [(1, vI (x1 + 1)), (5, vI (x5 + 1)), (0, vR (some 74)), (2, vI x2), (3, vI x3), (4, vI x4)]) (j := 2) dX12_ahead_328 rfl (by decide) rfl rfl ?_
                    refine st_goto (pc' := 204) dX12_ahead_331 (by decide) ?_
                    refine WP_sub (L' := [(0, vR (some 74)), (1, vI (x1 + 1)), (2, vI x2), (3, vI x3), (4, vI x4), (5, vI (x5 + 1))]) [2, 0, 3, 4, 5, 1] rfl ?_
                    exact h
          · replace h := h.2 c
            refine st_aload_n (pc' := 259) dX12_ahead_258 rfl rfl (j := 0) rfl ?_
            refine st_iload_n (pc' := 260) dX12_ahead_259 rfl rfl (j := 1) rfl ?_
            refine P_X12_48_74 dX12_ahead_260 (pc' := 263) rfl rfl ?_
            refine st_iload (pc' := 265) dX12_ahead_263 rfl (j := 5) rfl ?_
            refine st_bipush (pc' := 267) dX12_ahead_265 rfl (by decide) ?_
            refine st_icmp_ge (tg := 293) (pc' := 270) dX12_ahead_267 (by decide) rfl e4 (by decide) (fun c => ?_) (fun c => ?_)
            · replace h := h.1 c
              refine st_iload (pc' := 295) dX12_ahead_293 rfl (j := 5) rfl ?_
              refine st_iload (pc' := 297) dX12_ahead_295 rfl (j := 4) rfl ?_
              refine st_icmp_ge (tg := 325) (pc' := 300) dX12_ahead_297 (by decide) rfl e4 e5 (fun c => ?_) (fun c => ?_)
              · replace h := h.1 c
                refine st_iinc (pc' := 328) (L' := [(5, vI (x5 + 1)), (0, vR (some 74)), (1, vI x1), (2, vI x2), (3, vI x3), (4, vI x4)]) (j := 5) dX12_ahead_325 rfl (by decide) rfl rfl ?_
                refine st_iinc (pc' := 331) (L' := [(1, vI (x1 + 1)), (5, vI (x5 + 1)), (0, vR (some 74)), (2, vI x2), (3, vI x3), (4, vI x4)]) (j := 2) dX12_ahead_328 rfl (by decide) rfl rfl ?_
                refine st_goto (pc' := 204) dX12_ahead_331 (by decide) ?_
                refine WP_sub (L' := [(0, vR (some 74)), (1, vI (x1 + 1)), (2, vI x2), (3, vI x3), (4, vI x4), (5, vI (x5 + 1))]) [2, 0, 3, 4, 5, 1] rfl ?_
                exact h
              · replace h := h.2 c
                refine st_iload_n (pc' := 301) dX12_ahead_300 rfl rfl (j := 3) rfl ?_
                obtain ⟨e12, h⟩ := h
                refine st_if_eq (tg := 325) (pc' := 304) dX12_ahead_301 (by decide) rfl e12 (fun c => ?_) (fun c => ?_)
                · replace h := h.1 c
                  refine st_iinc (pc' := 328) (L' := [(5, vI (x5 + 1)), (0, vR (some 74)), (1, vI x1), (2, vI x2), (3, vI x3), (4, vI x4)]) (j := 5) dX12_ahead_325 rfl (by decide) rfl rfl ?_
                  refine st_iinc (pc' := 331) (L' := [(1, vI (x1 + 1)), (5, vI (x5 + 1)), (0, vR (some 74)), (2, vI x2), (3, vI x3), (4, vI x4)]) (j := 2) dX12_ahead_328 rfl (by decide) rfl rfl ?_
                  refine st_goto (pc' := 204) dX12_ahead_331 (by decide) ?_
                  refine WP_sub (L' := [(0, vR (some 74)), (1, vI (x1 + 1)), (2, vI x2), (3, vI x3), (4, vI x4), (5, vI (x5 + 1))]) [2, 0, 3, 4, 5, 1] rfl ?_
                  exact h
                · replace h := h.2 c
                  refine st_aload_n (pc' := 305) dX12_ahead_304 rfl rfl (j := 0) rfl ?_
                  refine st_bipush (pc' := 307) dX12_ahead_305 rfl (by decide) ?_
                  refine st_aload_n (pc' := 308) dX12_ahead_307 rfl rfl (j := 0) rfl ?_
                  refine G_X12_29_74 dX12_ahead_308 (pc' := 311) rfl rfl ?_
                  rw [show gi (si I 74 12 x1) 74 6 = (gi I 74 6) from (gi_idx _ _ _ (by decide))]
                  refine st_imul (pc' := 312) dX12_ahead_311 rfl ?_
                  refine st_aload_n (pc' := 313) dX12_ahead_312 rfl rfl (j := 0) rfl ?_
                  refine G_X12_7_74 dX12_ahead_313 (pc' := 316) rfl rfl ?_
                  refine st_iload_n (pc' := 317) dX12_ahead_316 rfl rfl (j := 1) rfl ?_
                  refine st_iaload (pc' := 318) (v := (gi I 75 (x1).toNat)) dX12_ahead_317 rfl L_75 (by decide) e3 (show gi (si I 74 12 x1) 75 (x1).toNat = (gi I 75 (x1).toNat) from (gi_cell _ _ _ _ (by decide))) ?_
                  refine st_iadd (pc' := 319) dX12_ahead_318 rfl ?_
                  refine st_bipush (pc' := 321) dX12_ahead_319 rfl (by decide) ?_
                  refine st_isub (pc' := 322) dX12_ahead_321 rfl ?_
                  refine P_X12_29_74 dX12_ahead_322 (pc' := 325) rfl rfl ?_
                  refine st_iinc (pc' := 328) (L' := [(5, vI (x5 + 1)), (0, vR (some 74)), (1, vI x1), (2, vI x2), (3, vI x3), (4, vI x4)]) (j := 5) dX12_ahead_325 rfl (by decide) rfl rfl ?_
                  refine st_iinc (pc' := 331) (L' := [(1, vI (x1 + 1)), (5, vI (x5 + 1)), (0, vR (some 74)), (2, vI x2), (3, vI x3), (4, vI x4)]) (j := 2) dX12_ahead_328 rfl (by decide) rfl rfl ?_
                  refine st_goto (pc' := 204) dX12_ahead_331 (by decide) ?_
                  refine WP_sub (L' := [(0, vR (some 74)), (1, vI (x1 + 1)), (2, vI x2), (3, vI x3), (4, vI x4), (5, vI (x5 + 1))]) [2, 0, 3, 4, 5, 1] rfl ?_
                  exact h
            · replace h := h.2 c
              refine st_iload_n (pc' := 271) dX12_ahead_270 rfl rfl (j := 2) rfl ?_
              refine st_if_eq (tg := 293) (pc' := 274) dX12_ahead_271 (by decide) rfl e2 (fun c => ?_) (fun c => ?_)
              · replace h := h.1 c
                refine st_iload (pc' := 295) dX12_ahead_293 rfl (j := 5) rfl ?_
                refine st_iload (pc' := 297) dX12_ahead_295 rfl (j := 4) rfl ?_
                refine st_icmp_ge (tg := 325) (pc' := 300) dX12_ahead_297 (by decide) rfl e4 e5 (fun c => ?_) (fun c => ?_)
                · replace h := h.1 c
                  refine st_iinc (pc' := 328) (L' := [(5, vI (x5 + 1)), (0, vR (some 74)), (1, vI x1), (2, vI x2), (3, vI x3), (4, vI x4)]) (j := 5) dX12_ahead_325 rfl (by decide) rfl rfl ?_
                  refine st_iinc (pc' := 331) (L' := [(1, vI (x1 + 1)), (5, vI (x5 + 1)), (0, vR (some 74)), (2, vI x2), (3, vI x3), (4, vI x4)]) (j := 2) dX12_ahead_328 rfl (by decide) rfl rfl ?_
                  refine st_goto (pc' := 204) dX12_ahead_331 (by decide) ?_
                  refine WP_sub (L' := [(0, vR (some 74)), (1, vI (x1 + 1)), (2, vI x2), (3, vI x3), (4, vI x4), (5, vI (x5 + 1))]) [2, 0, 3, 4, 5, 1] rfl ?_
                  exact h
                · replace h := h.2 c
                  refine st_iload_n (pc' := 301) dX12_ahead_300 rfl rfl (j := 3) rfl ?_
                  obtain ⟨e13, h⟩ := h
                  refine st_if_eq (tg := 325) (pc' := 304) dX12_ahead_301 (by decide) rfl e13 (fun c => ?_) (fun c => ?_)
                  · replace h := h.1 c
                    refine st_iinc (pc' := 328) (L' := [(5, vI (x5 + 1)), (0, vR (some 74)), (1, vI x1), (2, vI x2), (3, vI x3), (4, vI x4)]) (j := 5) dX12_ahead_325 rfl (by decide) rfl rfl ?_
                    refine st_iinc (pc' := 331) (L' := [(1, vI (x1 + 1)), (5, vI (x5 + 1)), (0, vR (some 74)), (2, vI x2), (3, vI x3), (4, vI x4)]) (j := 2) dX12_ahead_328 rfl (by decide) rfl rfl ?_
                    refine st_goto (pc' := 204) dX12_ahead_331 (by decide) ?_
                    refine WP_sub (L' := [(0, vR (some 74)), (1, vI (x1 + 1)), (2, vI x2), (3, vI x3), (4, vI x4), (5, vI (x5 + 1))]) [2, 0, 3, 4, 5, 1] rfl ?_
                    exact h
                  · replace h := h.2 c
                    refine st_aload_n (pc' := 305) dX12_ahead_304 rfl rfl (j := 0) rfl ?_
                    refine st_bipush (pc' := 307) dX12_ahead_305 rfl (by decide) ?_
                    refine st_aload_n (pc' := 308) dX12_ahead_307 rfl rfl (j := 0) rfl ?_
                    refine G_X12_29_74 dX12_ahead_308 (pc' := 311) rfl rfl ?_
                    rw [show gi (si I 74 12 x1) 74 6 = (gi I 74 6) from (gi_idx _ _ _ (by decide))]
                    refine st_imul (pc' := 312) dX12_ahead_311 rfl ?_
                    refine st_aload_n (pc' := 313) dX12_ahead_312 rfl rfl (j := 0) rfl ?_
                    refine G_X12_7_74 dX12_ahead_313 (pc' := 316) rfl rfl ?_
                    refine st_iload_n (pc' := 317) dX12_ahead_316 rfl rfl (j := 1) rfl ?_
                    refine st_iaload (pc' := 318) (v := (gi I 75 (x1).toNat)) dX12_ahead_317 rfl L_75 (by decide) e3 (show gi (si I 74 12 x1) 75 (x1).toNat = (gi I 75 (x1).toNat) from (gi_cell _ _ _ _ (by decide))) ?_
                    refine st_iadd (pc' := 319) dX12_ahead_318 rfl ?_
                    refine st_bipush (pc' := 321) dX12_ahead_319 rfl (by decide) ?_
                    refine st_isub (pc' := 322) dX12_ahead_321 rfl ?_
                    refine P_X12_29_74 dX12_ahead_322 (pc' := 325) rfl rfl ?_
                    refine st_iinc (pc' := 328) (L' := [(5, vI (x5 + 1)), (0, vR (some 74)), (1, vI x1), (2, vI x2), (3, vI x3), (4, vI x4)]) (j := 5) dX12_ahead_325 rfl (by decide) rfl rfl ?_
                    refine st_iinc (pc' := 331) (L' := [(1, vI (x1 + 1)), (5, vI (x5 + 1)), (0, vR (some 74)), (2, vI x2), (3, vI x3), (4, vI x4)]) (j := 2) dX12_ahead_328 rfl (by decide) rfl rfl ?_
                    refine st_goto (pc' := 204) dX12_ahead_331 (by decide) ?_
                    refine WP_sub (L' := [(0, vR (some 74)), (1, vI (x1 + 1)), (2, vI x2), (3, vI x3), (4, vI x4), (5, vI (x5 + 1))]) [2, 0, 3, 4, 5, 1] rfl ?_
                    exact h
              · replace h := h.2 c
                refine st_aload_n (pc' := 275) dX12_ahead_274 rfl rfl (j := 0) rfl ?_
                refine st_aload_n (pc' := 276) dX12_ahead_275 rfl rfl (j := 0) rfl ?_
                refine G_X12_32_74 dX12_ahead_276 (pc' := 279) rfl rfl ?_
                refine st_bipush (pc' := 281) dX12_ahead_279 rfl (by decide) ?_
                refine st_lshl (pc' := 282) (z := (shl64 (gl J 74 7) 8)) dX12_ahead_281 rfl rfl ?_
                refine st_aload_n (pc' := 283) dX12_ahead_282 rfl rfl (j := 0) rfl ?_
                refine G_X12_7_74 dX12_ahead_283 (pc' := 286) rfl rfl ?_
                refine st_iload_n (pc' := 287) dX12_ahead_286 rfl rfl (j := 1) rfl ?_
                refine st_iaload (pc' := 288) (v := (gi I 75 (x1).toNat)) dX12_ahead_287 rfl L_75 (by decide) e3 (show gi (si I 74 12 x1) 75 (x1).toNat = (gi I 75 (x1).toNat) from (gi_cell _ _ _ _ (by decide))) ?_
                refine st_i2l (pc' := 289) dX12_ahead_288 rfl (gi_in _ _ _) ?_
                refine st_lor (pc' := 290) (z := (or64 (shl64 (gl J 74 7) 8) (gi I 75 (x1).toNat))) dX12_ahead_289 rfl rfl ?_
                refine P_X12_32_74 dX12_ahead_290 (pc' := 293) rfl rfl ?_
                refine st_iload (pc' := 295) dX12_ahead_293 rfl (j := 5) rfl ?_
                refine st_iload (pc' := 297) dX12_ahead_295 rfl (j := 4) rfl ?_
                refine st_icmp_ge (tg := 325) (pc' := 300) dX12_ahead_297 (by decide) rfl e4 e5 (fun c => ?_) (fun c => ?_)
                · replace h := h.1 c
                  refine st_iinc (pc' := 328) (L' := [(5, vI (x5 + 1)), (0, vR (some 74)), (1, vI x1), (2, vI x2), (3, vI x3), (4, vI x4)]) (j := 5) dX12_ahead_325 rfl (by decide) rfl rfl ?_
                  refine st_iinc (pc' := 331) (L' := [(1, vI (x1 + 1)), (5, vI (x5 + 1)), (0, vR (some 74)), (2, vI x2), (3, vI x3), (4, vI x4)]) (j := 2) dX12_ahead_328 rfl (by decide) rfl rfl ?_
                  refine st_goto (pc' := 204) dX12_ahead_331 (by decide) ?_
                  refine WP_sub (L' := [(0, vR (some 74)), (1, vI (x1 + 1)), (2, vI x2), (3, vI x3), (4, vI x4), (5, vI (x5 + 1))]) [2, 0, 3, 4, 5, 1] rfl ?_
                  exact h
                · replace h := h.2 c
                  refine st_iload_n (pc' := 301) dX12_ahead_300 rfl rfl (j := 3) rfl ?_
                  obtain ⟨e14, h⟩ := h
                  refine st_if_eq (tg := 325) (pc' := 304) dX12_ahead_301 (by decide) rfl e14 (fun c => ?_) (fun c => ?_)
                  · replace h := h.1 c
                    refine st_iinc (pc' := 328) (L' := [(5, vI (x5 + 1)), (0, vR (some 74)), (1, vI x1), (2, vI x2), (3, vI x3), (4, vI x4)]) (j := 5) dX12_ahead_325 rfl (by decide) rfl rfl ?_
                    refine st_iinc (pc' := 331) (L' := [(1, vI (x1 + 1)), (5, vI (x5 + 1)), (0, vR (some 74)), (2, vI x2), (3, vI x3), (4, vI x4)]) (j := 2) dX12_ahead_328 rfl (by decide) rfl rfl ?_
                    refine st_goto (pc' := 204) dX12_ahead_331 (by decide) ?_
                    refine WP_sub (L' := [(0, vR (some 74)), (1, vI (x1 + 1)), (2, vI x2), (3, vI x3), (4, vI x4), (5, vI (x5 + 1))]) [2, 0, 3, 4, 5, 1] rfl ?_
                    exact h
                  · replace h := h.2 c
                    refine st_aload_n (pc' := 305) dX12_ahead_304 rfl rfl (j := 0) rfl ?_
                    refine st_bipush (pc' := 307) dX12_ahead_305 rfl (by decide) ?_
                    refine st_aload_n (pc' := 308) dX12_ahead_307 rfl rfl (j := 0) rfl ?_
                    refine G_X12_29_74 dX12_ahead_308 (pc' := 311) rfl rfl ?_
                    rw [show gi (si I 74 12 x1) 74 6 = (gi I 74 6) from (gi_idx _ _ _ (by decide))]
                    refine st_imul (pc' := 312) dX12_ahead_311 rfl ?_
                    refine st_aload_n (pc' := 313) dX12_ahead_312 rfl rfl (j := 0) rfl ?_
                    refine G_X12_7_74 dX12_ahead_313 (pc' := 316) rfl rfl ?_
                    refine st_iload_n (pc' := 317) dX12_ahead_316 rfl rfl (j := 1) rfl ?_
                    refine st_iaload (pc' := 318) (v := (gi I 75 (x1).toNat)) dX12_ahead_317 rfl L_75 (by decide) e3 (show gi (si I 74 12 x1) 75 (x1).toNat = (gi I 75 (x1).toNat) from (gi_cell _ _ _ _ (by decide))) ?_
                    refine st_iadd (pc' := 319) dX12_ahead_318 rfl ?_
                    refine st_bipush (pc' := 321) dX12_ahead_319 rfl (by decide) ?_
                    refine st_isub (pc' := 322) dX12_ahead_321 rfl ?_
                    refine P_X12_29_74 dX12_ahead_322 (pc' := 325) rfl rfl ?_
                    refine st_iinc (pc' := 328) (L' := [(5, vI (x5 + 1)), (0, vR (some 74)), (1, vI x1), (2, vI x2), (3, vI x3), (4, vI x4)]) (j := 5) dX12_ahead_325 rfl (by decide) rfl rfl ?_
                    refine st_iinc (pc' := 331) (L' := [(1, vI (x1 + 1)), (5, vI (x5 + 1)), (0, vR (some 74)), (2, vI x2), (3, vI x3), (4, vI x4)]) (j := 2) dX12_ahead_328 rfl (by decide) rfl rfl ?_
                    refine st_goto (pc' := 204) dX12_ahead_331 (by decide) ?_
                    refine WP_sub (L' := [(0, vR (some 74)), (1, vI (x1 + 1)), (2, vI x2), (3, vI x3), (4, vI x4), (5, vI (x5 + 1))]) [2, 0, 3, 4, 5, 1] rfl ?_
                    exact h
    · replace h := h.2 c
      refine st_aload_n (pc' := 217) dX12_ahead_216 rfl rfl (j := 0) rfl ?_
      refine G_X12_7_74 dX12_ahead_217 (pc' := 220) rfl rfl ?_
      refine st_iload_n (pc' := 221) dX12_ahead_220 rfl rfl (j := 1) rfl ?_
      obtain ⟨e15, h⟩ := h
      refine st_iaload (pc' := 222) (v := (gi I 75 (x1).toNat)) dX12_ahead_221 rfl L_75 (by decide) e15 (show gi I 75 (x1).toNat = (gi I 75 (x1).toNat) from rfl) ?_
      refine st_callS (pc' := 225) (kc := k - 1) (E' := LAY) (cal := m_X12_isLetter) (n := 1) (as := [vI (gi I 75 (x1).toNat)]) (S := []) dX12_ahead_222 rfl l_X12_291 k_X12_isLetter rfl rfl (Nat.le_of_ble_eq_true rfl) (by omega) ⟨Nat.le_refl _, Nat.le_refl _, Nat.le_refl _, Nat.le_refl _⟩ (Q1 := fun r M' => WP k LAY m_X12_ahead 225 [(0, vR (some 74)), (1, vI x1), (2, vI x2), (3, vI x3), (4, vI x4), (5, vI x5)] (r.toList ++ []) M' Q) (S_X12_isLetter (by omega) (gi_in _ _ _) ?_) (fun r M' q => q)
      change WP _ LAY m_X12_ahead 225 [(0, vR (some 74)), (1, vI x1), (2, vI x2), (3, vI x3), (4, vI x4), (5, vI x5)] [vI (b2i (97 ≤ (gi I 75 (x1).toNat) ∧ (gi I 75 (x1).toNat) ≤ 122))] (mem (P, some 5, some 22) I J) Q
      refine st_if_eq (tg := 334) (pc' := 228) dX12_ahead_225 (by decide) rfl (b2i_in _) (fun c => ?_) (fun c => ?_)
      · replace h := h.1 (b2i_f.mp c)
        refine WP_sub (L' := [(0, vR (some 74)), (1, vI x1), (2, vI x2), (4, vI x4), (5, vI x5)]) [0, 1, 2, 4, 5] rfl ?_
        exact h
      · replace h := h.2 (b2i_t.mp c)
        refine st_goto (pc' := 243) dX12_ahead_228 (by decide) ?_
        refine st_iload (pc' := 245) dX12_ahead_243 rfl (j := 5) rfl ?_
        refine st_iload (pc' := 247) dX12_ahead_245 rfl (j := 4) rfl ?_
        obtain ⟨e16, h⟩ := h
        obtain ⟨e17, h⟩ := h
        refine st_icmp_ne (tg := 263) (pc' := 250) dX12_ahead_247 (by decide) rfl e16 e17 (fun c => ?_) (fun c => ?_)
        · replace h := h.1 c
          refine st_iload (pc' := 265) dX12_ahead_263 rfl (j := 5) rfl ?_
          refine st_bipush (pc' := 267) dX12_ahead_265 rfl (by decide) ?_
          refine st_icmp_ge (tg := 293) (pc' := 270) dX12_ahead_267 (by decide) rfl e16 (by decide) (fun c => ?_) (fun c => ?_)
          · replace h := h.1 c
            refine st_iload (pc' := 295) dX12_ahead_293 rfl (j := 5) rfl ?_
            refine st_iload (pc' := 297) dX12_ahead_295 rfl (j := 4) rfl ?_
            refine st_icmp_ge (tg := 325) (pc' := 300) dX12_ahead_297 (by decide) rfl e16 e17 (fun c => ?_) (fun c => ?_)
            · replace h := h.1 c
              refine st_iinc (pc' := 328) (L' := [(5, vI (x5 + 1)), (0, vR (some 74)), (1, vI x1), (2, vI x2), (3, vI x3), (4, vI x4)]) (j := 5) dX12_ahead_325 rfl (by decide) rfl rfl ?_
              refine st_iinc (pc' := 331) (L' := [(1, vI (x1 + 1)), (5, vI (x5 + 1)), (0, vR (some 74)), (2, vI x2), (3, vI x3), (4, vI x4)]) (j := 2) dX12_ahead_328 rfl (by decide) rfl rfl ?_
              refine st_goto (pc' := 204) dX12_ahead_331 (by decide) ?_
              refine WP_sub (L' := [(0, vR (some 74)), (1, vI (x1 + 1)), (2, vI x2), (3, vI x3), (4, vI x4), (5, vI (x5 + 1))]) [2, 0, 3, 4, 5, 1] rfl ?_
              exact h
            · replace h := h.2 c
              refine st_iload_n (pc' := 301) dX12_ahead_300 rfl rfl (j := 3) rfl ?_
              obtain ⟨e18, h⟩ := h
              refine st_if_eq (tg := 325) (pc' := 304) dX12_ahead_301 (by decide) rfl e18 (fun c => ?_) (fun c => ?_)
              · replace h := h.1 c
                refine st_iinc (pc' := 328) (L' := [(5, vI (x5 + 1)), (0, vR (some 74)), (1, vI x1), (2, vI x2), (3, vI x3), (4, vI x4)]) (j := 5) dX12_ahead_325 rfl (by decide) rfl rfl ?_
                refine st_iinc (pc' := 331) (L' := [(1, vI (x1 + 1)), (5, vI (x5 + 1)), (0, vR (some 74)), (2, vI x2), (3, vI x3), (4, vI x4)]) (j := 2) dX12_ahead_328 rfl (by decide) rfl rfl ?_
                refine st_goto (pc' := 204) dX12_ahead_331 (by decide) ?_
                refine WP_sub (L' := [(0, vR (some 74)), (1, vI (x1 + 1)), (2, vI x2), (3, vI x3), (4, vI x4), (5, vI (x5 + 1))]) [2, 0, 3, 4, 5, 1] rfl ?_
                exact h
              · replace h := h.2 c
                refine st_aload_n (pc' := 305) dX12_ahead_304 rfl rfl (j := 0) rfl ?_
                refine st_bipush (pc' := 307) dX12_ahead_305 rfl (by decide) ?_
                refine st_aload_n (pc' := 308) dX12_ahead_307 rfl rfl (j := 0) rfl ?_
                refine G_X12_29_74 dX12_ahead_308 (pc' := 311) rfl rfl ?_
                refine st_imul (pc' := 312) dX12_ahead_311 rfl ?_
                refine st_aload_n (pc' := 313) dX12_ahead_312 rfl rfl (j := 0) rfl ?_
                refine G_X12_7_74 dX12_ahead_313 (pc' := 316) rfl rfl ?_
                refine st_iload_n (pc' := 317) dX12_ahead_316 rfl rfl (j := 1) rfl ?_
                refine st_iaload (pc' := 318) (v := (gi I 75 (x1).toNat)) dX12_ahead_317 rfl L_75 (by decide) e15 (show gi I 75 (x1).toNat = (gi I 75 (x1).toNat) from rfl) ?_
                refine st_iadd (pc' := 319) dX12_ahead_318 rfl ?_
                refine st_bipush (pc' := 321) dX12_ahead_319 rfl (by decide) ?_
                refine st_isub (pc' := 322) dX12_ahead_321 rfl ?_
                refine P_X12_29_74 dX12_ahead_322 (pc' := 325) rfl rfl ?_
                refine st_iinc (pc' := 328) (L' := [(5, vI (x5 + 1)), (0, vR (some 74)), (1, vI x1), (2, vI x2), (3, vI x3), (4, vI x4)]) (j := 5) dX12_ahead_325 rfl (by decide) rfl rfl ?_
                refine st_iinc (pc' := 331) (L' := [(1, vI (x1 + 1)), (5, vI (x5 + 1)), (0, vR (some 74)), (2, vI x2), (3, vI x3), (4, vI x4)]) (j := 2) dX12_ahead_328 rfl (by decide) rfl rfl ?_
                refine st_goto (pc' := 204) dX12_ahead_331 (by decide) ?_
                refine WP_sub (L' := [(0, vR (some 74)), (1, vI (x1 + 1)), (2, vI x2), (3, vI x3), (4, vI x4), (5, vI (x5 + 1))]) [2, 0, 3, 4, 5, 1] rfl ?_
                exact h
          · replace h := h.2 c
            refine st_iload_n (pc' := 271) dX12_ahead_270 rfl rfl (j := 2) rfl ?_
            refine st_if_eq (tg := 293) (pc' := 274) dX12_ahead_271 (by decide) rfl e2 (fun c => ?_) (fun c => ?_)
            · replace h := h.1 c
              refine st_iload (pc' := 295) dX12_ahead_293 rfl (j := 5) rfl ?_
              refine st_iload (pc' := 297) dX12_ahead_295 rfl (j := 4) rfl ?_
              refine st_icmp_ge (tg := 325) (pc' := 300) dX12_ahead_297 (by decide) rfl e16 e17 (fun c => ?_) (fun c => ?_)
              · replace h := h.1 c
                refine st_iinc (pc' := 328) (L' := [(5, vI (x5 + 1)), (0, vR (some 74)), (1, vI x1), (2, vI x2), (3, vI x3), (4, vI x4)]) (j := 5) dX12_ahead_325 rfl (by decide) rfl rfl ?_
                refine st_iinc (pc' := 331) (L' := [(1, vI (x1 + 1)), (5, vI (x5 + 1)), (0, vR (some 74)), (2, vI x2), (3, vI x3), (4, vI x4)]) (j := 2) dX12_ahead_328 rfl (by decide) rfl rfl ?_
                refine st_goto (pc' := 204) dX12_ahead_331 (by decide) ?_
                refine WP_sub (L' := [(0, vR (some 74)), (1, vI (x1 + 1)), (2, vI x2), (3, vI x3), (4, vI x4), (5, vI (x5 + 1))]) [2, 0, 3, 4, 5, 1] rfl ?_
                exact h
              · replace h := h.2 c
                refine st_iload_n (pc' := 301) dX12_ahead_300 rfl rfl (j := 3) rfl ?_
                obtain ⟨e19, h⟩ := h
                refine st_if_eq (tg := 325) (pc' := 304) dX12_ahead_301 (by decide) rfl e19 (fun c => ?_) (fun c => ?_)
                · replace h := h.1 c
                  refine st_iinc (pc' := 328) (L' := [(5, vI (x5 + 1)), (0, vR (some 74)), (1, vI x1), (2, vI x2), (3, vI x3), (4, vI x4)]) (j := 5) dX12_ahead_325 rfl (by decide) rfl rfl ?_
                  refine st_iinc (pc' := 331) (L' := [(1, vI (x1 + 1)), (5, vI (x5 + 1)), (0, vR (some 74)), (2, vI x2), (3, vI x3), (4, vI x4)]) (j := 2) dX12_ahead_328 rfl (by decide) rfl rfl ?_
                  refine st_goto (pc' := 204) dX12_ahead_331 (by decide) ?_
                  refine WP_sub (L' := [(0, vR (some 74)), (1, vI (x1 + 1)), (2, vI x2), (3, vI x3), (4, vI x4), (5, vI (x5 + 1))]) [2, 0, 3, 4, 5, 1] rfl ?_
                  exact h
                · replace h := h.2 c
                  refine st_aload_n (pc' := 305) dX12_ahead_304 rfl rfl (j := 0) rfl ?_
                  refine st_bipush (pc' := 307) dX12_ahead_305 rfl (by decide) ?_
                  refine st_aload_n (pc' := 308) dX12_ahead_307 rfl rfl (j := 0) rfl ?_
                  refine G_X12_29_74 dX12_ahead_308 (pc' := 311) rfl rfl ?_
                  refine st_imul (pc' := 312) dX12_ahead_311 rfl ?_
                  refine st_aload_n (pc' := 313) dX12_ahead_312 rfl rfl (j := 0) rfl ?_
                  refine G_X12_7_74 dX12_ahead_313 (pc' := 316) rfl rfl ?_
                  refine st_iload_n (pc' := 317) dX12_ahead_316 rfl rfl (j := 1) rfl ?_
                  refine st_iaload (pc' := 318) (v := (gi I 75 (x1).toNat)) dX12_ahead_317 rfl L_75 (by decide) e15 (show gi I 75 (x1).toNat = (gi I 75 (x1).toNat) from rfl) ?_
                  refine st_iadd (pc' := 319) dX12_ahead_318 rfl ?_
                  refine st_bipush (pc' := 321) dX12_ahead_319 rfl (by decide) ?_
                  refine st_isub (pc' := 322) dX12_ahead_321 rfl ?_
                  refine P_X12_29_74 dX12_ahead_322 (pc' := 325) rfl rfl ?_
                  refine st_iinc (pc' := 328) (L' := [(5, vI (x5 + 1)), (0, vR (some 74)), (1, vI x1), (2, vI x2), (3, vI x3), (4, vI x4)]) (j := 5) dX12_ahead_325 rfl (by decide) rfl rfl ?_
                  refine st_iinc (pc' := 331) (L' := [(1, vI (x1 + 1)), (5, vI (x5 + 1)), (0, vR (some 74)), (2, vI x2), (3, vI x3), (4, vI x4)]) (j := 2) dX12_ahead_328 rfl (by decide) rfl rfl ?_
                  refine st_goto (pc' := 204) dX12_ahead_331 (by decide) ?_
                  refine WP_sub (L' := [(0, vR (some 74)), (1, vI (x1 + 1)), (2, vI x2), (3, vI x3), (4, vI x4), (5, vI (x5 + 1))]) [2, 0, 3, 4, 5, 1] rfl ?_
                  exact h
            · replace h := h.2 c
              refine st_aload_n (pc' := 275) dX12_ahead_274 rfl rfl (j := 0) rfl ?_
              refine st_aload_n (pc' := 276) dX12_ahead_275 rfl rfl (j := 0) rfl ?_
              refine G_X12_32_74 dX12_ahead_276 (pc' := 279) rfl rfl ?_
              refine st_bipush (pc' := 281) dX12_ahead_279 rfl (by decide) ?_
              refine st_lshl (pc' := 282) (z := (shl64 (gl J 74 7) 8)) dX12_ahead_281 rfl rfl ?_
              refine st_aload_n (pc' := 283) dX12_ahead_282 rfl rfl (j := 0) rfl ?_
              refine G_X12_7_74 dX12_ahead_283 (pc' := 286) rfl rfl ?_
              refine st_iload_n (pc' := 287) dX12_ahead_286 rfl rfl (j := 1) rfl ?_
              refine st_iaload (pc' := 288) (v := (gi I 75 (x1).toNat)) dX12_ahead_287 rfl L_75 (by decide) e15 (show gi I 75 (x1).toNat = (gi I 75 (x1).toNat) from rfl) ?_
              refine st_i2l (pc' := 289) dX12_ahead_288 rfl (gi_in _ _ _) ?_
              refine st_lor (pc' := 290) (z := (or64 (shl64 (gl J 74 7) 8) (gi I 75 (x1).toNat))) dX12_ahead_289 rfl rfl ?_
              refine P_X12_32_74 dX12_ahead_290 (pc' := 293) rfl rfl ?_
              refine st_iload (pc' := 295) dX12_ahead_293 rfl (j := 5) rfl ?_
              refine st_iload (pc' := 297) dX12_ahead_295 rfl (j := 4) rfl ?_
              refine st_icmp_ge (tg := 325) (pc' := 300) dX12_ahead_297 (by decide) rfl e16 e17 (fun c => ?_) (fun c => ?_)
              · replace h := h.1 c
                refine st_iinc (pc' := 328) (L' := [(5, vI (x5 + 1)), (0, vR (some 74)), (1, vI x1), (2, vI x2), (3, vI x3), (4, vI x4)]) (j := 5) dX12_ahead_325 rfl (by decide) rfl rfl ?_
                refine st_iinc (pc' := 331) (L' := [(1, vI (x1 + 1)), (5, vI (x5 + 1)), (0, vR (some 74)), (2, vI x2), (3, vI x3), (4, vI x4)]) (j := 2) dX12_ahead_328 rfl (by decide) rfl rfl ?_
                refine st_goto (pc' := 204) dX12_ahead_331 (by decide) ?_
                refine WP_sub (L' := [(0, vR (some 74)), (1, vI (x1 + 1)), (2, vI x2), (3, vI x3), (4, vI x4), (5, vI (x5 + 1))]) [2, 0, 3, 4, 5, 1] rfl ?_
                exact h
              · replace h := h.2 c
                refine st_iload_n (pc' := 301) dX12_ahead_300 rfl rfl (j := 3) rfl ?_
                obtain ⟨e20, h⟩ := h
                refine st_if_eq (tg := 325) (pc' := 304) dX12_ahead_301 (by decide) rfl e20 (fun c => ?_) (fun c => ?_)
                · replace h := h.1 c
                  refine st_iinc (pc' := 328) (L' := [(5, vI (x5 + 1)), (0, vR (some 74)), (1, vI x1), (2, vI x2), (3, vI x3), (4, vI x4)]) (j := 5) dX12_ahead_325 rfl (by decide) rfl rfl ?_
                  refine st_iinc (pc' := 331) (L' := [(1, vI (x1 + 1)), (5, vI (x5 + 1)), (0, vR (some 74)), (2, vI x2), (3, vI x3), (4, vI x4)]) (j := 2) dX12_ahead_328 rfl (by decide) rfl rfl ?_
                  refine st_goto (pc' := 204) dX12_ahead_331 (by decide) ?_
                  refine WP_sub (L' := [(0, vR (some 74)), (1, vI (x1 + 1)), (2, vI x2), (3, vI x3), (4, vI x4), (5, vI (x5 + 1))]) [2, 0, 3, 4, 5, 1] rfl ?_
                  exact h
                · replace h := h.2 c
                  refine st_aload_n (pc' := 305) dX12_ahead_304 rfl rfl (j := 0) rfl ?_
                  refine st_bipush (pc' := 307) dX12_ahead_305 rfl (by decide) ?_
                  refine st_aload_n (pc' := 308) dX12_ahead_307 rfl rfl (j := 0) rfl ?_
                  refine G_X12_29_74 dX12_ahead_308 (pc' := 311) rfl rfl ?_
                  refine st_imul (pc' := 312) dX12_ahead_311 rfl ?_
                  refine st_aload_n (pc' := 313) dX12_ahead_312 rfl rfl (j := 0) rfl ?_
                  refine G_X12_7_74 dX12_ahead_313 (pc' := 316) rfl rfl ?_
                  refine st_iload_n (pc' := 317) dX12_ahead_316 rfl rfl (j := 1) rfl ?_
                  refine st_iaload (pc' := 318) (v := (gi I 75 (x1).toNat)) dX12_ahead_317 rfl L_75 (by decide) e15 (show gi I 75 (x1).toNat = (gi I 75 (x1).toNat) from rfl) ?_
                  refine st_iadd (pc' := 319) dX12_ahead_318 rfl ?_
                  refine st_bipush (pc' := 321) dX12_ahead_319 rfl (by decide) ?_
                  refine st_isub (pc' := 322) dX12_ahead_321 rfl ?_
                  refine P_X12_29_74 dX12_ahead_322 (pc' := 325) rfl rfl ?_
                  refine st_iinc (pc' := 328) (L' := [(5, vI (x5 + 1)), (0, vR (some 74)), (1, vI x1), (2, vI x2), (3, vI x3), (4, vI x4)]) (j := 5) dX12_ahead_325 rfl (by decide) rfl rfl ?_
                  refine st_iinc (pc' := 331) (L' := [(1, vI (x1 + 1)), (5, vI (x5 + 1)), (0, vR (some 74)), (2, vI x2), (3, vI x3), (4, vI x4)]) (j := 2) dX12_ahead_328 rfl (by decide) rfl rfl ?_
                  refine st_goto (pc' := 204) dX12_ahead_331 (by decide) ?_
                  refine WP_sub (L' := [(0, vR (some 74)), (1, vI (x1 + 1)), (2, vI x2), (3, vI x3), (4, vI x4), (5, vI (x5 + 1))]) [2, 0, 3, 4, 5, 1] rfl ?_
                  exact h
        · replace h := h.2 c
          refine st_aload_n (pc' := 251) dX12_ahead_250 rfl rfl (j := 0) rfl ?_
          refine G_X12_48_74 dX12_ahead_251 (pc' := 254) rfl rfl ?_
          refine st_iconst (pc' := 255) dX12_ahead_254 rfl ?_
          refine st_icmp_ne (tg := 263) (pc' := 258) dX12_ahead_255 (by decide) rfl (gi_in _ _ _) (by decide) (fun c => ?_) (fun c => ?_)
          · replace h := h.1 c
            refine st_iload (pc' := 265) dX12_ahead_263 rfl (j := 5) rfl ?_
            refine st_bipush (pc' := 267) dX12_ahead_265 rfl (by decide) ?_
            refine st_icmp_ge (tg := 293) (pc' := 270) dX12_ahead_267 (by decide) rfl e16 (by decide) (fun c => ?_) (fun c => ?_)
            · replace h := h.1 c
              refine st_iload (pc' := 295) dX12_ahead_293 rfl (j := 5) rfl ?_
              refine st_iload (pc' := 297) dX12_ahead_295 rfl (j := 4) rfl ?_
              refine st_icmp_ge (tg := 325) (pc' := 300) dX12_ahead_297 (by decide) rfl e16 e17 (fun c => ?_) (fun c => ?_)
              · replace h := h.1 c
                refine st_iinc (pc' := 328) (L' := [(5, vI (x5 + 1)), (0, vR (some 74)), (1, vI x1), (2, vI x2), (3, vI x3), (4, vI x4)]) (j := 5) dX12_ahead_325 rfl (by decide) rfl rfl ?_
                refine st_iinc (pc' := 331) (L' := [(1, vI (x1 + 1)), (5, vI (x5 + 1)), (0, vR (some 74)), (2, vI x2), (3, vI x3), (4, vI x4)]) (j := 2) dX12_ahead_328 rfl (by decide) rfl rfl ?_
                refine st_goto (pc' := 204) dX12_ahead_331 (by decide) ?_
                refine WP_sub (L' := [(0, vR (some 74)), (1, vI (x1 + 1)), (2, vI x2), (3, vI x3), (4, vI x4), (5, vI (x5 + 1))]) [2, 0, 3, 4, 5, 1] rfl ?_
                exact h
              · replace h := h.2 c
                refine st_iload_n (pc' := 301) dX12_ahead_300 rfl rfl (j := 3) rfl ?_
                obtain ⟨e21, h⟩ := h
                refine st_if_eq (tg := 325) (pc' := 304) dX12_ahead_301 (by decide) rfl e21 (fun c => ?_) (fun c => ?_)
                · replace h := h.1 c
                  refine st_iinc (pc' := 328) (L' := [(5, vI (x5 + 1)), (0, vR (some 74)), (1, vI x1), (2, vI x2), (3, vI x3), (4, vI x4)]) (j := 5) dX12_ahead_325 rfl (by decide) rfl rfl ?_
                  refine st_iinc (pc' := 331) (L' := [(1, vI (x1 + 1)), (5, vI (x5 + 1)), (0, vR (some 74)), (2, vI x2), (3, vI x3), (4, vI x4)]) (j := 2) dX12_ahead_328 rfl (by decide) rfl rfl ?_
                  refine st_goto (pc' := 204) dX12_ahead_331 (by decide) ?_
                  refine WP_sub (L' := [(0, vR (some 74)), (1, vI (x1 + 1)), (2, vI x2), (3, vI x3), (4, vI x4), (5, vI (x5 + 1))]) [2, 0, 3, 4, 5, 1] rfl ?_
                  exact h
                · replace h := h.2 c
                  refine st_aload_n (pc' := 305) dX12_ahead_304 rfl rfl (j := 0) rfl ?_
                  refine st_bipush (pc' := 307) dX12_ahead_305 rfl (by decide) ?_
                  refine st_aload_n (pc' := 308) dX12_ahead_307 rfl rfl (j := 0) rfl ?_
                  refine G_X12_29_74 dX12_ahead_308 (pc' := 311) rfl rfl ?_
                  refine st_imul (pc' := 312) dX12_ahead_311 rfl ?_
                  refine st_aload_n (pc' := 313) dX12_ahead_312 rfl rfl (j := 0) rfl ?_
                  refine G_X12_7_74 dX12_ahead_313 (pc' := 316) rfl rfl ?_
                  refine st_iload_n (pc' := 317) dX12_ahead_316 rfl rfl (j := 1) rfl ?_
                  refine st_iaload (pc' := 318) (v := (gi I 75 (x1).toNat)) dX12_ahead_317 rfl L_75 (by decide) e15 (show gi I 75 (x1).toNat = (gi I 75 (x1).toNat) from rfl) ?_
                  refine st_iadd (pc' := 319) dX12_ahead_318 rfl ?_
                  refine st_bipush (pc' := 321) dX12_ahead_319 rfl (by decide) ?_
                  refine st_isub (pc' := 322) dX12_ahead_321 rfl ?_
                  refine P_X12_29_74 dX12_ahead_322 (pc' := 325) rfl rfl ?_
                  refine st_iinc (pc' := 328) (L' := [(5, vI (x5 + 1)), (0, vR (some 74)), (1, vI x1), (2, vI x2), (3, vI x3), (4, vI x4)]) (j := 5) dX12_ahead_325 rfl (by decide) rfl rfl ?_
                  refine st_iinc (pc' := 331) (L' := [(1, vI (x1 + 1)), (5, vI (x5 + 1)), (0, vR (some 74)), (2, vI x2), (3, vI x3), (4, vI x4)]) (j := 2) dX12_ahead_328 rfl (by decide) rfl rfl ?_
                  refine st_goto (pc' := 204) dX12_ahead_331 (by decide) ?_
                  refine WP_sub (L' := [(0, vR (some 74)), (1, vI (x1 + 1)), (2, vI x2), (3, vI x3), (4, vI x4), (5, vI (x5 + 1))]) [2, 0, 3, 4, 5, 1] rfl ?_
                  exact h
            · replace h := h.2 c
              refine st_iload_n (pc' := 271) dX12_ahead_270 rfl rfl (j := 2) rfl ?_
              refine st_if_eq (tg := 293) (pc' := 274) dX12_ahead_271 (by decide) rfl e2 (fun c => ?_) (fun c => ?_)
              · replace h := h.1 c
                refine st_iload (pc' := 295) dX12_ahead_293 rfl (j := 5) rfl ?_
                refine st_iload (pc' := 297) dX12_ahead_295 rfl (j := 4) rfl ?_
                refine st_icmp_ge (tg := 325) (pc' := 300) dX12_ahead_297 (by decide) rfl e16 e17 (fun c => ?_) (fun c => ?_)
                · replace h := h.1 c
                  refine st_iinc (pc' := 328) (L' := [(5, vI (x5 + 1)), (0, vR (some 74)), (1, vI x1), (2, vI x2), (3, vI x3), (4, vI x4)]) (j := 5) dX12_ahead_325 rfl (by decide) rfl rfl ?_
                  refine st_iinc (pc' := 331) (L' := [(1, vI (x1 + 1)), (5, vI (x5 + 1)), (0, vR (some 74)), (2, vI x2), (3, vI x3), (4, vI x4)]) (j := 2) dX12_ahead_328 rfl (by decide) rfl rfl ?_
                  refine st_goto (pc' := 204) dX12_ahead_331 (by decide) ?_
                  refine WP_sub (L' := [(0, vR (some 74)), (1, vI (x1 + 1)), (2, vI x2), (3, vI x3), (4, vI x4), (5, vI (x5 + 1))]) [2, 0, 3, 4, 5, 1] rfl ?_
                  exact h
                · replace h := h.2 c
                  refine st_iload_n (pc' := 301) dX12_ahead_300 rfl rfl (j := 3) rfl ?_
                  obtain ⟨e22, h⟩ := h
                  refine st_if_eq (tg := 325) (pc' := 304) dX12_ahead_301 (by decide) rfl e22 (fun c => ?_) (fun c => ?_)
                  · replace h := h.1 c
                    refine st_iinc (pc' := 328) (L' := [(5, vI (x5 + 1)), (0, vR (some 74)), (1, vI x1), (2, vI x2), (3, vI x3), (4, vI x4)]) (j := 5) dX12_ahead_325 rfl (by decide) rfl rfl ?_
                    refine st_iinc (pc' := 331) (L' := [(1, vI (x1 + 1)), (5, vI (x5 + 1)), (0, vR (some 74)), (2, vI x2), (3, vI x3), (4, vI x4)]) (j := 2) dX12_ahead_328 rfl (by decide) rfl rfl ?_
                    refine st_goto (pc' := 204) dX12_ahead_331 (by decide) ?_
                    refine WP_sub (L' := [(0, vR (some 74)), (1, vI (x1 + 1)), (2, vI x2), (3, vI x3), (4, vI x4), (5, vI (x5 + 1))]) [2, 0, 3, 4, 5, 1] rfl ?_
                    exact h
                  · replace h := h.2 c
                    refine st_aload_n (pc' := 305) dX12_ahead_304 rfl rfl (j := 0) rfl ?_
                    refine st_bipush (pc' := 307) dX12_ahead_305 rfl (by decide) ?_
                    refine st_aload_n (pc' := 308) dX12_ahead_307 rfl rfl (j := 0) rfl ?_
                    refine G_X12_29_74 dX12_ahead_308 (pc' := 311) rfl rfl ?_
                    refine st_imul (pc' := 312) dX12_ahead_311 rfl ?_
                    refine st_aload_n (pc' := 313) dX12_ahead_312 rfl rfl (j := 0) rfl ?_
                    refine G_X12_7_74 dX12_ahead_313 (pc' := 316) rfl rfl ?_
                    refine st_iload_n (pc' := 317) dX12_ahead_316 rfl rfl (j := 1) rfl ?_
                    refine st_iaload (pc' := 318) (v := (gi I 75 (x1).toNat)) dX12_ahead_317 rfl L_75 (by decide) e15 (show gi I 75 (x1).toNat = (gi I 75 (x1).toNat) from rfl) ?_
                    refine st_iadd (pc' := 319) dX12_ahead_318 rfl ?_
                    refine st_bipush (pc' := 321) dX12_ahead_319 rfl (by decide) ?_
                    refine st_isub (pc' := 322) dX12_ahead_321 rfl ?_
                    refine P_X12_29_74 dX12_ahead_322 (pc' := 325) rfl rfl ?_
                    refine st_iinc (pc' := 328) (L' := [(5, vI (x5 + 1)), (0, vR (some 74)), (1, vI x1), (2, vI x2), (3, vI x3), (4, vI x4)]) (j := 5) dX12_ahead_325 rfl (by decide) rfl rfl ?_
                    refine st_iinc (pc' := 331) (L' := [(1, vI (x1 + 1)), (5, vI (x5 + 1)), (0, vR (some 74)), (2, vI x2), (3, vI x3), (4, vI x4)]) (j := 2) dX12_ahead_328 rfl (by decide) rfl rfl ?_
                    refine st_goto (pc' := 204) dX12_ahead_331 (by decide) ?_
                    refine WP_sub (L' := [(0, vR (some 74)), (1, vI (x1 + 1)), (2, vI x2), (3, vI x3), (4, vI x4), (5, vI (x5 + 1))]) [2, 0, 3, 4, 5, 1] rfl ?_
                    exact h
              · replace h := h.2 c
                refine st_aload_n (pc' := 275) dX12_ahead_274 rfl rfl (j := 0) rfl ?_
                refine st_aload_n (pc' := 276) dX12_ahead_275 rfl rfl (j := 0) rfl ?_
                refine G_X12_32_74 dX12_ahead_276 (pc' := 279) rfl rfl ?_
                refine st_bipush (pc' := 281) dX12_ahead_279 rfl (by decide) ?_
                refine st_lshl (pc' := 282) (z := (shl64 (gl J 74 7) 8)) dX12_ahead_281 rfl rfl ?_
                refine st_aload_n (pc' := 283) dX12_ahead_282 rfl rfl (j := 0) rfl ?_
                refine G_X12_7_74 dX12_ahead_283 (pc' := 286) rfl rfl ?_
                refine st_iload_n (pc' := 287) dX12_ahead_286 rfl rfl (j := 1) rfl ?_
                refine st_iaload (pc' := 288) (v := (gi I 75 (x1).toNat)) dX12_ahead_287 rfl L_75 (by decide) e15 (show gi I 75 (x1).toNat = (gi I 75 (x1).toNat) from rfl) ?_
                refine st_i2l (pc' := 289) dX12_ahead_288 rfl (gi_in _ _ _) ?_
                refine st_lor (pc' := 290) (z := (or64 (shl64 (gl J 74 7) 8) (gi I 75 (x1).toNat))) dX12_ahead_289 rfl rfl ?_
                refine P_X12_32_74 dX12_ahead_290 (pc' := 293) rfl rfl ?_
                refine st_iload (pc' := 295) dX12_ahead_293 rfl (j := 5) rfl ?_
                refine st_iload (pc' := 297) dX12_ahead_295 rfl (j := 4) rfl ?_
                refine st_icmp_ge (tg := 325) (pc' := 300) dX12_ahead_297 (by decide) rfl e16 e17 (fun c => ?_) (fun c => ?_)
                · replace h := h.1 c
                  refine st_iinc (pc' := 328) (L' := [(5, vI (x5 + 1)), (0, vR (some 74)), (1, vI x1), (2, vI x2), (3, vI x3), (4, vI x4)]) (j := 5) dX12_ahead_325 rfl (by decide) rfl rfl ?_
                  refine st_iinc (pc' := 331) (L' := [(1, vI (x1 + 1)), (5, vI (x5 + 1)), (0, vR (some 74)), (2, vI x2), (3, vI x3), (4, vI x4)]) (j := 2) dX12_ahead_328 rfl (by decide) rfl rfl ?_
                  refine st_goto (pc' := 204) dX12_ahead_331 (by decide) ?_
                  refine WP_sub (L' := [(0, vR (some 74)), (1, vI (x1 + 1)), (2, vI x2), (3, vI x3), (4, vI x4), (5, vI (x5 + 1))]) [2, 0, 3, 4, 5, 1] rfl ?_
                  exact h
                · replace h := h.2 c
                  refine st_iload_n (pc' := 301) dX12_ahead_300 rfl rfl (j := 3) rfl ?_
                  obtain ⟨e23, h⟩ := h
                  refine st_if_eq (tg := 325) (pc' := 304) dX12_ahead_301 (by decide) rfl e23 (fun c => ?_) (fun c => ?_)
                  · replace h := h.1 c
                    refine st_iinc (pc' := 328) (L' := [(5, vI (x5 + 1)), (0, vR (some 74)), (1, vI x1), (2, vI x2), (3, vI x3), (4, vI x4)]) (j := 5) dX12_ahead_325 rfl (by decide) rfl rfl ?_
                    refine st_iinc (pc' := 331) (L' := [(1, vI (x1 + 1)), (5, vI (x5 + 1)), (0, vR (some 74)), (2, vI x2), (3, vI x3), (4, vI x4)]) (j := 2) dX12_ahead_328 rfl (by decide) rfl rfl ?_
                    refine st_goto (pc' := 204) dX12_ahead_331 (by decide) ?_
                    refine WP_sub (L' := [(0, vR (some 74)), (1, vI (x1 + 1)), (2, vI x2), (3, vI x3), (4, vI x4), (5, vI (x5 + 1))]) [2, 0, 3, 4, 5, 1] rfl ?_
                    exact h
                  · replace h := h.2 c
                    refine st_aload_n (pc' := 305) dX12_ahead_304 rfl rfl (j := 0) rfl ?_
                    refine st_bipush (pc' := 307) dX12_ahead_305 rfl (by decide) ?_
                    refine st_aload_n (pc' := 308) dX12_ahead_307 rfl rfl (j := 0) rfl ?_
                    refine G_X12_29_74 dX12_ahead_308 (pc' := 311) rfl rfl ?_
                    refine st_imul (pc' := 312) dX12_ahead_311 rfl ?_
                    refine st_aload_n (pc' := 313) dX12_ahead_312 rfl rfl (j := 0) rfl ?_
                    refine G_X12_7_74 dX12_ahead_313 (pc' := 316) rfl rfl ?_
                    refine st_iload_n (pc' := 317) dX12_ahead_316 rfl rfl (j := 1) rfl ?_
                    refine st_iaload (pc' := 318) (v := (gi I 75 (x1).toNat)) dX12_ahead_317 rfl L_75 (by decide) e15 (show gi I 75 (x1).toNat = (gi I 75 (x1).toNat) from rfl) ?_
                    refine st_iadd (pc' := 319) dX12_ahead_318 rfl ?_
                    refine st_bipush (pc' := 321) dX12_ahead_319 rfl (by decide) ?_
                    refine st_isub (pc' := 322) dX12_ahead_321 rfl ?_
                    refine P_X12_29_74 dX12_ahead_322 (pc' := 325) rfl rfl ?_
                    refine st_iinc (pc' := 328) (L' := [(5, vI (x5 + 1)), (0, vR (some 74)), (1, vI x1), (2, vI x2), (3, vI x3), (4, vI x4)]) (j := 5) dX12_ahead_325 rfl (by decide) rfl rfl ?_
                    refine st_iinc (pc' := 331) (L' := [(1, vI (x1 + 1)), (5, vI (x5 + 1)), (0, vR (some 74)), (2, vI x2), (3, vI x3), (4, vI x4)]) (j := 2) dX12_ahead_328 rfl (by decide) rfl rfl ?_
                    refine st_goto (pc' := 204) dX12_ahead_331 (by decide) ?_
                    refine WP_sub (L' := [(0, vR (some 74)), (1, vI (x1 + 1)), (2, vI x2), (3, vI x3), (4, vI x4), (5, vI (x5 + 1))]) [2, 0, 3, 4, 5, 1] rfl ?_
                    exact h
          · replace h := h.2 c
            refine st_aload_n (pc' := 259) dX12_ahead_258 rfl rfl (j := 0) rfl ?_
            refine st_iload_n (pc' := 260) dX12_ahead_259 rfl rfl (j := 1) rfl ?_
            refine P_X12_48_74 dX12_ahead_260 (pc' := 263) rfl rfl ?_
            refine st_iload (pc' := 265) dX12_ahead_263 rfl (j := 5) rfl ?_
            refine st_bipush (pc' := 267) dX12_ahead_265 rfl (by decide) ?_
            refine st_icmp_ge (tg := 293) (pc' := 270) dX12_ahead_267 (by decide) rfl e16 (by decide) (fun c => ?_) (fun c => ?_)
            · replace h := h.1 c
              refine st_iload (pc' := 295) dX12_ahead_293 rfl (j := 5) rfl ?_
              refine st_iload (pc' := 297) dX12_ahead_295 rfl (j := 4) rfl ?_
              refine st_icmp_ge (tg := 325) (pc' := 300) dX12_ahead_297 (by decide) rfl e16 e17 (fun c => ?_) (fun c => ?_)
              · replace h := h.1 c
                refine st_iinc (pc' := 328) (L' := [(5, vI (x5 + 1)), (0, vR (some 74)), (1, vI x1), (2, vI x2), (3, vI x3), (4, vI x4)]) (j := 5) dX12_ahead_325 rfl (by decide) rfl rfl ?_
                refine st_iinc (pc' := 331) (L' := [(1, vI (x1 + 1)), (5, vI (x5 + 1)), (0, vR (some 74)), (2, vI x2), (3, vI x3), (4, vI x4)]) (j := 2) dX12_ahead_328 rfl (by decide) rfl rfl ?_
                refine st_goto (pc' := 204) dX12_ahead_331 (by decide) ?_
                refine WP_sub (L' := [(0, vR (some 74)), (1, vI (x1 + 1)), (2, vI x2), (3, vI x3), (4, vI x4), (5, vI (x5 + 1))]) [2, 0, 3, 4, 5, 1] rfl ?_
                exact h
              · replace h := h.2 c
                refine st_iload_n (pc' := 301) dX12_ahead_300 rfl rfl (j := 3) rfl ?_
                obtain ⟨e24, h⟩ := h
                refine st_if_eq (tg := 325) (pc' := 304) dX12_ahead_301 (by decide) rfl e24 (fun c => ?_) (fun c => ?_)
                · replace h := h.1 c
                  refine st_iinc (pc' := 328) (L' := [(5, vI (x5 + 1)), (0, vR (some 74)), (1, vI x1), (2, vI x2), (3, vI x3), (4, vI x4)]) (j := 5) dX12_ahead_325 rfl (by decide) rfl rfl ?_
                  refine st_iinc (pc' := 331) (L' := [(1, vI (x1 + 1)), (5, vI (x5 + 1)), (0, vR (some 74)), (2, vI x2), (3, vI x3), (4, vI x4)]) (j := 2) dX12_ahead_328 rfl (by decide) rfl rfl ?_
                  refine st_goto (pc' := 204) dX12_ahead_331 (by decide) ?_
                  refine WP_sub (L' := [(0, vR (some 74)), (1, vI (x1 + 1)), (2, vI x2), (3, vI x3), (4, vI x4), (5, vI (x5 + 1))]) [2, 0, 3, 4, 5, 1] rfl ?_
                  exact h
                · replace h := h.2 c
                  refine st_aload_n (pc' := 305) dX12_ahead_304 rfl rfl (j := 0) rfl ?_
                  refine st_bipush (pc' := 307) dX12_ahead_305 rfl (by decide) ?_
                  refine st_aload_n (pc' := 308) dX12_ahead_307 rfl rfl (j := 0) rfl ?_
                  refine G_X12_29_74 dX12_ahead_308 (pc' := 311) rfl rfl ?_
                  rw [show gi (si I 74 12 x1) 74 6 = (gi I 74 6) from (gi_idx _ _ _ (by decide))]
                  refine st_imul (pc' := 312) dX12_ahead_311 rfl ?_
                  refine st_aload_n (pc' := 313) dX12_ahead_312 rfl rfl (j := 0) rfl ?_
                  refine G_X12_7_74 dX12_ahead_313 (pc' := 316) rfl rfl ?_
                  refine st_iload_n (pc' := 317) dX12_ahead_316 rfl rfl (j := 1) rfl ?_
                  refine st_iaload (pc' := 318) (v := (gi I 75 (x1).toNat)) dX12_ahead_317 rfl L_75 (by decide) e15 (show gi (si I 74 12 x1) 75 (x1).toNat = (gi I 75 (x1).toNat) from (gi_cell _ _ _ _ (by decide))) ?_
                  refine st_iadd (pc' := 319) dX12_ahead_318 rfl ?_
                  refine st_bipush (pc' := 321) dX12_ahead_319 rfl (by decide) ?_
                  refine st_isub (pc' := 322) dX12_ahead_321 rfl ?_
                  refine P_X12_29_74 dX12_ahead_322 (pc' := 325) rfl rfl ?_
                  refine st_iinc (pc' := 328) (L' := [(5, vI (x5 + 1)), (0, vR (some 74)), (1, vI x1), (2, vI x2), (3, vI x3), (4, vI x4)]) (j := 5) dX12_ahead_325 rfl (by decide) rfl rfl ?_
                  refine st_iinc (pc' := 331) (L' := [(1, vI (x1 + 1)), (5, vI (x5 + 1)), (0, vR (some 74)), (2, vI x2), (3, vI x3), (4, vI x4)]) (j := 2) dX12_ahead_328 rfl (by decide) rfl rfl ?_
                  refine st_goto (pc' := 204) dX12_ahead_331 (by decide) ?_
                  refine WP_sub (L' := [(0, vR (some 74)), (1, vI (x1 + 1)), (2, vI x2), (3, vI x3), (4, vI x4), (5, vI (x5 + 1))]) [2, 0, 3, 4, 5, 1] rfl ?_
                  exact h
            · replace h := h.2 c
              refine st_iload_n (pc' := 271) dX12_ahead_270 rfl rfl (j := 2) rfl ?_
              refine st_if_eq (tg := 293) (pc' := 274) dX12_ahead_271 (by decide) rfl e2 (fun c => ?_) (fun c => ?_)
              · replace h := h.1 c
                refine st_iload (pc' := 295) dX12_ahead_293 rfl (j := 5) rfl ?_
                refine st_iload (pc' := 297) dX12_ahead_295 rfl (j := 4) rfl ?_
                refine st_icmp_ge (tg := 325) (pc' := 300) dX12_ahead_297 (by decide) rfl e16 e17 (fun c => ?_) (fun c => ?_)
                · replace h := h.1 c
                  refine st_iinc (pc' := 328) (L' := [(5, vI (x5 + 1)), (0, vR (some 74)), (1, vI x1), (2, vI x2), (3, vI x3), (4, vI x4)]) (j := 5) dX12_ahead_325 rfl (by decide) rfl rfl ?_
                  refine st_iinc (pc' := 331) (L' := [(1, vI (x1 + 1)), (5, vI (x5 + 1)), (0, vR (some 74)), (2, vI x2), (3, vI x3), (4, vI x4)]) (j := 2) dX12_ahead_328 rfl (by decide) rfl rfl ?_
                  refine st_goto (pc' := 204) dX12_ahead_331 (by decide) ?_
                  refine WP_sub (L' := [(0, vR (some 74)), (1, vI (x1 + 1)), (2, vI x2), (3, vI x3), (4, vI x4), (5, vI (x5 + 1))]) [2, 0, 3, 4, 5, 1] rfl ?_
                  exact h
                · replace h := h.2 c
                  refine st_iload_n (pc' := 301) dX12_ahead_300 rfl rfl (j := 3) rfl ?_
                  obtain ⟨e25, h⟩ := h
                  refine st_if_eq (tg := 325) (pc' := 304) dX12_ahead_301 (by decide) rfl e25 (fun c => ?_) (fun c => ?_)
                  · replace h := h.1 c
                    refine st_iinc (pc' := 328) (L' := [(5, vI (x5 + 1)), (0, vR (some 74)), (1, vI x1), (2, vI x2), (3, vI x3), (4, vI x4)]) (j := 5) dX12_ahead_325 rfl (by decide) rfl rfl ?_
                    refine st_iinc (pc' := 331) (L' := [(1, vI (x1 + 1)), (5, vI (x5 + 1)), (0, vR (some 74)), (2, vI x2), (3, vI x3), (4, vI x4)]) (j := 2) dX12_ahead_328 rfl (by decide) rfl rfl ?_
                    refine st_goto (pc' := 204) dX12_ahead_331 (by decide) ?_
                    refine WP_sub (L' := [(0, vR (some 74)), (1, vI (x1 + 1)), (2, vI x2), (3, vI x3), (4, vI x4), (5, vI (x5 + 1))]) [2, 0, 3, 4, 5, 1] rfl ?_
                    exact h
                  · replace h := h.2 c
                    refine st_aload_n (pc' := 305) dX12_ahead_304 rfl rfl (j := 0) rfl ?_
                    refine st_bipush (pc' := 307) dX12_ahead_305 rfl (by decide) ?_
                    refine st_aload_n (pc' := 308) dX12_ahead_307 rfl rfl (j := 0) rfl ?_
                    refine G_X12_29_74 dX12_ahead_308 (pc' := 311) rfl rfl ?_
                    rw [show gi (si I 74 12 x1) 74 6 = (gi I 74 6) from (gi_idx _ _ _ (by decide))]
                    refine st_imul (pc' := 312) dX12_ahead_311 rfl ?_
                    refine st_aload_n (pc' := 313) dX12_ahead_312 rfl rfl (j := 0) rfl ?_
                    refine G_X12_7_74 dX12_ahead_313 (pc' := 316) rfl rfl ?_
                    refine st_iload_n (pc' := 317) dX12_ahead_316 rfl rfl (j := 1) rfl ?_
                    refine st_iaload (pc' := 318) (v := (gi I 75 (x1).toNat)) dX12_ahead_317 rfl L_75 (by decide) e15 (show gi (si I 74 12 x1) 75 (x1).toNat = (gi I 75 (x1).toNat) from (gi_cell _ _ _ _ (by decide))) ?_
                    refine st_iadd (pc' := 319) dX12_ahead_318 rfl ?_
                    refine st_bipush (pc' := 321) dX12_ahead_319 rfl (by decide) ?_
                    refine st_isub (pc' := 322) dX12_ahead_321 rfl ?_
                    refine P_X12_29_74 dX12_ahead_322 (pc' := 325) rfl rfl ?_
                    refine st_iinc (pc' := 328) (L' := [(5, vI (x5 + 1)), (0, vR (some 74)), (1, vI x1), (2, vI x2), (3, vI x3), (4, vI x4)]) (j := 5) dX12_ahead_325 rfl (by decide) rfl rfl ?_
                    refine st_iinc (pc' := 331) (L' := [(1, vI (x1 + 1)), (5, vI (x5 + 1)), (0, vR (some 74)), (2, vI x2), (3, vI x3), (4, vI x4)]) (j := 2) dX12_ahead_328 rfl (by decide) rfl rfl ?_
                    refine st_goto (pc' := 204) dX12_ahead_331 (by decide) ?_
                    refine WP_sub (L' := [(0, vR (some 74)), (1, vI (x1 + 1)), (2, vI x2), (3, vI x3), (4, vI x4), (5, vI (x5 + 1))]) [2, 0, 3, 4, 5, 1] rfl ?_
                    exact h
              · replace h := h.2 c
                refine st_aload_n (pc' := 275) dX12_ahead_274 rfl rfl (j := 0) rfl ?_
                refine st_aload_n (pc' := 276) dX12_ahead_275 rfl rfl (j := 0) rfl ?_
                refine G_X12_32_74 dX12_ahead_276 (pc' := 279) rfl rfl ?_
                refine st_bipush (pc' := 281) dX12_ahead_279 rfl (by decide) ?_
                refine st_lshl (pc' := 282) (z := (shl64 (gl J 74 7) 8)) dX12_ahead_281 rfl rfl ?_
                refine st_aload_n (pc' := 283) dX12_ahead_282 rfl rfl (j := 0) rfl ?_
                refine G_X12_7_74 dX12_ahead_283 (pc' := 286) rfl rfl ?_
                refine st_iload_n (pc' := 287) dX12_ahead_286 rfl rfl (j := 1) rfl ?_
                refine st_iaload (pc' := 288) (v := (gi I 75 (x1).toNat)) dX12_ahead_287 rfl L_75 (by decide) e15 (show gi (si I 74 12 x1) 75 (x1).toNat = (gi I 75 (x1).toNat) from (gi_cell _ _ _ _ (by decide))) ?_
                refine st_i2l (pc' := 289) dX12_ahead_288 rfl (gi_in _ _ _) ?_
                refine st_lor (pc' := 290) (z := (or64 (shl64 (gl J 74 7) 8) (gi I 75 (x1).toNat))) dX12_ahead_289 rfl rfl ?_
                refine P_X12_32_74 dX12_ahead_290 (pc' := 293) rfl rfl ?_
                refine st_iload (pc' := 295) dX12_ahead_293 rfl (j := 5) rfl ?_
                refine st_iload (pc' := 297) dX12_ahead_295 rfl (j := 4) rfl ?_
                refine st_icmp_ge (tg := 325) (pc' := 300) dX12_ahead_297 (by decide) rfl e16 e17 (fun c => ?_) (fun c => ?_)
                · replace h := h.1 c
                  refine st_iinc (pc' := 328) (L' := [(5, vI (x5 + 1)), (0, vR (some 74)), (1, vI x1), (2, vI x2), (3, vI x3), (4, vI x4)]) (j := 5) dX12_ahead_325 rfl (by decide) rfl rfl ?_
                  refine st_iinc (pc' := 331) (L' := [(1, vI (x1 + 1)), (5, vI (x5 + 1)), (0, vR (some 74)), (2, vI x2), (3, vI x3), (4, vI x4)]) (j := 2) dX12_ahead_328 rfl (by decide) rfl rfl ?_
                  refine st_goto (pc' := 204) dX12_ahead_331 (by decide) ?_
                  refine WP_sub (L' := [(0, vR (some 74)), (1, vI (x1 + 1)), (2, vI x2), (3, vI x3), (4, vI x4), (5, vI (x5 + 1))]) [2, 0, 3, 4, 5, 1] rfl ?_
                  exact h
                · replace h := h.2 c
                  refine st_iload_n (pc' := 301) dX12_ahead_300 rfl rfl (j := 3) rfl ?_
                  obtain ⟨e26, h⟩ := h
                  refine st_if_eq (tg := 325) (pc' := 304) dX12_ahead_301 (by decide) rfl e26 (fun c => ?_) (fun c => ?_)
                  · replace h := h.1 c
                    refine st_iinc (pc' := 328) (L' := [(5, vI (x5 + 1)), (0, vR (some 74)), (1, vI x1), (2, vI x2), (3, vI x3), (4, vI x4)]) (j := 5) dX12_ahead_325 rfl (by decide) rfl rfl ?_
                    refine st_iinc (pc' := 331) (L' := [(1, vI (x1 + 1)), (5, vI (x5 + 1)), (0, vR (some 74)), (2, vI x2), (3, vI x3), (4, vI x4)]) (j := 2) dX12_ahead_328 rfl (by decide) rfl rfl ?_
                    refine st_goto (pc' := 204) dX12_ahead_331 (by decide) ?_
                    refine WP_sub (L' := [(0, vR (some 74)), (1, vI (x1 + 1)), (2, vI x2), (3, vI x3), (4, vI x4), (5, vI (x5 + 1))]) [2, 0, 3, 4, 5, 1] rfl ?_
                    exact h
                  · replace h := h.2 c
                    refine st_aload_n (pc' := 305) dX12_ahead_304 rfl rfl (j := 0) rfl ?_
                    refine st_bipush (pc' := 307) dX12_ahead_305 rfl (by decide) ?_
                    refine st_aload_n (pc' := 308) dX12_ahead_307 rfl rfl (j := 0) rfl ?_
                    refine G_X12_29_74 dX12_ahead_308 (pc' := 311) rfl rfl ?_
                    rw [show gi (si I 74 12 x1) 74 6 = (gi I 74 6) from (gi_idx _ _ _ (by decide))]
                    refine st_imul (pc' := 312) dX12_ahead_311 rfl ?_
                    refine st_aload_n (pc' := 313) dX12_ahead_312 rfl rfl (j := 0) rfl ?_
                    refine G_X12_7_74 dX12_ahead_313 (pc' := 316) rfl rfl ?_
                    refine st_iload_n (pc' := 317) dX12_ahead_316 rfl rfl (j := 1) rfl ?_
                    refine st_iaload (pc' := 318) (v := (gi I 75 (x1).toNat)) dX12_ahead_317 rfl L_75 (by decide) e15 (show gi (si I 74 12 x1) 75 (x1).toNat = (gi I 75 (x1).toNat) from (gi_cell _ _ _ _ (by decide))) ?_
                    refine st_iadd (pc' := 319) dX12_ahead_318 rfl ?_
                    refine st_bipush (pc' := 321) dX12_ahead_319 rfl (by decide) ?_
                    refine st_isub (pc' := 322) dX12_ahead_321 rfl ?_
                    refine P_X12_29_74 dX12_ahead_322 (pc' := 325) rfl rfl ?_
                    refine st_iinc (pc' := 328) (L' := [(5, vI (x5 + 1)), (0, vR (some 74)), (1, vI x1), (2, vI x2), (3, vI x3), (4, vI x4)]) (j := 5) dX12_ahead_325 rfl (by decide) rfl rfl ?_
                    refine st_iinc (pc' := 331) (L' := [(1, vI (x1 + 1)), (5, vI (x5 + 1)), (0, vR (some 74)), (2, vI x2), (3, vI x3), (4, vI x4)]) (j := 2) dX12_ahead_328 rfl (by decide) rfl rfl ?_
                    refine st_goto (pc' := 204) dX12_ahead_331 (by decide) ?_
                    refine WP_sub (L' := [(0, vR (some 74)), (1, vI (x1 + 1)), (2, vI x2), (3, vI x3), (4, vI x4), (5, vI (x5 + 1))]) [2, 0, 3, 4, 5, 1] rfl ?_
                    exact h
set_option maxRecDepth 20000 in
set_option maxHeartbeats 4000000 in
theorem B_X12_ahead_334 {k : Nat} {P : Option Nat} {I : Nat → Nat → Int32} {J : Nat → Nat → Int64} {x1 : Int} {x2 : Int} {x4 : Int} {x5 : Int} {Q : Option AV → Mem → Prop} (hk : 1 ≤ k) (h : inR x2 ∧ ((x2 = 0 → (Q none (mem (P, some 5, some 22) (si I 74 5 x1) J))) ∧ (¬ x2 = 0 → (inR x5 ∧ ((8 < x5 → (Q none (mem (P, some 5, some 22) (si I 74 5 x1) J))) ∧ (¬ 8 < x5 → (inR ((gi I 74 4) + x4) ∧ ((¬ (gi I 74 12) = ((gi I 74 4) + x4) → (Q none (mem (P, some 5, some 22) (si I 74 5 x1) J))) ∧ ((gi I 74 12) = ((gi I 74 4) + x4) → (WPm (k - 1) LAY m_X12_isOwn [vR (some 74), vL (gl J 74 7)] (mem (P, some 5, some 22) (si I 74 5 x1) J) (retI (fun v4 I5 J6 => inR v4 ∧ ((v4 = 0 → (Q none (mem (P, some 5, some 22) I5 J6))) ∧ (¬ v4 = 0 → (Q none (mem (P, some 5, some 22) (si I5 74 12 (-1)) J6))))) (P, some 5, some 22)))))))))))) : WP k LAY m_X12_ahead 334 [(0, vR (some 74)), (1, vI x1), (2, vI x2), (4, vI x4), (5, vI x5)] [] (mem (P, some 5, some 22) I J) Q := by
  refine st_aload_n (pc' := 335) dX12_ahead_334 rfl rfl (j := 0) rfl ?_
  refine st_iload_n (pc' := 336) dX12_ahead_335 rfl rfl (j := 1) rfl ?_
  refine P_X12_26_74 dX12_ahead_336 (pc' := 339) rfl rfl ?_
  refine st_iload_n (pc' := 340) dX12_ahead_339 rfl rfl (j := 2) rfl ?_
  obtain ⟨e1, h⟩ := h
  refine st_if_eq (tg := 380) (pc' := 343) dX12_ahead_340 (by decide) rfl e1 (fun c => ?_) (fun c => ?_)
  · replace h := h.1 c
    exact st_vret dX12_ahead_380 rfl rfl h
  · replace h := h.2 c
    refine st_iload (pc' := 345) dX12_ahead_343 rfl (j := 4) rfl ?_
    refine st_bipush (pc' := 347) dX12_ahead_345 rfl (by decide) ?_
    obtain ⟨e2, h⟩ := h
    refine st_icmp_gt (tg := 380) (pc' := 350) dX12_ahead_347 (by decide) rfl e2 (by decide) (fun c => ?_) (fun c => ?_)
    · replace h := h.1 c
      exact st_vret dX12_ahead_380 rfl rfl h
    · replace h := h.2 c
      refine st_aload_n (pc' := 351) dX12_ahead_350 rfl rfl (j := 0) rfl ?_
      refine G_X12_48_74 dX12_ahead_351 (pc' := 354) rfl rfl ?_
      rw [show gi (si I 74 5 x1) 74 12 = (gi I 74 12) from (gi_idx _ _ _ (by decide))]
      refine st_aload_n (pc' := 355) dX12_ahead_354 rfl rfl (j := 0) rfl ?_
      refine G_X12_23_74 dX12_ahead_355 (pc' := 358) rfl rfl ?_
      rw [show gi (si I 74 5 x1) 74 4 = (gi I 74 4) from (gi_idx _ _ _ (by decide))]
      refine st_iload (pc' := 360) dX12_ahead_358 rfl (j := 3) rfl ?_
      refine st_iadd (pc' := 361) dX12_ahead_360 rfl ?_
      obtain ⟨e3, h⟩ := h
      refine st_icmp_ne (tg := 380) (pc' := 364) dX12_ahead_361 (by decide) rfl (gi_in _ _ _) e3 (fun c => ?_) (fun c => ?_)
      · replace h := h.1 c
        exact st_vret dX12_ahead_380 rfl rfl h
      · replace h := h.2 c
        refine st_aload_n (pc' := 365) dX12_ahead_364 rfl rfl (j := 0) rfl ?_
        refine st_aload_n (pc' := 366) dX12_ahead_365 rfl rfl (j := 0) rfl ?_
        refine G_X12_32_74 dX12_ahead_366 (pc' := 369) rfl rfl ?_
        refine st_callV (pc' := 372) (kc := k - 1) (E' := LAY) (cal := m_X12_isOwn) (n := 1) (as := [vL (gl J 74 7)]) (S := []) dX12_ahead_369 rfl l_X12_298 k_X12_isOwn rfl L_74 c_X12 rfl rfl (Nat.le_of_ble_eq_true rfl) (by omega) ⟨Nat.le_refl _, Nat.le_refl _, Nat.le_refl _, Nat.le_refl _⟩ h (fun r M' q => ?_)
        obtain ⟨v4, I5, J6, rfl, rfl, h⟩ := q
        change WP _ LAY m_X12_ahead 372 [(0, vR (some 74)), (1, vI x1), (2, vI x2), (4, vI x4), (5, vI x5)] [vI v4] (mem (P, some 5, some 22) I5 J6) Q
        obtain ⟨e7, h⟩ := h
        refine st_if_eq (tg := 380) (pc' := 375) dX12_ahead_372 (by decide) rfl e7 (fun c => ?_) (fun c => ?_)
        · replace h := h.1 c
          exact st_vret dX12_ahead_380 rfl rfl h
        · replace h := h.2 c
          refine st_aload_n (pc' := 376) dX12_ahead_375 rfl rfl (j := 0) rfl ?_
          refine st_iconst (pc' := 377) dX12_ahead_376 rfl ?_
          refine P_X12_48_74 dX12_ahead_377 (pc' := 380) rfl rfl ?_
          exact st_vret dX12_ahead_380 rfl rfl h
set_option maxRecDepth 20000 in
set_option maxHeartbeats 4000000 in
theorem B_X12_known_0 {k : Nat} {P : Option Nat} {I : Nat → Nat → Int32} {J : Nat → Nat → Int64} {x1 : Int} {x2 : Int} {Q : Option AV → Mem → Prop} (hk : 0 ≤ k) (h : (0 ≤ ((6 * x1) + x2) ∧ ((6 * x1) + x2) < 132) ∧ (Q (some (vI (or32 (gi I 111 ((6 * x1) + x2).toNat) (gi I 112 ((6 * x1) + x2).toNat)))) (mem (P, some 5, some 22) I J))) : WP k LAY m_X12_known 0 [(0, vR (some 74)), (1, vI x1), (2, vI x2)] [] (mem (P, some 5, some 22) I J) Q := by
  refine st_aload_n (pc' := 1) dX12_known_0 rfl rfl (j := 0) rfl ?_
  refine G_X12_180_74 dX12_known_1 (pc' := 4) rfl rfl ?_
  refine st_bipush (pc' := 6) dX12_known_4 rfl (by decide) ?_
  refine st_iload_n (pc' := 7) dX12_known_6 rfl rfl (j := 1) rfl ?_
  refine st_imul (pc' := 8) dX12_known_7 rfl ?_
  refine st_iload_n (pc' := 9) dX12_known_8 rfl rfl (j := 2) rfl ?_
  refine st_iadd (pc' := 10) dX12_known_9 rfl ?_
  obtain ⟨e1, h⟩ := h
  refine st_iaload (pc' := 11) (v := (gi I 111 ((6 * x1) + x2).toNat)) dX12_known_10 rfl L_111 (by decide) e1 (show gi I 111 ((6 * x1) + x2).toNat = (gi I 111 ((6 * x1) + x2).toNat) from rfl) ?_
  refine st_aload_n (pc' := 12) dX12_known_11 rfl rfl (j := 0) rfl ?_
  refine G_X12_183_74 dX12_known_12 (pc' := 15) rfl rfl ?_
  refine st_bipush (pc' := 17) dX12_known_15 rfl (by decide) ?_
  refine st_iload_n (pc' := 18) dX12_known_17 rfl rfl (j := 1) rfl ?_
  refine st_imul (pc' := 19) dX12_known_18 rfl ?_
  refine st_iload_n (pc' := 20) dX12_known_19 rfl rfl (j := 2) rfl ?_
  refine st_iadd (pc' := 21) dX12_known_20 rfl ?_
  refine st_iaload (pc' := 22) (v := (gi I 112 ((6 * x1) + x2).toNat)) dX12_known_21 rfl L_112 (by decide) e1 (show gi I 112 ((6 * x1) + x2).toNat = (gi I 112 ((6 * x1) + x2).toNat) from rfl) ?_
  refine st_ior (pc' := 23) (z := (or32 (gi I 111 ((6 * x1) + x2).toNat) (gi I 112 ((6 * x1) + x2).toNat))) dX12_known_22 rfl rfl ?_
  exact st_iret (ty := .int) dX12_known_23 rfl rfl rfl h
set_option maxRecDepth 20000 in
set_option maxHeartbeats 4000000 in
theorem B_X12_needsOf_0 {k : Nat} {P : Option Nat} {I : Nat → Nat → Int32} {J : Nat → Nat → Int64} {x1 : Int} {Q : Option AV → Mem → Prop} (hk : 0 ≤ k) (h : (0 ≤ ((14 * (gi I 74 13)) + x1) ∧ ((14 * (gi I 74 13)) + x1) < 28) ∧ (Q (some (vI (gi I 81 ((14 * (gi I 74 13)) + x1).toNat))) (mem (P, some 5, some 22) I J))) : WP k LAY m_X12_needsOf 0 [(0, vR (some 74)), (1, vI x1)] [] (mem (P, some 5, some 22) I J) Q := by
  refine st_aload_n (pc' := 1) dX12_needsOf_0 rfl rfl (j := 0) rfl ?_
  refine G_X12_69_74 dX12_needsOf_1 (pc' := 4) rfl rfl ?_
  refine st_bipush (pc' := 6) dX12_needsOf_4 rfl (by decide) ?_
  refine st_aload_n (pc' := 7) dX12_needsOf_6 rfl rfl (j := 0) rfl ?_
  refine G_X12_51_74 dX12_needsOf_7 (pc' := 10) rfl rfl ?_
  refine st_imul (pc' := 11) dX12_needsOf_10 rfl ?_
  refine st_iload_n (pc' := 12) dX12_needsOf_11 rfl rfl (j := 1) rfl ?_
  refine st_iadd (pc' := 13) dX12_needsOf_12 rfl ?_
  obtain ⟨e1, h⟩ := h
  refine st_iaload (pc' := 14) (v := (gi I 81 ((14 * (gi I 74 13)) + x1).toNat)) dX12_needsOf_13 rfl L_81 (by decide) e1 (show gi I 81 ((14 * (gi I 74 13)) + x1).toNat = (gi I 81 ((14 * (gi I 74 13)) + x1).toNat) from rfl) ?_
  exact st_iret (ty := .int) dX12_needsOf_14 rfl rfl rfl h
set_option maxRecDepth 20000 in
set_option maxHeartbeats 4000000 in
theorem B_X12_closed_0 {k : Nat} {P : Option Nat} {I : Nat → Nat → Int32} {J : Nat → Nat → Int64} {x1 : Int} {x2 : Int} {x3 : Int} {Q : Option AV → Mem → Prop} (hk : 0 ≤ k) (h : (0 ≤ (gi I 74 13) ∧ (gi I 74 13) < 2) ∧ (WP k LAY m_X12_closed 20 [(0, vR (some 74)), (2, vI x2), (3, vI x3), (4, vI (and32 x1 (xor32 x2 (-1)))), (5, vI ((gi I 77 (gi I 74 13).toNat) - 1))] [] (mem (P, some 5, some 22) I J) Q)) : WP k LAY m_X12_closed 0 [(0, vR (some 74)), (1, vI x1), (2, vI x2), (3, vI x3)] [] (mem (P, some 5, some 22) I J) Q := by
  refine st_iload_n (pc' := 1) dX12_closed_0 rfl rfl (j := 1) rfl ?_
  refine st_iload_n (pc' := 2) dX12_closed_1 rfl rfl (j := 2) rfl ?_
  refine st_iconst (pc' := 3) dX12_closed_2 rfl ?_
  refine st_ixor (pc' := 4) (z := (xor32 x2 (-1))) dX12_closed_3 rfl rfl ?_
  refine st_iand (pc' := 5) (z := (and32 x1 (xor32 x2 (-1)))) dX12_closed_4 rfl rfl ?_
  refine st_istore (pc' := 7) (L' := [(4, vI (and32 x1 (xor32 x2 (-1)))), (0, vR (some 74)), (1, vI x1), (2, vI x2), (3, vI x3)]) dX12_closed_5 rfl (by decide) rfl ?_
  refine st_aload_n (pc' := 8) dX12_closed_7 rfl rfl (j := 1) rfl ?_
  refine G_X12_57_74 dX12_closed_8 (pc' := 11) rfl rfl ?_
  refine st_aload_n (pc' := 12) dX12_closed_11 rfl rfl (j := 1) rfl ?_
  refine G_X12_51_74 dX12_closed_12 (pc' := 15) rfl rfl ?_
  obtain ⟨e1, h⟩ := h
  refine st_iaload (pc' := 16) (v := (gi I 77 (gi I 74 13).toNat)) dX12_closed_15 rfl L_77 (by decide) e1 (show gi I 77 (gi I 74 13).toNat = (gi I 77 (gi I 74 13).toNat) from rfl) ?_
  refine st_iconst (pc' := 17) dX12_closed_16 rfl ?_
  refine st_isub (pc' := 18) dX12_closed_17 rfl ?_
  refine st_istore (pc' := 20) (L' := [(5, vI ((gi I 77 (gi I 74 13).toNat) - 1)), (4, vI (and32 x1 (xor32 x2 (-1)))), (0, vR (some 74)), (1, vI x1), (2, vI x2), (3, vI x3)]) dX12_closed_18 rfl (by decide) rfl ?_
  refine WP_sub (L' := [(0, vR (some 74)), (2, vI x2), (3, vI x3), (4, vI (and32 x1 (xor32 x2 (-1)))), (5, vI ((gi I 77 (gi I 74 13).toNat) - 1))]) [2, 4, 5, 1, 0] rfl ?_
  exact h
set_option maxRecDepth 20000 in
set_option maxHeartbeats 4000000 in
theorem B_X12_closed_20 {k : Nat} {P : Option Nat} {I : Nat → Nat → Int32} {J : Nat → Nat → Int64} {x2 : Int} {x3 : Int} {x4 : Int} {x5 : Int} {Q : Option AV → Mem → Prop} (hk : 1 ≤ k) (h : inR x5 ∧ ((x5 < 0 → (Q (some (vI x4)) (mem (P, some 5, some 22) I J))) ∧ (¬ x5 < 0 → ((¬ (and32 (shr32 x4 x5) 1 = 1) → (WP k LAY m_X12_closed 20 [(0, vR (some 74)), (2, vI x2), (3, vI x3), (4, vI x4), (5, vI (x5 + (-1)))] [] (mem (P, some 5, some 22) I J) Q)) ∧ ((and32 (shr32 x4 x5) 1 = 1) → ((0 ≤ ((14 * (gi I 74 13)) + x5) ∧ ((14 * (gi I 74 13)) + x5) < 28) ∧ (inR x3 ∧ ((¬ x3 = (-1) → (∀ y4 : Int, y4 = (or32 x4 (and32 (and32 (gi I 81 ((14 * (gi I 74 13)) + x5).toNat) (xor32 x2 (-1))) (xor32 (shl32 1 x3) (-1)))) → (WP k LAY m_X12_closed 20 [(0, vR (some 74)), (2, vI x2), (3, vI x3), (4, vI y4), (5, vI (x5 + (-1)))] [] (mem (P, some 5, some 22) I J) Q))) ∧ (x3 = (-1) → (∀ y5 : Int, y5 = (or32 x4 (and32 (and32 (gi I 81 ((14 * (gi I 74 13)) + x5).toNat) (xor32 x2 (-1))) (xor32 0 (-1)))) → (WP k LAY m_X12_closed 20 [(0, vR (some 74)), (2, vI x2), (3, vI x3), (4, vI y5), (5, vI (x5 + (-1)))] [] (mem (P, some 5, some 22) I J) Q))))))))))) : WP k LAY m_X12_closed 20 [(0, vR (some 74)), (2, vI x2), (3, vI x3), (4, vI x4), (5, vI x5)] [] (mem (P, some 5, some 22) I J) Q := by
  refine st_iload (pc' := 22) dX12_closed_20 rfl (j := 4) rfl ?_
  obtain ⟨e1, h⟩ := h
  refine st_if_lt (tg := 71) (pc' := 25) dX12_closed_22 (by decide) rfl e1 (fun c => ?_) (fun c => ?_)
  · replace h := h.1 c
    refine st_iload (pc' := 73) dX12_closed_71 rfl (j := 3) rfl ?_
    exact st_iret (ty := .int) dX12_closed_73 rfl rfl rfl h
  · replace h := h.2 c
    refine st_iload (pc' := 27) dX12_closed_25 rfl (j := 3) rfl ?_
    refine st_iload (pc' := 29) dX12_closed_27 rfl (j := 4) rfl ?_
    refine st_callS (pc' := 32) (kc := k - 1) (E' := LAY) (cal := m_X12_has) (n := 2) (as := [vI x4, vI x5]) (S := []) dX12_closed_29 rfl l_X12_552 k_X12_has rfl rfl (Nat.le_of_ble_eq_true rfl) (by omega) ⟨Nat.le_refl _, Nat.le_refl _, Nat.le_refl _, Nat.le_refl _⟩ (Q1 := fun r M' => WP k LAY m_X12_closed 32 [(0, vR (some 74)), (2, vI x2), (3, vI x3), (4, vI x4), (5, vI x5)] (r.toList ++ []) M' Q) (S_X12_has (by omega)  ?_) (fun r M' q => q)
    change WP _ LAY m_X12_closed 32 [(0, vR (some 74)), (2, vI x2), (3, vI x3), (4, vI x4), (5, vI x5)] [vI (b2i (and32 (shr32 x4 x5) 1 = 1))] (mem (P, some 5, some 22) I J) Q
    refine st_if_eq (tg := 65) (pc' := 35) dX12_closed_32 (by decide) rfl (b2i_in _) (fun c => ?_) (fun c => ?_)
    · replace h := h.1 (b2i_f.mp c)
      refine st_iinc (pc' := 68) (L' := [(5, vI (x5 + (-1))), (0, vR (some 74)), (2, vI x2), (3, vI x3), (4, vI x4)]) (j := 4) dX12_closed_65 rfl (by decide) rfl rfl ?_
      refine st_goto (pc' := 20) dX12_closed_68 (by decide) ?_
      refine WP_sub (L' := [(0, vR (some 74)), (2, vI x2), (3, vI x3), (4, vI x4), (5, vI (x5 + (-1)))]) [1, 2, 3, 4, 0] rfl ?_
      exact h
    · replace h := h.2 (b2i_t.mp c)
      refine st_iload (pc' := 37) dX12_closed_35 rfl (j := 3) rfl ?_
      refine st_aload_n (pc' := 38) dX12_closed_37 rfl rfl (j := 0) rfl ?_
      refine st_iload (pc' := 40) dX12_closed_38 rfl (j := 4) rfl ?_
      refine st_callV (pc' := 43) (kc := k - 1) (E' := LAY) (cal := m_X12_needsOf) (n := 1) (as := [vI x5]) (S := [vI x4]) dX12_closed_40 rfl l_X12_470 k_X12_needsOf rfl L_74 c_X12 rfl rfl (Nat.le_of_ble_eq_true rfl) (by omega) ⟨Nat.le_refl _, Nat.le_refl _, Nat.le_refl _, Nat.le_refl _⟩ (Q1 := fun r M' => WP k LAY m_X12_closed 43 [(0, vR (some 74)), (2, vI x2), (3, vI x3), (4, vI x4), (5, vI x5)] (r.toList ++ [vI x4]) M' Q) (WPm.of k_X12_needsOf.1 (Nat.le_of_ble_eq_true rfl) (B_X12_needsOf_0 (by omega) ?_)) (fun r M' q => q)
      obtain ⟨e2, h⟩ := h
      refine ⟨e2, ?_⟩
      change WP _ LAY m_X12_closed 43 [(0, vR (some 74)), (2, vI x2), (3, vI x3), (4, vI x4), (5, vI x5)] [vI (gi I 81 ((14 * (gi I 74 13)) + x5).toNat), vI x4] (mem (P, some 5, some 22) I J) Q
      refine st_iload_n (pc' := 44) dX12_closed_43 rfl rfl (j := 1) rfl ?_
      refine st_iconst (pc' := 45) dX12_closed_44 rfl ?_
      refine st_ixor (pc' := 46) (z := (xor32 x2 (-1))) dX12_closed_45 rfl rfl ?_
      refine st_iand (pc' := 47) (z := (and32 (gi I 81 ((14 * (gi I 74 13)) + x5).toNat) (xor32 x2 (-1)))) dX12_closed_46 rfl rfl ?_
      refine st_iload_n (pc' := 48) dX12_closed_47 rfl rfl (j := 2) rfl ?_
      refine st_iconst (pc' := 49) dX12_closed_48 rfl ?_
      obtain ⟨e3, h⟩ := h
      refine st_icmp_ne (tg := 56) (pc' := 52) dX12_closed_49 (by decide) rfl e3 (by decide) (fun c => ?_) (fun c => ?_)
      · replace h := h.1 c
        refine st_iconst (pc' := 57) dX12_closed_56 rfl ?_
        refine st_iload_n (pc' := 58) dX12_closed_57 rfl rfl (j := 2) rfl ?_
        refine st_ishl (pc' := 59) (z := (shl32 1 x3)) dX12_closed_58 rfl rfl ?_
        refine st_iconst (pc' := 60) dX12_closed_59 rfl ?_
        refine st_ixor (pc' := 61) (z := (xor32 (shl32 1 x3) (-1))) dX12_closed_60 rfl rfl ?_
        refine st_iand (pc' := 62) (z := (and32 (and32 (gi I 81 ((14 * (gi I 74 13)) + x5).toNat) (xor32 x2 (-1))) (xor32 (shl32 1 x3) (-1)))) dX12_closed_61 rfl rfl ?_
        refine st_ior (pc' := 63) (z := (or32 x4 (and32 (and32 (gi I 81 ((14 * (gi I 74 13)) + x5).toNat) (xor32 x2 (-1))) (xor32 (shl32 1 x3) (-1))))) dX12_closed_62 rfl rfl ?_
        obtain ⟨y4, hy4⟩ : ∃ y : Int, y = (or32 x4 (and32 (and32 (gi I 81 ((14 * (gi I 74 13)) + x5).toNat) (xor32 x2 (-1))) (xor32 (shl32 1 x3) (-1)))) := ⟨_, rfl⟩
        rw [← hy4]
        replace h := h y4 hy4
        refine st_istore (pc' := 65) (L' := [(4, vI y4), (0, vR (some 74)), (2, vI x2), (3, vI x3), (5, vI x5)]) dX12_closed_63 rfl (by decide) rfl ?_
        refine st_iinc (pc' := 68) (L' := [(5, vI (x5 + (-1))), (4, vI y4), (0, vR (some 74)), (2, vI x2), (3, vI x3)]) (j := 4) dX12_closed_65 rfl (by decide) rfl rfl ?_
        refine st_goto (pc' := 20) dX12_closed_68 (by decide) ?_
        refine WP_sub (L' := [(0, vR (some 74)), (2, vI x2), (3, vI x3), (4, vI y4), (5, vI (x5 + (-1)))]) [2, 3, 4, 1, 0] rfl ?_
        exact h
      · replace h := h.2 c
        refine st_iconst (pc' := 53) dX12_closed_52 rfl ?_
        refine st_goto (pc' := 59) dX12_closed_53 (by decide) ?_
        refine st_iconst (pc' := 60) dX12_closed_59 rfl ?_
        refine st_ixor (pc' := 61) (z := (xor32 0 (-1))) dX12_closed_60 rfl rfl ?_
        refine st_iand (pc' := 62) (z := (and32 (and32 (gi I 81 ((14 * (gi I 74 13)) + x5).toNat) (xor32 x2 (-1))) (xor32 0 (-1)))) dX12_closed_61 rfl rfl ?_
        refine st_ior (pc' := 63) (z := (or32 x4 (and32 (and32 (gi I 81 ((14 * (gi I 74 13)) + x5).toNat) (xor32 x2 (-1))) (xor32 0 (-1))))) dX12_closed_62 rfl rfl ?_
        obtain ⟨y5, hy5⟩ : ∃ y : Int, y = (or32 x4 (and32 (and32 (gi I 81 ((14 * (gi I 74 13)) + x5).toNat) (xor32 x2 (-1))) (xor32 0 (-1)))) := ⟨_, rfl⟩
        rw [← hy5]
        replace h := h y5 hy5
        refine st_istore (pc' := 65) (L' := [(4, vI y5), (0, vR (some 74)), (2, vI x2), (3, vI x3), (5, vI x5)]) dX12_closed_63 rfl (by decide) rfl ?_
        refine st_iinc (pc' := 68) (L' := [(5, vI (x5 + (-1))), (4, vI y5), (0, vR (some 74)), (2, vI x2), (3, vI x3)]) (j := 4) dX12_closed_65 rfl (by decide) rfl rfl ?_
        refine st_goto (pc' := 20) dX12_closed_68 (by decide) ?_
        refine WP_sub (L' := [(0, vR (some 74)), (2, vI x2), (3, vI x3), (4, vI y5), (5, vI (x5 + (-1)))]) [2, 3, 4, 1, 0] rfl ?_
        exact h
set_option maxRecDepth 20000 in
set_option maxHeartbeats 4000000 in
theorem B_X12_bits_0 {k : Nat} {P : Option Nat} {I : Nat → Nat → Int32} {J : Nat → Nat → Int64} {x0 : Int} {Q : Option AV → Mem → Prop} (hk : 0 ≤ k) (h : WP k LAY m_X12_bits 4 [(1, vI 0), (2, vI x0)] [] (mem (P, some 5, some 22) I J) Q) : WP k LAY m_X12_bits 0 [(0, vI x0)] [] (mem (P, some 5, some 22) I J) Q := by
  refine st_iconst (pc' := 1) dX12_bits_0 rfl ?_
  refine st_istore_n (pc' := 2) (L' := [(1, vI 0), (0, vI x0)]) dX12_bits_1 rfl rfl (by decide) rfl ?_
  refine st_iload_n (pc' := 3) dX12_bits_2 rfl rfl (j := 1) rfl ?_
  refine st_istore_n (pc' := 4) (L' := [(2, vI x0), (1, vI 0), (0, vI x0)]) dX12_bits_3 rfl rfl (by decide) rfl ?_
  refine WP_sub (L' := [(1, vI 0), (2, vI x0)]) [1, 0] rfl ?_
  exact h
set_option maxRecDepth 20000 in
set_option maxHeartbeats 4000000 in
theorem B_X12_bits_4 {k : Nat} {P : Option Nat} {I : Nat → Nat → Int32} {J : Nat → Nat → Int64} {x1 : Int} {x2 : Int} {Q : Option AV → Mem → Prop} (hk : 0 ≤ k) (h : inR x2 ∧ ((x2 = 0 → (Q (some (vI x1)) (mem (P, some 5, some 22) I J))) ∧ (¬ x2 = 0 → (WP k LAY m_X12_bits 4 [(1, vI (x1 + 1)), (2, vI (and32 x2 (x2 - 1)))] [] (mem (P, some 5, some 22) I J) Q)))) : WP k LAY m_X12_bits 4 [(1, vI x1), (2, vI x2)] [] (mem (P, some 5, some 22) I J) Q := by
  refine st_iload_n (pc' := 5) dX12_bits_4 rfl rfl (j := 1) rfl ?_
  obtain ⟨e1, h⟩ := h
  refine st_if_eq (tg := 20) (pc' := 8) dX12_bits_5 (by decide) rfl e1 (fun c => ?_) (fun c => ?_)
  · replace h := h.1 c
    refine st_iload_n (pc' := 21) dX12_bits_20 rfl rfl (j := 0) rfl ?_
    exact st_iret (ty := .int) dX12_bits_21 rfl rfl rfl h
  · replace h := h.2 c
    refine st_iinc (pc' := 11) (L' := [(1, vI (x1 + 1)), (2, vI x2)]) (j := 0) dX12_bits_8 rfl (by decide) rfl rfl ?_
    refine st_iload_n (pc' := 12) dX12_bits_11 rfl rfl (j := 1) rfl ?_
    refine st_iload_n (pc' := 13) dX12_bits_12 rfl rfl (j := 1) rfl ?_
    refine st_iconst (pc' := 14) dX12_bits_13 rfl ?_
    refine st_isub (pc' := 15) dX12_bits_14 rfl ?_
    refine st_iand (pc' := 16) (z := (and32 x2 (x2 - 1))) dX12_bits_15 rfl rfl ?_
    refine st_istore_n (pc' := 17) (L' := [(2, vI (and32 x2 (x2 - 1))), (1, vI (x1 + 1))]) dX12_bits_16 rfl rfl (by decide) rfl ?_
    refine st_goto (pc' := 4) dX12_bits_17 (by decide) ?_
    refine WP_sub (L' := [(1, vI (x1 + 1)), (2, vI (and32 x2 (x2 - 1)))]) [1, 0] rfl ?_
    exact h
set_option maxRecDepth 20000 in
set_option maxHeartbeats 4000000 in
theorem B_X12_draftOf_0 {k : Nat} {P : Option Nat} {I : Nat → Nat → Int32} {J : Nat → Nat → Int64} {x1 : Int} {Q : Option AV → Mem → Prop} (hk : 0 ≤ k) (h : (0 ≤ ((5 * (gi I 74 13)) + x1) ∧ ((5 * (gi I 74 13)) + x1) < 10) ∧ (inR x1 ∧ ((¬ x1 = (gi I 74 73) → (inR ((gi I 87 ((5 * (gi I 74 13)) + x1).toNat) + 0) ∧ ((((gi I 87 ((5 * (gi I 74 13)) + x1).toNat) + 0) ≤ 12 → (Q (some (vI ((gi I 87 ((5 * (gi I 74 13)) + x1).toNat) + 0))) (mem (P, some 5, some 22) I J))) ∧ (¬ ((gi I 87 ((5 * (gi I 74 13)) + x1).toNat) + 0) ≤ 12 → (Q (some (vI 12)) (mem (P, some 5, some 22) I J)))))) ∧ (x1 = (gi I 74 73) → (inR ((gi I 87 ((5 * (gi I 74 13)) + x1).toNat) + 3) ∧ ((((gi I 87 ((5 * (gi I 74 13)) + x1).toNat) + 3) ≤ 12 → (Q (some (vI ((gi I 87 ((5 * (gi I 74 13)) + x1).toNat) + 3))) (mem (P, some 5, some 22) I J))) ∧ (¬ ((gi I 87 ((5 * (gi I 74 13)) + x1).toNat) + 3) ≤ 12 → (Q (some (vI 12)) (mem (P, some 5, some 22) I J))))))))) : WP k LAY m_X12_draftOf 0 [(0, vR (some 74)), (1, vI x1)] [] (mem (P, some 5, some 22) I J) Q := by
  refine st_aload_n (pc' := 1) dX12_draftOf_0 rfl rfl (j := 0) rfl ?_
  refine G_X12_87_74 dX12_draftOf_1 (pc' := 4) rfl rfl ?_
  refine st_iconst (pc' := 5) dX12_draftOf_4 rfl ?_
  refine st_aload_n (pc' := 6) dX12_draftOf_5 rfl rfl (j := 0) rfl ?_
  refine G_X12_51_74 dX12_draftOf_6 (pc' := 9) rfl rfl ?_
  refine st_imul (pc' := 10) dX12_draftOf_9 rfl ?_
  refine st_iload_n (pc' := 11) dX12_draftOf_10 rfl rfl (j := 1) rfl ?_
  refine st_iadd (pc' := 12) dX12_draftOf_11 rfl ?_
  obtain ⟨e1, h⟩ := h
  refine st_iaload (pc' := 13) (v := (gi I 87 ((5 * (gi I 74 13)) + x1).toNat)) dX12_draftOf_12 rfl L_87 (by decide) e1 (show gi I 87 ((5 * (gi I 74 13)) + x1).toNat = (gi I 87 ((5 * (gi I 74 13)) + x1).toNat) from rfl) ?_
  refine st_iload_n (pc' := 14) dX12_draftOf_13 rfl rfl (j := 1) rfl ?_
  refine st_aload_n (pc' := 15) dX12_draftOf_14 rfl rfl (j := 0) rfl ?_
  refine G_X12_234_74 dX12_draftOf_15 (pc' := 18) rfl rfl ?_
  obtain ⟨e2, h⟩ := h
  refine st_icmp_ne (tg := 25) (pc' := 21) dX12_draftOf_18 (by decide) rfl e2 (gi_in _ _ _) (fun c => ?_) (fun c => ?_)
  · replace h := h.1 c
    refine st_iconst (pc' := 26) dX12_draftOf_25 rfl ?_
    refine st_iadd (pc' := 27) dX12_draftOf_26 rfl ?_
    refine st_istore_n (pc' := 28) (L' := [(2, vI ((gi I 87 ((5 * (gi I 74 13)) + x1).toNat) + 0)), (0, vR (some 74)), (1, vI x1)]) dX12_draftOf_27 rfl rfl (by decide) rfl ?_
    refine st_iload_n (pc' := 29) dX12_draftOf_28 rfl rfl (j := 0) rfl ?_
    refine st_bipush (pc' := 31) dX12_draftOf_29 rfl (by decide) ?_
    obtain ⟨e3, h⟩ := h
    refine st_icmp_le (tg := 39) (pc' := 34) dX12_draftOf_31 (by decide) rfl e3 (by decide) (fun c => ?_) (fun c => ?_)
    · replace h := h.1 c
      refine st_iload_n (pc' := 40) dX12_draftOf_39 rfl rfl (j := 0) rfl ?_
      exact st_iret (ty := .int) dX12_draftOf_40 rfl rfl rfl h
    · replace h := h.2 c
      refine st_bipush (pc' := 36) dX12_draftOf_34 rfl (by decide) ?_
      refine st_goto (pc' := 40) dX12_draftOf_36 (by decide) ?_
      exact st_iret (ty := .int) dX12_draftOf_40 rfl rfl rfl h
  · replace h := h.2 c
    refine st_iconst (pc' := 22) dX12_draftOf_21 rfl ?_
    refine st_goto (pc' := 26) dX12_draftOf_22 (by decide) ?_
    refine st_iadd (pc' := 27) dX12_draftOf_26 rfl ?_
    refine st_istore_n (pc' := 28) (L' := [(2, vI ((gi I 87 ((5 * (gi I 74 13)) + x1).toNat) + 3)), (0, vR (some 74)), (1, vI x1)]) dX12_draftOf_27 rfl rfl (by decide) rfl ?_
    refine st_iload_n (pc' := 29) dX12_draftOf_28 rfl rfl (j := 0) rfl ?_
    refine st_bipush (pc' := 31) dX12_draftOf_29 rfl (by decide) ?_
    obtain ⟨e4, h⟩ := h
    refine st_icmp_le (tg := 39) (pc' := 34) dX12_draftOf_31 (by decide) rfl e4 (by decide) (fun c => ?_) (fun c => ?_)
    · replace h := h.1 c
      refine st_iload_n (pc' := 40) dX12_draftOf_39 rfl rfl (j := 0) rfl ?_
      exact st_iret (ty := .int) dX12_draftOf_40 rfl rfl rfl h
    · replace h := h.2 c
      refine st_bipush (pc' := 36) dX12_draftOf_34 rfl (by decide) ?_
      refine st_goto (pc' := 40) dX12_draftOf_36 (by decide) ?_
      exact st_iret (ty := .int) dX12_draftOf_40 rfl rfl rfl h
set_option maxRecDepth 20000 in
set_option maxHeartbeats 4000000 in
theorem B_X12_sitting_0 {k : Nat} {P : Option Nat} {I : Nat → Nat → Int32} {J : Nat → Nat → Int64} {x1 : Int} {x2 : Int} {Q : Option AV → Mem → Prop} (hk : 0 ≤ k) (h : WP k LAY m_X12_sitting 5 [(0, vR (some 74)), (1, vI x1), (2, vI x2), (3, vI 0), (4, vI 0)] [] (mem (P, some 5, some 22) I J) Q) : WP k LAY m_X12_sitting 0 [(0, vR (some 74)), (1, vI x1), (2, vI x2)] [] (mem (P, some 5, some 22) I J) Q := by
  refine st_iconst (pc' := 1) dX12_sitting_0 rfl ?_
  refine st_istore_n (pc' := 2) (L' := [(3, vI 0), (0, vR (some 74)), (1, vI x1), (2, vI x2)]) dX12_sitting_1 rfl rfl (by decide) rfl ?_
  refine st_iconst (pc' := 3) dX12_sitting_2 rfl ?_
  refine st_istore (pc' := 5) (L' := [(4, vI 0), (3, vI 0), (0, vR (some 74)), (1, vI x1), (2, vI x2)]) dX12_sitting_3 rfl (by decide) rfl ?_
  refine WP_sub (L' := [(0, vR (some 74)), (1, vI x1), (2, vI x2), (3, vI 0), (4, vI 0)]) [2, 3, 4, 1, 0] rfl ?_
  exact h
set_option maxRecDepth 20000 in
set_option maxHeartbeats 4000000 in
theorem B_X12_sitting_5 {k : Nat} {P : Option Nat} {I : Nat → Nat → Int32} {J : Nat → Nat → Int64} {x1 : Int} {x2 : Int} {x3 : Int} {x4 : Int} {Q : Option AV → Mem → Prop} (hk : 0 ≤ k) (h : (0 ≤ (gi I 74 13) ∧ (gi I 74 13) < 2) ∧ (inR x4 ∧ (((gi I 83 (gi I 74 13).toNat) ≤ x4 → (Q (some (vI x3)) (mem (P, some 5, some 22) I J))) ∧ (¬ (gi I 83 (gi I 74 13).toNat) ≤ x4 → ((0 ≤ ((6 * x1) + x4) ∧ ((6 * x1) + x4) < 132) ∧ (inR x2 ∧ ((¬ (gi I 110 ((6 * x1) + x4).toNat) = x2 → (WP k LAY m_X12_sitting 5 [(0, vR (some 74)), (1, vI x1), (2, vI x2), (3, vI (x3 + 0)), (4, vI (x4 + 1))] [] (mem (P, some 5, some 22) I J) Q)) ∧ ((gi I 110 ((6 * x1) + x4).toNat) = x2 → (WP k LAY m_X12_sitting 5 [(0, vR (some 74)), (1, vI x1), (2, vI x2), (3, vI (x3 + 1)), (4, vI (x4 + 1))] [] (mem (P, some 5, some 22) I J) Q))))))))) : WP k LAY m_X12_sitting 5 [(0, vR (some 74)), (1, vI x1), (2, vI x2), (3, vI x3), (4, vI x4)] [] (mem (P, some 5, some 22) I J) Q := by
  refine st_iload (pc' := 7) dX12_sitting_5 rfl (j := 4) rfl ?_
  refine st_aload_n (pc' := 8) dX12_sitting_7 rfl rfl (j := 0) rfl ?_
  refine G_X12_75_74 dX12_sitting_8 (pc' := 11) rfl rfl ?_
  refine st_aload_n (pc' := 12) dX12_sitting_11 rfl rfl (j := 0) rfl ?_
  refine G_X12_51_74 dX12_sitting_12 (pc' := 15) rfl rfl ?_
  obtain ⟨e1, h⟩ := h
  refine st_iaload (pc' := 16) (v := (gi I 83 (gi I 74 13).toNat)) dX12_sitting_15 rfl L_83 (by decide) e1 (show gi I 83 (gi I 74 13).toNat = (gi I 83 (gi I 74 13).toNat) from rfl) ?_
  obtain ⟨e2, h⟩ := h
  refine st_icmp_ge (tg := 49) (pc' := 19) dX12_sitting_16 (by decide) rfl e2 (gi_in _ _ _) (fun c => ?_) (fun c => ?_)
  · replace h := h.1 c
    refine st_iload_n (pc' := 50) dX12_sitting_49 rfl rfl (j := 3) rfl ?_
    exact st_iret (ty := .int) dX12_sitting_50 rfl rfl rfl h
  · replace h := h.2 c
    refine st_iload_n (pc' := 20) dX12_sitting_19 rfl rfl (j := 3) rfl ?_
    refine st_aload_n (pc' := 21) dX12_sitting_20 rfl rfl (j := 0) rfl ?_
    refine G_X12_177_74 dX12_sitting_21 (pc' := 24) rfl rfl ?_
    refine st_bipush (pc' := 26) dX12_sitting_24 rfl (by decide) ?_
    refine st_iload_n (pc' := 27) dX12_sitting_26 rfl rfl (j := 1) rfl ?_
    refine st_imul (pc' := 28) dX12_sitting_27 rfl ?_
    refine st_iload (pc' := 30) dX12_sitting_28 rfl (j := 4) rfl ?_
    refine st_iadd (pc' := 31) dX12_sitting_30 rfl ?_
    obtain ⟨e3, h⟩ := h
    refine st_iaload (pc' := 32) (v := (gi I 110 ((6 * x1) + x4).toNat)) dX12_sitting_31 rfl L_110 (by decide) e3 (show gi I 110 ((6 * x1) + x4).toNat = (gi I 110 ((6 * x1) + x4).toNat) from rfl) ?_
    refine st_iload_n (pc' := 33) dX12_sitting_32 rfl rfl (j := 2) rfl ?_
    obtain ⟨e4, h⟩ := h
    refine st_icmp_ne (tg := 40) (pc' := 36) dX12_sitting_33 (by decide) rfl (gi_in _ _ _) e4 (fun c => ?_) (fun c => ?_)
    · replace h := h.1 c
      refine st_iconst (pc' := 41) dX12_sitting_40 rfl ?_
      refine st_iadd (pc' := 42) dX12_sitting_41 rfl ?_
      refine st_istore_n (pc' := 43) (L' := [(3, vI (x3 + 0)), (0, vR (some 74)), (1, vI x1), (2, vI x2), (4, vI x4)]) dX12_sitting_42 rfl rfl (by decide) rfl ?_
      refine st_iinc (pc' := 46) (L' := [(4, vI (x4 + 1)), (3, vI (x3 + 0)), (0, vR (some 74)), (1, vI x1), (2, vI x2)]) (j := 4) dX12_sitting_43 rfl (by decide) rfl rfl ?_
      refine st_goto (pc' := 5) dX12_sitting_46 (by decide) ?_
      refine WP_sub (L' := [(0, vR (some 74)), (1, vI x1), (2, vI x2), (3, vI (x3 + 0)), (4, vI (x4 + 1))]) [2, 3, 4, 1, 0] rfl ?_
      exact h
    · replace h := h.2 c
      refine st_iconst (pc' := 37) dX12_sitting_36 rfl ?_
      refine st_goto (pc' := 41) dX12_sitting_37 (by decide) ?_
      refine st_iadd (pc' := 42) dX12_sitting_41 rfl ?_
      refine st_istore_n (pc' := 43) (L' := [(3, vI (x3 + 1)), (0, vR (some 74)), (1, vI x1), (2, vI x2), (4, vI x4)]) dX12_sitting_42 rfl rfl (by decide) rfl ?_
      refine st_iinc (pc' := 46) (L' := [(4, vI (x4 + 1)), (3, vI (x3 + 1)), (0, vR (some 74)), (1, vI x1), (2, vI x2)]) (j := 4) dX12_sitting_43 rfl (by decide) rfl rfl ?_
      refine st_goto (pc' := 5) dX12_sitting_46 (by decide) ?_
      refine WP_sub (L' := [(0, vR (some 74)), (1, vI x1), (2, vI x2), (3, vI (x3 + 1)), (4, vI (x4 + 1))]) [2, 3, 4, 1, 0] rfl ?_
      exact h
set_option maxRecDepth 20000 in
set_option maxHeartbeats 4000000 in
theorem B_X12_part_0 {k : Nat} {P : Option Nat} {I : Nat → Nat → Int32} {J : Nat → Nat → Int64} {x1 : Int} {x2 : Int} {Q : Option AV → Mem → Prop} (hk : 1 ≤ k) (h : (0 ≤ ((6 * (gi I 74 69)) + (gi I 74 70)) ∧ ((6 * (gi I 74 69)) + (gi I 74 70)) < 132) ∧ (inR x1 ∧ ((x1 = 0 → (inR x2 ∧ (Q (some (vL x2)) (mem (P, some 5, some 22) I J)))) ∧ (¬ x1 = 0 → ((x1 = 1 → ((¬ (gi I 74 71) = (-1) → ((0 ≤ ((14 * (gi I 74 13)) + (gi I 74 71)) ∧ ((14 * (gi I 74 13)) + (gi I 74 71)) < 28) ∧ (Q (some (vL (gi I 79 ((14 * (gi I 74 13)) + (gi I 74 71)).toNat))) (mem (P, some 5, some 22) I J)))) ∧ ((gi I 74 71) = (-1) → (Q (some (vL 0)) (mem (P, some 5, some 22) I J))))) ∧ (¬ x1 = 1 → ((x1 = 2 → ((¬ (gi I 74 71) = (-1) → ((0 ≤ ((14 * (gi I 74 13)) + (gi I 74 71)) ∧ ((14 * (gi I 74 13)) + (gi I 74 71)) < 28) ∧ (Q (some (vL (gi I 80 ((14 * (gi I 74 13)) + (gi I 74 71)).toNat))) (mem (P, some 5, some 22) I J)))) ∧ ((gi I 74 71) = (-1) → (Q (some (vL 0)) (mem (P, some 5, some 22) I J))))) ∧ (¬ x1 = 2 → ((x1 = 3 → ((0 ≤ ((6 * (gi I 74 13)) + (gi I 74 70)) ∧ ((6 * (gi I 74 13)) + (gi I 74 70)) < 12) ∧ (Q (some (vL (gi I 84 ((6 * (gi I 74 13)) + (gi I 74 70)).toNat))) (mem (P, some 5, some 22) I J)))) ∧ (¬ x1 = 3 → ((x1 = 4 → ((0 ≤ ((6 * (gi I 74 13)) + (gi I 74 70)) ∧ ((6 * (gi I 74 13)) + (gi I 74 70)) < 12) ∧ (Q (some (vL (gi I 85 ((6 * (gi I 74 13)) + (gi I 74 70)).toNat))) (mem (P, some 5, some 22) I J)))) ∧ (¬ x1 = 4 → ((x1 = 5 → (((gi I 74 72) = (-1) → (WPm (k - 1) LAY m_X12_bits [vI (or32 (gi I 111 ((6 * (gi I 74 69)) + (gi I 74 70)).toNat) (gi I 112 ((6 * (gi I 74 69)) + (gi I 74 70)).toNat))] (mem (P, some 5, some 22) I J) (retI (fun v8 I9 J10 => inR v8 ∧ (Q (some (vL v8)) (mem (P, some 5, some 22) I9 J10))) (P, some 5, some 22)))) ∧ (¬ (gi I 74 72) = (-1) → (Q (some (vL (gi I 74 72))) (mem (P, some 5, some 22) I J))))) ∧ (¬ x1 = 5 → ((x1 = 6 → (WPm (k - 1) LAY m_X12_draftOf [vR (some 74), vI (gi I 110 ((6 * (gi I 74 69)) + (gi I 74 70)).toNat)] (mem (P, some 5, some 22) I J) (retI (fun v12 I13 J14 => inR v12 ∧ (Q (some (vL v12)) (mem (P, some 5, some 22) I13 J14))) (P, some 5, some 22)))) ∧ (¬ x1 = 6 → ((x1 = 7 → (WPm (k - 1) LAY m_X12_sitting [vR (some 74), vI (gi I 74 69), vI (gi I 110 ((6 * (gi I 74 69)) + (gi I 74 70)).toNat)] (mem (P, some 5, some 22) I J) (retI (fun v16 I17 J18 => inR v16 ∧ (Q (some (vL v16)) (mem (P, some 5, some 22) I17 J18))) (P, some 5, some 22)))) ∧ (¬ x1 = 7 → ((x1 = 8 → ((0 ≤ (gi I 74 13) ∧ (gi I 74 13) < 2) ∧ (Q (some (vL (gi I 88 (gi I 74 13).toNat))) (mem (P, some 5, some 22) I J)))) ∧ (¬ x1 = 8 → ((x1 = 9 → ((0 ≤ (gi I 74 69) ∧ (gi I 74 69) < 22) ∧ (Q (some (vL (gi I 108 (gi I 74 69).toNat))) (mem (P, some 5, some 22) I J)))) ∧ (¬ x1 = 9 → (Q (some (vL 1)) (mem (P, some 5, some 22) I J)))))))))))))))))))))))) : WP k LAY m_X12_part 0 [(0, vR (some 74)), (1, vI x1), (2, vI x2)] [] (mem (P, some 5, some 22) I J) Q := by
  refine st_aload_n (pc' := 1) dX12_part_0 rfl rfl (j := 0) rfl ?_
  refine G_X12_177_74 dX12_part_1 (pc' := 4) rfl rfl ?_
  refine st_bipush (pc' := 6) dX12_part_4 rfl (by decide) ?_
  refine st_aload_n (pc' := 7) dX12_part_6 rfl rfl (j := 0) rfl ?_
  refine G_X12_222_74 dX12_part_7 (pc' := 10) rfl rfl ?_
  refine st_imul (pc' := 11) dX12_part_10 rfl ?_
  refine st_aload_n (pc' := 12) dX12_part_11 rfl rfl (j := 0) rfl ?_
  refine G_X12_225_74 dX12_part_12 (pc' := 15) rfl rfl ?_
  refine st_iadd (pc' := 16) dX12_part_15 rfl ?_
  obtain ⟨e1, h⟩ := h
  refine st_iaload (pc' := 17) (v := (gi I 110 ((6 * (gi I 74 69)) + (gi I 74 70)).toNat)) dX12_part_16 rfl L_110 (by decide) e1 (show gi I 110 ((6 * (gi I 74 69)) + (gi I 74 70)).toNat = (gi I 110 ((6 * (gi I 74 69)) + (gi I 74 70)).toNat) from rfl) ?_
  refine st_istore_n (pc' := 18) (L' := [(3, vI (gi I 110 ((6 * (gi I 74 69)) + (gi I 74 70)).toNat)), (0, vR (some 74)), (1, vI x1), (2, vI x2)]) dX12_part_17 rfl rfl (by decide) rfl ?_
  refine st_iload_n (pc' := 19) dX12_part_18 rfl rfl (j := 2) rfl ?_
  obtain ⟨e2, h⟩ := h
  by_cases c : x1 = 0
  · replace h := h.1 c
    refine st_tblIn (pc' := 72) (off := 53) dX12_part_19 e2 (by omega) (by rw [c]; rfl) (by decide) ?_
    refine st_iload_n (pc' := 73) dX12_part_72 rfl rfl (j := 3) rfl ?_
    obtain ⟨e3, h⟩ := h
    refine st_i2l (pc' := 74) dX12_part_73 rfl e3 ?_
    exact st_lret dX12_part_74 rfl rfl h
  replace h := h.2 c
  have c0 := c
  clear c
  by_cases c : x1 = 1
  · replace h := h.1 c
    refine st_tblIn (pc' := 75) (off := 56) dX12_part_19 e2 (by omega) (by rw [c]; rfl) (by decide) ?_
    refine st_aload_n (pc' := 76) dX12_part_75 rfl rfl (j := 1) rfl ?_
    refine G_X12_228_74 dX12_part_76 (pc' := 79) rfl rfl ?_
    refine st_iconst (pc' := 80) dX12_part_79 rfl ?_
    refine st_icmp_ne (tg := 87) (pc' := 83) dX12_part_80 (by decide) rfl (gi_in _ _ _) (by decide) (fun c => ?_) (fun c => ?_)
    · replace h := h.1 c
      refine st_aload_n (pc' := 88) dX12_part_87 rfl rfl (j := 1) rfl ?_
      refine G_X12_63_74 dX12_part_88 (pc' := 91) rfl rfl ?_
      refine st_bipush (pc' := 93) dX12_part_91 rfl (by decide) ?_
      refine st_aload_n (pc' := 94) dX12_part_93 rfl rfl (j := 1) rfl ?_
      refine G_X12_51_74 dX12_part_94 (pc' := 97) rfl rfl ?_
      refine st_imul (pc' := 98) dX12_part_97 rfl ?_
      refine st_aload_n (pc' := 99) dX12_part_98 rfl rfl (j := 1) rfl ?_
      refine G_X12_228_74 dX12_part_99 (pc' := 102) rfl rfl ?_
      refine st_iadd (pc' := 103) dX12_part_102 rfl ?_
      obtain ⟨e4, h⟩ := h
      refine st_iaload (pc' := 104) (v := (gi I 79 ((14 * (gi I 74 13)) + (gi I 74 71)).toNat)) dX12_part_103 rfl L_79 (by decide) e4 (show gi I 79 ((14 * (gi I 74 13)) + (gi I 74 71)).toNat = (gi I 79 ((14 * (gi I 74 13)) + (gi I 74 71)).toNat) from rfl) ?_
      refine st_i2l (pc' := 105) dX12_part_104 rfl (gi_in _ _ _) ?_
      exact st_lret dX12_part_105 rfl rfl h
    · replace h := h.2 c
      refine st_lconst (pc' := 84) (z := 0) dX12_part_83 rfl (by decide) ?_
      refine st_goto (pc' := 105) dX12_part_84 (by decide) ?_
      exact st_lret dX12_part_105 rfl rfl h
  replace h := h.2 c
  have c1 := c
  clear c
  by_cases c : x1 = 2
  · replace h := h.1 c
    refine st_tblIn (pc' := 106) (off := 87) dX12_part_19 e2 (by omega) (by rw [c]; rfl) (by decide) ?_
    refine st_aload_n (pc' := 107) dX12_part_106 rfl rfl (j := 1) rfl ?_
    refine G_X12_228_74 dX12_part_107 (pc' := 110) rfl rfl ?_
    refine st_iconst (pc' := 111) dX12_part_110 rfl ?_
    refine st_icmp_ne (tg := 118) (pc' := 114) dX12_part_111 (by decide) rfl (gi_in _ _ _) (by decide) (fun c => ?_) (fun c => ?_)
    · replace h := h.1 c
      refine st_aload_n (pc' := 119) dX12_part_118 rfl rfl (j := 1) rfl ?_
      refine G_X12_66_74 dX12_part_119 (pc' := 122) rfl rfl ?_
      refine st_bipush (pc' := 124) dX12_part_122 rfl (by decide) ?_
      refine st_aload_n (pc' := 125) dX12_part_124 rfl rfl (j := 1) rfl ?_
      refine G_X12_51_74 dX12_part_125 (pc' := 128) rfl rfl ?_
      refine st_imul (pc' := 129) dX12_part_128 rfl ?_
      refine st_aload_n (pc' := 130) dX12_part_129 rfl rfl (j := 1) rfl ?_
      refine G_X12_228_74 dX12_part_130 (pc' := 133) rfl rfl ?_
      refine st_iadd (pc' := 134) dX12_part_133 rfl ?_
      obtain ⟨e5, h⟩ := h
      refine st_iaload (pc' := 135) (v := (gi I 80 ((14 * (gi I 74 13)) + (gi I 74 71)).toNat)) dX12_part_134 rfl L_80 (by decide) e5 (show gi I 80 ((14 * (gi I 74 13)) + (gi I 74 71)).toNat = (gi I 80 ((14 * (gi I 74 13)) + (gi I 74 71)).toNat) from rfl) ?_
      refine st_i2l (pc' := 136) dX12_part_135 rfl (gi_in _ _ _) ?_
      exact st_lret dX12_part_136 rfl rfl h
    · replace h := h.2 c
      refine st_lconst (pc' := 115) (z := 0) dX12_part_114 rfl (by decide) ?_
      refine st_goto (pc' := 136) dX12_part_115 (by decide) ?_
      exact st_lret dX12_part_136 rfl rfl h
  replace h := h.2 c
  have c2 := c
  clear c
  by_cases c : x1 = 3
  · replace h := h.1 c
    refine st_tblIn (pc' := 137) (off := 118) dX12_part_19 e2 (by omega) (by rw [c]; rfl) (by decide) ?_
    refine st_aload_n (pc' := 138) dX12_part_137 rfl rfl (j := 1) rfl ?_
    refine G_X12_78_74 dX12_part_138 (pc' := 141) rfl rfl ?_
    refine st_bipush (pc' := 143) dX12_part_141 rfl (by decide) ?_
    refine st_aload_n (pc' := 144) dX12_part_143 rfl rfl (j := 1) rfl ?_
    refine G_X12_51_74 dX12_part_144 (pc' := 147) rfl rfl ?_
    refine st_imul (pc' := 148) dX12_part_147 rfl ?_
    refine st_aload_n (pc' := 149) dX12_part_148 rfl rfl (j := 1) rfl ?_
    refine G_X12_225_74 dX12_part_149 (pc' := 152) rfl rfl ?_
    refine st_iadd (pc' := 153) dX12_part_152 rfl ?_
    obtain ⟨e6, h⟩ := h
    refine st_iaload (pc' := 154) (v := (gi I 84 ((6 * (gi I 74 13)) + (gi I 74 70)).toNat)) dX12_part_153 rfl L_84 (by decide) e6 (show gi I 84 ((6 * (gi I 74 13)) + (gi I 74 70)).toNat = (gi I 84 ((6 * (gi I 74 13)) + (gi I 74 70)).toNat) from rfl) ?_
    refine st_i2l (pc' := 155) dX12_part_154 rfl (gi_in _ _ _) ?_
    exact st_lret dX12_part_155 rfl rfl h
  replace h := h.2 c
  have c3 := c
  clear c
  by_cases c : x1 = 4
  · replace h := h.1 c
    refine st_tblIn (pc' := 156) (off := 137) dX12_part_19 e2 (by omega) (by rw [c]; rfl) (by decide) ?_
    refine st_aload_n (pc' := 157) dX12_part_156 rfl rfl (j := 1) rfl ?_
    refine G_X12_81_74 dX12_part_157 (pc' := 160) rfl rfl ?_
    refine st_bipush (pc' := 162) dX12_part_160 rfl (by decide) ?_
    refine st_aload_n (pc' := 163) dX12_part_162 rfl rfl (j := 1) rfl ?_
    refine G_X12_51_74 dX12_part_163 (pc' := 166) rfl rfl ?_
    refine st_imul (pc' := 167) dX12_part_166 rfl ?_
    refine st_aload_n (pc' := 168) dX12_part_167 rfl rfl (j := 1) rfl ?_
    refine G_X12_225_74 dX12_part_168 (pc' := 171) rfl rfl ?_
    refine st_iadd (pc' := 172) dX12_part_171 rfl ?_
    obtain ⟨e7, h⟩ := h
    refine st_iaload (pc' := 173) (v := (gi I 85 ((6 * (gi I 74 13)) + (gi I 74 70)).toNat)) dX12_part_172 rfl L_85 (by decide) e7 (show gi I 85 ((6 * (gi I 74 13)) + (gi I 74 70)).toNat = (gi I 85 ((6 * (gi I 74 13)) + (gi I 74 70)).toNat) from rfl) ?_
    refine st_i2l (pc' := 174) dX12_part_173 rfl (gi_in _ _ _) ?_
    exact st_lret dX12_part_174 rfl rfl h
  replace h := h.2 c
  have c4 := c
  clear c
  by_cases c : x1 = 5
  · replace h := h.1 c
    refine st_tblIn (pc' := 175) (off := 156) dX12_part_19 e2 (by omega) (by rw [c]; rfl) (by decide) ?_
    refine st_aload_n (pc' := 176) dX12_part_175 rfl rfl (j := 1) rfl ?_
    refine G_X12_231_74 dX12_part_176 (pc' := 179) rfl rfl ?_
    refine st_iconst (pc' := 180) dX12_part_179 rfl ?_
    refine st_icmp_eq (tg := 191) (pc' := 183) dX12_part_180 (by decide) rfl (gi_in _ _ _) (by decide) (fun c => ?_) (fun c => ?_)
    · replace h := h.1 c
      refine st_aload_n (pc' := 192) dX12_part_191 rfl rfl (j := 1) rfl ?_
      refine st_aload_n (pc' := 193) dX12_part_192 rfl rfl (j := 1) rfl ?_
      refine G_X12_222_74 dX12_part_193 (pc' := 196) rfl rfl ?_
      refine st_aload_n (pc' := 197) dX12_part_196 rfl rfl (j := 1) rfl ?_
      refine G_X12_225_74 dX12_part_197 (pc' := 200) rfl rfl ?_
      refine st_callV (pc' := 203) (kc := k - 1) (E' := LAY) (cal := m_X12_known) (n := 2) (as := [vI (gi I 74 69), vI (gi I 74 70)]) (S := []) dX12_part_200 rfl l_X12_473 k_X12_known rfl L_74 c_X12 rfl rfl (Nat.le_of_ble_eq_true rfl) (by omega) ⟨Nat.le_refl _, Nat.le_refl _, Nat.le_refl _, Nat.le_refl _⟩ (Q1 := fun r M' => WP k LAY m_X12_part 203 [(3, vI (gi I 110 ((6 * (gi I 74 69)) + (gi I 74 70)).toNat)), (0, vR (some 74)), (1, vI x1), (2, vI x2)] (r.toList ++ []) M' Q) (WPm.of k_X12_known.1 (Nat.le_of_ble_eq_true rfl) (B_X12_known_0 (by omega) ?_)) (fun r M' q => q)
      refine ⟨e1, ?_⟩
      change WP _ LAY m_X12_part 203 [(3, vI (gi I 110 ((6 * (gi I 74 69)) + (gi I 74 70)).toNat)), (0, vR (some 74)), (1, vI x1), (2, vI x2)] [vI (or32 (gi I 111 ((6 * (gi I 74 69)) + (gi I 74 70)).toNat) (gi I 112 ((6 * (gi I 74 69)) + (gi I 74 70)).toNat))] (mem (P, some 5, some 22) I J) Q
      refine st_callS (pc' := 206) (kc := k - 1) (E' := LAY) (cal := m_X12_bits) (n := 1) (as := [vI (or32 (gi I 111 ((6 * (gi I 74 69)) + (gi I 74 70)).toNat) (gi I 112 ((6 * (gi I 74 69)) + (gi I 74 70)).toNat))]) (S := []) dX12_part_203 rfl l_X12_482 k_X12_bits rfl rfl (Nat.le_of_ble_eq_true rfl) (by omega) ⟨Nat.le_refl _, Nat.le_refl _, Nat.le_refl _, Nat.le_refl _⟩ h (fun r M' q => ?_)
      obtain ⟨v8, I9, J10, rfl, rfl, h⟩ := q
      change WP _ LAY m_X12_part 206 [(3, vI (gi I 110 ((6 * (gi I 74 69)) + (gi I 74 70)).toNat)), (0, vR (some 74)), (1, vI x1), (2, vI x2)] [vI v8] (mem (P, some 5, some 22) I9 J10) Q
      obtain ⟨e11, h⟩ := h
      refine st_i2l (pc' := 207) dX12_part_206 rfl e11 ?_
      exact st_lret dX12_part_207 rfl rfl h
    · replace h := h.2 c
      refine st_aload_n (pc' := 184) dX12_part_183 rfl rfl (j := 1) rfl ?_
      refine G_X12_231_74 dX12_part_184 (pc' := 187) rfl rfl ?_
      refine st_i2l (pc' := 188) dX12_part_187 rfl (gi_in _ _ _) ?_
      refine st_goto (pc' := 207) dX12_part_188 (by decide) ?_
      exact st_lret dX12_part_207 rfl rfl h
  replace h := h.2 c
  have c5 := c
  clear c
  by_cases c : x1 = 6
  · replace h := h.1 c
    refine st_tblIn (pc' := 208) (off := 189) dX12_part_19 e2 (by omega) (by rw [c]; rfl) (by decide) ?_
    refine st_aload_n (pc' := 209) dX12_part_208 rfl rfl (j := 1) rfl ?_
    refine st_iload_n (pc' := 210) dX12_part_209 rfl rfl (j := 0) rfl ?_
    refine st_callV (pc' := 213) (kc := k - 1) (E' := LAY) (cal := m_X12_draftOf) (n := 1) (as := [vI (gi I 110 ((6 * (gi I 74 69)) + (gi I 74 70)).toNat)]) (S := []) dX12_part_210 rfl l_X12_485 k_X12_draftOf rfl L_74 c_X12 rfl rfl (Nat.le_of_ble_eq_true rfl) (by omega) ⟨Nat.le_refl _, Nat.le_refl _, Nat.le_refl _, Nat.le_refl _⟩ h (fun r M' q => ?_)
    obtain ⟨v12, I13, J14, rfl, rfl, h⟩ := q
    change WP _ LAY m_X12_part 213 [(3, vI (gi I 110 ((6 * (gi I 74 69)) + (gi I 74 70)).toNat)), (0, vR (some 74)), (1, vI x1), (2, vI x2)] [vI v12] (mem (P, some 5, some 22) I13 J14) Q
    obtain ⟨e15, h⟩ := h
    refine st_i2l (pc' := 214) dX12_part_213 rfl e15 ?_
    exact st_lret dX12_part_214 rfl rfl h
  replace h := h.2 c
  have c6 := c
  clear c
  by_cases c : x1 = 7
  · replace h := h.1 c
    refine st_tblIn (pc' := 215) (off := 196) dX12_part_19 e2 (by omega) (by rw [c]; rfl) (by decide) ?_
    refine st_aload_n (pc' := 216) dX12_part_215 rfl rfl (j := 1) rfl ?_
    refine st_aload_n (pc' := 217) dX12_part_216 rfl rfl (j := 1) rfl ?_
    refine G_X12_222_74 dX12_part_217 (pc' := 220) rfl rfl ?_
    refine st_iload_n (pc' := 221) dX12_part_220 rfl rfl (j := 0) rfl ?_
    refine st_callV (pc' := 224) (kc := k - 1) (E' := LAY) (cal := m_X12_sitting) (n := 2) (as := [vI (gi I 74 69), vI (gi I 110 ((6 * (gi I 74 69)) + (gi I 74 70)).toNat)]) (S := []) dX12_part_221 rfl l_X12_488 k_X12_sitting rfl L_74 c_X12 rfl rfl (Nat.le_of_ble_eq_true rfl) (by omega) ⟨Nat.le_refl _, Nat.le_refl _, Nat.le_refl _, Nat.le_refl _⟩ h (fun r M' q => ?_)
    obtain ⟨v16, I17, J18, rfl, rfl, h⟩ := q
    change WP _ LAY m_X12_part 224 [(3, vI (gi I 110 ((6 * (gi I 74 69)) + (gi I 74 70)).toNat)), (0, vR (some 74)), (1, vI x1), (2, vI x2)] [vI v16] (mem (P, some 5, some 22) I17 J18) Q
    obtain ⟨e19, h⟩ := h
    refine st_i2l (pc' := 225) dX12_part_224 rfl e19 ?_
    exact st_lret dX12_part_225 rfl rfl h
  replace h := h.2 c
  have c7 := c
  clear c
  by_cases c : x1 = 8
  · replace h := h.1 c
    refine st_tblIn (pc' := 226) (off := 207) dX12_part_19 e2 (by omega) (by rw [c]; rfl) (by decide) ?_
    refine st_aload_n (pc' := 227) dX12_part_226 rfl rfl (j := 1) rfl ?_
    refine G_X12_90_74 dX12_part_227 (pc' := 230) rfl rfl ?_
    refine st_aload_n (pc' := 231) dX12_part_230 rfl rfl (j := 1) rfl ?_
    refine G_X12_51_74 dX12_part_231 (pc' := 234) rfl rfl ?_
    obtain ⟨e20, h⟩ := h
    refine st_iaload (pc' := 235) (v := (gi I 88 (gi I 74 13).toNat)) dX12_part_234 rfl L_88 (by decide) e20 (show gi I 88 (gi I 74 13).toNat = (gi I 88 (gi I 74 13).toNat) from rfl) ?_
    refine st_i2l (pc' := 236) dX12_part_235 rfl (gi_in _ _ _) ?_
    exact st_lret dX12_part_236 rfl rfl h
  replace h := h.2 c
  have c8 := c
  clear c
  by_cases c : x1 = 9
  · replace h := h.1 c
    refine st_tblIn (pc' := 237) (off := 218) dX12_part_19 e2 (by omega) (by rw [c]; rfl) (by decide) ?_
    refine st_aload_n (pc' := 238) dX12_part_237 rfl rfl (j := 1) rfl ?_
    refine G_X12_171_74 dX12_part_238 (pc' := 241) rfl rfl ?_
    refine st_aload_n (pc' := 242) dX12_part_241 rfl rfl (j := 1) rfl ?_
    refine G_X12_222_74 dX12_part_242 (pc' := 245) rfl rfl ?_
    obtain ⟨e21, h⟩ := h
    refine st_iaload (pc' := 246) (v := (gi I 108 (gi I 74 69).toNat)) dX12_part_245 rfl L_108 (by decide) e21 (show gi I 108 (gi I 74 69).toNat = (gi I 108 (gi I 74 69).toNat) from rfl) ?_
    refine st_i2l (pc' := 247) dX12_part_246 rfl (gi_in _ _ _) ?_
    exact st_lret dX12_part_247 rfl rfl h
  replace h := h.2 c
  have c9 := c
  clear c
  have go : WP k LAY m_X12_part 248 [(3, vI (gi I 110 ((6 * (gi I 74 69)) + (gi I 74 70)).toNat)), (0, vR (some 74)), (1, vI x1), (2, vI x2)] [] (mem (P, some 5, some 22) I J) Q := by
    refine st_lconst (pc' := 249) (z := 1) dX12_part_248 rfl (by decide) ?_
    exact st_lret dX12_part_249 rfl rfl h
  exact st_tblOut (pc' := 248) dX12_part_19 e2 (by omega) (by decide) go
set_option maxRecDepth 20000 in
set_option maxHeartbeats 4000000 in
theorem B_X12_held_0 {k : Nat} {P : Option Nat} {I : Nat → Nat → Int32} {J : Nat → Nat → Int64} {x0 : Int} {Q : Option AV → Mem → Prop} (hk : 0 ≤ k) (h : inL x0 ∧ ((x0 ≤ 1000000 → (((-1000000) ≤ x0 → (Q (some (vL x0)) (mem (P, some 5, some 22) I J))) ∧ (¬ (-1000000) ≤ x0 → (Q (some (vL (-1000000))) (mem (P, some 5, some 22) I J))))) ∧ (¬ x0 ≤ 1000000 → (Q (some (vL 1000000)) (mem (P, some 5, some 22) I J))))) : WP k LAY m_X12_held 0 [(0, vL x0)] [] (mem (P, some 5, some 22) I J) Q := by
  refine st_lload_n (pc' := 1) dX12_held_0 rfl rfl (j := 0) rfl ?_
  refine st_ldc2 (pc' := 4) (z := 1000000) dX12_held_1 rfl q_X12_491 (by decide) ?_
  obtain ⟨e1, h⟩ := h
  refine st_lif_le (tg := 14) (pc' := 8) (pc1 := 5) dX12_held_4 rfl dX12_held_5 (by decide) rfl e1 (by decide) (fun c => ?_) (fun c => ?_)
  · replace h := h.1 c
    refine st_lload_n (pc' := 15) dX12_held_14 rfl rfl (j := 0) rfl ?_
    refine st_ldc2 (pc' := 18) (z := (-1000000)) dX12_held_15 rfl q_X12_493 (by decide) ?_
    refine st_lif_ge (tg := 28) (pc' := 22) (pc1 := 19) dX12_held_18 rfl dX12_held_19 (by decide) rfl e1 (by decide) (fun c => ?_) (fun c => ?_)
    · replace h := h.1 c
      refine st_lload_n (pc' := 29) dX12_held_28 rfl rfl (j := 0) rfl ?_
      exact st_lret dX12_held_29 rfl rfl h
    · replace h := h.2 c
      refine st_ldc2 (pc' := 25) (z := (-1000000)) dX12_held_22 rfl q_X12_493 (by decide) ?_
      refine st_goto (pc' := 29) dX12_held_25 (by decide) ?_
      exact st_lret dX12_held_29 rfl rfl h
  · replace h := h.2 c
    refine st_ldc2 (pc' := 11) (z := 1000000) dX12_held_8 rfl q_X12_491 (by decide) ?_
    refine st_goto (pc' := 29) dX12_held_11 (by decide) ?_
    exact st_lret dX12_held_29 rfl rfl h
set_option maxRecDepth 20000 in
set_option maxHeartbeats 4000000 in
theorem B_X12_floor_0 {k : Nat} {P : Option Nat} {I : Nat → Nat → Int32} {J : Nat → Nat → Int64} {x0 : Int} {x2 : Int} {Q : Option AV → Mem → Prop} (hk : 0 ≤ k) (h : inL x2 ∧ ((¬ x2 = 0 → (¬ x2 = 0 ∧ (¬ x2 = 0 ∧ (((rem64 x0 x2) = 0 → (Q (some (vL (div64 x0 x2))) (mem (P, some 5, some 22) I J))) ∧ (¬ (rem64 x0 x2) = 0 → (inL x0 ∧ ((0 ≤ x0 → ((0 ≤ x2 → (Q (some (vL (div64 x0 x2))) (mem (P, some 5, some 22) I J))) ∧ (¬ 0 ≤ x2 → (Q (some (vL ((div64 x0 x2) - 1))) (mem (P, some 5, some 22) I J))))) ∧ (¬ 0 ≤ x0 → ((0 ≤ x2 → (Q (some (vL ((div64 x0 x2) - 1))) (mem (P, some 5, some 22) I J))) ∧ (¬ 0 ≤ x2 → (Q (some (vL (div64 x0 x2))) (mem (P, some 5, some 22) I J)))))))))))) ∧ (x2 = 0 → (Q (some (vL 0)) (mem (P, some 5, some 22) I J))))) : WP k LAY m_X12_floor 0 [(0, vL x0), (2, vL x2)] [] (mem (P, some 5, some 22) I J) Q := by
  refine st_lload_n (pc' := 1) dX12_floor_0 rfl rfl (j := 1) rfl ?_
  refine st_lconst (pc' := 2) (z := 0) dX12_floor_1 rfl (by decide) ?_
  obtain ⟨e1, h⟩ := h
  refine st_lif_ne (tg := 8) (pc' := 6) (pc1 := 3) dX12_floor_2 rfl dX12_floor_3 (by decide) rfl e1 (by decide) (fun c => ?_) (fun c => ?_)
  · replace h := h.1 c
    refine st_lload_n (pc' := 9) dX12_floor_8 rfl rfl (j := 0) rfl ?_
    refine st_lload_n (pc' := 10) dX12_floor_9 rfl rfl (j := 1) rfl ?_
    obtain ⟨e2, h⟩ := h
    refine st_ldiv (pc' := 11) (z := (div64 x0 x2)) dX12_floor_10 rfl (fun q => e2 ((zl_eq e1).mp q)) rfl ?_
    refine st_lstore (pc' := 13) (L' := [(4, vL (div64 x0 x2)), (0, vL x0), (2, vL x2)]) dX12_floor_11 rfl (by decide) rfl ?_
    refine st_lload_n (pc' := 14) dX12_floor_13 rfl rfl (j := 1) rfl ?_
    refine st_lload_n (pc' := 15) dX12_floor_14 rfl rfl (j := 2) rfl ?_
    obtain ⟨e3, h⟩ := h
    refine st_lrem (pc' := 16) (z := (rem64 x0 x2)) dX12_floor_15 rfl (fun q => e3 ((zl_eq e1).mp q)) rfl ?_
    refine st_lconst (pc' := 17) (z := 0) dX12_floor_16 rfl (by decide) ?_
    refine st_lif_eq (tg := 53) (pc' := 21) (pc1 := 18) dX12_floor_17 rfl dX12_floor_18 (by decide) rfl (rem64_in _ _) (by decide) (fun c => ?_) (fun c => ?_)
    · replace h := h.1 c
      refine st_lload (pc' := 55) dX12_floor_53 rfl (j := 0) rfl ?_
      exact st_lret dX12_floor_55 rfl rfl h
    · replace h := h.2 c
      refine st_lload_n (pc' := 22) dX12_floor_21 rfl rfl (j := 1) rfl ?_
      refine st_lconst (pc' := 23) (z := 0) dX12_floor_22 rfl (by decide) ?_
      obtain ⟨e4, h⟩ := h
      refine st_lif_ge (tg := 31) (pc' := 27) (pc1 := 24) dX12_floor_23 rfl dX12_floor_24 (by decide) rfl e4 (by decide) (fun c => ?_) (fun c => ?_)
      · replace h := h.1 c
        refine st_iconst (pc' := 32) dX12_floor_31 rfl ?_
        refine st_lload_n (pc' := 33) dX12_floor_32 rfl rfl (j := 2) rfl ?_
        refine st_lconst (pc' := 34) (z := 0) dX12_floor_33 rfl (by decide) ?_
        refine st_lif_ge (tg := 42) (pc' := 38) (pc1 := 35) dX12_floor_34 rfl dX12_floor_35 (by decide) rfl e1 (by decide) (fun c => ?_) (fun c => ?_)
        · replace h := h.1 c
          refine st_iconst (pc' := 43) dX12_floor_42 rfl ?_
          refine st_icmp_eq (tg := 53) (pc' := 46) dX12_floor_43 (by decide) rfl (by decide) (by decide) (fun c => ?_) (fun c => ?_)
          · refine st_lload (pc' := 55) dX12_floor_53 rfl (j := 0) rfl ?_
            exact st_lret dX12_floor_55 rfl rfl h
          · exact absurd c (by decide)
        · replace h := h.2 c
          refine st_iconst (pc' := 39) dX12_floor_38 rfl ?_
          refine st_goto (pc' := 43) dX12_floor_39 (by decide) ?_
          refine st_icmp_eq (tg := 53) (pc' := 46) dX12_floor_43 (by decide) rfl (by decide) (by decide) (fun c => ?_) (fun c => ?_)
          · exact absurd c (by decide)
          · refine st_lload (pc' := 48) dX12_floor_46 rfl (j := 0) rfl ?_
            refine st_lconst (pc' := 49) (z := 1) dX12_floor_48 rfl (by decide) ?_
            refine st_lsub (pc' := 50) dX12_floor_49 rfl ?_
            refine st_goto (pc' := 55) dX12_floor_50 (by decide) ?_
            exact st_lret dX12_floor_55 rfl rfl h
      · replace h := h.2 c
        refine st_iconst (pc' := 28) dX12_floor_27 rfl ?_
        refine st_goto (pc' := 32) dX12_floor_28 (by decide) ?_
        refine st_lload_n (pc' := 33) dX12_floor_32 rfl rfl (j := 2) rfl ?_
        refine st_lconst (pc' := 34) (z := 0) dX12_floor_33 rfl (by decide) ?_
        refine st_lif_ge (tg := 42) (pc' := 38) (pc1 := 35) dX12_floor_34 rfl dX12_floor_35 (by decide) rfl e1 (by decide) (fun c => ?_) (fun c => ?_)
        · replace h := h.1 c
          refine st_iconst (pc' := 43) dX12_floor_42 rfl ?_
          refine st_icmp_eq (tg := 53) (pc' := 46) dX12_floor_43 (by decide) rfl (by decide) (by decide) (fun c => ?_) (fun c => ?_)
          · exact absurd c (by decide)
          · refine st_lload (pc' := 48) dX12_floor_46 rfl (j := 0) rfl ?_
            refine st_lconst (pc' := 49) (z := 1) dX12_floor_48 rfl (by decide) ?_
            refine st_lsub (pc' := 50) dX12_floor_49 rfl ?_
            refine st_goto (pc' := 55) dX12_floor_50 (by decide) ?_
            exact st_lret dX12_floor_55 rfl rfl h
        · replace h := h.2 c
          refine st_iconst (pc' := 39) dX12_floor_38 rfl ?_
          refine st_goto (pc' := 43) dX12_floor_39 (by decide) ?_
          refine st_icmp_eq (tg := 53) (pc' := 46) dX12_floor_43 (by decide) rfl (by decide) (by decide) (fun c => ?_) (fun c => ?_)
          · refine st_lload (pc' := 55) dX12_floor_53 rfl (j := 0) rfl ?_
            exact st_lret dX12_floor_55 rfl rfl h
          · exact absurd c (by decide)
  · replace h := h.2 c
    refine st_lconst (pc' := 7) (z := 0) dX12_floor_6 rfl (by decide) ?_
    exact st_lret dX12_floor_7 rfl rfl h
set_option maxRecDepth 20000 in
set_option maxHeartbeats 4000000 in
theorem B_X12_two_0 {k : Nat} {P : Option Nat} {I : Nat → Nat → Int32} {J : Nat → Nat → Int64} {x0 : Int} {x1 : Int} {x3 : Int} {Q : Option AV → Mem → Prop} (hk : 1 ≤ k) (h : inR x0 ∧ ((x0 = 10 → (inL (x1 + x3) ∧ (((x1 + x3) ≤ 1000000 → (((-1000000) ≤ (x1 + x3) → (Q (some (vL (x1 + x3))) (mem (P, some 5, some 22) I J))) ∧ (¬ (-1000000) ≤ (x1 + x3) → (Q (some (vL (-1000000))) (mem (P, some 5, some 22) I J))))) ∧ (¬ (x1 + x3) ≤ 1000000 → (Q (some (vL 1000000)) (mem (P, some 5, some 22) I J)))))) ∧ (¬ x0 = 10 → ((x0 = 11 → (inL (x1 - x3) ∧ (((x1 - x3) ≤ 1000000 → (((-1000000) ≤ (x1 - x3) → (Q (some (vL (x1 - x3))) (mem (P, some 5, some 22) I J))) ∧ (¬ (-1000000) ≤ (x1 - x3) → (Q (some (vL (-1000000))) (mem (P, some 5, some 22) I J))))) ∧ (¬ (x1 - x3) ≤ 1000000 → (Q (some (vL 1000000)) (mem (P, some 5, some 22) I J)))))) ∧ (¬ x0 = 11 → ((x0 = 12 → (inL (x1 * x3) ∧ (((x1 * x3) ≤ 1000000 → (((-1000000) ≤ (x1 * x3) → (Q (some (vL (x1 * x3))) (mem (P, some 5, some 22) I J))) ∧ (¬ (-1000000) ≤ (x1 * x3) → (Q (some (vL (-1000000))) (mem (P, some 5, some 22) I J))))) ∧ (¬ (x1 * x3) ≤ 1000000 → (Q (some (vL 1000000)) (mem (P, some 5, some 22) I J)))))) ∧ (¬ x0 = 12 → ((x0 = 13 → (WPm (k - 1) LAY m_X12_floor [vL x1, vL x3] (mem (P, some 5, some 22) I J) (retL (fun v5 I6 J7 => inL v5 ∧ ((v5 ≤ 1000000 → (((-1000000) ≤ v5 → (Q (some (vL v5)) (mem (P, some 5, some 22) I6 J7))) ∧ (¬ (-1000000) ≤ v5 → (Q (some (vL (-1000000))) (mem (P, some 5, some 22) I6 J7))))) ∧ (¬ v5 ≤ 1000000 → (Q (some (vL 1000000)) (mem (P, some 5, some 22) I6 J7))))) (P, some 5, some 22)))) ∧ (¬ x0 = 13 → ((x0 = 14 → (inL x3 ∧ ((¬ x3 = 0 → (WPm (k - 1) LAY m_X12_floor [vL x1, vL x3] (mem (P, some 5, some 22) I J) (retL (fun v10 I11 J12 => inL (x1 - (x3 * v10)) ∧ (((x1 - (x3 * v10)) ≤ 1000000 → (((-1000000) ≤ (x1 - (x3 * v10)) → (Q (some (vL (x1 - (x3 * v10)))) (mem (P, some 5, some 22) I11 J12))) ∧ (¬ (-1000000) ≤ (x1 - (x3 * v10)) → (Q (some (vL (-1000000))) (mem (P, some 5, some 22) I11 J12))))) ∧ (¬ (x1 - (x3 * v10)) ≤ 1000000 → (Q (some (vL 1000000)) (mem (P, some 5, some 22) I11 J12))))) (P, some 5, some 22)))) ∧ (x3 = 0 → (Q (some (vL 0)) (mem (P, some 5, some 22) I J)))))) ∧ (¬ x0 = 14 → ((x0 = 15 → (inL x1 ∧ (inL x3 ∧ ((x3 ≤ x1 → (Q (some (vL x3)) (mem (P, some 5, some 22) I J))) ∧ (¬ x3 ≤ x1 → (Q (some (vL x1)) (mem (P, some 5, some 22) I J))))))) ∧ (¬ x0 = 15 → ((x0 = 16 → (inL x1 ∧ (inL x3 ∧ ((x1 ≤ x3 → (Q (some (vL x3)) (mem (P, some 5, some 22) I J))) ∧ (¬ x1 ≤ x3 → (Q (some (vL x1)) (mem (P, some 5, some 22) I J))))))) ∧ (¬ x0 = 16 → ((x0 = 17 → (inL x1 ∧ (inL x3 ∧ ((x3 ≤ x1 → (Q (some (vL 0)) (mem (P, some 5, some 22) I J))) ∧ (¬ x3 ≤ x1 → (Q (some (vL 1)) (mem (P, some 5, some 22) I J))))))) ∧ (¬ x0 = 17 → ((x0 = 18 → (inL x1 ∧ (inL x3 ∧ ((x1 ≤ x3 → (Q (some (vL 0)) (mem (P, some 5, some 22) I J))) ∧ (¬ x1 ≤ x3 → (Q (some (vL 1)) (mem (P, some 5, some 22) I J))))))) ∧ (¬ x0 = 18 → ((x0 = 19 → (inL x1 ∧ (inL x3 ∧ ((¬ x1 = x3 → (Q (some (vL 0)) (mem (P, some 5, some 22) I J))) ∧ (x1 = x3 → (Q (some (vL 1)) (mem (P, some 5, some 22) I J))))))) ∧ (¬ x0 = 19 → ((x0 = 20 → (Q (some (vL (and64 x1 x3))) (mem (P, some 5, some 22) I J))) ∧ (¬ x0 = 20 → (Q (some (vL (or64 x1 x3))) (mem (P, some 5, some 22) I J))))))))))))))))))))))))) : WP k LAY m_X12_two 0 [(0, vI x0), (1, vL x1), (3, vL x3)] [] (mem (P, some 5, some 22) I J) Q := by
  refine st_iload_n (pc' := 1) dX12_two_0 rfl rfl (j := 0) rfl ?_
  obtain ⟨e1, h⟩ := h
  by_cases c : x0 = 10
  · replace h := h.1 c
    refine st_tblIn (pc' := 60) (off := 59) dX12_two_1 e1 (by omega) (by rw [c]; rfl) (by decide) ?_
    refine st_lload_n (pc' := 61) dX12_two_60 rfl rfl (j := 1) rfl ?_
    refine st_lload_n (pc' := 62) dX12_two_61 rfl rfl (j := 2) rfl ?_
    refine st_ladd (pc' := 63) dX12_two_62 rfl ?_
    refine st_callS (pc' := 66) (kc := k - 1) (E' := LAY) (cal := m_X12_held) (n := 1) (as := [vL (x1 + x3)]) (S := []) dX12_two_63 rfl l_X12_495 k_X12_held rfl rfl (Nat.le_of_ble_eq_true rfl) (by omega) ⟨Nat.le_refl _, Nat.le_refl _, Nat.le_refl _, Nat.le_refl _⟩ (Q1 := fun r M' => WP k LAY m_X12_two 66 [(0, vI x0), (1, vL x1), (3, vL x3)] (r.toList ++ []) M' Q) (WPm.of k_X12_held.1 (Nat.le_of_ble_eq_true rfl) (B_X12_held_0 (by omega) ?_)) (fun r M' q => q)
    obtain ⟨e2, h⟩ := h
    refine ⟨e2, ?_⟩
    refine ⟨fun c => ?_, fun c => ?_⟩
    · replace h := h.1 c
      refine ⟨fun c => ?_, fun c => ?_⟩
      · replace h := h.1 c
        change WP _ LAY m_X12_two 66 [(0, vI x0), (1, vL x1), (3, vL x3)] [vL (x1 + x3)] (mem (P, some 5, some 22) I J) Q
        exact st_lret dX12_two_66 rfl rfl h
      · replace h := h.2 c
        change WP _ LAY m_X12_two 66 [(0, vI x0), (1, vL x1), (3, vL x3)] [vL (-1000000)] (mem (P, some 5, some 22) I J) Q
        exact st_lret dX12_two_66 rfl rfl h
    · replace h := h.2 c
      change WP _ LAY m_X12_two 66 [(0, vI x0), (1, vL x1), (3, vL x3)] [vL 1000000] (mem (P, some 5, some 22) I J) Q
      exact st_lret dX12_two_66 rfl rfl h
  replace h := h.2 c
  have c10 := c
  clear c
  by_cases c : x0 = 11
  · replace h := h.1 c
    refine st_tblIn (pc' := 67) (off := 66) dX12_two_1 e1 (by omega) (by rw [c]; rfl) (by decide) ?_
    refine st_lload_n (pc' := 68) dX12_two_67 rfl rfl (j := 1) rfl ?_
    refine st_lload_n (pc' := 69) dX12_two_68 rfl rfl (j := 2) rfl ?_
    refine st_lsub (pc' := 70) dX12_two_69 rfl ?_
    refine st_callS (pc' := 73) (kc := k - 1) (E' := LAY) (cal := m_X12_held) (n := 1) (as := [vL (x1 - x3)]) (S := []) dX12_two_70 rfl l_X12_495 k_X12_held rfl rfl (Nat.le_of_ble_eq_true rfl) (by omega) ⟨Nat.le_refl _, Nat.le_refl _, Nat.le_refl _, Nat.le_refl _⟩ (Q1 := fun r M' => WP k LAY m_X12_two 73 [(0, vI x0), (1, vL x1), (3, vL x3)] (r.toList ++ []) M' Q) (WPm.of k_X12_held.1 (Nat.le_of_ble_eq_true rfl) (B_X12_held_0 (by omega) ?_)) (fun r M' q => q)
    obtain ⟨e3, h⟩ := h
    refine ⟨e3, ?_⟩
    refine ⟨fun c => ?_, fun c => ?_⟩
    · replace h := h.1 c
      refine ⟨fun c => ?_, fun c => ?_⟩
      · replace h := h.1 c
        change WP _ LAY m_X12_two 73 [(0, vI x0), (1, vL x1), (3, vL x3)] [vL (x1 - x3)] (mem (P, some 5, some 22) I J) Q
        exact st_lret dX12_two_73 rfl rfl h
      · replace h := h.2 c
        change WP _ LAY m_X12_two 73 [(0, vI x0), (1, vL x1), (3, vL x3)] [vL (-1000000)] (mem (P, some 5, some 22) I J) Q
        exact st_lret dX12_two_73 rfl rfl h
    · replace h := h.2 c
      change WP _ LAY m_X12_two 73 [(0, vI x0), (1, vL x1), (3, vL x3)] [vL 1000000] (mem (P, some 5, some 22) I J) Q
      exact st_lret dX12_two_73 rfl rfl h
  replace h := h.2 c
  have c11 := c
  clear c
  by_cases c : x0 = 12
  · replace h := h.1 c
    refine st_tblIn (pc' := 74) (off := 73) dX12_two_1 e1 (by omega) (by rw [c]; rfl) (by decide) ?_
    refine st_lload_n (pc' := 75) dX12_two_74 rfl rfl (j := 1) rfl ?_
    refine st_lload_n (pc' := 76) dX12_two_75 rfl rfl (j := 2) rfl ?_
    refine st_lmul (pc' := 77) dX12_two_76 rfl ?_
    refine st_callS (pc' := 80) (kc := k - 1) (E' := LAY) (cal := m_X12_held) (n := 1) (as := [vL (x1 * x3)]) (S := []) dX12_two_77 rfl l_X12_495 k_X12_held rfl rfl (Nat.le_of_ble_eq_true rfl) (by omega) ⟨Nat.le_refl _, Nat.le_refl _, Nat.le_refl _, Nat.le_refl _⟩ (Q1 := fun r M' => WP k LAY m_X12_two 80 [(0, vI x0), (1, vL x1), (3, vL x3)] (r.toList ++ []) M' Q) (WPm.of k_X12_held.1 (Nat.le_of_ble_eq_true rfl) (B_X12_held_0 (by omega) ?_)) (fun r M' q => q)
    obtain ⟨e4, h⟩ := h
    refine ⟨e4, ?_⟩
    refine ⟨fun c => ?_, fun c => ?_⟩
    · replace h := h.1 c
      refine ⟨fun c => ?_, fun c => ?_⟩
      · replace h := h.1 c
        change WP _ LAY m_X12_two 80 [(0, vI x0), (1, vL x1), (3, vL x3)] [vL (x1 * x3)] (mem (P, some 5, some 22) I J) Q
        exact st_lret dX12_two_80 rfl rfl h
      · replace h := h.2 c
        change WP _ LAY m_X12_two 80 [(0, vI x0), (1, vL x1), (3, vL x3)] [vL (-1000000)] (mem (P, some 5, some 22) I J) Q
        exact st_lret dX12_two_80 rfl rfl h
    · replace h := h.2 c
      change WP _ LAY m_X12_two 80 [(0, vI x0), (1, vL x1), (3, vL x3)] [vL 1000000] (mem (P, some 5, some 22) I J) Q
      exact st_lret dX12_two_80 rfl rfl h
  replace h := h.2 c
  have c12 := c
  clear c
  by_cases c : x0 = 13
  · replace h := h.1 c
    refine st_tblIn (pc' := 81) (off := 80) dX12_two_1 e1 (by omega) (by rw [c]; rfl) (by decide) ?_
    refine st_lload_n (pc' := 82) dX12_two_81 rfl rfl (j := 1) rfl ?_
    refine st_lload_n (pc' := 83) dX12_two_82 rfl rfl (j := 2) rfl ?_
    refine st_callS (pc' := 86) (kc := k - 1) (E' := LAY) (cal := m_X12_floor) (n := 2) (as := [vL x1, vL x3]) (S := []) dX12_two_83 rfl l_X12_499 k_X12_floor rfl rfl (Nat.le_of_ble_eq_true rfl) (by omega) ⟨Nat.le_refl _, Nat.le_refl _, Nat.le_refl _, Nat.le_refl _⟩ h (fun r M' q => ?_)
    obtain ⟨v5, I6, J7, rfl, rfl, h⟩ := q
    change WP _ LAY m_X12_two 86 [(0, vI x0), (1, vL x1), (3, vL x3)] [vL v5] (mem (P, some 5, some 22) I6 J7) Q
    refine st_callS (pc' := 89) (kc := k - 1) (E' := LAY) (cal := m_X12_held) (n := 1) (as := [vL v5]) (S := []) dX12_two_86 rfl l_X12_495 k_X12_held rfl rfl (Nat.le_of_ble_eq_true rfl) (by omega) ⟨Nat.le_refl _, Nat.le_refl _, Nat.le_refl _, Nat.le_refl _⟩ (Q1 := fun r M' => WP k LAY m_X12_two 89 [(0, vI x0), (1, vL x1), (3, vL x3)] (r.toList ++ []) M' Q) (WPm.of k_X12_held.1 (Nat.le_of_ble_eq_true rfl) (B_X12_held_0 (by omega) ?_)) (fun r M' q => q)
    obtain ⟨e8, h⟩ := h
    refine ⟨e8, ?_⟩
    refine ⟨fun c => ?_, fun c => ?_⟩
    · replace h := h.1 c
      refine ⟨fun c => ?_, fun c => ?_⟩
      · replace h := h.1 c
        change WP _ LAY m_X12_two 89 [(0, vI x0), (1, vL x1), (3, vL x3)] [vL v5] (mem (P, some 5, some 22) I6 J7) Q
        exact st_lret dX12_two_89 rfl rfl h
      · replace h := h.2 c
        change WP _ LAY m_X12_two 89 [(0, vI x0), (1, vL x1), (3, vL x3)] [vL (-1000000)] (mem (P, some 5, some 22) I6 J7) Q
        exact st_lret dX12_two_89 rfl rfl h
    · replace h := h.2 c
      change WP _ LAY m_X12_two 89 [(0, vI x0), (1, vL x1), (3, vL x3)] [vL 1000000] (mem (P, some 5, some 22) I6 J7) Q
      exact st_lret dX12_two_89 rfl rfl h
  replace h := h.2 c
  have c13 := c
  clear c
  by_cases c : x0 = 14
  · replace h := h.1 c
    refine st_tblIn (pc' := 90) (off := 89) dX12_two_1 e1 (by omega) (by rw [c]; rfl) (by decide) ?_
    refine st_lload_n (pc' := 91) dX12_two_90 rfl rfl (j := 2) rfl ?_
    refine st_lconst (pc' := 92) (z := 0) dX12_two_91 rfl (by decide) ?_
    obtain ⟨e9, h⟩ := h
    refine st_lif_ne (tg := 100) (pc' := 96) (pc1 := 93) dX12_two_92 rfl dX12_two_93 (by decide) rfl e9 (by decide) (fun c => ?_) (fun c => ?_)
    · replace h := h.1 c
      refine st_lload_n (pc' := 101) dX12_two_100 rfl rfl (j := 1) rfl ?_
      refine st_lload_n (pc' := 102) dX12_two_101 rfl rfl (j := 2) rfl ?_
      refine st_lload_n (pc' := 103) dX12_two_102 rfl rfl (j := 1) rfl ?_
      refine st_lload_n (pc' := 104) dX12_two_103 rfl rfl (j := 2) rfl ?_
      refine st_callS (pc' := 107) (kc := k - 1) (E' := LAY) (cal := m_X12_floor) (n := 2) (as := [vL x1, vL x3]) (S := [vL x3, vL x1]) dX12_two_104 rfl l_X12_499 k_X12_floor rfl rfl (Nat.le_of_ble_eq_true rfl) (by omega) ⟨Nat.le_refl _, Nat.le_refl _, Nat.le_refl _, Nat.le_refl _⟩ h (fun r M' q => ?_)
      obtain ⟨v10, I11, J12, rfl, rfl, h⟩ := q
      change WP _ LAY m_X12_two 107 [(0, vI x0), (1, vL x1), (3, vL x3)] [vL v10, vL x3, vL x1] (mem (P, some 5, some 22) I11 J12) Q
      refine st_lmul (pc' := 108) dX12_two_107 rfl ?_
      refine st_lsub (pc' := 109) dX12_two_108 rfl ?_
      refine st_callS (pc' := 112) (kc := k - 1) (E' := LAY) (cal := m_X12_held) (n := 1) (as := [vL (x1 - (x3 * v10))]) (S := []) dX12_two_109 rfl l_X12_495 k_X12_held rfl rfl (Nat.le_of_ble_eq_true rfl) (by omega) ⟨Nat.le_refl _, Nat.le_refl _, Nat.le_refl _, Nat.le_refl _⟩ (Q1 := fun r M' => WP k LAY m_X12_two 112 [(0, vI x0), (1, vL x1), (3, vL x3)] (r.toList ++ []) M' Q) (WPm.of k_X12_held.1 (Nat.le_of_ble_eq_true rfl) (B_X12_held_0 (by omega) ?_)) (fun r M' q => q)
      obtain ⟨e13, h⟩ := h
      refine ⟨e13, ?_⟩
      refine ⟨fun c => ?_, fun c => ?_⟩
      · replace h := h.1 c
        refine ⟨fun c => ?_, fun c => ?_⟩
        · replace h := h.1 c
          change WP _ LAY m_X12_two 112 [(0, vI x0), (1, vL x1), (3, vL x3)] [vL (x1 - (x3 * v10))] (mem (P, some 5, some 22) I11 J12) Q
          exact st_lret dX12_two_112 rfl rfl h
        · replace h := h.2 c
          change WP _ LAY m_X12_two 112 [(0, vI x0), (1, vL x1), (3, vL x3)] [vL (-1000000)] (mem (P, some 5, some 22) I11 J12) Q
          exact st_lret dX12_two_112 rfl rfl h
      · replace h := h.2 c
        change WP _ LAY m_X12_two 112 [(0, vI x0), (1, vL x1), (3, vL x3)] [vL 1000000] (mem (P, some 5, some 22) I11 J12) Q
        exact st_lret dX12_two_112 rfl rfl h
    · replace h := h.2 c
      refine st_lconst (pc' := 97) (z := 0) dX12_two_96 rfl (by decide) ?_
      refine st_goto (pc' := 112) dX12_two_97 (by decide) ?_
      exact st_lret dX12_two_112 rfl rfl h
  replace h := h.2 c
  have c14 := c
  clear c
  by_cases c : x0 = 15
  · replace h := h.1 c
    refine st_tblIn (pc' := 113) (off := 112) dX12_two_1 e1 (by omega) (by rw [c]; rfl) (by decide) ?_
    refine st_lload_n (pc' := 114) dX12_two_113 rfl rfl (j := 1) rfl ?_
    refine st_lload_n (pc' := 115) dX12_two_114 rfl rfl (j := 2) rfl ?_
    obtain ⟨e14, h⟩ := h
    obtain ⟨e15, h⟩ := h
    refine st_lif_ge (tg := 123) (pc' := 119) (pc1 := 116) dX12_two_115 rfl dX12_two_116 (by decide) rfl e14 e15 (fun c => ?_) (fun c => ?_)
    · replace h := h.1 c
      refine st_lload_n (pc' := 124) dX12_two_123 rfl rfl (j := 2) rfl ?_
      exact st_lret dX12_two_124 rfl rfl h
    · replace h := h.2 c
      refine st_lload_n (pc' := 120) dX12_two_119 rfl rfl (j := 1) rfl ?_
      refine st_goto (pc' := 124) dX12_two_120 (by decide) ?_
      exact st_lret dX12_two_124 rfl rfl h
  replace h := h.2 c
  have c15 := c
  clear c
  by_cases c : x0 = 16
  · replace h := h.1 c
    refine st_tblIn (pc' := 125) (off := 124) dX12_two_1 e1 (by omega) (by rw [c]; rfl) (by decide) ?_
    refine st_lload_n (pc' := 126) dX12_two_125 rfl rfl (j := 1) rfl ?_
    refine st_lload_n (pc' := 127) dX12_two_126 rfl rfl (j := 2) rfl ?_
    obtain ⟨e16, h⟩ := h
    obtain ⟨e17, h⟩ := h
    refine st_lif_le (tg := 135) (pc' := 131) (pc1 := 128) dX12_two_127 rfl dX12_two_128 (by decide) rfl e16 e17 (fun c => ?_) (fun c => ?_)
    · replace h := h.1 c
      refine st_lload_n (pc' := 136) dX12_two_135 rfl rfl (j := 2) rfl ?_
      exact st_lret dX12_two_136 rfl rfl h
    · replace h := h.2 c
      refine st_lload_n (pc' := 132) dX12_two_131 rfl rfl (j := 1) rfl ?_
      refine st_goto (pc' := 136) dX12_two_132 (by decide) ?_
      exact st_lret dX12_two_136 rfl rfl h
  replace h := h.2 c
  have c16 := c
  clear c
  by_cases c : x0 = 17
  · replace h := h.1 c
    refine st_tblIn (pc' := 137) (off := 136) dX12_two_1 e1 (by omega) (by rw [c]; rfl) (by decide) ?_
    refine st_lload_n (pc' := 138) dX12_two_137 rfl rfl (j := 1) rfl ?_
    refine st_lload_n (pc' := 139) dX12_two_138 rfl rfl (j := 2) rfl ?_
    obtain ⟨e18, h⟩ := h
    obtain ⟨e19, h⟩ := h
    refine st_lif_ge (tg := 147) (pc' := 143) (pc1 := 140) dX12_two_139 rfl dX12_two_140 (by decide) rfl e18 e19 (fun c => ?_) (fun c => ?_)
    · replace h := h.1 c
      refine st_lconst (pc' := 148) (z := 0) dX12_two_147 rfl (by decide) ?_
      exact st_lret dX12_two_148 rfl rfl h
    · replace h := h.2 c
      refine st_lconst (pc' := 144) (z := 1) dX12_two_143 rfl (by decide) ?_
      refine st_goto (pc' := 148) dX12_two_144 (by decide) ?_
      exact st_lret dX12_two_148 rfl rfl h
  replace h := h.2 c
  have c17 := c
  clear c
  by_cases c : x0 = 18
  · replace h := h.1 c
    refine st_tblIn (pc' := 149) (off := 148) dX12_two_1 e1 (by omega) (by rw [c]; rfl) (by decide) ?_
    refine st_lload_n (pc' := 150) dX12_two_149 rfl rfl (j := 1) rfl ?_
    refine st_lload_n (pc' := 151) dX12_two_150 rfl rfl (j := 2) rfl ?_
    obtain ⟨e20, h⟩ := h
    obtain ⟨e21, h⟩ := h
    refine st_lif_le (tg := 159) (pc' := 155) (pc1 := 152) dX12_two_151 rfl dX12_two_152 (by decide) rfl e20 e21 (fun c => ?_) (fun c => ?_)
    · replace h := h.1 c
      refine st_lconst (pc' := 160) (z := 0) dX12_two_159 rfl (by decide) ?_
      exact st_lret dX12_two_160 rfl rfl h
    · replace h := h.2 c
      refine st_lconst (pc' := 156) (z := 1) dX12_two_155 rfl (by decide) ?_
      refine st_goto (pc' := 160) dX12_two_156 (by decide) ?_
      exact st_lret dX12_two_160 rfl rfl h
  replace h := h.2 c
  have c18 := c
  clear c
  by_cases c : x0 = 19
  · replace h := h.1 c
    refine st_tblIn (pc' := 161) (off := 160) dX12_two_1 e1 (by omega) (by rw [c]; rfl) (by decide) ?_
    refine st_lload_n (pc' := 162) dX12_two_161 rfl rfl (j := 1) rfl ?_
    refine st_lload_n (pc' := 163) dX12_two_162 rfl rfl (j := 2) rfl ?_
    obtain ⟨e22, h⟩ := h
    obtain ⟨e23, h⟩ := h
    refine st_lif_ne (tg := 171) (pc' := 167) (pc1 := 164) dX12_two_163 rfl dX12_two_164 (by decide) rfl e22 e23 (fun c => ?_) (fun c => ?_)
    · replace h := h.1 c
      refine st_lconst (pc' := 172) (z := 0) dX12_two_171 rfl (by decide) ?_
      exact st_lret dX12_two_172 rfl rfl h
    · replace h := h.2 c
      refine st_lconst (pc' := 168) (z := 1) dX12_two_167 rfl (by decide) ?_
      refine st_goto (pc' := 172) dX12_two_168 (by decide) ?_
      exact st_lret dX12_two_172 rfl rfl h
  replace h := h.2 c
  have c19 := c
  clear c
  by_cases c : x0 = 20
  · replace h := h.1 c
    refine st_tblIn (pc' := 173) (off := 172) dX12_two_1 e1 (by omega) (by rw [c]; rfl) (by decide) ?_
    refine st_lload_n (pc' := 174) dX12_two_173 rfl rfl (j := 1) rfl ?_
    refine st_lload_n (pc' := 175) dX12_two_174 rfl rfl (j := 2) rfl ?_
    refine st_land (pc' := 176) (z := (and64 x1 x3)) dX12_two_175 rfl rfl ?_
    exact st_lret dX12_two_176 rfl rfl h
  replace h := h.2 c
  have c20 := c
  clear c
  have go : WP k LAY m_X12_two 177 [(0, vI x0), (1, vL x1), (3, vL x3)] [] (mem (P, some 5, some 22) I J) Q := by
    refine st_lload_n (pc' := 178) dX12_two_177 rfl rfl (j := 1) rfl ?_
    refine st_lload_n (pc' := 179) dX12_two_178 rfl rfl (j := 2) rfl ?_
    refine st_lor (pc' := 180) (z := (or64 x1 x3)) dX12_two_179 rfl rfl ?_
    exact st_lret dX12_two_180 rfl rfl h
  exact st_tblOut (pc' := 177) dX12_two_1 e1 (by omega) (by decide) go
set_option maxRecDepth 20000 in
set_option maxHeartbeats 4000000 in
theorem B_X12_reckons_0 {k : Nat} {P : Option Nat} {I : Nat → Nat → Int32} {J : Nat → Nat → Int64} {x1 : Int} {x2 : Int} {Q : Option AV → Mem → Prop} (hk : 0 ≤ k) (h : WP k LAY m_X12_reckons 14 [(0, vR (some 74)), (2, vI x2), (3, vI 0), (4, vI ((1600 * (gi I 74 13)) + x1))] [] (mem (P, some 5, some 22) I J) Q) : WP k LAY m_X12_reckons 0 [(0, vR (some 74)), (1, vI x1), (2, vI x2)] [] (mem (P, some 5, some 22) I J) Q := by
  refine st_iconst (pc' := 1) dX12_reckons_0 rfl ?_
  refine st_istore_n (pc' := 2) (L' := [(3, vI 0), (0, vR (some 74)), (1, vI x1), (2, vI x2)]) dX12_reckons_1 rfl rfl (by decide) rfl ?_
  refine st_sipush (pc' := 5) dX12_reckons_2 rfl (by decide) ?_
  refine st_aload_n (pc' := 6) dX12_reckons_5 rfl rfl (j := 1) rfl ?_
  refine G_X12_51_74 dX12_reckons_6 (pc' := 9) rfl rfl ?_
  refine st_imul (pc' := 10) dX12_reckons_9 rfl ?_
  refine st_iload_n (pc' := 11) dX12_reckons_10 rfl rfl (j := 2) rfl ?_
  refine st_iadd (pc' := 12) dX12_reckons_11 rfl ?_
  refine st_istore (pc' := 14) (L' := [(4, vI ((1600 * (gi I 74 13)) + x1)), (3, vI 0), (0, vR (some 74)), (1, vI x1), (2, vI x2)]) dX12_reckons_12 rfl (by decide) rfl ?_
  refine WP_sub (L' := [(0, vR (some 74)), (2, vI x2), (3, vI 0), (4, vI ((1600 * (gi I 74 13)) + x1))]) [2, 4, 1, 0] rfl ?_
  exact h
set_option maxRecDepth 20000 in
set_option maxHeartbeats 4000000 in
theorem B_X12_reckons_14 {k : Nat} {P : Option Nat} {I : Nat → Nat → Int32} {J : Nat → Nat → Int64} {x2 : Int} {x3 : Int} {x4 : Int} {Q : Option AV → Mem → Prop} (hk : 1 ≤ k) (h : inR x4 ∧ (inR ((1600 * (gi I 74 13)) + x2) ∧ ((((1600 * (gi I 74 13)) + x2) ≤ x4 → (Q (some (vL (gl J 121 0))) (mem (P, some 5, some 22) I J))) ∧ (¬ ((1600 * (gi I 74 13)) + x2) ≤ x4 → ((0 ≤ x4 ∧ x4 < 3200) ∧ ((¬ ((gi I 95 (x4).toNat) < 10 ∨ (gi I 95 (x4).toNat) = 30) → ((¬ (gi I 95 (x4).toNat) = 22 → ((0 ≤ ((x3 + (-1)) - 1) ∧ ((x3 + (-1)) - 1) < 500) ∧ ((0 ≤ (x3 + (-1)) ∧ (x3 + (-1)) < 500) ∧ (WPm (k - 1) LAY m_X12_two [vI (gi I 95 (x4).toNat), vL (gl J 121 ((x3 + (-1)) - 1).toNat), vL (gl J 121 (x3 + (-1)).toNat)] (mem (P, some 5, some 22) I J) (retL (fun v6 I7 J8 => WP k LAY m_X12_reckons 14 [(0, vR (some 74)), (2, vI x2), (3, vI (x3 + (-1))), (4, vI (x4 + 1))] [] (mem (P, some 5, some 22) I7 (sl J8 121 ((x3 + (-1)) - 1).toNat v6)) Q) (P, some 5, some 22)))))) ∧ ((gi I 95 (x4).toNat) = 22 → ((0 ≤ (x3 - 1) ∧ (x3 - 1) < 500) ∧ (WP k LAY m_X12_reckons 14 [(0, vR (some 74)), (2, vI x2), (3, vI x3), (4, vI (x4 + 1))] [] (mem (P, some 5, some 22) I (sl J 121 (x3 - 1).toNat (1 - (gl J 121 (x3 - 1).toNat)))) Q))))) ∧ (((gi I 95 (x4).toNat) < 10 ∨ (gi I 95 (x4).toNat) = 30) → (WPm (k - 1) LAY m_X12_part [vR (some 74), vI (gi I 95 (x4).toNat), vI (gi I 96 (x4).toNat)] (mem (P, some 5, some 22) I J) (retL (fun v10 I11 J12 => (0 ≤ x3 ∧ x3 < 500) ∧ (WP k LAY m_X12_reckons 14 [(0, vR (some 74)), (2, vI x2), (3, vI (x3 + 1)), (4, vI (x4 + 1))] [] (mem (P, some 5, some 22) I11 (sl J12 121 (x3).toNat v10)) Q)) (P, some 5, some 22)))))))))) : WP k LAY m_X12_reckons 14 [(0, vR (some 74)), (2, vI x2), (3, vI x3), (4, vI x4)] [] (mem (P, some 5, some 22) I J) Q := by
  refine st_iload (pc' := 16) dX12_reckons_14 rfl (j := 3) rfl ?_
  refine st_sipush (pc' := 19) dX12_reckons_16 rfl (by decide) ?_
  refine st_aload_n (pc' := 20) dX12_reckons_19 rfl rfl (j := 0) rfl ?_
  refine G_X12_51_74 dX12_reckons_20 (pc' := 23) rfl rfl ?_
  refine st_imul (pc' := 24) dX12_reckons_23 rfl ?_
  refine st_iload_n (pc' := 25) dX12_reckons_24 rfl rfl (j := 1) rfl ?_
  refine st_iadd (pc' := 26) dX12_reckons_25 rfl ?_
  obtain ⟨e1, h⟩ := h
  obtain ⟨e2, h⟩ := h
  refine st_icmp_ge (tg := 135) (pc' := 29) dX12_reckons_26 (by decide) rfl e1 e2 (fun c => ?_) (fun c => ?_)
  · replace h := h.1 c
    refine st_aload_n (pc' := 136) dX12_reckons_135 rfl rfl (j := 0) rfl ?_
    refine G_X12_219_74 dX12_reckons_136 (pc' := 139) rfl rfl ?_
    refine st_iconst (pc' := 140) dX12_reckons_139 rfl ?_
    refine st_laload (pc' := 141) (v := (gl J 121 0)) dX12_reckons_140 rfl L_121 (by decide) (by decide) (show gl J 121 0 = (gl J 121 0) from rfl) ?_
    exact st_lret dX12_reckons_141 rfl rfl h
  · replace h := h.2 c
    refine st_aload_n (pc' := 30) dX12_reckons_29 rfl rfl (j := 0) rfl ?_
    refine G_X12_111_74 dX12_reckons_30 (pc' := 33) rfl rfl ?_
    refine st_iload (pc' := 35) dX12_reckons_33 rfl (j := 3) rfl ?_
    obtain ⟨e3, h⟩ := h
    refine st_iaload (pc' := 36) (v := (gi I 95 (x4).toNat)) dX12_reckons_35 rfl L_95 (by decide) e3 (show gi I 95 (x4).toNat = (gi I 95 (x4).toNat) from rfl) ?_
    refine st_istore (pc' := 38) (L' := [(5, vI (gi I 95 (x4).toNat)), (0, vR (some 74)), (2, vI x2), (3, vI x3), (4, vI x4)]) dX12_reckons_36 rfl (by decide) rfl ?_
    refine st_iload (pc' := 40) dX12_reckons_38 rfl (j := 0) rfl ?_
    refine st_callS (pc' := 43) (kc := k - 1) (E' := LAY) (cal := m_X12_isPart) (n := 1) (as := [vI (gi I 95 (x4).toNat)]) (S := []) dX12_reckons_40 rfl l_X12_503 k_X12_isPart rfl rfl (Nat.le_of_ble_eq_true rfl) (by omega) ⟨Nat.le_refl _, Nat.le_refl _, Nat.le_refl _, Nat.le_refl _⟩ (Q1 := fun r M' => WP k LAY m_X12_reckons 43 [(5, vI (gi I 95 (x4).toNat)), (0, vR (some 74)), (2, vI x2), (3, vI x3), (4, vI x4)] (r.toList ++ []) M' Q) (S_X12_isPart (by omega) (gi_in _ _ _) ?_) (fun r M' q => q)
    change WP _ LAY m_X12_reckons 43 [(5, vI (gi I 95 (x4).toNat)), (0, vR (some 74)), (2, vI x2), (3, vI x3), (4, vI x4)] [vI (b2i ((gi I 95 (x4).toNat) < 10 ∨ (gi I 95 (x4).toNat) = 30))] (mem (P, some 5, some 22) I J) Q
    refine st_if_eq (tg := 71) (pc' := 46) dX12_reckons_43 (by decide) rfl (b2i_in _) (fun c => ?_) (fun c => ?_)
    · replace h := h.1 (b2i_f.mp c)
      refine st_iload (pc' := 73) dX12_reckons_71 rfl (j := 0) rfl ?_
      refine st_bipush (pc' := 75) dX12_reckons_73 rfl (by decide) ?_
      refine st_icmp_ne (tg := 99) (pc' := 78) dX12_reckons_75 (by decide) rfl (gi_in _ _ _) (by decide) (fun c => ?_) (fun c => ?_)
      · replace h := h.1 c
        refine st_iinc (pc' := 102) (L' := [(3, vI (x3 + (-1))), (5, vI (gi I 95 (x4).toNat)), (0, vR (some 74)), (2, vI x2), (4, vI x4)]) (j := 3) dX12_reckons_99 rfl (by decide) rfl rfl ?_
        refine st_aload_n (pc' := 103) dX12_reckons_102 rfl rfl (j := 2) rfl ?_
        refine G_X12_219_74 dX12_reckons_103 (pc' := 106) rfl rfl ?_
        refine st_iload_n (pc' := 107) dX12_reckons_106 rfl rfl (j := 0) rfl ?_
        refine st_iconst (pc' := 108) dX12_reckons_107 rfl ?_
        refine st_isub (pc' := 109) dX12_reckons_108 rfl ?_
        refine st_iload (pc' := 111) dX12_reckons_109 rfl (j := 1) rfl ?_
        refine st_aload_n (pc' := 112) dX12_reckons_111 rfl rfl (j := 2) rfl ?_
        refine G_X12_219_74 dX12_reckons_112 (pc' := 115) rfl rfl ?_
        refine st_iload_n (pc' := 116) dX12_reckons_115 rfl rfl (j := 0) rfl ?_
        refine st_iconst (pc' := 117) dX12_reckons_116 rfl ?_
        refine st_isub (pc' := 118) dX12_reckons_117 rfl ?_
        obtain ⟨e4, h⟩ := h
        refine st_laload (pc' := 119) (v := (gl J 121 ((x3 + (-1)) - 1).toNat)) dX12_reckons_118 rfl L_121 (by decide) e4 (show gl J 121 ((x3 + (-1)) - 1).toNat = (gl J 121 ((x3 + (-1)) - 1).toNat) from rfl) ?_
        refine st_aload_n (pc' := 120) dX12_reckons_119 rfl rfl (j := 2) rfl ?_
        refine G_X12_219_74 dX12_reckons_120 (pc' := 123) rfl rfl ?_
        refine st_iload_n (pc' := 124) dX12_reckons_123 rfl rfl (j := 0) rfl ?_
        obtain ⟨e5, h⟩ := h
        refine st_laload (pc' := 125) (v := (gl J 121 (x3 + (-1)).toNat)) dX12_reckons_124 rfl L_121 (by decide) e5 (show gl J 121 (x3 + (-1)).toNat = (gl J 121 (x3 + (-1)).toNat) from rfl) ?_
        refine st_callS (pc' := 128) (kc := k - 1) (E' := LAY) (cal := m_X12_two) (n := 3) (as := [vI (gi I 95 (x4).toNat), vL (gl J 121 ((x3 + (-1)) - 1).toNat), vL (gl J 121 (x3 + (-1)).toNat)]) (S := [vI ((x3 + (-1)) - 1), vR (some 121)]) dX12_reckons_125 rfl l_X12_510 k_X12_two rfl rfl (Nat.le_of_ble_eq_true rfl) (by omega) ⟨Nat.le_refl _, Nat.le_refl _, Nat.le_refl _, Nat.le_refl _⟩ h (fun r M' q => ?_)
        obtain ⟨v6, I7, J8, rfl, rfl, h⟩ := q
        change WP _ LAY m_X12_reckons 128 [(3, vI (x3 + (-1))), (5, vI (gi I 95 (x4).toNat)), (0, vR (some 74)), (2, vI x2), (4, vI x4)] [vL v6, vI ((x3 + (-1)) - 1), vR (some 121)] (mem (P, some 5, some 22) I7 J8) Q
        refine st_lastore (pc' := 129) (M' := (mem (P, some 5, some 22) I7 (sl J8 121 ((x3 + (-1)) - 1).toNat v6))) dX12_reckons_128 rfl L_121 (by decide) e4 rfl ?_
        refine st_iinc (pc' := 132) (L' := [(4, vI (x4 + 1)), (3, vI (x3 + (-1))), (5, vI (gi I 95 (x4).toNat)), (0, vR (some 74)), (2, vI x2)]) (j := 4) dX12_reckons_129 rfl (by decide) rfl rfl ?_
        refine st_goto (pc' := 14) dX12_reckons_132 (by decide) ?_
        refine WP_sub (L' := [(0, vR (some 74)), (2, vI x2), (3, vI (x3 + (-1))), (4, vI (x4 + 1))]) [3, 4, 1, 0] rfl ?_
        exact h
      · replace h := h.2 c
        refine st_aload_n (pc' := 79) dX12_reckons_78 rfl rfl (j := 1) rfl ?_
        refine G_X12_219_74 dX12_reckons_79 (pc' := 82) rfl rfl ?_
        refine st_iload_n (pc' := 83) dX12_reckons_82 rfl rfl (j := 3) rfl ?_
        refine st_iconst (pc' := 84) dX12_reckons_83 rfl ?_
        refine st_isub (pc' := 85) dX12_reckons_84 rfl ?_
        refine st_lconst (pc' := 86) (z := 1) dX12_reckons_85 rfl (by decide) ?_
        refine st_aload_n (pc' := 87) dX12_reckons_86 rfl rfl (j := 1) rfl ?_
        refine G_X12_219_74 dX12_reckons_87 (pc' := 90) rfl rfl ?_
        refine st_iload_n (pc' := 91) dX12_reckons_90 rfl rfl (j := 3) rfl ?_
        refine st_iconst (pc' := 92) dX12_reckons_91 rfl ?_
        refine st_isub (pc' := 93) dX12_reckons_92 rfl ?_
        obtain ⟨e9, h⟩ := h
        refine st_laload (pc' := 94) (v := (gl J 121 (x3 - 1).toNat)) dX12_reckons_93 rfl L_121 (by decide) e9 (show gl J 121 (x3 - 1).toNat = (gl J 121 (x3 - 1).toNat) from rfl) ?_
        refine st_lsub (pc' := 95) dX12_reckons_94 rfl ?_
        refine st_lastore (pc' := 96) (M' := (mem (P, some 5, some 22) I (sl J 121 (x3 - 1).toNat (1 - (gl J 121 (x3 - 1).toNat))))) dX12_reckons_95 rfl L_121 (by decide) e9 rfl ?_
        refine st_goto (pc' := 129) dX12_reckons_96 (by decide) ?_
        refine st_iinc (pc' := 132) (L' := [(4, vI (x4 + 1)), (5, vI (gi I 95 (x4).toNat)), (0, vR (some 74)), (2, vI x2), (3, vI x3)]) (j := 4) dX12_reckons_129 rfl (by decide) rfl rfl ?_
        refine st_goto (pc' := 14) dX12_reckons_132 (by decide) ?_
        refine WP_sub (L' := [(0, vR (some 74)), (2, vI x2), (3, vI x3), (4, vI (x4 + 1))]) [2, 3, 4, 0] rfl ?_
        exact h
    · replace h := h.2 (b2i_t.mp c)
      refine st_aload_n (pc' := 47) dX12_reckons_46 rfl rfl (j := 1) rfl ?_
      refine G_X12_219_74 dX12_reckons_47 (pc' := 50) rfl rfl ?_
      refine st_iload_n (pc' := 51) dX12_reckons_50 rfl rfl (j := 3) rfl ?_
      refine st_aload_n (pc' := 52) dX12_reckons_51 rfl rfl (j := 1) rfl ?_
      refine st_iload (pc' := 54) dX12_reckons_52 rfl (j := 0) rfl ?_
      refine st_aload_n (pc' := 55) dX12_reckons_54 rfl rfl (j := 1) rfl ?_
      refine G_X12_114_74 dX12_reckons_55 (pc' := 58) rfl rfl ?_
      refine st_iload (pc' := 60) dX12_reckons_58 rfl (j := 4) rfl ?_
      refine st_iaload (pc' := 61) (v := (gi I 96 (x4).toNat)) dX12_reckons_60 rfl L_96 (by decide) e3 (show gi I 96 (x4).toNat = (gi I 96 (x4).toNat) from rfl) ?_
      refine st_callV (pc' := 64) (kc := k - 1) (E' := LAY) (cal := m_X12_part) (n := 2) (as := [vI (gi I 95 (x4).toNat), vI (gi I 96 (x4).toNat)]) (S := [vI x3, vR (some 121)]) dX12_reckons_61 rfl l_X12_506 k_X12_part rfl L_74 c_X12 rfl rfl (Nat.le_of_ble_eq_true rfl) (by omega) ⟨Nat.le_refl _, Nat.le_refl _, Nat.le_refl _, Nat.le_refl _⟩ h (fun r M' q => ?_)
      obtain ⟨v10, I11, J12, rfl, rfl, h⟩ := q
      change WP _ LAY m_X12_reckons 64 [(5, vI (gi I 95 (x4).toNat)), (0, vR (some 74)), (2, vI x2), (3, vI x3), (4, vI x4)] [vL v10, vI x3, vR (some 121)] (mem (P, some 5, some 22) I11 J12) Q
      obtain ⟨e13, h⟩ := h
      refine st_lastore (pc' := 65) (M' := (mem (P, some 5, some 22) I11 (sl J12 121 (x3).toNat v10))) dX12_reckons_64 rfl L_121 (by decide) e13 rfl ?_
      refine st_iinc (pc' := 68) (L' := [(3, vI (x3 + 1)), (5, vI (gi I 95 (x4).toNat)), (0, vR (some 74)), (2, vI x2), (4, vI x4)]) (j := 3) dX12_reckons_65 rfl (by decide) rfl rfl ?_
      refine st_goto (pc' := 129) dX12_reckons_68 (by decide) ?_
      refine st_iinc (pc' := 132) (L' := [(4, vI (x4 + 1)), (3, vI (x3 + 1)), (5, vI (gi I 95 (x4).toNat)), (0, vR (some 74)), (2, vI x2)]) (j := 4) dX12_reckons_129 rfl (by decide) rfl rfl ?_
      refine st_goto (pc' := 14) dX12_reckons_132 (by decide) ?_
      refine WP_sub (L' := [(0, vR (some 74)), (2, vI x2), (3, vI (x3 + 1)), (4, vI (x4 + 1))]) [3, 4, 1, 0] rfl ?_
      exact h
set_option maxRecDepth 20000 in
set_option maxHeartbeats 4000000 in
theorem B_X12_between_0 {k : Nat} {P : Option Nat} {I : Nat → Nat → Int32} {J : Nat → Nat → Int64} {x0 : Int} {x2 : Int} {x3 : Int} {Q : Option AV → Mem → Prop} (hk : 0 ≤ k) (h : inR x2 ∧ (inL x0 ∧ ((x2 ≤ x0 → (inR x3 ∧ ((x0 ≤ x3 → (Q (some (vI x0)) (mem (P, some 5, some 22) I J))) ∧ (¬ x0 ≤ x3 → (Q (some (vI x3)) (mem (P, some 5, some 22) I J)))))) ∧ (¬ x2 ≤ x0 → (Q (some (vI x2)) (mem (P, some 5, some 22) I J)))))) : WP k LAY m_X12_between 0 [(0, vL x0), (2, vI x2), (3, vI x3)] [] (mem (P, some 5, some 22) I J) Q := by
  refine st_lload_n (pc' := 1) dX12_between_0 rfl rfl (j := 0) rfl ?_
  refine st_iload_n (pc' := 2) dX12_between_1 rfl rfl (j := 1) rfl ?_
  obtain ⟨e1, h⟩ := h
  refine st_i2l (pc' := 3) dX12_between_2 rfl e1 ?_
  obtain ⟨e2, h⟩ := h
  refine st_lif_ge (tg := 11) (pc' := 7) (pc1 := 4) dX12_between_3 rfl dX12_between_4 (by decide) rfl e2 (L_of e1) (fun c => ?_) (fun c => ?_)
  · replace h := h.1 c
    refine st_lload_n (pc' := 12) dX12_between_11 rfl rfl (j := 0) rfl ?_
    refine st_iload_n (pc' := 13) dX12_between_12 rfl rfl (j := 2) rfl ?_
    obtain ⟨e3, h⟩ := h
    refine st_i2l (pc' := 14) dX12_between_13 rfl e3 ?_
    refine st_lif_le (tg := 22) (pc' := 18) (pc1 := 15) dX12_between_14 rfl dX12_between_15 (by decide) rfl e2 (L_of e3) (fun c => ?_) (fun c => ?_)
    · replace h := h.1 c
      refine st_lload_n (pc' := 23) dX12_between_22 rfl rfl (j := 0) rfl ?_
      refine st_l2i (pc' := 24) dX12_between_23 rfl ?_
      exact st_iret (ty := .int) dX12_between_24 rfl rfl rfl h
    · replace h := h.2 c
      refine st_iload_n (pc' := 19) dX12_between_18 rfl rfl (j := 2) rfl ?_
      refine st_goto (pc' := 24) dX12_between_19 (by decide) ?_
      exact st_iret (ty := .int) dX12_between_24 rfl rfl rfl h
  · replace h := h.2 c
    refine st_iload_n (pc' := 8) dX12_between_7 rfl rfl (j := 1) rfl ?_
    refine st_goto (pc' := 24) dX12_between_8 (by decide) ?_
    exact st_iret (ty := .int) dX12_between_24 rfl rfl rfl h
set_option maxRecDepth 20000 in
set_option maxHeartbeats 4000000 in
theorem B_X12_longOf_0 {k : Nat} {P : Option Nat} {I : Nat → Nat → Int32} {J : Nat → Nat → Int64} {x1 : Int} {x2 : Int} {x3 : Int} {Q : Option AV → Mem → Prop} (hk : 1 ≤ k) (h : (0 ≤ (gi I 74 13) ∧ (gi I 74 13) < 2) ∧ ((¬ (gi I 91 (gi I 74 13).toNat) = (-1) → (WPm (k - 1) LAY m_X12_reckons [vR (some 74), vI (gi I 91 (gi I 74 13).toNat), vI (gi I 92 (gi I 74 13).toNat)] (mem (P, some 5, some 22) (si (si (si I 74 69 x1) 74 70 x2) 74 71 x3) J) (retL (fun v2 I3 J4 => inL v2 ∧ ((1 ≤ v2 → ((v2 ≤ 500 → (Q (some (vI v2)) (mem (P, some 5, some 22) I3 J4))) ∧ (¬ v2 ≤ 500 → (Q (some (vI 500)) (mem (P, some 5, some 22) I3 J4))))) ∧ (¬ 1 ≤ v2 → (Q (some (vI 1)) (mem (P, some 5, some 22) I3 J4))))) (P, some 5, some 22)))) ∧ ((gi I 91 (gi I 74 13).toNat) = (-1) → ((0 ≤ ((14 * (gi I 74 13)) + x3) ∧ ((14 * (gi I 74 13)) + x3) < 28) ∧ (Q (some (vI (gi I 79 ((14 * (gi I 74 13)) + x3).toNat))) (mem (P, some 5, some 22) (si (si (si I 74 69 x1) 74 70 x2) 74 71 x3) J)))))) : WP k LAY m_X12_longOf 0 [(0, vR (some 74)), (1, vI x1), (2, vI x2), (3, vI x3)] [] (mem (P, some 5, some 22) I J) Q := by
  refine st_aload_n (pc' := 1) dX12_longOf_0 rfl rfl (j := 0) rfl ?_
  refine st_iload_n (pc' := 2) dX12_longOf_1 rfl rfl (j := 1) rfl ?_
  refine P_X12_222_74 dX12_longOf_2 (pc' := 5) rfl rfl ?_
  refine st_aload_n (pc' := 6) dX12_longOf_5 rfl rfl (j := 0) rfl ?_
  refine st_iload_n (pc' := 7) dX12_longOf_6 rfl rfl (j := 2) rfl ?_
  refine P_X12_225_74 dX12_longOf_7 (pc' := 10) rfl rfl ?_
  refine st_aload_n (pc' := 11) dX12_longOf_10 rfl rfl (j := 0) rfl ?_
  refine st_iload_n (pc' := 12) dX12_longOf_11 rfl rfl (j := 3) rfl ?_
  refine P_X12_228_74 dX12_longOf_12 (pc' := 15) rfl rfl ?_
  refine st_aload_n (pc' := 16) dX12_longOf_15 rfl rfl (j := 0) rfl ?_
  refine G_X12_99_74 dX12_longOf_16 (pc' := 19) rfl rfl ?_
  refine st_aload_n (pc' := 20) dX12_longOf_19 rfl rfl (j := 0) rfl ?_
  refine G_X12_51_74 dX12_longOf_20 (pc' := 23) rfl rfl ?_
  rw [show gi (si (si (si I 74 69 x1) 74 70 x2) 74 71 x3) 74 13 = (gi I 74 13) from ((gi_idx _ _ _ (by decide)).trans ((gi_idx _ _ _ (by decide)).trans (gi_idx _ _ _ (by decide))))]
  obtain ⟨e1, h⟩ := h
  refine st_iaload (pc' := 24) (v := (gi I 91 (gi I 74 13).toNat)) dX12_longOf_23 rfl L_91 (by decide) e1 (show gi (si (si (si I 74 69 x1) 74 70 x2) 74 71 x3) 91 (gi I 74 13).toNat = (gi I 91 (gi I 74 13).toNat) from ((gi_cell _ _ _ _ (by decide)).trans ((gi_cell _ _ _ _ (by decide)).trans (gi_cell _ _ _ _ (by decide))))) ?_
  refine st_iconst (pc' := 25) dX12_longOf_24 rfl ?_
  refine st_icmp_ne (tg := 45) (pc' := 28) dX12_longOf_25 (by decide) rfl (gi_in _ _ _) (by decide) (fun c => ?_) (fun c => ?_)
  · replace h := h.1 c
    refine st_aload_n (pc' := 46) dX12_longOf_45 rfl rfl (j := 0) rfl ?_
    refine st_aload_n (pc' := 47) dX12_longOf_46 rfl rfl (j := 0) rfl ?_
    refine G_X12_99_74 dX12_longOf_47 (pc' := 50) rfl rfl ?_
    refine st_aload_n (pc' := 51) dX12_longOf_50 rfl rfl (j := 0) rfl ?_
    refine G_X12_51_74 dX12_longOf_51 (pc' := 54) rfl rfl ?_
    rw [show gi (si (si (si I 74 69 x1) 74 70 x2) 74 71 x3) 74 13 = (gi I 74 13) from ((gi_idx _ _ _ (by decide)).trans ((gi_idx _ _ _ (by decide)).trans (gi_idx _ _ _ (by decide))))]
    refine st_iaload (pc' := 55) (v := (gi I 91 (gi I 74 13).toNat)) dX12_longOf_54 rfl L_91 (by decide) e1 (show gi (si (si (si I 74 69 x1) 74 70 x2) 74 71 x3) 91 (gi I 74 13).toNat = (gi I 91 (gi I 74 13).toNat) from ((gi_cell _ _ _ _ (by decide)).trans ((gi_cell _ _ _ _ (by decide)).trans (gi_cell _ _ _ _ (by decide))))) ?_
    refine st_aload_n (pc' := 56) dX12_longOf_55 rfl rfl (j := 0) rfl ?_
    refine G_X12_102_74 dX12_longOf_56 (pc' := 59) rfl rfl ?_
    refine st_aload_n (pc' := 60) dX12_longOf_59 rfl rfl (j := 0) rfl ?_
    refine G_X12_51_74 dX12_longOf_60 (pc' := 63) rfl rfl ?_
    rw [show gi (si (si (si I 74 69 x1) 74 70 x2) 74 71 x3) 74 13 = (gi I 74 13) from ((gi_idx _ _ _ (by decide)).trans ((gi_idx _ _ _ (by decide)).trans (gi_idx _ _ _ (by decide))))]
    refine st_iaload (pc' := 64) (v := (gi I 92 (gi I 74 13).toNat)) dX12_longOf_63 rfl L_92 (by decide) e1 (show gi (si (si (si I 74 69 x1) 74 70 x2) 74 71 x3) 92 (gi I 74 13).toNat = (gi I 92 (gi I 74 13).toNat) from ((gi_cell _ _ _ _ (by decide)).trans ((gi_cell _ _ _ _ (by decide)).trans (gi_cell _ _ _ _ (by decide))))) ?_
    refine st_callV (pc' := 67) (kc := k - 1) (E' := LAY) (cal := m_X12_reckons) (n := 2) (as := [vI (gi I 91 (gi I 74 13).toNat), vI (gi I 92 (gi I 74 13).toNat)]) (S := []) dX12_longOf_64 rfl l_X12_514 k_X12_reckons rfl L_74 c_X12 rfl rfl (Nat.le_of_ble_eq_true rfl) (by omega) ⟨Nat.le_refl _, Nat.le_refl _, Nat.le_refl _, Nat.le_refl _⟩ h (fun r M' q => ?_)
    obtain ⟨v2, I3, J4, rfl, rfl, h⟩ := q
    change WP _ LAY m_X12_longOf 67 [(0, vR (some 74)), (1, vI x1), (2, vI x2), (3, vI x3)] [vL v2] (mem (P, some 5, some 22) I3 J4) Q
    refine st_iconst (pc' := 68) dX12_longOf_67 rfl ?_
    refine st_sipush (pc' := 71) dX12_longOf_68 rfl (by decide) ?_
    refine st_callS (pc' := 74) (kc := k - 1) (E' := LAY) (cal := m_X12_between) (n := 3) (as := [vL v2, vI 1, vI 500]) (S := []) dX12_longOf_71 rfl l_X12_517 k_X12_between rfl rfl (Nat.le_of_ble_eq_true rfl) (by omega) ⟨Nat.le_refl _, Nat.le_refl _, Nat.le_refl _, Nat.le_refl _⟩ (Q1 := fun r M' => WP k LAY m_X12_longOf 74 [(0, vR (some 74)), (1, vI x1), (2, vI x2), (3, vI x3)] (r.toList ++ []) M' Q) (WPm.of k_X12_between.1 (Nat.le_of_ble_eq_true rfl) (B_X12_between_0 (by omega) ?_)) (fun r M' q => q)
    refine ⟨(by decide), ?_⟩
    obtain ⟨e5, h⟩ := h
    refine ⟨e5, ?_⟩
    refine ⟨fun c => ?_, fun c => ?_⟩
    · replace h := h.1 c
      refine ⟨(by decide), ?_⟩
      refine ⟨fun c => ?_, fun c => ?_⟩
      · replace h := h.1 c
        change WP _ LAY m_X12_longOf 74 [(0, vR (some 74)), (1, vI x1), (2, vI x2), (3, vI x3)] [vI v2] (mem (P, some 5, some 22) I3 J4) Q
        exact st_iret (ty := .int) dX12_longOf_74 rfl rfl rfl h
      · replace h := h.2 c
        change WP _ LAY m_X12_longOf 74 [(0, vR (some 74)), (1, vI x1), (2, vI x2), (3, vI x3)] [vI 500] (mem (P, some 5, some 22) I3 J4) Q
        exact st_iret (ty := .int) dX12_longOf_74 rfl rfl rfl h
    · replace h := h.2 c
      change WP _ LAY m_X12_longOf 74 [(0, vR (some 74)), (1, vI x1), (2, vI x2), (3, vI x3)] [vI 1] (mem (P, some 5, some 22) I3 J4) Q
      exact st_iret (ty := .int) dX12_longOf_74 rfl rfl rfl h
  · replace h := h.2 c
    refine st_aload_n (pc' := 29) dX12_longOf_28 rfl rfl (j := 0) rfl ?_
    refine G_X12_63_74 dX12_longOf_29 (pc' := 32) rfl rfl ?_
    refine st_bipush (pc' := 34) dX12_longOf_32 rfl (by decide) ?_
    refine st_aload_n (pc' := 35) dX12_longOf_34 rfl rfl (j := 0) rfl ?_
    refine G_X12_51_74 dX12_longOf_35 (pc' := 38) rfl rfl ?_
    rw [show gi (si (si (si I 74 69 x1) 74 70 x2) 74 71 x3) 74 13 = (gi I 74 13) from ((gi_idx _ _ _ (by decide)).trans ((gi_idx _ _ _ (by decide)).trans (gi_idx _ _ _ (by decide))))]
    refine st_imul (pc' := 39) dX12_longOf_38 rfl ?_
    refine st_iload_n (pc' := 40) dX12_longOf_39 rfl rfl (j := 3) rfl ?_
    refine st_iadd (pc' := 41) dX12_longOf_40 rfl ?_
    obtain ⟨e6, h⟩ := h
    refine st_iaload (pc' := 42) (v := (gi I 79 ((14 * (gi I 74 13)) + x3).toNat)) dX12_longOf_41 rfl L_79 (by decide) e6 (show gi (si (si (si I 74 69 x1) 74 70 x2) 74 71 x3) 79 ((14 * (gi I 74 13)) + x3).toNat = (gi I 79 ((14 * (gi I 74 13)) + x3).toNat) from ((gi_cell _ _ _ _ (by decide)).trans ((gi_cell _ _ _ _ (by decide)).trans (gi_cell _ _ _ _ (by decide))))) ?_
    refine st_goto (pc' := 74) dX12_longOf_42 (by decide) ?_
    exact st_iret (ty := .int) dX12_longOf_74 rfl rfl rfl h
set_option maxRecDepth 20000 in
set_option maxHeartbeats 4000000 in
theorem B_X12_minutesOf_0 {k : Nat} {P : Option Nat} {I : Nat → Nat → Int32} {J : Nat → Nat → Int64} {x1 : Int} {x2 : Int} {Q : Option AV → Mem → Prop} (hk : 0 ≤ k) (h : WP k LAY m_X12_minutesOf 5 [(0, vR (some 74)), (1, vI x1), (2, vI x2), (3, vI 0), (4, vI 0)] [] (mem (P, some 5, some 22) I J) Q) : WP k LAY m_X12_minutesOf 0 [(0, vR (some 74)), (1, vI x1), (2, vI x2)] [] (mem (P, some 5, some 22) I J) Q := by
  refine st_iconst (pc' := 1) dX12_minutesOf_0 rfl ?_
  refine st_istore_n (pc' := 2) (L' := [(3, vI 0), (0, vR (some 74)), (1, vI x1), (2, vI x2)]) dX12_minutesOf_1 rfl rfl (by decide) rfl ?_
  refine st_iconst (pc' := 3) dX12_minutesOf_2 rfl ?_
  refine st_istore (pc' := 5) (L' := [(4, vI 0), (3, vI 0), (0, vR (some 74)), (1, vI x1), (2, vI x2)]) dX12_minutesOf_3 rfl (by decide) rfl ?_
  refine WP_sub (L' := [(0, vR (some 74)), (1, vI x1), (2, vI x2), (3, vI 0), (4, vI 0)]) [2, 3, 4, 1, 0] rfl ?_
  exact h
set_option maxRecDepth 20000 in
set_option maxHeartbeats 4000000 in
theorem B_X12_minutesOf_5 {k : Nat} {P : Option Nat} {I : Nat → Nat → Int32} {J : Nat → Nat → Int64} {x1 : Int} {x2 : Int} {x3 : Int} {x4 : Int} {Q : Option AV → Mem → Prop} (hk : 1 ≤ k) (h : (0 ≤ (gi I 74 13) ∧ (gi I 74 13) < 2) ∧ (inR x4 ∧ (((gi I 77 (gi I 74 13).toNat) ≤ x4 → (Q (some (vI x3)) (mem (P, some 5, some 22) I J))) ∧ (¬ (gi I 77 (gi I 74 13).toNat) ≤ x4 → ((¬ (and32 (shr32 x2 x4) 1 = 1) → (WP k LAY m_X12_minutesOf 5 [(0, vR (some 74)), (1, vI x1), (2, vI x2), (3, vI (x3 + 0)), (4, vI (x4 + 1))] [] (mem (P, some 5, some 22) I J) Q)) ∧ ((and32 (shr32 x2 x4) 1 = 1) → (WPm (k - 1) LAY m_X12_longOf [vR (some 74), vI 0, vI x1, vI x4] (mem (P, some 5, some 22) I J) (retI (fun v3 I4 J5 => WP k LAY m_X12_minutesOf 5 [(0, vR (some 74)), (1, vI x1), (2, vI x2), (3, vI (x3 + v3)), (4, vI (x4 + 1))] [] (mem (P, some 5, some 22) I4 J5) Q) (P, some 5, some 22))))))))) : WP k LAY m_X12_minutesOf 5 [(0, vR (some 74)), (1, vI x1), (2, vI x2), (3, vI x3), (4, vI x4)] [] (mem (P, some 5, some 22) I J) Q := by
  refine st_iload (pc' := 7) dX12_minutesOf_5 rfl (j := 4) rfl ?_
  refine st_aload_n (pc' := 8) dX12_minutesOf_7 rfl rfl (j := 0) rfl ?_
  refine G_X12_57_74 dX12_minutesOf_8 (pc' := 11) rfl rfl ?_
  refine st_aload_n (pc' := 12) dX12_minutesOf_11 rfl rfl (j := 0) rfl ?_
  refine G_X12_51_74 dX12_minutesOf_12 (pc' := 15) rfl rfl ?_
  obtain ⟨e1, h⟩ := h
  refine st_iaload (pc' := 16) (v := (gi I 77 (gi I 74 13).toNat)) dX12_minutesOf_15 rfl L_77 (by decide) e1 (show gi I 77 (gi I 74 13).toNat = (gi I 77 (gi I 74 13).toNat) from rfl) ?_
  obtain ⟨e2, h⟩ := h
  refine st_icmp_ge (tg := 49) (pc' := 19) dX12_minutesOf_16 (by decide) rfl e2 (gi_in _ _ _) (fun c => ?_) (fun c => ?_)
  · replace h := h.1 c
    refine st_iload_n (pc' := 50) dX12_minutesOf_49 rfl rfl (j := 3) rfl ?_
    exact st_iret (ty := .int) dX12_minutesOf_50 rfl rfl rfl h
  · replace h := h.2 c
    refine st_iload_n (pc' := 20) dX12_minutesOf_19 rfl rfl (j := 3) rfl ?_
    refine st_iload_n (pc' := 21) dX12_minutesOf_20 rfl rfl (j := 2) rfl ?_
    refine st_iload (pc' := 23) dX12_minutesOf_21 rfl (j := 4) rfl ?_
    refine st_callS (pc' := 26) (kc := k - 1) (E' := LAY) (cal := m_X12_has) (n := 2) (as := [vI x2, vI x4]) (S := [vI x3]) dX12_minutesOf_23 rfl l_X12_552 k_X12_has rfl rfl (Nat.le_of_ble_eq_true rfl) (by omega) ⟨Nat.le_refl _, Nat.le_refl _, Nat.le_refl _, Nat.le_refl _⟩ (Q1 := fun r M' => WP k LAY m_X12_minutesOf 26 [(0, vR (some 74)), (1, vI x1), (2, vI x2), (3, vI x3), (4, vI x4)] (r.toList ++ [vI x3]) M' Q) (S_X12_has (by omega)  ?_) (fun r M' q => q)
    change WP _ LAY m_X12_minutesOf 26 [(0, vR (some 74)), (1, vI x1), (2, vI x2), (3, vI x3), (4, vI x4)] [vI (b2i (and32 (shr32 x2 x4) 1 = 1)), vI x3] (mem (P, some 5, some 22) I J) Q
    refine st_if_eq (tg := 40) (pc' := 29) dX12_minutesOf_26 (by decide) rfl (b2i_in _) (fun c => ?_) (fun c => ?_)
    · replace h := h.1 (b2i_f.mp c)
      refine st_iconst (pc' := 41) dX12_minutesOf_40 rfl ?_
      refine st_iadd (pc' := 42) dX12_minutesOf_41 rfl ?_
      refine st_istore_n (pc' := 43) (L' := [(3, vI (x3 + 0)), (0, vR (some 74)), (1, vI x1), (2, vI x2), (4, vI x4)]) dX12_minutesOf_42 rfl rfl (by decide) rfl ?_
      refine st_iinc (pc' := 46) (L' := [(4, vI (x4 + 1)), (3, vI (x3 + 0)), (0, vR (some 74)), (1, vI x1), (2, vI x2)]) (j := 4) dX12_minutesOf_43 rfl (by decide) rfl rfl ?_
      refine st_goto (pc' := 5) dX12_minutesOf_46 (by decide) ?_
      refine WP_sub (L' := [(0, vR (some 74)), (1, vI x1), (2, vI x2), (3, vI (x3 + 0)), (4, vI (x4 + 1))]) [2, 3, 4, 1, 0] rfl ?_
      exact h
    · replace h := h.2 (b2i_t.mp c)
      refine st_aload_n (pc' := 30) dX12_minutesOf_29 rfl rfl (j := 0) rfl ?_
      refine st_iconst (pc' := 31) dX12_minutesOf_30 rfl ?_
      refine st_iload_n (pc' := 32) dX12_minutesOf_31 rfl rfl (j := 1) rfl ?_
      refine st_iload (pc' := 34) dX12_minutesOf_32 rfl (j := 4) rfl ?_
      refine st_callV (pc' := 37) (kc := k - 1) (E' := LAY) (cal := m_X12_longOf) (n := 3) (as := [vI 0, vI x1, vI x4]) (S := [vI x3]) dX12_minutesOf_34 rfl l_X12_530 k_X12_longOf rfl L_74 c_X12 rfl rfl (Nat.le_of_ble_eq_true rfl) (by omega) ⟨Nat.le_refl _, Nat.le_refl _, Nat.le_refl _, Nat.le_refl _⟩ h (fun r M' q => ?_)
      obtain ⟨v3, I4, J5, rfl, rfl, h⟩ := q
      change WP _ LAY m_X12_minutesOf 37 [(0, vR (some 74)), (1, vI x1), (2, vI x2), (3, vI x3), (4, vI x4)] [vI v3, vI x3] (mem (P, some 5, some 22) I4 J5) Q
      refine st_goto (pc' := 41) dX12_minutesOf_37 (by decide) ?_
      refine st_iadd (pc' := 42) dX12_minutesOf_41 rfl ?_
      refine st_istore_n (pc' := 43) (L' := [(3, vI (x3 + v3)), (0, vR (some 74)), (1, vI x1), (2, vI x2), (4, vI x4)]) dX12_minutesOf_42 rfl rfl (by decide) rfl ?_
      refine st_iinc (pc' := 46) (L' := [(4, vI (x4 + 1)), (3, vI (x3 + v3)), (0, vR (some 74)), (1, vI x1), (2, vI x2)]) (j := 4) dX12_minutesOf_43 rfl (by decide) rfl rfl ?_
      refine st_goto (pc' := 5) dX12_minutesOf_46 (by decide) ?_
      refine WP_sub (L' := [(0, vR (some 74)), (1, vI x1), (2, vI x2), (3, vI (x3 + v3)), (4, vI (x4 + 1))]) [2, 3, 4, 1, 0] rfl ?_
      exact h
set_option maxRecDepth 20000 in
set_option maxHeartbeats 4000000 in
theorem B_X12_workOf_0 {k : Nat} {P : Option Nat} {I : Nat → Nat → Int32} {J : Nat → Nat → Int64} {x1 : Int} {x2 : Int} {x3 : Int} {Q : Option AV → Mem → Prop} (hk : 1 ≤ k) (h : (0 ≤ ((6 * 0) + x1) ∧ ((6 * 0) + x1) < 132) ∧ (WPm (k - 1) LAY m_X12_closed [vR (some 74), vI x2, vI (or32 (gi I 111 ((6 * 0) + x1).toNat) (gi I 112 ((6 * 0) + x1).toNat)), vI x3] (mem (P, some 5, some 22) I J) (retI (fun v2 I3 J4 => WPm (k - 1) LAY m_X12_minutesOf [vR (some 74), vI x1, vI v2] (mem (P, some 5, some 22) I3 J4) (retI (fun v5 I6 J7 => Q (some (vI v5)) (mem (P, some 5, some 22) I6 J7)) (P, some 5, some 22))) (P, some 5, some 22)))) : WP k LAY m_X12_workOf 0 [(0, vR (some 74)), (1, vI x1), (2, vI x2), (3, vI x3)] [] (mem (P, some 5, some 22) I J) Q := by
  refine st_aload_n (pc' := 1) dX12_workOf_0 rfl rfl (j := 0) rfl ?_
  refine st_iload_n (pc' := 2) dX12_workOf_1 rfl rfl (j := 1) rfl ?_
  refine st_aload_n (pc' := 3) dX12_workOf_2 rfl rfl (j := 0) rfl ?_
  refine st_iload_n (pc' := 4) dX12_workOf_3 rfl rfl (j := 2) rfl ?_
  refine st_aload_n (pc' := 5) dX12_workOf_4 rfl rfl (j := 0) rfl ?_
  refine st_iconst (pc' := 6) dX12_workOf_5 rfl ?_
  refine st_iload_n (pc' := 7) dX12_workOf_6 rfl rfl (j := 1) rfl ?_
  refine st_callV (pc' := 10) (kc := k - 1) (E' := LAY) (cal := m_X12_known) (n := 2) (as := [vI 0, vI x1]) (S := [vI x2, vR (some 74), vI x1, vR (some 74)]) dX12_workOf_7 rfl l_X12_473 k_X12_known rfl L_74 c_X12 rfl rfl (Nat.le_of_ble_eq_true rfl) (by omega) ⟨Nat.le_refl _, Nat.le_refl _, Nat.le_refl _, Nat.le_refl _⟩ (Q1 := fun r M' => WP k LAY m_X12_workOf 10 [(0, vR (some 74)), (1, vI x1), (2, vI x2), (3, vI x3)] (r.toList ++ [vI x2, vR (some 74), vI x1, vR (some 74)]) M' Q) (WPm.of k_X12_known.1 (Nat.le_of_ble_eq_true rfl) (B_X12_known_0 (by omega) ?_)) (fun r M' q => q)
  obtain ⟨e1, h⟩ := h
  refine ⟨e1, ?_⟩
  change WP _ LAY m_X12_workOf 10 [(0, vR (some 74)), (1, vI x1), (2, vI x2), (3, vI x3)] [vI (or32 (gi I 111 ((6 * 0) + x1).toNat) (gi I 112 ((6 * 0) + x1).toNat)), vI x2, vR (some 74), vI x1, vR (some 74)] (mem (P, some 5, some 22) I J) Q
  refine st_iload_n (pc' := 11) dX12_workOf_10 rfl rfl (j := 3) rfl ?_
  refine st_callV (pc' := 14) (kc := k - 1) (E' := LAY) (cal := m_X12_closed) (n := 3) (as := [vI x2, vI (or32 (gi I 111 ((6 * 0) + x1).toNat) (gi I 112 ((6 * 0) + x1).toNat)), vI x3]) (S := [vI x1, vR (some 74)]) dX12_workOf_11 rfl l_X12_559 k_X12_closed rfl L_74 c_X12 rfl rfl (Nat.le_of_ble_eq_true rfl) (by omega) ⟨Nat.le_refl _, Nat.le_refl _, Nat.le_refl _, Nat.le_refl _⟩ h (fun r M' q => ?_)
  obtain ⟨v2, I3, J4, rfl, rfl, h⟩ := q
  change WP _ LAY m_X12_workOf 14 [(0, vR (some 74)), (1, vI x1), (2, vI x2), (3, vI x3)] [vI v2, vI x1, vR (some 74)] (mem (P, some 5, some 22) I3 J4) Q
  refine st_callV (pc' := 17) (kc := k - 1) (E' := LAY) (cal := m_X12_minutesOf) (n := 2) (as := [vI x1, vI v2]) (S := []) dX12_workOf_14 rfl l_X12_595 k_X12_minutesOf rfl L_74 c_X12 rfl rfl (Nat.le_of_ble_eq_true rfl) (by omega) ⟨Nat.le_refl _, Nat.le_refl _, Nat.le_refl _, Nat.le_refl _⟩ h (fun r M' q => ?_)
  obtain ⟨v5, I6, J7, rfl, rfl, h⟩ := q
  change WP _ LAY m_X12_workOf 17 [(0, vR (some 74)), (1, vI x1), (2, vI x2), (3, vI x3)] [vI v5] (mem (P, some 5, some 22) I6 J7) Q
  exact st_iret (ty := .int) dX12_workOf_17 rfl rfl rfl h
set_option maxRecDepth 20000 in
set_option maxHeartbeats 4000000 in
theorem B_X12_allWork_0 {k : Nat} {P : Option Nat} {I : Nat → Nat → Int32} {J : Nat → Nat → Int64} {x1 : Int} {x2 : Int} {Q : Option AV → Mem → Prop} (hk : 0 ≤ k) (h : WP k LAY m_X12_allWork 5 [(0, vR (some 74)), (1, vI x1), (2, vI x2), (3, vI 0), (4, vI 0)] [] (mem (P, some 5, some 22) I J) Q) : WP k LAY m_X12_allWork 0 [(0, vR (some 74)), (1, vI x1), (2, vI x2)] [] (mem (P, some 5, some 22) I J) Q := by
  refine st_iconst (pc' := 1) dX12_allWork_0 rfl ?_
  refine st_istore_n (pc' := 2) (L' := [(3, vI 0), (0, vR (some 74)), (1, vI x1), (2, vI x2)]) dX12_allWork_1 rfl rfl (by decide) rfl ?_
  refine st_iconst (pc' := 3) dX12_allWork_2 rfl ?_
  refine st_istore (pc' := 5) (L' := [(4, vI 0), (3, vI 0), (0, vR (some 74)), (1, vI x1), (2, vI x2)]) dX12_allWork_3 rfl (by decide) rfl ?_
  refine WP_sub (L' := [(0, vR (some 74)), (1, vI x1), (2, vI x2), (3, vI 0), (4, vI 0)]) [2, 3, 4, 1, 0] rfl ?_
  exact h
set_option maxRecDepth 20000 in
set_option maxHeartbeats 4000000 in
theorem B_X12_allWork_5 {k : Nat} {P : Option Nat} {I : Nat → Nat → Int32} {J : Nat → Nat → Int64} {x1 : Int} {x2 : Int} {x3 : Int} {x4 : Int} {Q : Option AV → Mem → Prop} (hk : 1 ≤ k) (h : (0 ≤ (gi I 74 13) ∧ (gi I 74 13) < 2) ∧ (inR x4 ∧ (((gi I 83 (gi I 74 13).toNat) ≤ x4 → (Q (some (vI x3)) (mem (P, some 5, some 22) I J))) ∧ (¬ (gi I 83 (gi I 74 13).toNat) ≤ x4 → (WPm (k - 1) LAY m_X12_workOf [vR (some 74), vI x4, vI x1, vI x2] (mem (P, some 5, some 22) I J) (retI (fun v3 I4 J5 => WP k LAY m_X12_allWork 5 [(0, vR (some 74)), (1, vI x1), (2, vI x2), (3, vI (x3 + v3)), (4, vI (x4 + 1))] [] (mem (P, some 5, some 22) I4 J5) Q) (P, some 5, some 22))))))) : WP k LAY m_X12_allWork 5 [(0, vR (some 74)), (1, vI x1), (2, vI x2), (3, vI x3), (4, vI x4)] [] (mem (P, some 5, some 22) I J) Q := by
  refine st_iload (pc' := 7) dX12_allWork_5 rfl (j := 4) rfl ?_
  refine st_aload_n (pc' := 8) dX12_allWork_7 rfl rfl (j := 0) rfl ?_
  refine G_X12_75_74 dX12_allWork_8 (pc' := 11) rfl rfl ?_
  refine st_aload_n (pc' := 12) dX12_allWork_11 rfl rfl (j := 0) rfl ?_
  refine G_X12_51_74 dX12_allWork_12 (pc' := 15) rfl rfl ?_
  obtain ⟨e1, h⟩ := h
  refine st_iaload (pc' := 16) (v := (gi I 83 (gi I 74 13).toNat)) dX12_allWork_15 rfl L_83 (by decide) e1 (show gi I 83 (gi I 74 13).toNat = (gi I 83 (gi I 74 13).toNat) from rfl) ?_
  obtain ⟨e2, h⟩ := h
  refine st_icmp_ge (tg := 36) (pc' := 19) dX12_allWork_16 (by decide) rfl e2 (gi_in _ _ _) (fun c => ?_) (fun c => ?_)
  · replace h := h.1 c
    refine st_iload_n (pc' := 37) dX12_allWork_36 rfl rfl (j := 3) rfl ?_
    exact st_iret (ty := .int) dX12_allWork_37 rfl rfl rfl h
  · replace h := h.2 c
    refine st_iload_n (pc' := 20) dX12_allWork_19 rfl rfl (j := 3) rfl ?_
    refine st_aload_n (pc' := 21) dX12_allWork_20 rfl rfl (j := 0) rfl ?_
    refine st_iload (pc' := 23) dX12_allWork_21 rfl (j := 4) rfl ?_
    refine st_iload_n (pc' := 24) dX12_allWork_23 rfl rfl (j := 1) rfl ?_
    refine st_iload_n (pc' := 25) dX12_allWork_24 rfl rfl (j := 2) rfl ?_
    refine st_callV (pc' := 28) (kc := k - 1) (E' := LAY) (cal := m_X12_workOf) (n := 3) (as := [vI x4, vI x1, vI x2]) (S := [vI x3]) dX12_allWork_25 rfl l_X12_601 k_X12_workOf rfl L_74 c_X12 rfl rfl (Nat.le_of_ble_eq_true rfl) (by omega) ⟨Nat.le_refl _, Nat.le_refl _, Nat.le_refl _, Nat.le_refl _⟩ h (fun r M' q => ?_)
    obtain ⟨v3, I4, J5, rfl, rfl, h⟩ := q
    change WP _ LAY m_X12_allWork 28 [(0, vR (some 74)), (1, vI x1), (2, vI x2), (3, vI x3), (4, vI x4)] [vI v3, vI x3] (mem (P, some 5, some 22) I4 J5) Q
    refine st_iadd (pc' := 29) dX12_allWork_28 rfl ?_
    refine st_istore_n (pc' := 30) (L' := [(3, vI (x3 + v3)), (0, vR (some 74)), (1, vI x1), (2, vI x2), (4, vI x4)]) dX12_allWork_29 rfl rfl (by decide) rfl ?_
    refine st_iinc (pc' := 33) (L' := [(4, vI (x4 + 1)), (3, vI (x3 + v3)), (0, vR (some 74)), (1, vI x1), (2, vI x2)]) (j := 4) dX12_allWork_30 rfl (by decide) rfl rfl ?_
    refine st_goto (pc' := 5) dX12_allWork_33 (by decide) ?_
    refine WP_sub (L' := [(0, vR (some 74)), (1, vI x1), (2, vI x2), (3, vI (x3 + v3)), (4, vI (x4 + 1))]) [2, 3, 4, 1, 0] rfl ?_
    exact h
set_option maxRecDepth 20000 in
set_option maxHeartbeats 4000000 in
theorem B_X12_blame_0 {k : Nat} {P : Option Nat} {I : Nat → Nat → Int32} {J : Nat → Nat → Int64} {x1 : Int} {x2 : Int} {Q : Option AV → Mem → Prop} (hk : 0 ≤ k) (h : ((gi I 74 8) ≤ 0 → (Q none (mem (P, some 5, some 22) (si (si I 74 8 x1) 74 9 x2) J))) ∧ (¬ (gi I 74 8) ≤ 0 → (Q none (mem (P, some 5, some 22) I J)))) : WP k LAY m_X12_blame 0 [(0, vR (some 74)), (1, vI x1), (2, vI x2)] [] (mem (P, some 5, some 22) I J) Q := by
  refine st_aload_n (pc' := 1) dX12_blame_0 rfl rfl (j := 0) rfl ?_
  refine G_X12_36_74 dX12_blame_1 (pc' := 4) rfl rfl ?_
  refine st_if_le (tg := 8) (pc' := 7) dX12_blame_4 (by decide) rfl (gi_in _ _ _) (fun c => ?_) (fun c => ?_)
  · replace h := h.1 c
    refine st_aload_n (pc' := 9) dX12_blame_8 rfl rfl (j := 0) rfl ?_
    refine st_iload_n (pc' := 10) dX12_blame_9 rfl rfl (j := 1) rfl ?_
    refine P_X12_36_74 dX12_blame_10 (pc' := 13) rfl rfl ?_
    refine st_aload_n (pc' := 14) dX12_blame_13 rfl rfl (j := 0) rfl ?_
    refine st_iload_n (pc' := 15) dX12_blame_14 rfl rfl (j := 2) rfl ?_
    refine P_X12_39_74 dX12_blame_15 (pc' := 18) rfl rfl ?_
    exact st_vret dX12_blame_18 rfl rfl h
  · replace h := h.2 c
    exact st_vret dX12_blame_7 rfl rfl h
set_option maxRecDepth 20000 in
set_option maxHeartbeats 4000000 in
theorem B_X12_lex_0 {k : Nat} {P : Option Nat} {I : Nat → Nat → Int32} {J : Nat → Nat → Int64}  {Q : Option AV → Mem → Prop} (hk : 1 ≤ k) (h : ((gi I 74 12) = (-1) → (Q none (mem (P, some 5, some 22) I J))) ∧ (¬ (gi I 74 12) = (-1) → (((gi I 74 8) ≤ 0 → (Q none (mem (P, some 5, some 22) (si (si I 74 8 1) 74 9 (gi I 74 12)) J))) ∧ (¬ (gi I 74 8) ≤ 0 → (Q none (mem (P, some 5, some 22) I J)))))) : WP k LAY m_X12_lex 0 [(0, vR (some 74))] [] (mem (P, some 5, some 22) I J) Q := by
  refine st_aload_n (pc' := 1) dX12_lex_0 rfl rfl (j := 0) rfl ?_
  refine G_X12_48_74 dX12_lex_1 (pc' := 4) rfl rfl ?_
  refine st_iconst (pc' := 5) dX12_lex_4 rfl ?_
  refine st_icmp_eq (tg := 17) (pc' := 8) dX12_lex_5 (by decide) rfl (gi_in _ _ _) (by decide) (fun c => ?_) (fun c => ?_)
  · replace h := h.1 c
    exact st_vret dX12_lex_17 rfl rfl h
  · replace h := h.2 c
    refine st_aload_n (pc' := 9) dX12_lex_8 rfl rfl (j := 0) rfl ?_
    refine st_iconst (pc' := 10) dX12_lex_9 rfl ?_
    refine st_aload_n (pc' := 11) dX12_lex_10 rfl rfl (j := 0) rfl ?_
    refine G_X12_48_74 dX12_lex_11 (pc' := 14) rfl rfl ?_
    refine st_callV (pc' := 17) (kc := k - 1) (E' := LAY) (cal := m_X12_blame) (n := 2) (as := [vI 1, vI (gi I 74 12)]) (S := []) dX12_lex_14 rfl l_X12_287 k_X12_blame rfl L_74 c_X12 rfl rfl (Nat.le_of_ble_eq_true rfl) (by omega) ⟨Nat.le_refl _, Nat.le_refl _, Nat.le_refl _, Nat.le_refl _⟩ (Q1 := fun r M' => WP k LAY m_X12_lex 17 [(0, vR (some 74))] (r.toList ++ []) M' Q) (WPm.of k_X12_blame.1 (Nat.le_of_ble_eq_true rfl) (B_X12_blame_0 (by omega) ?_)) (fun r M' q => q)
    refine ⟨fun c => ?_, fun c => ?_⟩
    · replace h := h.1 c
      change WP _ LAY m_X12_lex 17 [(0, vR (some 74))] [] (mem (P, some 5, some 22) (si (si I 74 8 1) 74 9 (gi I 74 12)) J) Q
      exact st_vret dX12_lex_17 rfl rfl h
    · replace h := h.2 c
      change WP _ LAY m_X12_lex 17 [(0, vR (some 74))] [] (mem (P, some 5, some 22) I J) Q
      exact st_vret dX12_lex_17 rfl rfl h
set_option maxRecDepth 20000 in
set_option maxHeartbeats 4000000 in
theorem B_X12_manyOf_0 {k : Nat} {P : Option Nat} {I : Nat → Nat → Int32} {J : Nat → Nat → Int64} {x1 : Int} {x2 : Int} {Q : Option AV → Mem → Prop} (hk : 0 ≤ k) (h : inR x2 ∧ ((¬ x2 = 0 → ((¬ x2 = 1 → ((¬ x2 = 2 → ((0 ≤ x1 ∧ x1 < 2) ∧ (Q (some (vI (gi I 86 (x1).toNat))) (mem (P, some 5, some 22) I J)))) ∧ (x2 = 2 → ((0 ≤ x1 ∧ x1 < 2) ∧ (Q (some (vI (gi I 83 (x1).toNat))) (mem (P, some 5, some 22) I J)))))) ∧ (x2 = 1 → ((0 ≤ x1 ∧ x1 < 2) ∧ (Q (some (vI (gi I 77 (x1).toNat))) (mem (P, some 5, some 22) I J)))))) ∧ (x2 = 0 → ((0 ≤ x1 ∧ x1 < 2) ∧ (Q (some (vI (gi I 76 (x1).toNat))) (mem (P, some 5, some 22) I J)))))) : WP k LAY m_X12_manyOf 0 [(0, vR (some 74)), (1, vI x1), (2, vI x2)] [] (mem (P, some 5, some 22) I J) Q := by
  refine st_iload_n (pc' := 1) dX12_manyOf_0 rfl rfl (j := 2) rfl ?_
  obtain ⟨e1, h⟩ := h
  refine st_if_ne (tg := 13) (pc' := 4) dX12_manyOf_1 (by decide) rfl e1 (fun c => ?_) (fun c => ?_)
  · replace h := h.1 c
    refine st_iload_n (pc' := 14) dX12_manyOf_13 rfl rfl (j := 2) rfl ?_
    refine st_iconst (pc' := 15) dX12_manyOf_14 rfl ?_
    refine st_icmp_ne (tg := 27) (pc' := 18) dX12_manyOf_15 (by decide) rfl e1 (by decide) (fun c => ?_) (fun c => ?_)
    · replace h := h.1 c
      refine st_iload_n (pc' := 28) dX12_manyOf_27 rfl rfl (j := 2) rfl ?_
      refine st_iconst (pc' := 29) dX12_manyOf_28 rfl ?_
      refine st_icmp_ne (tg := 41) (pc' := 32) dX12_manyOf_29 (by decide) rfl e1 (by decide) (fun c => ?_) (fun c => ?_)
      · replace h := h.1 c
        refine st_aload_n (pc' := 42) dX12_manyOf_41 rfl rfl (j := 0) rfl ?_
        refine G_X12_84_74 dX12_manyOf_42 (pc' := 45) rfl rfl ?_
        refine st_iload_n (pc' := 46) dX12_manyOf_45 rfl rfl (j := 1) rfl ?_
        obtain ⟨e2, h⟩ := h
        refine st_iaload (pc' := 47) (v := (gi I 86 (x1).toNat)) dX12_manyOf_46 rfl L_86 (by decide) e2 (show gi I 86 (x1).toNat = (gi I 86 (x1).toNat) from rfl) ?_
        exact st_iret (ty := .int) dX12_manyOf_47 rfl rfl rfl h
      · replace h := h.2 c
        refine st_aload_n (pc' := 33) dX12_manyOf_32 rfl rfl (j := 0) rfl ?_
        refine G_X12_75_74 dX12_manyOf_33 (pc' := 36) rfl rfl ?_
        refine st_iload_n (pc' := 37) dX12_manyOf_36 rfl rfl (j := 1) rfl ?_
        obtain ⟨e3, h⟩ := h
        refine st_iaload (pc' := 38) (v := (gi I 83 (x1).toNat)) dX12_manyOf_37 rfl L_83 (by decide) e3 (show gi I 83 (x1).toNat = (gi I 83 (x1).toNat) from rfl) ?_
        refine st_goto (pc' := 47) dX12_manyOf_38 (by decide) ?_
        exact st_iret (ty := .int) dX12_manyOf_47 rfl rfl rfl h
    · replace h := h.2 c
      refine st_aload_n (pc' := 19) dX12_manyOf_18 rfl rfl (j := 0) rfl ?_
      refine G_X12_57_74 dX12_manyOf_19 (pc' := 22) rfl rfl ?_
      refine st_iload_n (pc' := 23) dX12_manyOf_22 rfl rfl (j := 1) rfl ?_
      obtain ⟨e4, h⟩ := h
      refine st_iaload (pc' := 24) (v := (gi I 77 (x1).toNat)) dX12_manyOf_23 rfl L_77 (by decide) e4 (show gi I 77 (x1).toNat = (gi I 77 (x1).toNat) from rfl) ?_
      refine st_goto (pc' := 47) dX12_manyOf_24 (by decide) ?_
      exact st_iret (ty := .int) dX12_manyOf_47 rfl rfl rfl h
  · replace h := h.2 c
    refine st_aload_n (pc' := 5) dX12_manyOf_4 rfl rfl (j := 0) rfl ?_
    refine G_X12_54_74 dX12_manyOf_5 (pc' := 8) rfl rfl ?_
    refine st_iload_n (pc' := 9) dX12_manyOf_8 rfl rfl (j := 1) rfl ?_
    obtain ⟨e5, h⟩ := h
    refine st_iaload (pc' := 10) (v := (gi I 76 (x1).toNat)) dX12_manyOf_9 rfl L_76 (by decide) e5 (show gi I 76 (x1).toNat = (gi I 76 (x1).toNat) from rfl) ?_
    refine st_goto (pc' := 47) dX12_manyOf_10 (by decide) ?_
    exact st_iret (ty := .int) dX12_manyOf_47 rfl rfl rfl h
set_option maxRecDepth 20000 in
set_option maxHeartbeats 4000000 in
theorem B_X12_nameOf_0 {k : Nat} {P : Option Nat} {I : Nat → Nat → Int32} {J : Nat → Nat → Int64} {x1 : Int} {x2 : Int} {x3 : Int} {Q : Option AV → Mem → Prop} (hk : 0 ≤ k) (h : inR x2 ∧ ((¬ x2 = 0 → ((¬ x2 = 1 → ((¬ x2 = 2 → ((0 ≤ ((5 * x1) + x3) ∧ ((5 * x1) + x3) < 10) ∧ (Q (some (vL (gl J 100 ((5 * x1) + x3).toNat))) (mem (P, some 5, some 22) I J)))) ∧ (x2 = 2 → ((0 ≤ ((6 * x1) + x3) ∧ ((6 * x1) + x3) < 12) ∧ (Q (some (vL (gl J 99 ((6 * x1) + x3).toNat))) (mem (P, some 5, some 22) I J)))))) ∧ (x2 = 1 → ((0 ≤ ((14 * x1) + x3) ∧ ((14 * x1) + x3) < 28) ∧ (Q (some (vL (gl J 98 ((14 * x1) + x3).toNat))) (mem (P, some 5, some 22) I J)))))) ∧ (x2 = 0 → ((0 ≤ ((5 * x1) + x3) ∧ ((5 * x1) + x3) < 10) ∧ (Q (some (vL (gl J 97 ((5 * x1) + x3).toNat))) (mem (P, some 5, some 22) I J)))))) : WP k LAY m_X12_nameOf 0 [(0, vR (some 74)), (1, vI x1), (2, vI x2), (3, vI x3)] [] (mem (P, some 5, some 22) I J) Q := by
  refine st_iload_n (pc' := 1) dX12_nameOf_0 rfl rfl (j := 2) rfl ?_
  obtain ⟨e1, h⟩ := h
  refine st_if_ne (tg := 17) (pc' := 4) dX12_nameOf_1 (by decide) rfl e1 (fun c => ?_) (fun c => ?_)
  · replace h := h.1 c
    refine st_iload_n (pc' := 18) dX12_nameOf_17 rfl rfl (j := 2) rfl ?_
    refine st_iconst (pc' := 19) dX12_nameOf_18 rfl ?_
    refine st_icmp_ne (tg := 36) (pc' := 22) dX12_nameOf_19 (by decide) rfl e1 (by decide) (fun c => ?_) (fun c => ?_)
    · replace h := h.1 c
      refine st_iload_n (pc' := 37) dX12_nameOf_36 rfl rfl (j := 2) rfl ?_
      refine st_iconst (pc' := 38) dX12_nameOf_37 rfl ?_
      refine st_icmp_ne (tg := 55) (pc' := 41) dX12_nameOf_38 (by decide) rfl e1 (by decide) (fun c => ?_) (fun c => ?_)
      · replace h := h.1 c
        refine st_aload_n (pc' := 56) dX12_nameOf_55 rfl rfl (j := 0) rfl ?_
        refine G_X12_127_74 dX12_nameOf_56 (pc' := 59) rfl rfl ?_
        refine st_iconst (pc' := 60) dX12_nameOf_59 rfl ?_
        refine st_iload_n (pc' := 61) dX12_nameOf_60 rfl rfl (j := 1) rfl ?_
        refine st_imul (pc' := 62) dX12_nameOf_61 rfl ?_
        refine st_iload_n (pc' := 63) dX12_nameOf_62 rfl rfl (j := 3) rfl ?_
        refine st_iadd (pc' := 64) dX12_nameOf_63 rfl ?_
        obtain ⟨e2, h⟩ := h
        refine st_laload (pc' := 65) (v := (gl J 100 ((5 * x1) + x3).toNat)) dX12_nameOf_64 rfl L_100 (by decide) e2 (show gl J 100 ((5 * x1) + x3).toNat = (gl J 100 ((5 * x1) + x3).toNat) from rfl) ?_
        exact st_lret dX12_nameOf_65 rfl rfl h
      · replace h := h.2 c
        refine st_aload_n (pc' := 42) dX12_nameOf_41 rfl rfl (j := 0) rfl ?_
        refine G_X12_124_74 dX12_nameOf_42 (pc' := 45) rfl rfl ?_
        refine st_bipush (pc' := 47) dX12_nameOf_45 rfl (by decide) ?_
        refine st_iload_n (pc' := 48) dX12_nameOf_47 rfl rfl (j := 1) rfl ?_
        refine st_imul (pc' := 49) dX12_nameOf_48 rfl ?_
        refine st_iload_n (pc' := 50) dX12_nameOf_49 rfl rfl (j := 3) rfl ?_
        refine st_iadd (pc' := 51) dX12_nameOf_50 rfl ?_
        obtain ⟨e3, h⟩ := h
        refine st_laload (pc' := 52) (v := (gl J 99 ((6 * x1) + x3).toNat)) dX12_nameOf_51 rfl L_99 (by decide) e3 (show gl J 99 ((6 * x1) + x3).toNat = (gl J 99 ((6 * x1) + x3).toNat) from rfl) ?_
        refine st_goto (pc' := 65) dX12_nameOf_52 (by decide) ?_
        exact st_lret dX12_nameOf_65 rfl rfl h
    · replace h := h.2 c
      refine st_aload_n (pc' := 23) dX12_nameOf_22 rfl rfl (j := 0) rfl ?_
      refine G_X12_121_74 dX12_nameOf_23 (pc' := 26) rfl rfl ?_
      refine st_bipush (pc' := 28) dX12_nameOf_26 rfl (by decide) ?_
      refine st_iload_n (pc' := 29) dX12_nameOf_28 rfl rfl (j := 1) rfl ?_
      refine st_imul (pc' := 30) dX12_nameOf_29 rfl ?_
      refine st_iload_n (pc' := 31) dX12_nameOf_30 rfl rfl (j := 3) rfl ?_
      refine st_iadd (pc' := 32) dX12_nameOf_31 rfl ?_
      obtain ⟨e4, h⟩ := h
      refine st_laload (pc' := 33) (v := (gl J 98 ((14 * x1) + x3).toNat)) dX12_nameOf_32 rfl L_98 (by decide) e4 (show gl J 98 ((14 * x1) + x3).toNat = (gl J 98 ((14 * x1) + x3).toNat) from rfl) ?_
      refine st_goto (pc' := 65) dX12_nameOf_33 (by decide) ?_
      exact st_lret dX12_nameOf_65 rfl rfl h
  · replace h := h.2 c
    refine st_aload_n (pc' := 5) dX12_nameOf_4 rfl rfl (j := 0) rfl ?_
    refine G_X12_117_74 dX12_nameOf_5 (pc' := 8) rfl rfl ?_
    refine st_iconst (pc' := 9) dX12_nameOf_8 rfl ?_
    refine st_iload_n (pc' := 10) dX12_nameOf_9 rfl rfl (j := 1) rfl ?_
    refine st_imul (pc' := 11) dX12_nameOf_10 rfl ?_
    refine st_iload_n (pc' := 12) dX12_nameOf_11 rfl rfl (j := 3) rfl ?_
    refine st_iadd (pc' := 13) dX12_nameOf_12 rfl ?_
    obtain ⟨e5, h⟩ := h
    refine st_laload (pc' := 14) (v := (gl J 97 ((5 * x1) + x3).toNat)) dX12_nameOf_13 rfl L_97 (by decide) e5 (show gl J 97 ((5 * x1) + x3).toNat = (gl J 97 ((5 * x1) + x3).toNat) from rfl) ?_
    refine st_goto (pc' := 65) dX12_nameOf_14 (by decide) ?_
    exact st_lret dX12_nameOf_65 rfl rfl h
set_option maxRecDepth 20000 in
set_option maxHeartbeats 4000000 in
theorem B_X12_named_0 {k : Nat} {P : Option Nat} {I : Nat → Nat → Int32} {J : Nat → Nat → Int64} {x1 : Int} {x2 : Int} {Q : Option AV → Mem → Prop} (hk : 0 ≤ k) (h : WP k LAY m_X12_named 3 [(0, vR (some 74)), (1, vI x1), (2, vL x2), (4, vI 0)] [] (mem (P, some 5, some 22) I J) Q) : WP k LAY m_X12_named 0 [(0, vR (some 74)), (1, vI x1), (2, vL x2)] [] (mem (P, some 5, some 22) I J) Q := by
  refine st_iconst (pc' := 1) dX12_named_0 rfl ?_
  refine st_istore (pc' := 3) (L' := [(4, vI 0), (0, vR (some 74)), (1, vI x1), (2, vL x2)]) dX12_named_1 rfl (by decide) rfl ?_
  refine WP_sub (L' := [(0, vR (some 74)), (1, vI x1), (2, vL x2), (4, vI 0)]) [1, 2, 3, 0] rfl ?_
  exact h
set_option maxRecDepth 20000 in
set_option maxHeartbeats 4000000 in
theorem B_X12_named_3 {k : Nat} {P : Option Nat} {I : Nat → Nat → Int32} {J : Nat → Nat → Int64} {x1 : Int} {x2 : Int} {x4 : Int} {Q : Option AV → Mem → Prop} (hk : 1 ≤ k) (h : WPm (k - 1) LAY m_X12_manyOf [vR (some 74), vI (gi I 74 40), vI x1] (mem (P, some 5, some 22) I J) (retI (fun v1 I2 J3 => inR x4 ∧ (inR v1 ∧ ((v1 ≤ x4 → (Q (some (vI (-1))) (mem (P, some 5, some 22) I2 J3))) ∧ (¬ v1 ≤ x4 → (WPm (k - 1) LAY m_X12_nameOf [vR (some 74), vI (gi I2 74 40), vI x1, vI x4] (mem (P, some 5, some 22) I2 J3) (retL (fun v6 I7 J8 => inL v6 ∧ (inL x2 ∧ ((¬ v6 = x2 → (WP k LAY m_X12_named 3 [(0, vR (some 74)), (1, vI x1), (2, vL x2), (4, vI (x4 + 1))] [] (mem (P, some 5, some 22) I7 J8) Q)) ∧ (v6 = x2 → (Q (some (vI x4)) (mem (P, some 5, some 22) I7 J8)))))) (P, some 5, some 22))))))) (P, some 5, some 22))) : WP k LAY m_X12_named 3 [(0, vR (some 74)), (1, vI x1), (2, vL x2), (4, vI x4)] [] (mem (P, some 5, some 22) I J) Q := by
  refine st_iload (pc' := 5) dX12_named_3 rfl (j := 3) rfl ?_
  refine st_aload_n (pc' := 6) dX12_named_5 rfl rfl (j := 0) rfl ?_
  refine st_aload_n (pc' := 7) dX12_named_6 rfl rfl (j := 0) rfl ?_
  refine G_X12_133_74 dX12_named_7 (pc' := 10) rfl rfl ?_
  refine st_iload_n (pc' := 11) dX12_named_10 rfl rfl (j := 1) rfl ?_
  refine st_callV (pc' := 14) (kc := k - 1) (E' := LAY) (cal := m_X12_manyOf) (n := 2) (as := [vI (gi I 74 40), vI x1]) (S := [vI x4]) dX12_named_11 rfl l_X12_361 k_X12_manyOf rfl L_74 c_X12 rfl rfl (Nat.le_of_ble_eq_true rfl) (by omega) ⟨Nat.le_refl _, Nat.le_refl _, Nat.le_refl _, Nat.le_refl _⟩ h (fun r M' q => ?_)
  obtain ⟨v1, I2, J3, rfl, rfl, h⟩ := q
  change WP _ LAY m_X12_named 14 [(0, vR (some 74)), (1, vI x1), (2, vL x2), (4, vI x4)] [vI v1, vI x4] (mem (P, some 5, some 22) I2 J3) Q
  obtain ⟨e4, h⟩ := h
  obtain ⟨e5, h⟩ := h
  refine st_icmp_ge (tg := 42) (pc' := 17) dX12_named_14 (by decide) rfl e4 e5 (fun c => ?_) (fun c => ?_)
  · replace h := h.1 c
    refine st_iconst (pc' := 43) dX12_named_42 rfl ?_
    exact st_iret (ty := .int) dX12_named_43 rfl rfl rfl h
  · replace h := h.2 c
    refine st_aload_n (pc' := 18) dX12_named_17 rfl rfl (j := 0) rfl ?_
    refine st_aload_n (pc' := 19) dX12_named_18 rfl rfl (j := 0) rfl ?_
    refine G_X12_133_74 dX12_named_19 (pc' := 22) rfl rfl ?_
    refine st_iload_n (pc' := 23) dX12_named_22 rfl rfl (j := 1) rfl ?_
    refine st_iload (pc' := 25) dX12_named_23 rfl (j := 3) rfl ?_
    refine st_callV (pc' := 28) (kc := k - 1) (E' := LAY) (cal := m_X12_nameOf) (n := 3) (as := [vI (gi I2 74 40), vI x1, vI x4]) (S := []) dX12_named_25 rfl l_X12_365 k_X12_nameOf rfl L_74 c_X12 rfl rfl (Nat.le_of_ble_eq_true rfl) (by omega) ⟨Nat.le_refl _, Nat.le_refl _, Nat.le_refl _, Nat.le_refl _⟩ h (fun r M' q => ?_)
    obtain ⟨v6, I7, J8, rfl, rfl, h⟩ := q
    change WP _ LAY m_X12_named 28 [(0, vR (some 74)), (1, vI x1), (2, vL x2), (4, vI x4)] [vL v6] (mem (P, some 5, some 22) I7 J8) Q
    refine st_lload_n (pc' := 29) dX12_named_28 rfl rfl (j := 2) rfl ?_
    obtain ⟨e9, h⟩ := h
    obtain ⟨e10, h⟩ := h
    refine st_lif_ne (tg := 36) (pc' := 33) (pc1 := 30) dX12_named_29 rfl dX12_named_30 (by decide) rfl e9 e10 (fun c => ?_) (fun c => ?_)
    · replace h := h.1 c
      refine st_iinc (pc' := 39) (L' := [(4, vI (x4 + 1)), (0, vR (some 74)), (1, vI x1), (2, vL x2)]) (j := 3) dX12_named_36 rfl (by decide) rfl rfl ?_
      refine st_goto (pc' := 3) dX12_named_39 (by decide) ?_
      refine WP_sub (L' := [(0, vR (some 74)), (1, vI x1), (2, vL x2), (4, vI (x4 + 1))]) [1, 2, 3, 0] rfl ?_
      exact h
    · replace h := h.2 c
      refine st_iload (pc' := 35) dX12_named_33 rfl (j := 3) rfl ?_
      exact st_iret (ty := .int) dX12_named_35 rfl rfl rfl h
set_option maxRecDepth 20000 in
set_option maxHeartbeats 4000000 in
theorem B_X12_looked_0 {k : Nat} {P : Option Nat} {I : Nat → Nat → Int32} {J : Nat → Nat → Int64} {x1 : Int} {Q : Option AV → Mem → Prop} (hk : 2 ≤ k) (h : ((gi I 74 12) = (-1) → (((gi I 74 8) ≤ 0 → ((¬ (gi I 74 3) = 1 → (((gi I 74 8) ≤ 0 → (Q (some (vI 0)) (mem (P, some 5, some 22) (si (si I 74 8 1) 74 9 (gi I 74 4)) J))) ∧ (¬ (gi I 74 8) ≤ 0 → (((gi I 74 8) ≤ 0 → (WPm (k - 1) LAY m_X12_named [vR (some 74), vI x1, vL (gl J 74 7)] (mem (P, some 5, some 22) I J) (retI (fun v1 I2 J3 => (¬ (gi I2 74 8) = 0 → (((gi I2 74 8) ≤ 0 → (Q (some (vI v1)) (mem (P, some 5, some 22) I2 J3))) ∧ (¬ (gi I2 74 8) ≤ 0 → (Q (some (vI 0)) (mem (P, some 5, some 22) I2 J3))))) ∧ ((gi I2 74 8) = 0 → (inR v1 ∧ ((¬ v1 = (-1) → (((gi I2 74 8) ≤ 0 → (Q (some (vI v1)) (mem (P, some 5, some 22) I2 J3))) ∧ (¬ (gi I2 74 8) ≤ 0 → (Q (some (vI 0)) (mem (P, some 5, some 22) I2 J3))))) ∧ (v1 = (-1) → (((gi I2 74 8) ≤ 0 → (Q (some (vI 0)) (mem (P, some 5, some 22) (si (si I2 74 8 3) 74 9 (gi I2 74 4)) J3))) ∧ (¬ (gi I2 74 8) ≤ 0 → (((gi I2 74 8) ≤ 0 → (Q (some (vI v1)) (mem (P, some 5, some 22) I2 J3))) ∧ (¬ (gi I2 74 8) ≤ 0 → (Q (some (vI 0)) (mem (P, some 5, some 22) I2 J3))))))))))) (P, some 5, some 22)))) ∧ (¬ (gi I 74 8) ≤ 0 → ((¬ (gi I 74 8) = 0 → (((gi I 74 8) ≤ 0 → (Q (some (vI 0)) (mem (P, some 5, some 22) I J))) ∧ (¬ (gi I 74 8) ≤ 0 → (Q (some (vI 0)) (mem (P, some 5, some 22) I J))))) ∧ ((gi I 74 8) = 0 → (((gi I 74 8) ≤ 0 → (Q (some (vI 0)) (mem (P, some 5, some 22) I J))) ∧ (¬ (gi I 74 8) ≤ 0 → (Q (some (vI 0)) (mem (P, some 5, some 22) I J))))))))))) ∧ ((gi I 74 3) = 1 → (WPm (k - 1) LAY m_X12_isOwn [vR (some 74), vL (gl J 74 7)] (mem (P, some 5, some 22) I J) (retI (fun v5 I6 J7 => inR v5 ∧ ((v5 = 0 → (((gi I6 74 8) ≤ 0 → (WPm (k - 1) LAY m_X12_named [vR (some 74), vI x1, vL (gl J7 74 7)] (mem (P, some 5, some 22) I6 J7) (retI (fun v9 I10 J11 => (¬ (gi I10 74 8) = 0 → (((gi I10 74 8) ≤ 0 → (Q (some (vI v9)) (mem (P, some 5, some 22) I10 J11))) ∧ (¬ (gi I10 74 8) ≤ 0 → (Q (some (vI 0)) (mem (P, some 5, some 22) I10 J11))))) ∧ ((gi I10 74 8) = 0 → (inR v9 ∧ ((¬ v9 = (-1) → (((gi I10 74 8) ≤ 0 → (Q (some (vI v9)) (mem (P, some 5, some 22) I10 J11))) ∧ (¬ (gi I10 74 8) ≤ 0 → (Q (some (vI 0)) (mem (P, some 5, some 22) I10 J11))))) ∧ (v9 = (-1) → (((gi I10 74 8) ≤ 0 → (Q (some (vI 0)) (mem (P, some 5, some 22) (si (si I10 74 8 3) 74 9 (gi I10 74 4)) J11))) ∧ (¬ (gi I10 74 8) ≤ 0 → (((gi I10 74 8) ≤ 0 → (Q (some (vI v9)) (mem (P, some 5, some 22) I10 J11))) ∧ (¬ (gi I10 74 8) ≤ 0 → (Q (some (vI 0)) (mem (P, some 5, some 22) I10 J11))))))))))) (P, some 5, some 22)))) ∧ (¬ (gi I6 74 8) ≤ 0 → ((¬ (gi I6 74 8) = 0 → (((gi I6 74 8) ≤ 0 → (Q (some (vI 0)) (mem (P, some 5, some 22) I6 J7))) ∧ (¬ (gi I6 74 8) ≤ 0 → (Q (some (vI 0)) (mem (P, some 5, some 22) I6 J7))))) ∧ ((gi I6 74 8) = 0 → (((gi I6 74 8) ≤ 0 → (Q (some (vI 0)) (mem (P, some 5, some 22) I6 J7))) ∧ (¬ (gi I6 74 8) ≤ 0 → (Q (some (vI 0)) (mem (P, some 5, some 22) I6 J7))))))))) ∧ (¬ v5 = 0 → (((gi I6 74 8) ≤ 0 → (Q (some (vI 0)) (mem (P, some 5, some 22) (si (si I6 74 8 1) 74 9 (gi I6 74 4)) J7))) ∧ (¬ (gi I6 74 8) ≤ 0 → (((gi I6 74 8) ≤ 0 → (WPm (k - 1) LAY m_X12_named [vR (some 74), vI x1, vL (gl J7 74 7)] (mem (P, some 5, some 22) I6 J7) (retI (fun v13 I14 J15 => (¬ (gi I14 74 8) = 0 → (((gi I14 74 8) ≤ 0 → (Q (some (vI v13)) (mem (P, some 5, some 22) I14 J15))) ∧ (¬ (gi I14 74 8) ≤ 0 → (Q (some (vI 0)) (mem (P, some 5, some 22) I14 J15))))) ∧ ((gi I14 74 8) = 0 → (inR v13 ∧ ((¬ v13 = (-1) → (((gi I14 74 8) ≤ 0 → (Q (some (vI v13)) (mem (P, some 5, some 22) I14 J15))) ∧ (¬ (gi I14 74 8) ≤ 0 → (Q (some (vI 0)) (mem (P, some 5, some 22) I14 J15))))) ∧ (v13 = (-1) → (((gi I14 74 8) ≤ 0 → (Q (some (vI 0)) (mem (P, some 5, some 22) (si (si I14 74 8 3) 74 9 (gi I14 74 4)) J15))) ∧ (¬ (gi I14 74 8) ≤ 0 → (((gi I14 74 8) ≤ 0 → (Q (some (vI v13)) (mem (P, some 5, some 22) I14 J15))) ∧ (¬ (gi I14 74 8) ≤ 0 → (Q (some (vI 0)) (mem (P, some 5, some 22) I14 J15))))))))))) (P, some 5, some 22)))) ∧ (¬ (gi I6 74 8) ≤ 0 → ((¬ (gi I6 74 8) = 0 → (((gi I6 74 8) ≤ 0 → (Q (some (vI 0)) (mem (P, some 5, some 22) I6 J7))) ∧ (¬ (gi I6 74 8) ≤ 0 → (Q (some (vI 0)) (mem (P, some 5, some 22) I6 J7))))) ∧ ((gi I6 74 8) = 0 → (((gi I6 74 8) ≤ 0 → (Q (some (vI 0)) (mem (P, some 5, some 22) I6 J7))) ∧ (¬ (gi I6 74 8) ≤ 0 → (Q (some (vI 0)) (mem (P, some 5, some 22) I6 J7))))))))))))) (P, some 5, some 22)))))) ∧ (¬ (gi I 74 8) ≤ 0 → (Q (some (vI 0)) (mem (P, some 5, some 22) I J))))) ∧ (¬ (gi I 74 12) = (-1) → (((gi I 74 8) ≤ 0 → (Q (some (vI 0)) (mem (P, some 5, some 22) (si (si I 74 8 1) 74 9 (gi I 74 12)) J))) ∧ (¬ (gi I 74 8) ≤ 0 → (((gi I 74 8) ≤ 0 → ((¬ (gi I 74 3) = 1 → (((gi I 74 8) ≤ 0 → (Q (some (vI 0)) (mem (P, some 5, some 22) (si (si I 74 8 1) 74 9 (gi I 74 4)) J))) ∧ (¬ (gi I 74 8) ≤ 0 → (((gi I 74 8) ≤ 0 → (WPm (k - 1) LAY m_X12_named [vR (some 74), vI x1, vL (gl J 74 7)] (mem (P, some 5, some 22) I J) (retI (fun v17 I18 J19 => (¬ (gi I18 74 8) = 0 → (((gi I18 74 8) ≤ 0 → (Q (some (vI v17)) (mem (P, some 5, some 22) I18 J19))) ∧ (¬ (gi I18 74 8) ≤ 0 → (Q (some (vI 0)) (mem (P, some 5, some 22) I18 J19))))) ∧ ((gi I18 74 8) = 0 → (inR v17 ∧ ((¬ v17 = (-1) → (((gi I18 74 8) ≤ 0 → (Q (some (vI v17)) (mem (P, some 5, some 22) I18 J19))) ∧ (¬ (gi I18 74 8) ≤ 0 → (Q (some (vI 0)) (mem (P, some 5, some 22) I18 J19))))) ∧ (v17 = (-1) → (((gi I18 74 8) ≤ 0 → (Q (some (vI 0)) (mem (P, some 5, some 22) (si (si I18 74 8 3) 74 9 (gi I18 74 4)) J19))) ∧ (¬ (gi I18 74 8) ≤ 0 → (((gi I18 74 8) ≤ 0 → (Q (some (vI v17)) (mem (P, some 5, some 22) I18 J19))) ∧ (¬ (gi I18 74 8) ≤ 0 → (Q (some (vI 0)) (mem (P, some 5, some 22) I18 J19))))))))))) (P, some 5, some 22)))) ∧ (¬ (gi I 74 8) ≤ 0 → ((¬ (gi I 74 8) = 0 → (((gi I 74 8) ≤ 0 → (Q (some (vI 0)) (mem (P, some 5, some 22) I J))) ∧ (¬ (gi I 74 8) ≤ 0 → (Q (some (vI 0)) (mem (P, some 5, some 22) I J))))) ∧ ((gi I 74 8) = 0 → (((gi I 74 8) ≤ 0 → (Q (some (vI 0)) (mem (P, some 5, some 22) I J))) ∧ (¬ (gi I 74 8) ≤ 0 → (Q (some (vI 0)) (mem (P, some 5, some 22) I J))))))))))) ∧ ((gi I 74 3) = 1 → (WPm (k - 1) LAY m_X12_isOwn [vR (some 74), vL (gl J 74 7)] (mem (P, some 5, some 22) I J) (retI (fun v21 I22 J23 => inR v21 ∧ ((v21 = 0 → (((gi I22 74 8) ≤ 0 → (WPm (k - 1) LAY m_X12_named [vR (some 74), vI x1, vL (gl J23 74 7)] (mem (P, some 5, some 22) I22 J23) (retI (fun v25 I26 J27 => (¬ (gi I26 74 8) = 0 → (((gi I26 74 8) ≤ 0 → (Q (some (vI v25)) (mem (P, some 5, some 22) I26 J27))) ∧ (¬ (gi I26 74 8) ≤ 0 → (Q (some (vI 0)) (mem (P, some 5, some 22) I26 J27))))) ∧ ((gi I26 74 8) = 0 → (inR v25 ∧ ((¬ v25 = (-1) → (((gi I26 74 8) ≤ 0 → (Q (some (vI v25)) (mem (P, some 5, some 22) I26 J27))) ∧ (¬ (gi I26 74 8) ≤ 0 → (Q (some (vI 0)) (mem (P, some 5, some 22) I26 J27))))) ∧ (v25 = (-1) → (((gi I26 74 8) ≤ 0 → (Q (some (vI 0)) (mem (P, some 5, some 22) (si (si I26 74 8 3) 74 9 (gi I26 74 4)) J27))) ∧ (¬ (gi I26 74 8) ≤ 0 → (((gi I26 74 8) ≤ 0 → (Q (some (vI v25)) (mem (P, some 5, some 22) I26 J27))) ∧ (¬ (gi I26 74 8) ≤ 0 → (Q (some (vI 0)) (mem (P, some 5, some 22) I26 J27))))))))))) (P, some 5, some 22)))) ∧ (¬ (gi I22 74 8) ≤ 0 → ((¬ (gi I22 74 8) = 0 → (((gi I22 74 8) ≤ 0 → (Q (some (vI 0)) (mem (P, some 5, some 22) I22 J23))) ∧ (¬ (gi I22 74 8) ≤ 0 → (Q (some (vI 0)) (mem (P, some 5, some 22) I22 J23))))) ∧ ((gi I22 74 8) = 0 → (((gi I22 74 8) ≤ 0 → (Q (some (vI 0)) (mem (P, some 5, some 22) I22 J23))) ∧ (¬ (gi I22 74 8) ≤ 0 → (Q (some (vI 0)) (mem (P, some 5, some 22) I22 J23))))))))) ∧ (¬ v21 = 0 → (((gi I22 74 8) ≤ 0 → (Q (some (vI 0)) (mem (P, some 5, some 22) (si (si I22 74 8 1) 74 9 (gi I22 74 4)) J23))) ∧ (¬ (gi I22 74 8) ≤ 0 → (((gi I22 74 8) ≤ 0 → (WPm (k - 1) LAY m_X12_named [vR (some 74), vI x1, vL (gl J23 74 7)] (mem (P, some 5, some 22) I22 J23) (retI (fun v29 I30 J31 => (¬ (gi I30 74 8) = 0 → (((gi I30 74 8) ≤ 0 → (Q (some (vI v29)) (mem (P, some 5, some 22) I30 J31))) ∧ (¬ (gi I30 74 8) ≤ 0 → (Q (some (vI 0)) (mem (P, some 5, some 22) I30 J31))))) ∧ ((gi I30 74 8) = 0 → (inR v29 ∧ ((¬ v29 = (-1) → (((gi I30 74 8) ≤ 0 → (Q (some (vI v29)) (mem (P, some 5, some 22) I30 J31))) ∧ (¬ (gi I30 74 8) ≤ 0 → (Q (some (vI 0)) (mem (P, some 5, some 22) I30 J31))))) ∧ (v29 = (-1) → (((gi I30 74 8) ≤ 0 → (Q (some (vI 0)) (mem (P, some 5, some 22) (si (si I30 74 8 3) 74 9 (gi I30 74 4)) J31))) ∧ (¬ (gi I30 74 8) ≤ 0 → (((gi I30 74 8) ≤ 0 → (Q (some (vI v29)) (mem (P, some 5, some 22) I30 J31))) ∧ (¬ (gi I30 74 8) ≤ 0 → (Q (some (vI 0)) (mem (P, some 5, some 22) I30 J31))))))))))) (P, some 5, some 22)))) ∧ (¬ (gi I22 74 8) ≤ 0 → ((¬ (gi I22 74 8) = 0 → (((gi I22 74 8) ≤ 0 → (Q (some (vI 0)) (mem (P, some 5, some 22) I22 J23))) ∧ (¬ (gi I22 74 8) ≤ 0 → (Q (some (vI 0)) (mem (P, some 5, some 22) I22 J23))))) ∧ ((gi I22 74 8) = 0 → (((gi I22 74 8) ≤ 0 → (Q (some (vI 0)) (mem (P, some 5, some 22) I22 J23))) ∧ (¬ (gi I22 74 8) ≤ 0 → (Q (some (vI 0)) (mem (P, some 5, some 22) I22 J23))))))))))))) (P, some 5, some 22)))))) ∧ (¬ (gi I 74 8) ≤ 0 → (Q (some (vI 0)) (mem (P, some 5, some 22) I J)))))))) : WP k LAY m_X12_looked 0 [(0, vR (some 74)), (1, vI x1)] [] (mem (P, some 5, some 22) I J) Q := by
  refine st_aload_n (pc' := 1) dX12_looked_0 rfl rfl (j := 0) rfl ?_
  refine st_callV (pc' := 4) (kc := k - 1) (E' := LAY) (cal := m_X12_lex) (n := 0) (as := []) (S := []) dX12_looked_1 rfl l_X12_302 k_X12_lex rfl L_74 c_X12 rfl rfl (Nat.le_of_ble_eq_true rfl) (by omega) ⟨Nat.le_refl _, Nat.le_refl _, Nat.le_refl _, Nat.le_refl _⟩ (Q1 := fun r M' => WP k LAY m_X12_looked 4 [(0, vR (some 74)), (1, vI x1)] (r.toList ++ []) M' Q) (WPm.of k_X12_lex.1 (Nat.le_of_ble_eq_true rfl) (B_X12_lex_0 (by omega) ?_)) (fun r M' q => q)
  refine ⟨fun c => ?_, fun c => ?_⟩
  · replace h := h.1 c
    change WP _ LAY m_X12_looked 4 [(0, vR (some 74)), (1, vI x1)] [] (mem (P, some 5, some 22) I J) Q
    refine st_aload_n (pc' := 5) dX12_looked_4 rfl rfl (j := 0) rfl ?_
    refine G_X12_36_74 dX12_looked_5 (pc' := 8) rfl rfl ?_
    refine st_if_le (tg := 13) (pc' := 11) dX12_looked_8 (by decide) rfl (gi_in _ _ _) (fun c => ?_) (fun c => ?_)
    · replace h := h.1 c
      refine st_aload_n (pc' := 14) dX12_looked_13 rfl rfl (j := 0) rfl ?_
      refine G_X12_20_74 dX12_looked_14 (pc' := 17) rfl rfl ?_
      refine st_iconst (pc' := 18) dX12_looked_17 rfl ?_
      refine st_icmp_ne (tg := 32) (pc' := 21) dX12_looked_18 (by decide) rfl (gi_in _ _ _) (by decide) (fun c => ?_) (fun c => ?_)
      · replace h := h.1 c
        refine st_aload_n (pc' := 33) dX12_looked_32 rfl rfl (j := 0) rfl ?_
        refine st_iconst (pc' := 34) dX12_looked_33 rfl ?_
        refine st_aload_n (pc' := 35) dX12_looked_34 rfl rfl (j := 0) rfl ?_
        refine G_X12_23_74 dX12_looked_35 (pc' := 38) rfl rfl ?_
        refine st_callV (pc' := 41) (kc := k - 1) (E' := LAY) (cal := m_X12_blame) (n := 2) (as := [vI 1, vI (gi I 74 4)]) (S := []) dX12_looked_38 rfl l_X12_287 k_X12_blame rfl L_74 c_X12 rfl rfl (Nat.le_of_ble_eq_true rfl) (by omega) ⟨Nat.le_refl _, Nat.le_refl _, Nat.le_refl _, Nat.le_refl _⟩ (Q1 := fun r M' => WP k LAY m_X12_looked 41 [(0, vR (some 74)), (1, vI x1)] (r.toList ++ []) M' Q) (WPm.of k_X12_blame.1 (Nat.le_of_ble_eq_true rfl) (B_X12_blame_0 (by omega) ?_)) (fun r M' q => q)
        refine ⟨fun c => ?_, fun c => ?_⟩
        · replace h := h.1 c
          change WP _ LAY m_X12_looked 41 [(0, vR (some 74)), (1, vI x1)] [] (mem (P, some 5, some 22) (si (si I 74 8 1) 74 9 (gi I 74 4)) J) Q
          refine st_aload_n (pc' := 42) dX12_looked_41 rfl rfl (j := 0) rfl ?_
          refine G_X12_36_74 dX12_looked_42 (pc' := 45) rfl rfl ?_
          rw [show gi (si (si I 74 8 1) 74 9 (gi I 74 4)) 74 8 = 1 from ((gi_idx _ _ _ (by decide)).trans (gi_same _ _ _ (by decide)))]
          refine st_if_le (tg := 52) (pc' := 48) dX12_looked_45 (by decide) rfl (by decide) (fun c => ?_) (fun c => ?_)
          · exact absurd c (by decide)
          · refine st_iconst (pc' := 49) dX12_looked_48 rfl ?_
            refine st_goto (pc' := 61) dX12_looked_49 (by decide) ?_
            refine st_istore_n (pc' := 62) (L' := [(2, vI 0), (0, vR (some 74)), (1, vI x1)]) dX12_looked_61 rfl rfl (by decide) rfl ?_
            refine st_aload_n (pc' := 63) dX12_looked_62 rfl rfl (j := 1) rfl ?_
            refine G_X12_36_74 dX12_looked_63 (pc' := 66) rfl rfl ?_
            rw [show gi (si (si I 74 8 1) 74 9 (gi I 74 4)) 74 8 = 1 from ((gi_idx _ _ _ (by decide)).trans (gi_same _ _ _ (by decide)))]
            refine st_if_ne (tg := 83) (pc' := 69) dX12_looked_66 (by decide) rfl (by decide) (fun c => ?_) (fun c => ?_)
            · refine st_aload_n (pc' := 84) dX12_looked_83 rfl rfl (j := 1) rfl ?_
              refine G_X12_36_74 dX12_looked_84 (pc' := 87) rfl rfl ?_
              rw [show gi (si (si I 74 8 1) 74 9 (gi I 74 4)) 74 8 = 1 from ((gi_idx _ _ _ (by decide)).trans (gi_same _ _ _ (by decide)))]
              refine st_if_le (tg := 94) (pc' := 90) dX12_looked_87 (by decide) rfl (by decide) (fun c => ?_) (fun c => ?_)
              · exact absurd c (by decide)
              · refine st_iconst (pc' := 91) dX12_looked_90 rfl ?_
                refine st_goto (pc' := 95) dX12_looked_91 (by decide) ?_
                exact st_iret (ty := .int) dX12_looked_95 rfl rfl rfl h
            · exact absurd c (by decide)
        · replace h := h.2 c
          change WP _ LAY m_X12_looked 41 [(0, vR (some 74)), (1, vI x1)] [] (mem (P, some 5, some 22) I J) Q
          refine st_aload_n (pc' := 42) dX12_looked_41 rfl rfl (j := 0) rfl ?_
          refine G_X12_36_74 dX12_looked_42 (pc' := 45) rfl rfl ?_
          refine st_if_le (tg := 52) (pc' := 48) dX12_looked_45 (by decide) rfl (gi_in _ _ _) (fun c => ?_) (fun c => ?_)
          · replace h := h.1 c
            refine st_aload_n (pc' := 53) dX12_looked_52 rfl rfl (j := 0) rfl ?_
            refine st_iload_n (pc' := 54) dX12_looked_53 rfl rfl (j := 1) rfl ?_
            refine st_aload_n (pc' := 55) dX12_looked_54 rfl rfl (j := 0) rfl ?_
            refine G_X12_32_74 dX12_looked_55 (pc' := 58) rfl rfl ?_
            refine st_callV (pc' := 61) (kc := k - 1) (E' := LAY) (cal := m_X12_named) (n := 2) (as := [vI x1, vL (gl J 74 7)]) (S := []) dX12_looked_58 rfl l_X12_403 k_X12_named rfl L_74 c_X12 rfl rfl (Nat.le_of_ble_eq_true rfl) (by omega) ⟨Nat.le_refl _, Nat.le_refl _, Nat.le_refl _, Nat.le_refl _⟩ h (fun r M' q => ?_)
            obtain ⟨v1, I2, J3, rfl, rfl, h⟩ := q
            change WP _ LAY m_X12_looked 61 [(0, vR (some 74)), (1, vI x1)] [vI v1] (mem (P, some 5, some 22) I2 J3) Q
            refine st_istore_n (pc' := 62) (L' := [(2, vI v1), (0, vR (some 74)), (1, vI x1)]) dX12_looked_61 rfl rfl (by decide) rfl ?_
            refine st_aload_n (pc' := 63) dX12_looked_62 rfl rfl (j := 1) rfl ?_
            refine G_X12_36_74 dX12_looked_63 (pc' := 66) rfl rfl ?_
            refine st_if_ne (tg := 83) (pc' := 69) dX12_looked_66 (by decide) rfl (gi_in _ _ _) (fun c => ?_) (fun c => ?_)
            · replace h := h.1 c
              refine st_aload_n (pc' := 84) dX12_looked_83 rfl rfl (j := 1) rfl ?_
              refine G_X12_36_74 dX12_looked_84 (pc' := 87) rfl rfl ?_
              refine st_if_le (tg := 94) (pc' := 90) dX12_looked_87 (by decide) rfl (gi_in _ _ _) (fun c => ?_) (fun c => ?_)
              · replace h := h.1 c
                refine st_iload_n (pc' := 95) dX12_looked_94 rfl rfl (j := 0) rfl ?_
                exact st_iret (ty := .int) dX12_looked_95 rfl rfl rfl h
              · replace h := h.2 c
                refine st_iconst (pc' := 91) dX12_looked_90 rfl ?_
                refine st_goto (pc' := 95) dX12_looked_91 (by decide) ?_
                exact st_iret (ty := .int) dX12_looked_95 rfl rfl rfl h
            · replace h := h.2 c
              refine st_iload_n (pc' := 70) dX12_looked_69 rfl rfl (j := 0) rfl ?_
              refine st_iconst (pc' := 71) dX12_looked_70 rfl ?_
              obtain ⟨e4, h⟩ := h
              refine st_icmp_ne (tg := 83) (pc' := 74) dX12_looked_71 (by decide) rfl e4 (by decide) (fun c => ?_) (fun c => ?_)
              · replace h := h.1 c
                refine st_aload_n (pc' := 84) dX12_looked_83 rfl rfl (j := 1) rfl ?_
                refine G_X12_36_74 dX12_looked_84 (pc' := 87) rfl rfl ?_
                refine st_if_le (tg := 94) (pc' := 90) dX12_looked_87 (by decide) rfl (gi_in _ _ _) (fun c => ?_) (fun c => ?_)
                · replace h := h.1 c
                  refine st_iload_n (pc' := 95) dX12_looked_94 rfl rfl (j := 0) rfl ?_
                  exact st_iret (ty := .int) dX12_looked_95 rfl rfl rfl h
                · replace h := h.2 c
                  refine st_iconst (pc' := 91) dX12_looked_90 rfl ?_
                  refine st_goto (pc' := 95) dX12_looked_91 (by decide) ?_
                  exact st_iret (ty := .int) dX12_looked_95 rfl rfl rfl h
              · replace h := h.2 c
                refine st_aload_n (pc' := 75) dX12_looked_74 rfl rfl (j := 1) rfl ?_
                refine st_iconst (pc' := 76) dX12_looked_75 rfl ?_
                refine st_aload_n (pc' := 77) dX12_looked_76 rfl rfl (j := 1) rfl ?_
                refine G_X12_23_74 dX12_looked_77 (pc' := 80) rfl rfl ?_
                refine st_callV (pc' := 83) (kc := k - 1) (E' := LAY) (cal := m_X12_blame) (n := 2) (as := [vI 3, vI (gi I2 74 4)]) (S := []) dX12_looked_80 rfl l_X12_287 k_X12_blame rfl L_74 c_X12 rfl rfl (Nat.le_of_ble_eq_true rfl) (by omega) ⟨Nat.le_refl _, Nat.le_refl _, Nat.le_refl _, Nat.le_refl _⟩ (Q1 := fun r M' => WP k LAY m_X12_looked 83 [(2, vI v1), (0, vR (some 74)), (1, vI x1)] (r.toList ++ []) M' Q) (WPm.of k_X12_blame.1 (Nat.le_of_ble_eq_true rfl) (B_X12_blame_0 (by omega) ?_)) (fun r M' q => q)
                refine ⟨fun c => ?_, fun c => ?_⟩
                · replace h := h.1 c
                  change WP _ LAY m_X12_looked 83 [(2, vI v1), (0, vR (some 74)), (1, vI x1)] [] (mem (P, some 5, some 22) (si (si I2 74 8 3) 74 9 (gi I2 74 4)) J3) Q
                  refine st_aload_n (pc' := 84) dX12_looked_83 rfl rfl (j := 1) rfl ?_
                  refine G_X12_36_74 dX12_looked_84 (pc' := 87) rfl rfl ?_
                  rw [show gi (si (si I2 74 8 3) 74 9 (gi I2 74 4)) 74 8 = 3 from ((gi_idx _ _ _ (by decide)).trans (gi_same _ _ _ (by decide)))]
                  refine st_if_le (tg := 94) (pc' := 90) dX12_looked_87 (by decide) rfl (by decide) (fun c => ?_) (fun c => ?_)
                  · exact absurd c (by decide)
                  · refine st_iconst (pc' := 91) dX12_looked_90 rfl ?_
                    refine st_goto (pc' := 95) dX12_looked_91 (by decide) ?_
                    exact st_iret (ty := .int) dX12_looked_95 rfl rfl rfl h
                · replace h := h.2 c
                  change WP _ LAY m_X12_looked 83 [(2, vI v1), (0, vR (some 74)), (1, vI x1)] [] (mem (P, some 5, some 22) I2 J3) Q
                  refine st_aload_n (pc' := 84) dX12_looked_83 rfl rfl (j := 1) rfl ?_
                  refine G_X12_36_74 dX12_looked_84 (pc' := 87) rfl rfl ?_
                  refine st_if_le (tg := 94) (pc' := 90) dX12_looked_87 (by decide) rfl (gi_in _ _ _) (fun c => ?_) (fun c => ?_)
                  · replace h := h.1 c
                    refine st_iload_n (pc' := 95) dX12_looked_94 rfl rfl (j := 0) rfl ?_
                    exact st_iret (ty := .int) dX12_looked_95 rfl rfl rfl h
                  · replace h := h.2 c
                    refine st_iconst (pc' := 91) dX12_looked_90 rfl ?_
                    refine st_goto (pc' := 95) dX12_looked_91 (by decide) ?_
                    exact st_iret (ty := .int) dX12_looked_95 rfl rfl rfl h
          · replace h := h.2 c
            refine st_iconst (pc' := 49) dX12_looked_48 rfl ?_
            refine st_goto (pc' := 61) dX12_looked_49 (by decide) ?_
            refine st_istore_n (pc' := 62) (L' := [(2, vI 0), (0, vR (some 74)), (1, vI x1)]) dX12_looked_61 rfl rfl (by decide) rfl ?_
            refine st_aload_n (pc' := 63) dX12_looked_62 rfl rfl (j := 1) rfl ?_
            refine G_X12_36_74 dX12_looked_63 (pc' := 66) rfl rfl ?_
            refine st_if_ne (tg := 83) (pc' := 69) dX12_looked_66 (by decide) rfl (gi_in _ _ _) (fun c => ?_) (fun c => ?_)
            · replace h := h.1 c
              refine st_aload_n (pc' := 84) dX12_looked_83 rfl rfl (j := 1) rfl ?_
              refine G_X12_36_74 dX12_looked_84 (pc' := 87) rfl rfl ?_
              refine st_if_le (tg := 94) (pc' := 90) dX12_looked_87 (by decide) rfl (gi_in _ _ _) (fun c => ?_) (fun c => ?_)
              · replace h := h.1 c
                refine st_iload_n (pc' := 95) dX12_looked_94 rfl rfl (j := 0) rfl ?_
                exact st_iret (ty := .int) dX12_looked_95 rfl rfl rfl h
              · replace h := h.2 c
                refine st_iconst (pc' := 91) dX12_looked_90 rfl ?_
                refine st_goto (pc' := 95) dX12_looked_91 (by decide) ?_
                exact st_iret (ty := .int) dX12_looked_95 rfl rfl rfl h
            · replace h := h.2 c
              refine st_iload_n (pc' := 70) dX12_looked_69 rfl rfl (j := 0) rfl ?_
              refine st_iconst (pc' := 71) dX12_looked_70 rfl ?_
              refine st_icmp_ne (tg := 83) (pc' := 74) dX12_looked_71 (by decide) rfl (by decide) (by decide) (fun c => ?_) (fun c => ?_)
              · refine st_aload_n (pc' := 84) dX12_looked_83 rfl rfl (j := 1) rfl ?_
                refine G_X12_36_74 dX12_looked_84 (pc' := 87) rfl rfl ?_
                refine st_if_le (tg := 94) (pc' := 90) dX12_looked_87 (by decide) rfl (gi_in _ _ _) (fun c => ?_) (fun c => ?_)
                · replace h := h.1 c
                  refine st_iload_n (pc' := 95) dX12_looked_94 rfl rfl (j := 0) rfl ?_
                  exact st_iret (ty := .int) dX12_looked_95 rfl rfl rfl h
                · replace h := h.2 c
                  refine st_iconst (pc' := 91) dX12_looked_90 rfl ?_
                  refine st_goto (pc' := 95) dX12_looked_91 (by decide) ?_
                  exact st_iret (ty := .int) dX12_looked_95 rfl rfl rfl h
              · exact absurd c (by decide)
      · replace h := h.2 c
        refine st_aload_n (pc' := 22) dX12_looked_21 rfl rfl (j := 0) rfl ?_
        refine st_aload_n (pc' := 23) dX12_looked_22 rfl rfl (j := 0) rfl ?_
        refine G_X12_32_74 dX12_looked_23 (pc' := 26) rfl rfl ?_
        refine st_callV (pc' := 29) (kc := k - 1) (E' := LAY) (cal := m_X12_isOwn) (n := 1) (as := [vL (gl J 74 7)]) (S := []) dX12_looked_26 rfl l_X12_298 k_X12_isOwn rfl L_74 c_X12 rfl rfl (Nat.le_of_ble_eq_true rfl) (by omega) ⟨Nat.le_refl _, Nat.le_refl _, Nat.le_refl _, Nat.le_refl _⟩ h (fun r M' q => ?_)
        obtain ⟨v5, I6, J7, rfl, rfl, h⟩ := q
        change WP _ LAY m_X12_looked 29 [(0, vR (some 74)), (1, vI x1)] [vI v5] (mem (P, some 5, some 22) I6 J7) Q
        obtain ⟨e8, h⟩ := h
        refine st_if_eq (tg := 41) (pc' := 32) dX12_looked_29 (by decide) rfl e8 (fun c => ?_) (fun c => ?_)
        · replace h := h.1 c
          refine st_aload_n (pc' := 42) dX12_looked_41 rfl rfl (j := 0) rfl ?_
          refine G_X12_36_74 dX12_looked_42 (pc' := 45) rfl rfl ?_
          refine st_if_le (tg := 52) (pc' := 48) dX12_looked_45 (by decide) rfl (gi_in _ _ _) (fun c => ?_) (fun c => ?_)
          · replace h := h.1 c
            refine st_aload_n (pc' := 53) dX12_looked_52 rfl rfl (j := 0) rfl ?_
            refine st_iload_n (pc' := 54) dX12_looked_53 rfl rfl (j := 1) rfl ?_
            refine st_aload_n (pc' := 55) dX12_looked_54 rfl rfl (j := 0) rfl ?_
            refine G_X12_32_74 dX12_looked_55 (pc' := 58) rfl rfl ?_
            refine st_callV (pc' := 61) (kc := k - 1) (E' := LAY) (cal := m_X12_named) (n := 2) (as := [vI x1, vL (gl J7 74 7)]) (S := []) dX12_looked_58 rfl l_X12_403 k_X12_named rfl L_74 c_X12 rfl rfl (Nat.le_of_ble_eq_true rfl) (by omega) ⟨Nat.le_refl _, Nat.le_refl _, Nat.le_refl _, Nat.le_refl _⟩ h (fun r M' q => ?_)
            obtain ⟨v9, I10, J11, rfl, rfl, h⟩ := q
            change WP _ LAY m_X12_looked 61 [(0, vR (some 74)), (1, vI x1)] [vI v9] (mem (P, some 5, some 22) I10 J11) Q
            refine st_istore_n (pc' := 62) (L' := [(2, vI v9), (0, vR (some 74)), (1, vI x1)]) dX12_looked_61 rfl rfl (by decide) rfl ?_
            refine st_aload_n (pc' := 63) dX12_looked_62 rfl rfl (j := 1) rfl ?_
            refine G_X12_36_74 dX12_looked_63 (pc' := 66) rfl rfl ?_
            refine st_if_ne (tg := 83) (pc' := 69) dX12_looked_66 (by decide) rfl (gi_in _ _ _) (fun c => ?_) (fun c => ?_)
            · replace h := h.1 c
              refine st_aload_n (pc' := 84) dX12_looked_83 rfl rfl (j := 1) rfl ?_
              refine G_X12_36_74 dX12_looked_84 (pc' := 87) rfl rfl ?_
              refine st_if_le (tg := 94) (pc' := 90) dX12_looked_87 (by decide) rfl (gi_in _ _ _) (fun c => ?_) (fun c => ?_)
              · replace h := h.1 c
                refine st_iload_n (pc' := 95) dX12_looked_94 rfl rfl (j := 0) rfl ?_
                exact st_iret (ty := .int) dX12_looked_95 rfl rfl rfl h
              · replace h := h.2 c
                refine st_iconst (pc' := 91) dX12_looked_90 rfl ?_
                refine st_goto (pc' := 95) dX12_looked_91 (by decide) ?_
                exact st_iret (ty := .int) dX12_looked_95 rfl rfl rfl h
            · replace h := h.2 c
              refine st_iload_n (pc' := 70) dX12_looked_69 rfl rfl (j := 0) rfl ?_
              refine st_iconst (pc' := 71) dX12_looked_70 rfl ?_
              obtain ⟨e12, h⟩ := h
              refine st_icmp_ne (tg := 83) (pc' := 74) dX12_looked_71 (by decide) rfl e12 (by decide) (fun c => ?_) (fun c => ?_)
              · replace h := h.1 c
                refine st_aload_n (pc' := 84) dX12_looked_83 rfl rfl (j := 1) rfl ?_
                refine G_X12_36_74 dX12_looked_84 (pc' := 87) rfl rfl ?_
                refine st_if_le (tg := 94) (pc' := 90) dX12_looked_87 (by decide) rfl (gi_in _ _ _) (fun c => ?_) (fun c => ?_)
                · replace h := h.1 c
                  refine st_iload_n (pc' := 95) dX12_looked_94 rfl rfl (j := 0) rfl ?_
                  exact st_iret (ty := .int) dX12_looked_95 rfl rfl rfl h
                · replace h := h.2 c
                  refine st_iconst (pc' := 91) dX12_looked_90 rfl ?_
                  refine st_goto (pc' := 95) dX12_looked_91 (by decide) ?_
                  exact st_iret (ty := .int) dX12_looked_95 rfl rfl rfl h
              · replace h := h.2 c
                refine st_aload_n (pc' := 75) dX12_looked_74 rfl rfl (j := 1) rfl ?_
                refine st_iconst (pc' := 76) dX12_looked_75 rfl ?_
                refine st_aload_n (pc' := 77) dX12_looked_76 rfl rfl (j := 1) rfl ?_
                refine G_X12_23_74 dX12_looked_77 (pc' := 80) rfl rfl ?_
                refine st_callV (pc' := 83) (kc := k - 1) (E' := LAY) (cal := m_X12_blame) (n := 2) (as := [vI 3, vI (gi I10 74 4)]) (S := []) dX12_looked_80 rfl l_X12_287 k_X12_blame rfl L_74 c_X12 rfl rfl (Nat.le_of_ble_eq_true rfl) (by omega) ⟨Nat.le_refl _, Nat.le_refl _, Nat.le_refl _, Nat.le_refl _⟩ (Q1 := fun r M' => WP k LAY m_X12_looked 83 [(2, vI v9), (0, vR (some 74)), (1, vI x1)] (r.toList ++ []) M' Q) (WPm.of k_X12_blame.1 (Nat.le_of_ble_eq_true rfl) (B_X12_blame_0 (by omega) ?_)) (fun r M' q => q)
                refine ⟨fun c => ?_, fun c => ?_⟩
                · replace h := h.1 c
                  change WP _ LAY m_X12_looked 83 [(2, vI v9), (0, vR (some 74)), (1, vI x1)] [] (mem (P, some 5, some 22) (si (si I10 74 8 3) 74 9 (gi I10 74 4)) J11) Q
                  refine st_aload_n (pc' := 84) dX12_looked_83 rfl rfl (j := 1) rfl ?_
                  refine G_X12_36_74 dX12_looked_84 (pc' := 87) rfl rfl ?_
                  rw [show gi (si (si I10 74 8 3) 74 9 (gi I10 74 4)) 74 8 = 3 from ((gi_idx _ _ _ (by decide)).trans (gi_same _ _ _ (by decide)))]
                  refine st_if_le (tg := 94) (pc' := 90) dX12_looked_87 (by decide) rfl (by decide) (fun c => ?_) (fun c => ?_)
                  · exact absurd c (by decide)
                  · refine st_iconst (pc' := 91) dX12_looked_90 rfl ?_
                    refine st_goto (pc' := 95) dX12_looked_91 (by decide) ?_
                    exact st_iret (ty := .int) dX12_looked_95 rfl rfl rfl h
                · replace h := h.2 c
                  change WP _ LAY m_X12_looked 83 [(2, vI v9), (0, vR (some 74)), (1, vI x1)] [] (mem (P, some 5, some 22) I10 J11) Q
                  refine st_aload_n (pc' := 84) dX12_looked_83 rfl rfl (j := 1) rfl ?_
                  refine G_X12_36_74 dX12_looked_84 (pc' := 87) rfl rfl ?_
                  refine st_if_le (tg := 94) (pc' := 90) dX12_looked_87 (by decide) rfl (gi_in _ _ _) (fun c => ?_) (fun c => ?_)
                  · replace h := h.1 c
                    refine st_iload_n (pc' := 95) dX12_looked_94 rfl rfl (j := 0) rfl ?_
                    exact st_iret (ty := .int) dX12_looked_95 rfl rfl rfl h
                  · replace h := h.2 c
                    refine st_iconst (pc' := 91) dX12_looked_90 rfl ?_
                    refine st_goto (pc' := 95) dX12_looked_91 (by decide) ?_
                    exact st_iret (ty := .int) dX12_looked_95 rfl rfl rfl h
          · replace h := h.2 c
            refine st_iconst (pc' := 49) dX12_looked_48 rfl ?_
            refine st_goto (pc' := 61) dX12_looked_49 (by decide) ?_
            refine st_istore_n (pc' := 62) (L' := [(2, vI 0), (0, vR (some 74)), (1, vI x1)]) dX12_looked_61 rfl rfl (by decide) rfl ?_
            refine st_aload_n (pc' := 63) dX12_looked_62 rfl rfl (j := 1) rfl ?_
            refine G_X12_36_74 dX12_looked_63 (pc' := 66) rfl rfl ?_
            refine st_if_ne (tg := 83) (pc' := 69) dX12_looked_66 (by decide) rfl (gi_in _ _ _) (fun c => ?_) (fun c => ?_)
            · replace h := h.1 c
              refine st_aload_n (pc' := 84) dX12_looked_83 rfl rfl (j := 1) rfl ?_
              refine G_X12_36_74 dX12_looked_84 (pc' := 87) rfl rfl ?_
              refine st_if_le (tg := 94) (pc' := 90) dX12_looked_87 (by decide) rfl (gi_in _ _ _) (fun c => ?_) (fun c => ?_)
              · replace h := h.1 c
                refine st_iload_n (pc' := 95) dX12_looked_94 rfl rfl (j := 0) rfl ?_
                exact st_iret (ty := .int) dX12_looked_95 rfl rfl rfl h
              · replace h := h.2 c
                refine st_iconst (pc' := 91) dX12_looked_90 rfl ?_
                refine st_goto (pc' := 95) dX12_looked_91 (by decide) ?_
                exact st_iret (ty := .int) dX12_looked_95 rfl rfl rfl h
            · replace h := h.2 c
              refine st_iload_n (pc' := 70) dX12_looked_69 rfl rfl (j := 0) rfl ?_
              refine st_iconst (pc' := 71) dX12_looked_70 rfl ?_
              refine st_icmp_ne (tg := 83) (pc' := 74) dX12_looked_71 (by decide) rfl (by decide) (by decide) (fun c => ?_) (fun c => ?_)
              · refine st_aload_n (pc' := 84) dX12_looked_83 rfl rfl (j := 1) rfl ?_
                refine G_X12_36_74 dX12_looked_84 (pc' := 87) rfl rfl ?_
                refine st_if_le (tg := 94) (pc' := 90) dX12_looked_87 (by decide) rfl (gi_in _ _ _) (fun c => ?_) (fun c => ?_)
                · replace h := h.1 c
                  refine st_iload_n (pc' := 95) dX12_looked_94 rfl rfl (j := 0) rfl ?_
                  exact st_iret (ty := .int) dX12_looked_95 rfl rfl rfl h
                · replace h := h.2 c
                  refine st_iconst (pc' := 91) dX12_looked_90 rfl ?_
                  refine st_goto (pc' := 95) dX12_looked_91 (by decide) ?_
                  exact st_iret (ty := .int) dX12_looked_95 rfl rfl rfl h
              · exact absurd c (by decide)
        · replace h := h.2 c
          refine st_aload_n (pc' := 33) dX12_looked_32 rfl rfl (j := 0) rfl ?_
          refine st_iconst (pc' := 34) dX12_looked_33 rfl ?_
          refine st_aload_n (pc' := 35) dX12_looked_34 rfl rfl (j := 0) rfl ?_
          refine G_X12_23_74 dX12_looked_35 (pc' := 38) rfl rfl ?_
          refine st_callV (pc' := 41) (kc := k - 1) (E' := LAY) (cal := m_X12_blame) (n := 2) (as := [vI 1, vI (gi I6 74 4)]) (S := []) dX12_looked_38 rfl l_X12_287 k_X12_blame rfl L_74 c_X12 rfl rfl (Nat.le_of_ble_eq_true rfl) (by omega) ⟨Nat.le_refl _, Nat.le_refl _, Nat.le_refl _, Nat.le_refl _⟩ (Q1 := fun r M' => WP k LAY m_X12_looked 41 [(0, vR (some 74)), (1, vI x1)] (r.toList ++ []) M' Q) (WPm.of k_X12_blame.1 (Nat.le_of_ble_eq_true rfl) (B_X12_blame_0 (by omega) ?_)) (fun r M' q => q)
          refine ⟨fun c => ?_, fun c => ?_⟩
          · replace h := h.1 c
            change WP _ LAY m_X12_looked 41 [(0, vR (some 74)), (1, vI x1)] [] (mem (P, some 5, some 22) (si (si I6 74 8 1) 74 9 (gi I6 74 4)) J7) Q
            refine st_aload_n (pc' := 42) dX12_looked_41 rfl rfl (j := 0) rfl ?_
            refine G_X12_36_74 dX12_looked_42 (pc' := 45) rfl rfl ?_
            rw [show gi (si (si I6 74 8 1) 74 9 (gi I6 74 4)) 74 8 = 1 from ((gi_idx _ _ _ (by decide)).trans (gi_same _ _ _ (by decide)))]
            refine st_if_le (tg := 52) (pc' := 48) dX12_looked_45 (by decide) rfl (by decide) (fun c => ?_) (fun c => ?_)
            · exact absurd c (by decide)
            · refine st_iconst (pc' := 49) dX12_looked_48 rfl ?_
              refine st_goto (pc' := 61) dX12_looked_49 (by decide) ?_
              refine st_istore_n (pc' := 62) (L' := [(2, vI 0), (0, vR (some 74)), (1, vI x1)]) dX12_looked_61 rfl rfl (by decide) rfl ?_
              refine st_aload_n (pc' := 63) dX12_looked_62 rfl rfl (j := 1) rfl ?_
              refine G_X12_36_74 dX12_looked_63 (pc' := 66) rfl rfl ?_
              rw [show gi (si (si I6 74 8 1) 74 9 (gi I6 74 4)) 74 8 = 1 from ((gi_idx _ _ _ (by decide)).trans (gi_same _ _ _ (by decide)))]
              refine st_if_ne (tg := 83) (pc' := 69) dX12_looked_66 (by decide) rfl (by decide) (fun c => ?_) (fun c => ?_)
              · refine st_aload_n (pc' := 84) dX12_looked_83 rfl rfl (j := 1) rfl ?_
                refine G_X12_36_74 dX12_looked_84 (pc' := 87) rfl rfl ?_
                rw [show gi (si (si I6 74 8 1) 74 9 (gi I6 74 4)) 74 8 = 1 from ((gi_idx _ _ _ (by decide)).trans (gi_same _ _ _ (by decide)))]
                refine st_if_le (tg := 94) (pc' := 90) dX12_looked_87 (by decide) rfl (by decide) (fun c => ?_) (fun c => ?_)
                · exact absurd c (by decide)
                · refine st_iconst (pc' := 91) dX12_looked_90 rfl ?_
                  refine st_goto (pc' := 95) dX12_looked_91 (by decide) ?_
                  exact st_iret (ty := .int) dX12_looked_95 rfl rfl rfl h
              · exact absurd c (by decide)
          · replace h := h.2 c
            change WP _ LAY m_X12_looked 41 [(0, vR (some 74)), (1, vI x1)] [] (mem (P, some 5, some 22) I6 J7) Q
            refine st_aload_n (pc' := 42) dX12_looked_41 rfl rfl (j := 0) rfl ?_
            refine G_X12_36_74 dX12_looked_42 (pc' := 45) rfl rfl ?_
            refine st_if_le (tg := 52) (pc' := 48) dX12_looked_45 (by decide) rfl (gi_in _ _ _) (fun c => ?_) (fun c => ?_)
            · replace h := h.1 c
              refine st_aload_n (pc' := 53) dX12_looked_52 rfl rfl (j := 0) rfl ?_
              refine st_iload_n (pc' := 54) dX12_looked_53 rfl rfl (j := 1) rfl ?_
              refine st_aload_n (pc' := 55) dX12_looked_54 rfl rfl (j := 0) rfl ?_
              refine G_X12_32_74 dX12_looked_55 (pc' := 58) rfl rfl ?_
              refine st_callV (pc' := 61) (kc := k - 1) (E' := LAY) (cal := m_X12_named) (n := 2) (as := [vI x1, vL (gl J7 74 7)]) (S := []) dX12_looked_58 rfl l_X12_403 k_X12_named rfl L_74 c_X12 rfl rfl (Nat.le_of_ble_eq_true rfl) (by omega) ⟨Nat.le_refl _, Nat.le_refl _, Nat.le_refl _, Nat.le_refl _⟩ h (fun r M' q => ?_)
              obtain ⟨v13, I14, J15, rfl, rfl, h⟩ := q
              change WP _ LAY m_X12_looked 61 [(0, vR (some 74)), (1, vI x1)] [vI v13] (mem (P, some 5, some 22) I14 J15) Q
              refine st_istore_n (pc' := 62) (L' := [(2, vI v13), (0, vR (some 74)), (1, vI x1)]) dX12_looked_61 rfl rfl (by decide) rfl ?_
              refine st_aload_n (pc' := 63) dX12_looked_62 rfl rfl (j := 1) rfl ?_
              refine G_X12_36_74 dX12_looked_63 (pc' := 66) rfl rfl ?_
              refine st_if_ne (tg := 83) (pc' := 69) dX12_looked_66 (by decide) rfl (gi_in _ _ _) (fun c => ?_) (fun c => ?_)
              · replace h := h.1 c
                refine st_aload_n (pc' := 84) dX12_looked_83 rfl rfl (j := 1) rfl ?_
                refine G_X12_36_74 dX12_looked_84 (pc' := 87) rfl rfl ?_
                refine st_if_le (tg := 94) (pc' := 90) dX12_looked_87 (by decide) rfl (gi_in _ _ _) (fun c => ?_) (fun c => ?_)
                · replace h := h.1 c
                  refine st_iload_n (pc' := 95) dX12_looked_94 rfl rfl (j := 0) rfl ?_
                  exact st_iret (ty := .int) dX12_looked_95 rfl rfl rfl h
                · replace h := h.2 c
                  refine st_iconst (pc' := 91) dX12_looked_90 rfl ?_
                  refine st_goto (pc' := 95) dX12_looked_91 (by decide) ?_
                  exact st_iret (ty := .int) dX12_looked_95 rfl rfl rfl h
              · replace h := h.2 c
                refine st_iload_n (pc' := 70) dX12_looked_69 rfl rfl (j := 0) rfl ?_
                refine st_iconst (pc' := 71) dX12_looked_70 rfl ?_
                obtain ⟨e16, h⟩ := h
                refine st_icmp_ne (tg := 83) (pc' := 74) dX12_looked_71 (by decide) rfl e16 (by decide) (fun c => ?_) (fun c => ?_)
                · replace h := h.1 c
                  refine st_aload_n (pc' := 84) dX12_looked_83 rfl rfl (j := 1) rfl ?_
                  refine G_X12_36_74 dX12_looked_84 (pc' := 87) rfl rfl ?_
                  refine st_if_le (tg := 94) (pc' := 90) dX12_looked_87 (by decide) rfl (gi_in _ _ _) (fun c => ?_) (fun c => ?_)
                  · replace h := h.1 c
                    refine st_iload_n (pc' := 95) dX12_looked_94 rfl rfl (j := 0) rfl ?_
                    exact st_iret (ty := .int) dX12_looked_95 rfl rfl rfl h
                  · replace h := h.2 c
                    refine st_iconst (pc' := 91) dX12_looked_90 rfl ?_
                    refine st_goto (pc' := 95) dX12_looked_91 (by decide) ?_
                    exact st_iret (ty := .int) dX12_looked_95 rfl rfl rfl h
                · replace h := h.2 c
                  refine st_aload_n (pc' := 75) dX12_looked_74 rfl rfl (j := 1) rfl ?_
                  refine st_iconst (pc' := 76) dX12_looked_75 rfl ?_
                  refine st_aload_n (pc' := 77) dX12_looked_76 rfl rfl (j := 1) rfl ?_
                  refine G_X12_23_74 dX12_looked_77 (pc' := 80) rfl rfl ?_
                  refine st_callV (pc' := 83) (kc := k - 1) (E' := LAY) (cal := m_X12_blame) (n := 2) (as := [vI 3, vI (gi I14 74 4)]) (S := []) dX12_looked_80 rfl l_X12_287 k_X12_blame rfl L_74 c_X12 rfl rfl (Nat.le_of_ble_eq_true rfl) (by omega) ⟨Nat.le_refl _, Nat.le_refl _, Nat.le_refl _, Nat.le_refl _⟩ (Q1 := fun r M' => WP k LAY m_X12_looked 83 [(2, vI v13), (0, vR (some 74)), (1, vI x1)] (r.toList ++ []) M' Q) (WPm.of k_X12_blame.1 (Nat.le_of_ble_eq_true rfl) (B_X12_blame_0 (by omega) ?_)) (fun r M' q => q)
                  refine ⟨fun c => ?_, fun c => ?_⟩
                  · replace h := h.1 c
                    change WP _ LAY m_X12_looked 83 [(2, vI v13), (0, vR (some 74)), (1, vI x1)] [] (mem (P, some 5, some 22) (si (si I14 74 8 3) 74 9 (gi I14 74 4)) J15) Q
                    refine st_aload_n (pc' := 84) dX12_looked_83 rfl rfl (j := 1) rfl ?_
                    refine G_X12_36_74 dX12_looked_84 (pc' := 87) rfl rfl ?_
                    rw [show gi (si (si I14 74 8 3) 74 9 (gi I14 74 4)) 74 8 = 3 from ((gi_idx _ _ _ (by decide)).trans (gi_same _ _ _ (by decide)))]
                    refine st_if_le (tg := 94) (pc' := 90) dX12_looked_87 (by decide) rfl (by decide) (fun c => ?_) (fun c => ?_)
                    · exact absurd c (by decide)
                    · refine st_iconst (pc' := 91) dX12_looked_90 rfl ?_
                      refine st_goto (pc' := 95) dX12_looked_91 (by decide) ?_
                      exact st_iret (ty := .int) dX12_looked_95 rfl rfl rfl h
                  · replace h := h.2 c
                    change WP _ LAY m_X12_looked 83 [(2, vI v13), (0, vR (some 74)), (1, vI x1)] [] (mem (P, some 5, some 22) I14 J15) Q
                    refine st_aload_n (pc' := 84) dX12_looked_83 rfl rfl (j := 1) rfl ?_
                    refine G_X12_36_74 dX12_looked_84 (pc' := 87) rfl rfl ?_
                    refine st_if_le (tg := 94) (pc' := 90) dX12_looked_87 (by decide) rfl (gi_in _ _ _) (fun c => ?_) (fun c => ?_)
                    · replace h := h.1 c
                      refine st_iload_n (pc' := 95) dX12_looked_94 rfl rfl (j := 0) rfl ?_
                      exact st_iret (ty := .int) dX12_looked_95 rfl rfl rfl h
                    · replace h := h.2 c
                      refine st_iconst (pc' := 91) dX12_looked_90 rfl ?_
                      refine st_goto (pc' := 95) dX12_looked_91 (by decide) ?_
                      exact st_iret (ty := .int) dX12_looked_95 rfl rfl rfl h
            · replace h := h.2 c
              refine st_iconst (pc' := 49) dX12_looked_48 rfl ?_
              refine st_goto (pc' := 61) dX12_looked_49 (by decide) ?_
              refine st_istore_n (pc' := 62) (L' := [(2, vI 0), (0, vR (some 74)), (1, vI x1)]) dX12_looked_61 rfl rfl (by decide) rfl ?_
              refine st_aload_n (pc' := 63) dX12_looked_62 rfl rfl (j := 1) rfl ?_
              refine G_X12_36_74 dX12_looked_63 (pc' := 66) rfl rfl ?_
              refine st_if_ne (tg := 83) (pc' := 69) dX12_looked_66 (by decide) rfl (gi_in _ _ _) (fun c => ?_) (fun c => ?_)
              · replace h := h.1 c
                refine st_aload_n (pc' := 84) dX12_looked_83 rfl rfl (j := 1) rfl ?_
                refine G_X12_36_74 dX12_looked_84 (pc' := 87) rfl rfl ?_
                refine st_if_le (tg := 94) (pc' := 90) dX12_looked_87 (by decide) rfl (gi_in _ _ _) (fun c => ?_) (fun c => ?_)
                · replace h := h.1 c
                  refine st_iload_n (pc' := 95) dX12_looked_94 rfl rfl (j := 0) rfl ?_
                  exact st_iret (ty := .int) dX12_looked_95 rfl rfl rfl h
                · replace h := h.2 c
                  refine st_iconst (pc' := 91) dX12_looked_90 rfl ?_
                  refine st_goto (pc' := 95) dX12_looked_91 (by decide) ?_
                  exact st_iret (ty := .int) dX12_looked_95 rfl rfl rfl h
              · replace h := h.2 c
                refine st_iload_n (pc' := 70) dX12_looked_69 rfl rfl (j := 0) rfl ?_
                refine st_iconst (pc' := 71) dX12_looked_70 rfl ?_
                refine st_icmp_ne (tg := 83) (pc' := 74) dX12_looked_71 (by decide) rfl (by decide) (by decide) (fun c => ?_) (fun c => ?_)
                · refine st_aload_n (pc' := 84) dX12_looked_83 rfl rfl (j := 1) rfl ?_
                  refine G_X12_36_74 dX12_looked_84 (pc' := 87) rfl rfl ?_
                  refine st_if_le (tg := 94) (pc' := 90) dX12_looked_87 (by decide) rfl (gi_in _ _ _) (fun c => ?_) (fun c => ?_)
                  · replace h := h.1 c
                    refine st_iload_n (pc' := 95) dX12_looked_94 rfl rfl (j := 0) rfl ?_
                    exact st_iret (ty := .int) dX12_looked_95 rfl rfl rfl h
                  · replace h := h.2 c
                    refine st_iconst (pc' := 91) dX12_looked_90 rfl ?_
                    refine st_goto (pc' := 95) dX12_looked_91 (by decide) ?_
                    exact st_iret (ty := .int) dX12_looked_95 rfl rfl rfl h
                · exact absurd c (by decide)
    · replace h := h.2 c
      refine st_iconst (pc' := 12) dX12_looked_11 rfl ?_
      exact st_iret (ty := .int) dX12_looked_12 rfl rfl rfl h
  · replace h := h.2 c
    refine ⟨fun c => ?_, fun c => ?_⟩
    · replace h := h.1 c
      change WP _ LAY m_X12_looked 4 [(0, vR (some 74)), (1, vI x1)] [] (mem (P, some 5, some 22) (si (si I 74 8 1) 74 9 (gi I 74 12)) J) Q
      refine st_aload_n (pc' := 5) dX12_looked_4 rfl rfl (j := 0) rfl ?_
      refine G_X12_36_74 dX12_looked_5 (pc' := 8) rfl rfl ?_
      rw [show gi (si (si I 74 8 1) 74 9 (gi I 74 12)) 74 8 = 1 from ((gi_idx _ _ _ (by decide)).trans (gi_same _ _ _ (by decide)))]
      refine st_if_le (tg := 13) (pc' := 11) dX12_looked_8 (by decide) rfl (by decide) (fun c => ?_) (fun c => ?_)
      · exact absurd c (by decide)
      · refine st_iconst (pc' := 12) dX12_looked_11 rfl ?_
        exact st_iret (ty := .int) dX12_looked_12 rfl rfl rfl h
    · replace h := h.2 c
      change WP _ LAY m_X12_looked 4 [(0, vR (some 74)), (1, vI x1)] [] (mem (P, some 5, some 22) I J) Q
      refine st_aload_n (pc' := 5) dX12_looked_4 rfl rfl (j := 0) rfl ?_
      refine G_X12_36_74 dX12_looked_5 (pc' := 8) rfl rfl ?_
      refine st_if_le (tg := 13) (pc' := 11) dX12_looked_8 (by decide) rfl (gi_in _ _ _) (fun c => ?_) (fun c => ?_)
      · replace h := h.1 c
        refine st_aload_n (pc' := 14) dX12_looked_13 rfl rfl (j := 0) rfl ?_
        refine G_X12_20_74 dX12_looked_14 (pc' := 17) rfl rfl ?_
        refine st_iconst (pc' := 18) dX12_looked_17 rfl ?_
        refine st_icmp_ne (tg := 32) (pc' := 21) dX12_looked_18 (by decide) rfl (gi_in _ _ _) (by decide) (fun c => ?_) (fun c => ?_)
        · replace h := h.1 c
          refine st_aload_n (pc' := 33) dX12_looked_32 rfl rfl (j := 0) rfl ?_
          refine st_iconst (pc' := 34) dX12_looked_33 rfl ?_
          refine st_aload_n (pc' := 35) dX12_looked_34 rfl rfl (j := 0) rfl ?_
          refine G_X12_23_74 dX12_looked_35 (pc' := 38) rfl rfl ?_
          refine st_callV (pc' := 41) (kc := k - 1) (E' := LAY) (cal := m_X12_blame) (n := 2) (as := [vI 1, vI (gi I 74 4)]) (S := []) dX12_looked_38 rfl l_X12_287 k_X12_blame rfl L_74 c_X12 rfl rfl (Nat.le_of_ble_eq_true rfl) (by omega) ⟨Nat.le_refl _, Nat.le_refl _, Nat.le_refl _, Nat.le_refl _⟩ (Q1 := fun r M' => WP k LAY m_X12_looked 41 [(0, vR (some 74)), (1, vI x1)] (r.toList ++ []) M' Q) (WPm.of k_X12_blame.1 (Nat.le_of_ble_eq_true rfl) (B_X12_blame_0 (by omega) ?_)) (fun r M' q => q)
          refine ⟨fun c => ?_, fun c => ?_⟩
          · replace h := h.1 c
            change WP _ LAY m_X12_looked 41 [(0, vR (some 74)), (1, vI x1)] [] (mem (P, some 5, some 22) (si (si I 74 8 1) 74 9 (gi I 74 4)) J) Q
            refine st_aload_n (pc' := 42) dX12_looked_41 rfl rfl (j := 0) rfl ?_
            refine G_X12_36_74 dX12_looked_42 (pc' := 45) rfl rfl ?_
            rw [show gi (si (si I 74 8 1) 74 9 (gi I 74 4)) 74 8 = 1 from ((gi_idx _ _ _ (by decide)).trans (gi_same _ _ _ (by decide)))]
            refine st_if_le (tg := 52) (pc' := 48) dX12_looked_45 (by decide) rfl (by decide) (fun c => ?_) (fun c => ?_)
            · exact absurd c (by decide)
            · refine st_iconst (pc' := 49) dX12_looked_48 rfl ?_
              refine st_goto (pc' := 61) dX12_looked_49 (by decide) ?_
              refine st_istore_n (pc' := 62) (L' := [(2, vI 0), (0, vR (some 74)), (1, vI x1)]) dX12_looked_61 rfl rfl (by decide) rfl ?_
              refine st_aload_n (pc' := 63) dX12_looked_62 rfl rfl (j := 1) rfl ?_
              refine G_X12_36_74 dX12_looked_63 (pc' := 66) rfl rfl ?_
              rw [show gi (si (si I 74 8 1) 74 9 (gi I 74 4)) 74 8 = 1 from ((gi_idx _ _ _ (by decide)).trans (gi_same _ _ _ (by decide)))]
              refine st_if_ne (tg := 83) (pc' := 69) dX12_looked_66 (by decide) rfl (by decide) (fun c => ?_) (fun c => ?_)
              · refine st_aload_n (pc' := 84) dX12_looked_83 rfl rfl (j := 1) rfl ?_
                refine G_X12_36_74 dX12_looked_84 (pc' := 87) rfl rfl ?_
                rw [show gi (si (si I 74 8 1) 74 9 (gi I 74 4)) 74 8 = 1 from ((gi_idx _ _ _ (by decide)).trans (gi_same _ _ _ (by decide)))]
                refine st_if_le (tg := 94) (pc' := 90) dX12_looked_87 (by decide) rfl (by decide) (fun c => ?_) (fun c => ?_)
                · exact absurd c (by decide)
                · refine st_iconst (pc' := 91) dX12_looked_90 rfl ?_
                  refine st_goto (pc' := 95) dX12_looked_91 (by decide) ?_
                  exact st_iret (ty := .int) dX12_looked_95 rfl rfl rfl h
              · exact absurd c (by decide)
          · replace h := h.2 c
            change WP _ LAY m_X12_looked 41 [(0, vR (some 74)), (1, vI x1)] [] (mem (P, some 5, some 22) I J) Q
            refine st_aload_n (pc' := 42) dX12_looked_41 rfl rfl (j := 0) rfl ?_
            refine G_X12_36_74 dX12_looked_42 (pc' := 45) rfl rfl ?_
            refine st_if_le (tg := 52) (pc' := 48) dX12_looked_45 (by decide) rfl (gi_in _ _ _) (fun c => ?_) (fun c => ?_)
            · replace h := h.1 c
              refine st_aload_n (pc' := 53) dX12_looked_52 rfl rfl (j := 0) rfl ?_
              refine st_iload_n (pc' := 54) dX12_looked_53 rfl rfl (j := 1) rfl ?_
              refine st_aload_n (pc' := 55) dX12_looked_54 rfl rfl (j := 0) rfl ?_
              refine G_X12_32_74 dX12_looked_55 (pc' := 58) rfl rfl ?_
              refine st_callV (pc' := 61) (kc := k - 1) (E' := LAY) (cal := m_X12_named) (n := 2) (as := [vI x1, vL (gl J 74 7)]) (S := []) dX12_looked_58 rfl l_X12_403 k_X12_named rfl L_74 c_X12 rfl rfl (Nat.le_of_ble_eq_true rfl) (by omega) ⟨Nat.le_refl _, Nat.le_refl _, Nat.le_refl _, Nat.le_refl _⟩ h (fun r M' q => ?_)
              obtain ⟨v17, I18, J19, rfl, rfl, h⟩ := q
              change WP _ LAY m_X12_looked 61 [(0, vR (some 74)), (1, vI x1)] [vI v17] (mem (P, some 5, some 22) I18 J19) Q
              refine st_istore_n (pc' := 62) (L' := [(2, vI v17), (0, vR (some 74)), (1, vI x1)]) dX12_looked_61 rfl rfl (by decide) rfl ?_
              refine st_aload_n (pc' := 63) dX12_looked_62 rfl rfl (j := 1) rfl ?_
              refine G_X12_36_74 dX12_looked_63 (pc' := 66) rfl rfl ?_
              refine st_if_ne (tg := 83) (pc' := 69) dX12_looked_66 (by decide) rfl (gi_in _ _ _) (fun c => ?_) (fun c => ?_)
              · replace h := h.1 c
                refine st_aload_n (pc' := 84) dX12_looked_83 rfl rfl (j := 1) rfl ?_
                refine G_X12_36_74 dX12_looked_84 (pc' := 87) rfl rfl ?_
                refine st_if_le (tg := 94) (pc' := 90) dX12_looked_87 (by decide) rfl (gi_in _ _ _) (fun c => ?_) (fun c => ?_)
                · replace h := h.1 c
                  refine st_iload_n (pc' := 95) dX12_looked_94 rfl rfl (j := 0) rfl ?_
                  exact st_iret (ty := .int) dX12_looked_95 rfl rfl rfl h
                · replace h := h.2 c
                  refine st_iconst (pc' := 91) dX12_looked_90 rfl ?_
                  refine st_goto (pc' := 95) dX12_looked_91 (by decide) ?_
                  exact st_iret (ty := .int) dX12_looked_95 rfl rfl rfl h
              · replace h := h.2 c
                refine st_iload_n (pc' := 70) dX12_looked_69 rfl rfl (j := 0) rfl ?_
                refine st_iconst (pc' := 71) dX12_looked_70 rfl ?_
                obtain ⟨e20, h⟩ := h
                refine st_icmp_ne (tg := 83) (pc' := 74) dX12_looked_71 (by decide) rfl e20 (by decide) (fun c => ?_) (fun c => ?_)
                · replace h := h.1 c
                  refine st_aload_n (pc' := 84) dX12_looked_83 rfl rfl (j := 1) rfl ?_
                  refine G_X12_36_74 dX12_looked_84 (pc' := 87) rfl rfl ?_
                  refine st_if_le (tg := 94) (pc' := 90) dX12_looked_87 (by decide) rfl (gi_in _ _ _) (fun c => ?_) (fun c => ?_)
                  · replace h := h.1 c
                    refine st_iload_n (pc' := 95) dX12_looked_94 rfl rfl (j := 0) rfl ?_
                    exact st_iret (ty := .int) dX12_looked_95 rfl rfl rfl h
                  · replace h := h.2 c
                    refine st_iconst (pc' := 91) dX12_looked_90 rfl ?_
                    refine st_goto (pc' := 95) dX12_looked_91 (by decide) ?_
                    exact st_iret (ty := .int) dX12_looked_95 rfl rfl rfl h
                · replace h := h.2 c
                  refine st_aload_n (pc' := 75) dX12_looked_74 rfl rfl (j := 1) rfl ?_
                  refine st_iconst (pc' := 76) dX12_looked_75 rfl ?_
                  refine st_aload_n (pc' := 77) dX12_looked_76 rfl rfl (j := 1) rfl ?_
                  refine G_X12_23_74 dX12_looked_77 (pc' := 80) rfl rfl ?_
                  refine st_callV (pc' := 83) (kc := k - 1) (E' := LAY) (cal := m_X12_blame) (n := 2) (as := [vI 3, vI (gi I18 74 4)]) (S := []) dX12_looked_80 rfl l_X12_287 k_X12_blame rfl L_74 c_X12 rfl rfl (Nat.le_of_ble_eq_true rfl) (by omega) ⟨Nat.le_refl _, Nat.le_refl _, Nat.le_refl _, Nat.le_refl _⟩ (Q1 := fun r M' => WP k LAY m_X12_looked 83 [(2, vI v17), (0, vR (some 74)), (1, vI x1)] (r.toList ++ []) M' Q) (WPm.of k_X12_blame.1 (Nat.le_of_ble_eq_true rfl) (B_X12_blame_0 (by omega) ?_)) (fun r M' q => q)
                  refine ⟨fun c => ?_, fun c => ?_⟩
                  · replace h := h.1 c
                    change WP _ LAY m_X12_looked 83 [(2, vI v17), (0, vR (some 74)), (1, vI x1)] [] (mem (P, some 5, some 22) (si (si I18 74 8 3) 74 9 (gi I18 74 4)) J19) Q
                    refine st_aload_n (pc' := 84) dX12_looked_83 rfl rfl (j := 1) rfl ?_
                    refine G_X12_36_74 dX12_looked_84 (pc' := 87) rfl rfl ?_
                    rw [show gi (si (si I18 74 8 3) 74 9 (gi I18 74 4)) 74 8 = 3 from ((gi_idx _ _ _ (by decide)).trans (gi_same _ _ _ (by decide)))]
                    refine st_if_le (tg := 94) (pc' := 90) dX12_looked_87 (by decide) rfl (by decide) (fun c => ?_) (fun c => ?_)
                    · exact absurd c (by decide)
                    · refine st_iconst (pc' := 91) dX12_looked_90 rfl ?_
                      refine st_goto (pc' := 95) dX12_looked_91 (by decide) ?_
                      exact st_iret (ty := .int) dX12_looked_95 rfl rfl rfl h
                  · replace h := h.2 c
                    change WP _ LAY m_X12_looked 83 [(2, vI v17), (0, vR (some 74)), (1, vI x1)] [] (mem (P, some 5, some 22) I18 J19) Q
                    refine st_aload_n (pc' := 84) dX12_looked_83 rfl rfl (j := 1) rfl ?_
                    refine G_X12_36_74 dX12_looked_84 (pc' := 87) rfl rfl ?_
                    refine st_if_le (tg := 94) (pc' := 90) dX12_looked_87 (by decide) rfl (gi_in _ _ _) (fun c => ?_) (fun c => ?_)
                    · replace h := h.1 c
                      refine st_iload_n (pc' := 95) dX12_looked_94 rfl rfl (j := 0) rfl ?_
                      exact st_iret (ty := .int) dX12_looked_95 rfl rfl rfl h
                    · replace h := h.2 c
                      refine st_iconst (pc' := 91) dX12_looked_90 rfl ?_
                      refine st_goto (pc' := 95) dX12_looked_91 (by decide) ?_
                      exact st_iret (ty := .int) dX12_looked_95 rfl rfl rfl h
            · replace h := h.2 c
              refine st_iconst (pc' := 49) dX12_looked_48 rfl ?_
              refine st_goto (pc' := 61) dX12_looked_49 (by decide) ?_
              refine st_istore_n (pc' := 62) (L' := [(2, vI 0), (0, vR (some 74)), (1, vI x1)]) dX12_looked_61 rfl rfl (by decide) rfl ?_
              refine st_aload_n (pc' := 63) dX12_looked_62 rfl rfl (j := 1) rfl ?_
              refine G_X12_36_74 dX12_looked_63 (pc' := 66) rfl rfl ?_
              refine st_if_ne (tg := 83) (pc' := 69) dX12_looked_66 (by decide) rfl (gi_in _ _ _) (fun c => ?_) (fun c => ?_)
              · replace h := h.1 c
                refine st_aload_n (pc' := 84) dX12_looked_83 rfl rfl (j := 1) rfl ?_
                refine G_X12_36_74 dX12_looked_84 (pc' := 87) rfl rfl ?_
                refine st_if_le (tg := 94) (pc' := 90) dX12_looked_87 (by decide) rfl (gi_in _ _ _) (fun c => ?_) (fun c => ?_)
                · replace h := h.1 c
                  refine st_iload_n (pc' := 95) dX12_looked_94 rfl rfl (j := 0) rfl ?_
                  exact st_iret (ty := .int) dX12_looked_95 rfl rfl rfl h
                · replace h := h.2 c
                  refine st_iconst (pc' := 91) dX12_looked_90 rfl ?_
                  refine st_goto (pc' := 95) dX12_looked_91 (by decide) ?_
                  exact st_iret (ty := .int) dX12_looked_95 rfl rfl rfl h
              · replace h := h.2 c
                refine st_iload_n (pc' := 70) dX12_looked_69 rfl rfl (j := 0) rfl ?_
                refine st_iconst (pc' := 71) dX12_looked_70 rfl ?_
                refine st_icmp_ne (tg := 83) (pc' := 74) dX12_looked_71 (by decide) rfl (by decide) (by decide) (fun c => ?_) (fun c => ?_)
                · refine st_aload_n (pc' := 84) dX12_looked_83 rfl rfl (j := 1) rfl ?_
                  refine G_X12_36_74 dX12_looked_84 (pc' := 87) rfl rfl ?_
                  refine st_if_le (tg := 94) (pc' := 90) dX12_looked_87 (by decide) rfl (gi_in _ _ _) (fun c => ?_) (fun c => ?_)
                  · replace h := h.1 c
                    refine st_iload_n (pc' := 95) dX12_looked_94 rfl rfl (j := 0) rfl ?_
                    exact st_iret (ty := .int) dX12_looked_95 rfl rfl rfl h
                  · replace h := h.2 c
                    refine st_iconst (pc' := 91) dX12_looked_90 rfl ?_
                    refine st_goto (pc' := 95) dX12_looked_91 (by decide) ?_
                    exact st_iret (ty := .int) dX12_looked_95 rfl rfl rfl h
                · exact absurd c (by decide)
        · replace h := h.2 c
          refine st_aload_n (pc' := 22) dX12_looked_21 rfl rfl (j := 0) rfl ?_
          refine st_aload_n (pc' := 23) dX12_looked_22 rfl rfl (j := 0) rfl ?_
          refine G_X12_32_74 dX12_looked_23 (pc' := 26) rfl rfl ?_
          refine st_callV (pc' := 29) (kc := k - 1) (E' := LAY) (cal := m_X12_isOwn) (n := 1) (as := [vL (gl J 74 7)]) (S := []) dX12_looked_26 rfl l_X12_298 k_X12_isOwn rfl L_74 c_X12 rfl rfl (Nat.le_of_ble_eq_true rfl) (by omega) ⟨Nat.le_refl _, Nat.le_refl _, Nat.le_refl _, Nat.le_refl _⟩ h (fun r M' q => ?_)
          obtain ⟨v21, I22, J23, rfl, rfl, h⟩ := q
          change WP _ LAY m_X12_looked 29 [(0, vR (some 74)), (1, vI x1)] [vI v21] (mem (P, some 5, some 22) I22 J23) Q
          obtain ⟨e24, h⟩ := h
          refine st_if_eq (tg := 41) (pc' := 32) dX12_looked_29 (by decide) rfl e24 (fun c => ?_) (fun c => ?_)
          · replace h := h.1 c
            refine st_aload_n (pc' := 42) dX12_looked_41 rfl rfl (j := 0) rfl ?_
            refine G_X12_36_74 dX12_looked_42 (pc' := 45) rfl rfl ?_
            refine st_if_le (tg := 52) (pc' := 48) dX12_looked_45 (by decide) rfl (gi_in _ _ _) (fun c => ?_) (fun c => ?_)
            · replace h := h.1 c
              refine st_aload_n (pc' := 53) dX12_looked_52 rfl rfl (j := 0) rfl ?_
              refine st_iload_n (pc' := 54) dX12_looked_53 rfl rfl (j := 1) rfl ?_
              refine st_aload_n (pc' := 55) dX12_looked_54 rfl rfl (j := 0) rfl ?_
              refine G_X12_32_74 dX12_looked_55 (pc' := 58) rfl rfl ?_
              refine st_callV (pc' := 61) (kc := k - 1) (E' := LAY) (cal := m_X12_named) (n := 2) (as := [vI x1, vL (gl J23 74 7)]) (S := []) dX12_looked_58 rfl l_X12_403 k_X12_named rfl L_74 c_X12 rfl rfl (Nat.le_of_ble_eq_true rfl) (by omega) ⟨Nat.le_refl _, Nat.le_refl _, Nat.le_refl _, Nat.le_refl _⟩ h (fun r M' q => ?_)
              obtain ⟨v25, I26, J27, rfl, rfl, h⟩ := q
              change WP _ LAY m_X12_looked 61 [(0, vR (some 74)), (1, vI x1)] [vI v25] (mem (P, some 5, some 22) I26 J27) Q
              refine st_istore_n (pc' := 62) (L' := [(2, vI v25), (0, vR (some 74)), (1, vI x1)]) dX12_looked_61 rfl rfl (by decide) rfl ?_
              refine st_aload_n (pc' := 63) dX12_looked_62 rfl rfl (j := 1) rfl ?_
              refine G_X12_36_74 dX12_looked_63 (pc' := 66) rfl rfl ?_
              refine st_if_ne (tg := 83) (pc' := 69) dX12_looked_66 (by decide) rfl (gi_in _ _ _) (fun c => ?_) (fun c => ?_)
              · replace h := h.1 c
                refine st_aload_n (pc' := 84) dX12_looked_83 rfl rfl (j := 1) rfl ?_
                refine G_X12_36_74 dX12_looked_84 (pc' := 87) rfl rfl ?_
                refine st_if_le (tg := 94) (pc' := 90) dX12_looked_87 (by decide) rfl (gi_in _ _ _) (fun c => ?_) (fun c => ?_)
                · replace h := h.1 c
                  refine st_iload_n (pc' := 95) dX12_looked_94 rfl rfl (j := 0) rfl ?_
                  exact st_iret (ty := .int) dX12_looked_95 rfl rfl rfl h
                · replace h := h.2 c
                  refine st_iconst (pc' := 91) dX12_looked_90 rfl ?_
                  refine st_goto (pc' := 95) dX12_looked_91 (by decide) ?_
                  exact st_iret (ty := .int) dX12_looked_95 rfl rfl rfl h
              · replace h := h.2 c
                refine st_iload_n (pc' := 70) dX12_looked_69 rfl rfl (j := 0) rfl ?_
                refine st_iconst (pc' := 71) dX12_looked_70 rfl ?_
                obtain ⟨e28, h⟩ := h
                refine st_icmp_ne (tg := 83) (pc' := 74) dX12_looked_71 (by decide) rfl e28 (by decide) (fun c => ?_) (fun c => ?_)
                · replace h := h.1 c
                  refine st_aload_n (pc' := 84) dX12_looked_83 rfl rfl (j := 1) rfl ?_
                  refine G_X12_36_74 dX12_looked_84 (pc' := 87) rfl rfl ?_
                  refine st_if_le (tg := 94) (pc' := 90) dX12_looked_87 (by decide) rfl (gi_in _ _ _) (fun c => ?_) (fun c => ?_)
                  · replace h := h.1 c
                    refine st_iload_n (pc' := 95) dX12_looked_94 rfl rfl (j := 0) rfl ?_
                    exact st_iret (ty := .int) dX12_looked_95 rfl rfl rfl h
                  · replace h := h.2 c
                    refine st_iconst (pc' := 91) dX12_looked_90 rfl ?_
                    refine st_goto (pc' := 95) dX12_looked_91 (by decide) ?_
                    exact st_iret (ty := .int) dX12_looked_95 rfl rfl rfl h
                · replace h := h.2 c
                  refine st_aload_n (pc' := 75) dX12_looked_74 rfl rfl (j := 1) rfl ?_
                  refine st_iconst (pc' := 76) dX12_looked_75 rfl ?_
                  refine st_aload_n (pc' := 77) dX12_looked_76 rfl rfl (j := 1) rfl ?_
                  refine G_X12_23_74 dX12_looked_77 (pc' := 80) rfl rfl ?_
                  refine st_callV (pc' := 83) (kc := k - 1) (E' := LAY) (cal := m_X12_blame) (n := 2) (as := [vI 3, vI (gi I26 74 4)]) (S := []) dX12_looked_80 rfl l_X12_287 k_X12_blame rfl L_74 c_X12 rfl rfl (Nat.le_of_ble_eq_true rfl) (by omega) ⟨Nat.le_refl _, Nat.le_refl _, Nat.le_refl _, Nat.le_refl _⟩ (Q1 := fun r M' => WP k LAY m_X12_looked 83 [(2, vI v25), (0, vR (some 74)), (1, vI x1)] (r.toList ++ []) M' Q) (WPm.of k_X12_blame.1 (Nat.le_of_ble_eq_true rfl) (B_X12_blame_0 (by omega) ?_)) (fun r M' q => q)
                  refine ⟨fun c => ?_, fun c => ?_⟩
                  · replace h := h.1 c
                    change WP _ LAY m_X12_looked 83 [(2, vI v25), (0, vR (some 74)), (1, vI x1)] [] (mem (P, some 5, some 22) (si (si I26 74 8 3) 74 9 (gi I26 74 4)) J27) Q
                    refine st_aload_n (pc' := 84) dX12_looked_83 rfl rfl (j := 1) rfl ?_
                    refine G_X12_36_74 dX12_looked_84 (pc' := 87) rfl rfl ?_
                    rw [show gi (si (si I26 74 8 3) 74 9 (gi I26 74 4)) 74 8 = 3 from ((gi_idx _ _ _ (by decide)).trans (gi_same _ _ _ (by decide)))]
                    refine st_if_le (tg := 94) (pc' := 90) dX12_looked_87 (by decide) rfl (by decide) (fun c => ?_) (fun c => ?_)
                    · exact absurd c (by decide)
                    · refine st_iconst (pc' := 91) dX12_looked_90 rfl ?_
                      refine st_goto (pc' := 95) dX12_looked_91 (by decide) ?_
                      exact st_iret (ty := .int) dX12_looked_95 rfl rfl rfl h
                  · replace h := h.2 c
                    change WP _ LAY m_X12_looked 83 [(2, vI v25), (0, vR (some 74)), (1, vI x1)] [] (mem (P, some 5, some 22) I26 J27) Q
                    refine st_aload_n (pc' := 84) dX12_looked_83 rfl rfl (j := 1) rfl ?_
                    refine G_X12_36_74 dX12_looked_84 (pc' := 87) rfl rfl ?_
                    refine st_if_le (tg := 94) (pc' := 90) dX12_looked_87 (by decide) rfl (gi_in _ _ _) (fun c => ?_) (fun c => ?_)
                    · replace h := h.1 c
                      refine st_iload_n (pc' := 95) dX12_looked_94 rfl rfl (j := 0) rfl ?_
                      exact st_iret (ty := .int) dX12_looked_95 rfl rfl rfl h
                    · replace h := h.2 c
                      refine st_iconst (pc' := 91) dX12_looked_90 rfl ?_
                      refine st_goto (pc' := 95) dX12_looked_91 (by decide) ?_
                      exact st_iret (ty := .int) dX12_looked_95 rfl rfl rfl h
            · replace h := h.2 c
              refine st_iconst (pc' := 49) dX12_looked_48 rfl ?_
              refine st_goto (pc' := 61) dX12_looked_49 (by decide) ?_
              refine st_istore_n (pc' := 62) (L' := [(2, vI 0), (0, vR (some 74)), (1, vI x1)]) dX12_looked_61 rfl rfl (by decide) rfl ?_
              refine st_aload_n (pc' := 63) dX12_looked_62 rfl rfl (j := 1) rfl ?_
              refine G_X12_36_74 dX12_looked_63 (pc' := 66) rfl rfl ?_
              refine st_if_ne (tg := 83) (pc' := 69) dX12_looked_66 (by decide) rfl (gi_in _ _ _) (fun c => ?_) (fun c => ?_)
              · replace h := h.1 c
                refine st_aload_n (pc' := 84) dX12_looked_83 rfl rfl (j := 1) rfl ?_
                refine G_X12_36_74 dX12_looked_84 (pc' := 87) rfl rfl ?_
                refine st_if_le (tg := 94) (pc' := 90) dX12_looked_87 (by decide) rfl (gi_in _ _ _) (fun c => ?_) (fun c => ?_)
                · replace h := h.1 c
                  refine st_iload_n (pc' := 95) dX12_looked_94 rfl rfl (j := 0) rfl ?_
                  exact st_iret (ty := .int) dX12_looked_95 rfl rfl rfl h
                · replace h := h.2 c
                  refine st_iconst (pc' := 91) dX12_looked_90 rfl ?_
                  refine st_goto (pc' := 95) dX12_looked_91 (by decide) ?_
                  exact st_iret (ty := .int) dX12_looked_95 rfl rfl rfl h
              · replace h := h.2 c
                refine st_iload_n (pc' := 70) dX12_looked_69 rfl rfl (j := 0) rfl ?_
                refine st_iconst (pc' := 71) dX12_looked_70 rfl ?_
                refine st_icmp_ne (tg := 83) (pc' := 74) dX12_looked_71 (by decide) rfl (by decide) (by decide) (fun c => ?_) (fun c => ?_)
                · refine st_aload_n (pc' := 84) dX12_looked_83 rfl rfl (j := 1) rfl ?_
                  refine G_X12_36_74 dX12_looked_84 (pc' := 87) rfl rfl ?_
                  refine st_if_le (tg := 94) (pc' := 90) dX12_looked_87 (by decide) rfl (gi_in _ _ _) (fun c => ?_) (fun c => ?_)
                  · replace h := h.1 c
                    refine st_iload_n (pc' := 95) dX12_looked_94 rfl rfl (j := 0) rfl ?_
                    exact st_iret (ty := .int) dX12_looked_95 rfl rfl rfl h
                  · replace h := h.2 c
                    refine st_iconst (pc' := 91) dX12_looked_90 rfl ?_
                    refine st_goto (pc' := 95) dX12_looked_91 (by decide) ?_
                    exact st_iret (ty := .int) dX12_looked_95 rfl rfl rfl h
                · exact absurd c (by decide)
          · replace h := h.2 c
            refine st_aload_n (pc' := 33) dX12_looked_32 rfl rfl (j := 0) rfl ?_
            refine st_iconst (pc' := 34) dX12_looked_33 rfl ?_
            refine st_aload_n (pc' := 35) dX12_looked_34 rfl rfl (j := 0) rfl ?_
            refine G_X12_23_74 dX12_looked_35 (pc' := 38) rfl rfl ?_
            refine st_callV (pc' := 41) (kc := k - 1) (E' := LAY) (cal := m_X12_blame) (n := 2) (as := [vI 1, vI (gi I22 74 4)]) (S := []) dX12_looked_38 rfl l_X12_287 k_X12_blame rfl L_74 c_X12 rfl rfl (Nat.le_of_ble_eq_true rfl) (by omega) ⟨Nat.le_refl _, Nat.le_refl _, Nat.le_refl _, Nat.le_refl _⟩ (Q1 := fun r M' => WP k LAY m_X12_looked 41 [(0, vR (some 74)), (1, vI x1)] (r.toList ++ []) M' Q) (WPm.of k_X12_blame.1 (Nat.le_of_ble_eq_true rfl) (B_X12_blame_0 (by omega) ?_)) (fun r M' q => q)
            refine ⟨fun c => ?_, fun c => ?_⟩
            · replace h := h.1 c
              change WP _ LAY m_X12_looked 41 [(0, vR (some 74)), (1, vI x1)] [] (mem (P, some 5, some 22) (si (si I22 74 8 1) 74 9 (gi I22 74 4)) J23) Q
              refine st_aload_n (pc' := 42) dX12_looked_41 rfl rfl (j := 0) rfl ?_
              refine G_X12_36_74 dX12_looked_42 (pc' := 45) rfl rfl ?_
              rw [show gi (si (si I22 74 8 1) 74 9 (gi I22 74 4)) 74 8 = 1 from ((gi_idx _ _ _ (by decide)).trans (gi_same _ _ _ (by decide)))]
              refine st_if_le (tg := 52) (pc' := 48) dX12_looked_45 (by decide) rfl (by decide) (fun c => ?_) (fun c => ?_)
              · exact absurd c (by decide)
              · refine st_iconst (pc' := 49) dX12_looked_48 rfl ?_
                refine st_goto (pc' := 61) dX12_looked_49 (by decide) ?_
                refine st_istore_n (pc' := 62) (L' := [(2, vI 0), (0, vR (some 74)), (1, vI x1)]) dX12_looked_61 rfl rfl (by decide) rfl ?_
                refine st_aload_n (pc' := 63) dX12_looked_62 rfl rfl (j := 1) rfl ?_
                refine G_X12_36_74 dX12_looked_63 (pc' := 66) rfl rfl ?_
                rw [show gi (si (si I22 74 8 1) 74 9 (gi I22 74 4)) 74 8 = 1 from ((gi_idx _ _ _ (by decide)).trans (gi_same _ _ _ (by decide)))]
                refine st_if_ne (tg := 83) (pc' := 69) dX12_looked_66 (by decide) rfl (by decide) (fun c => ?_) (fun c => ?_)
                · refine st_aload_n (pc' := 84) dX12_looked_83 rfl rfl (j := 1) rfl ?_
                  refine G_X12_36_74 dX12_looked_84 (pc' := 87) rfl rfl ?_
                  rw [show gi (si (si I22 74 8 1) 74 9 (gi I22 74 4)) 74 8 = 1 from ((gi_idx _ _ _ (by decide)).trans (gi_same _ _ _ (by decide)))]
                  refine st_if_le (tg := 94) (pc' := 90) dX12_looked_87 (by decide) rfl (by decide) (fun c => ?_) (fun c => ?_)
                  · exact absurd c (by decide)
                  · refine st_iconst (pc' := 91) dX12_looked_90 rfl ?_
                    refine st_goto (pc' := 95) dX12_looked_91 (by decide) ?_
                    exact st_iret (ty := .int) dX12_looked_95 rfl rfl rfl h
                · exact absurd c (by decide)
            · replace h := h.2 c
              change WP _ LAY m_X12_looked 41 [(0, vR (some 74)), (1, vI x1)] [] (mem (P, some 5, some 22) I22 J23) Q
              refine st_aload_n (pc' := 42) dX12_looked_41 rfl rfl (j := 0) rfl ?_
              refine G_X12_36_74 dX12_looked_42 (pc' := 45) rfl rfl ?_
              refine st_if_le (tg := 52) (pc' := 48) dX12_looked_45 (by decide) rfl (gi_in _ _ _) (fun c => ?_) (fun c => ?_)
              · replace h := h.1 c
                refine st_aload_n (pc' := 53) dX12_looked_52 rfl rfl (j := 0) rfl ?_
                refine st_iload_n (pc' := 54) dX12_looked_53 rfl rfl (j := 1) rfl ?_
                refine st_aload_n (pc' := 55) dX12_looked_54 rfl rfl (j := 0) rfl ?_
                refine G_X12_32_74 dX12_looked_55 (pc' := 58) rfl rfl ?_
                refine st_callV (pc' := 61) (kc := k - 1) (E' := LAY) (cal := m_X12_named) (n := 2) (as := [vI x1, vL (gl J23 74 7)]) (S := []) dX12_looked_58 rfl l_X12_403 k_X12_named rfl L_74 c_X12 rfl rfl (Nat.le_of_ble_eq_true rfl) (by omega) ⟨Nat.le_refl _, Nat.le_refl _, Nat.le_refl _, Nat.le_refl _⟩ h (fun r M' q => ?_)
                obtain ⟨v29, I30, J31, rfl, rfl, h⟩ := q
                change WP _ LAY m_X12_looked 61 [(0, vR (some 74)), (1, vI x1)] [vI v29] (mem (P, some 5, some 22) I30 J31) Q
                refine st_istore_n (pc' := 62) (L' := [(2, vI v29), (0, vR (some 74)), (1, vI x1)]) dX12_looked_61 rfl rfl (by decide) rfl ?_
                refine st_aload_n (pc' := 63) dX12_looked_62 rfl rfl (j := 1) rfl ?_
                refine G_X12_36_74 dX12_looked_63 (pc' := 66) rfl rfl ?_
                refine st_if_ne (tg := 83) (pc' := 69) dX12_looked_66 (by decide) rfl (gi_in _ _ _) (fun c => ?_) (fun c => ?_)
                · replace h := h.1 c
                  refine st_aload_n (pc' := 84) dX12_looked_83 rfl rfl (j := 1) rfl ?_
                  refine G_X12_36_74 dX12_looked_84 (pc' := 87) rfl rfl ?_
                  refine st_if_le (tg := 94) (pc' := 90) dX12_looked_87 (by decide) rfl (gi_in _ _ _) (fun c => ?_) (fun c => ?_)
                  · replace h := h.1 c
                    refine st_iload_n (pc' := 95) dX12_looked_94 rfl rfl (j := 0) rfl ?_
                    exact st_iret (ty := .int) dX12_looked_95 rfl rfl rfl h
                  · replace h := h.2 c
                    refine st_iconst (pc' := 91) dX12_looked_90 rfl ?_
                    refine st_goto (pc' := 95) dX12_looked_91 (by decide) ?_
                    exact st_iret (ty := .int) dX12_looked_95 rfl rfl rfl h
                · replace h := h.2 c
                  refine st_iload_n (pc' := 70) dX12_looked_69 rfl rfl (j := 0) rfl ?_
                  refine st_iconst (pc' := 71) dX12_looked_70 rfl ?_
                  obtain ⟨e32, h⟩ := h
                  refine st_icmp_ne (tg := 83) (pc' := 74) dX12_looked_71 (by decide) rfl e32 (by decide) (fun c => ?_) (fun c => ?_)
                  · replace h := h.1 c
                    refine st_aload_n (pc' := 84) dX12_looked_83 rfl rfl (j := 1) rfl ?_
                    refine G_X12_36_74 dX12_looked_84 (pc' := 87) rfl rfl ?_
                    refine st_if_le (tg := 94) (pc' := 90) dX12_looked_87 (by decide) rfl (gi_in _ _ _) (fun c => ?_) (fun c => ?_)
                    · replace h := h.1 c
                      refine st_iload_n (pc' := 95) dX12_looked_94 rfl rfl (j := 0) rfl ?_
                      exact st_iret (ty := .int) dX12_looked_95 rfl rfl rfl h
                    · replace h := h.2 c
                      refine st_iconst (pc' := 91) dX12_looked_90 rfl ?_
                      refine st_goto (pc' := 95) dX12_looked_91 (by decide) ?_
                      exact st_iret (ty := .int) dX12_looked_95 rfl rfl rfl h
                  · replace h := h.2 c
                    refine st_aload_n (pc' := 75) dX12_looked_74 rfl rfl (j := 1) rfl ?_
                    refine st_iconst (pc' := 76) dX12_looked_75 rfl ?_
                    refine st_aload_n (pc' := 77) dX12_looked_76 rfl rfl (j := 1) rfl ?_
                    refine G_X12_23_74 dX12_looked_77 (pc' := 80) rfl rfl ?_
                    refine st_callV (pc' := 83) (kc := k - 1) (E' := LAY) (cal := m_X12_blame) (n := 2) (as := [vI 3, vI (gi I30 74 4)]) (S := []) dX12_looked_80 rfl l_X12_287 k_X12_blame rfl L_74 c_X12 rfl rfl (Nat.le_of_ble_eq_true rfl) (by omega) ⟨Nat.le_refl _, Nat.le_refl _, Nat.le_refl _, Nat.le_refl _⟩ (Q1 := fun r M' => WP k LAY m_X12_looked 83 [(2, vI v29), (0, vR (some 74)), (1, vI x1)] (r.toList ++ []) M' Q) (WPm.of k_X12_blame.1 (Nat.le_of_ble_eq_true rfl) (B_X12_blame_0 (by omega) ?_)) (fun r M' q => q)
                    refine ⟨fun c => ?_, fun c => ?_⟩
                    · replace h := h.1 c
                      change WP _ LAY m_X12_looked 83 [(2, vI v29), (0, vR (some 74)), (1, vI x1)] [] (mem (P, some 5, some 22) (si (si I30 74 8 3) 74 9 (gi I30 74 4)) J31) Q
                      refine st_aload_n (pc' := 84) dX12_looked_83 rfl rfl (j := 1) rfl ?_
                      refine G_X12_36_74 dX12_looked_84 (pc' := 87) rfl rfl ?_
                      rw [show gi (si (si I30 74 8 3) 74 9 (gi I30 74 4)) 74 8 = 3 from ((gi_idx _ _ _ (by decide)).trans (gi_same _ _ _ (by decide)))]
                      refine st_if_le (tg := 94) (pc' := 90) dX12_looked_87 (by decide) rfl (by decide) (fun c => ?_) (fun c => ?_)
                      · exact absurd c (by decide)
                      · refine st_iconst (pc' := 91) dX12_looked_90 rfl ?_
                        refine st_goto (pc' := 95) dX12_looked_91 (by decide) ?_
                        exact st_iret (ty := .int) dX12_looked_95 rfl rfl rfl h
                    · replace h := h.2 c
                      change WP _ LAY m_X12_looked 83 [(2, vI v29), (0, vR (some 74)), (1, vI x1)] [] (mem (P, some 5, some 22) I30 J31) Q
                      refine st_aload_n (pc' := 84) dX12_looked_83 rfl rfl (j := 1) rfl ?_
                      refine G_X12_36_74 dX12_looked_84 (pc' := 87) rfl rfl ?_
                      refine st_if_le (tg := 94) (pc' := 90) dX12_looked_87 (by decide) rfl (gi_in _ _ _) (fun c => ?_) (fun c => ?_)
                      · replace h := h.1 c
                        refine st_iload_n (pc' := 95) dX12_looked_94 rfl rfl (j := 0) rfl ?_
                        exact st_iret (ty := .int) dX12_looked_95 rfl rfl rfl h
                      · replace h := h.2 c
                        refine st_iconst (pc' := 91) dX12_looked_90 rfl ?_
                        refine st_goto (pc' := 95) dX12_looked_91 (by decide) ?_
                        exact st_iret (ty := .int) dX12_looked_95 rfl rfl rfl h
              · replace h := h.2 c
                refine st_iconst (pc' := 49) dX12_looked_48 rfl ?_
                refine st_goto (pc' := 61) dX12_looked_49 (by decide) ?_
                refine st_istore_n (pc' := 62) (L' := [(2, vI 0), (0, vR (some 74)), (1, vI x1)]) dX12_looked_61 rfl rfl (by decide) rfl ?_
                refine st_aload_n (pc' := 63) dX12_looked_62 rfl rfl (j := 1) rfl ?_
                refine G_X12_36_74 dX12_looked_63 (pc' := 66) rfl rfl ?_
                refine st_if_ne (tg := 83) (pc' := 69) dX12_looked_66 (by decide) rfl (gi_in _ _ _) (fun c => ?_) (fun c => ?_)
                · replace h := h.1 c
                  refine st_aload_n (pc' := 84) dX12_looked_83 rfl rfl (j := 1) rfl ?_
                  refine G_X12_36_74 dX12_looked_84 (pc' := 87) rfl rfl ?_
                  refine st_if_le (tg := 94) (pc' := 90) dX12_looked_87 (by decide) rfl (gi_in _ _ _) (fun c => ?_) (fun c => ?_)
                  · replace h := h.1 c
                    refine st_iload_n (pc' := 95) dX12_looked_94 rfl rfl (j := 0) rfl ?_
                    exact st_iret (ty := .int) dX12_looked_95 rfl rfl rfl h
                  · replace h := h.2 c
                    refine st_iconst (pc' := 91) dX12_looked_90 rfl ?_
                    refine st_goto (pc' := 95) dX12_looked_91 (by decide) ?_
                    exact st_iret (ty := .int) dX12_looked_95 rfl rfl rfl h
                · replace h := h.2 c
                  refine st_iload_n (pc' := 70) dX12_looked_69 rfl rfl (j := 0) rfl ?_
                  refine st_iconst (pc' := 71) dX12_looked_70 rfl ?_
                  refine st_icmp_ne (tg := 83) (pc' := 74) dX12_looked_71 (by decide) rfl (by decide) (by decide) (fun c => ?_) (fun c => ?_)
                  · refine st_aload_n (pc' := 84) dX12_looked_83 rfl rfl (j := 1) rfl ?_
                    refine G_X12_36_74 dX12_looked_84 (pc' := 87) rfl rfl ?_
                    refine st_if_le (tg := 94) (pc' := 90) dX12_looked_87 (by decide) rfl (gi_in _ _ _) (fun c => ?_) (fun c => ?_)
                    · replace h := h.1 c
                      refine st_iload_n (pc' := 95) dX12_looked_94 rfl rfl (j := 0) rfl ?_
                      exact st_iret (ty := .int) dX12_looked_95 rfl rfl rfl h
                    · replace h := h.2 c
                      refine st_iconst (pc' := 91) dX12_looked_90 rfl ?_
                      refine st_goto (pc' := 95) dX12_looked_91 (by decide) ?_
                      exact st_iret (ty := .int) dX12_looked_95 rfl rfl rfl h
                  · exact absurd c (by decide)
      · replace h := h.2 c
        refine st_iconst (pc' := 12) dX12_looked_11 rfl ?_
        exact st_iret (ty := .int) dX12_looked_12 rfl rfl rfl h
end WM0
