section WX5
set_option maxRecDepth 20000 in
set_option maxHeartbeats 4000000 in
theorem B_X5_lastEnd_0 {k : Nat} {P : Option Nat} {I : Nat → Nat → Int32} {J : Nat → Nat → Int64} {x1 : Int} {Q : Option AV → Mem → Prop} (hk : 0 ≤ k) (h : (0 ≤ x1 ∧ x1 < 6) ∧ ((¬ (gi I 65 (x1).toNat) = 0 → ((0 ≤ (((x1 * 8) + (gi I 65 (x1).toNat)) - 1) ∧ (((x1 * 8) + (gi I 65 (x1).toNat)) - 1) < 48) ∧ (Q (some (vI (gi I 66 (((x1 * 8) + (gi I 65 (x1).toNat)) - 1).toNat))) (mem (P, some 5, some 22) I J)))) ∧ ((gi I 65 (x1).toNat) = 0 → (Q (some (vI 0)) (mem (P, some 5, some 22) I J))))) : WP k LAY m_X5_lastEnd 0 [(0, vR (some 63)), (1, vI x1)] [] (mem (P, some 5, some 22) I J) Q := by
  refine st_aload_n (pc' := 1) dX5_lastEnd_0 rfl rfl (j := 0) rfl ?_
  refine G_X5_15_63 dX5_lastEnd_1 (pc' := 4) rfl rfl ?_
  refine st_iload_n (pc' := 5) dX5_lastEnd_4 rfl rfl (j := 1) rfl ?_
  obtain ⟨e1, h⟩ := h
  refine st_iaload (pc' := 6) (v := (gi I 65 (x1).toNat)) dX5_lastEnd_5 rfl L_65 (by decide) e1 (show gi I 65 (x1).toNat = (gi I 65 (x1).toNat) from rfl) ?_
  refine st_if_ne (tg := 13) (pc' := 9) dX5_lastEnd_6 (by decide) rfl (gi_in _ _ _) (fun c => ?_) (fun c => ?_)
  · replace h := h.1 c
    refine st_aload_n (pc' := 14) dX5_lastEnd_13 rfl rfl (j := 0) rfl ?_
    refine G_X5_18_63 dX5_lastEnd_14 (pc' := 17) rfl rfl ?_
    refine st_iload_n (pc' := 18) dX5_lastEnd_17 rfl rfl (j := 1) rfl ?_
    refine st_bipush (pc' := 20) dX5_lastEnd_18 rfl (by decide) ?_
    refine st_imul (pc' := 21) dX5_lastEnd_20 rfl ?_
    refine st_aload_n (pc' := 22) dX5_lastEnd_21 rfl rfl (j := 0) rfl ?_
    refine G_X5_15_63 dX5_lastEnd_22 (pc' := 25) rfl rfl ?_
    refine st_iload_n (pc' := 26) dX5_lastEnd_25 rfl rfl (j := 1) rfl ?_
    refine st_iaload (pc' := 27) (v := (gi I 65 (x1).toNat)) dX5_lastEnd_26 rfl L_65 (by decide) e1 (show gi I 65 (x1).toNat = (gi I 65 (x1).toNat) from rfl) ?_
    refine st_iadd (pc' := 28) dX5_lastEnd_27 rfl ?_
    refine st_iconst (pc' := 29) dX5_lastEnd_28 rfl ?_
    refine st_isub (pc' := 30) dX5_lastEnd_29 rfl ?_
    obtain ⟨e2, h⟩ := h
    refine st_iaload (pc' := 31) (v := (gi I 66 (((x1 * 8) + (gi I 65 (x1).toNat)) - 1).toNat)) dX5_lastEnd_30 rfl L_66 (by decide) e2 (show gi I 66 (((x1 * 8) + (gi I 65 (x1).toNat)) - 1).toNat = (gi I 66 (((x1 * 8) + (gi I 65 (x1).toNat)) - 1).toNat) from rfl) ?_
    exact st_iret (ty := .int) dX5_lastEnd_31 rfl rfl rfl h
  · replace h := h.2 c
    refine st_iconst (pc' := 10) dX5_lastEnd_9 rfl ?_
    refine st_goto (pc' := 31) dX5_lastEnd_10 (by decide) ?_
    exact st_iret (ty := .int) dX5_lastEnd_31 rfl rfl rfl h
set_option maxRecDepth 20000 in
set_option maxHeartbeats 4000000 in
theorem B_X5_weigh_0 {k : Nat} {P : Option Nat} {I : Nat → Nat → Int32} {J : Nat → Nat → Int64} {x1 : Int} {x2 : Int} {x3 : Int} {Q : Option AV → Mem → Prop} (hk : 0 ≤ k) (h : WP k LAY m_X5_weigh 9 [(0, vR (some 63)), (1, vI x1), (2, vI x2), (3, vI x3), (4, vI 0), (5, vI 0), (6, vI 0)] [] (mem (P, some 5, some 22) I J) Q) : WP k LAY m_X5_weigh 0 [(0, vR (some 63)), (1, vI x1), (2, vI x2), (3, vI x3)] [] (mem (P, some 5, some 22) I J) Q := by
  refine st_iconst (pc' := 1) dX5_weigh_0 rfl ?_
  refine st_istore (pc' := 3) (L' := [(4, vI 0), (0, vR (some 63)), (1, vI x1), (2, vI x2), (3, vI x3)]) dX5_weigh_1 rfl (by decide) rfl ?_
  refine st_iconst (pc' := 4) dX5_weigh_3 rfl ?_
  refine st_istore (pc' := 6) (L' := [(5, vI 0), (4, vI 0), (0, vR (some 63)), (1, vI x1), (2, vI x2), (3, vI x3)]) dX5_weigh_4 rfl (by decide) rfl ?_
  refine st_iconst (pc' := 7) dX5_weigh_6 rfl ?_
  refine st_istore (pc' := 9) (L' := [(6, vI 0), (5, vI 0), (4, vI 0), (0, vR (some 63)), (1, vI x1), (2, vI x2), (3, vI x3)]) dX5_weigh_7 rfl (by decide) rfl ?_
  refine WP_sub (L' := [(0, vR (some 63)), (1, vI x1), (2, vI x2), (3, vI x3), (4, vI 0), (5, vI 0), (6, vI 0)]) [3, 4, 5, 6, 2, 1, 0] rfl ?_
  exact h
set_option maxRecDepth 20000 in
set_option maxHeartbeats 4000000 in
theorem B_X5_weigh_9 {k : Nat} {P : Option Nat} {I : Nat → Nat → Int32} {J : Nat → Nat → Int64} {x1 : Int} {x2 : Int} {x3 : Int} {x4 : Int} {x5 : Int} {x6 : Int} {Q : Option AV → Mem → Prop} (hk : 0 ≤ k) (h : inR x6 ∧ (inR x3 ∧ ((x3 ≤ x6 → (WP k LAY m_X5_weigh 65 [(0, vR (some 63)), (2, vI x2), (3, vI x3), (4, vI x4), (5, vI x5), (6, vL 0), (8, vI 0), (9, vI 0)] [] (mem (P, some 5, some 22) I J) Q)) ∧ (¬ x3 ≤ x6 → (((and32 x2 (shl32 1 x6)) = 0 → (WP k LAY m_X5_weigh 9 [(0, vR (some 63)), (1, vI x1), (2, vI x2), (3, vI x3), (4, vI x4), (5, vI x5), (6, vI (x6 + 1))] [] (mem (P, some 5, some 22) I J) Q)) ∧ (¬ (and32 x2 (shl32 1 x6)) = 0 → ((0 ≤ x6 ∧ x6 < 6) ∧ (WP k LAY m_X5_weigh 9 [(0, vR (some 63)), (1, vI x1), (2, vI x2), (3, vI x3), (4, vI (x4 + (gi I 64 (x6).toNat))), (5, vI (x5 + (x1 * (gi I 67 (x6).toNat)))), (6, vI (x6 + 1))] [] (mem (P, some 5, some 22) I J) Q)))))))) : WP k LAY m_X5_weigh 9 [(0, vR (some 63)), (1, vI x1), (2, vI x2), (3, vI x3), (4, vI x4), (5, vI x5), (6, vI x6)] [] (mem (P, some 5, some 22) I J) Q := by
  refine st_iload (pc' := 11) dX5_weigh_9 rfl (j := 6) rfl ?_
  refine st_iload_n (pc' := 12) dX5_weigh_11 rfl rfl (j := 3) rfl ?_
  obtain ⟨e1, h⟩ := h
  obtain ⟨e2, h⟩ := h
  refine st_icmp_ge (tg := 56) (pc' := 15) dX5_weigh_12 (by decide) rfl e1 e2 (fun c => ?_) (fun c => ?_)
  · replace h := h.1 c
    refine st_lconst (pc' := 57) (z := 0) dX5_weigh_56 rfl (by decide) ?_
    refine st_lstore (pc' := 59) (L' := [(6, vL 0), (0, vR (some 63)), (1, vI x1), (2, vI x2), (3, vI x3), (4, vI x4), (5, vI x5)]) dX5_weigh_57 rfl (by decide) rfl ?_
    refine st_iconst (pc' := 60) dX5_weigh_59 rfl ?_
    refine st_istore (pc' := 62) (L' := [(8, vI 0), (6, vL 0), (0, vR (some 63)), (1, vI x1), (2, vI x2), (3, vI x3), (4, vI x4), (5, vI x5)]) dX5_weigh_60 rfl (by decide) rfl ?_
    refine st_iconst (pc' := 63) dX5_weigh_62 rfl ?_
    refine st_istore (pc' := 65) (L' := [(9, vI 0), (8, vI 0), (6, vL 0), (0, vR (some 63)), (1, vI x1), (2, vI x2), (3, vI x3), (4, vI x4), (5, vI x5)]) dX5_weigh_63 rfl (by decide) rfl ?_
    refine WP_sub (L' := [(0, vR (some 63)), (2, vI x2), (3, vI x3), (4, vI x4), (5, vI x5), (6, vL 0), (8, vI 0), (9, vI 0)]) [3, 5, 6, 7, 8, 2, 1, 0] rfl ?_
    exact h
  · replace h := h.2 c
    refine st_iload_n (pc' := 16) dX5_weigh_15 rfl rfl (j := 2) rfl ?_
    refine st_iconst (pc' := 17) dX5_weigh_16 rfl ?_
    refine st_iload (pc' := 19) dX5_weigh_17 rfl (j := 6) rfl ?_
    refine st_ishl (pc' := 20) (z := (shl32 1 x6)) dX5_weigh_19 rfl rfl ?_
    refine st_iand (pc' := 21) (z := (and32 x2 (shl32 1 x6))) dX5_weigh_20 rfl rfl ?_
    refine st_if_eq (tg := 50) (pc' := 24) dX5_weigh_21 (by decide) rfl (and32_in _ _) (fun c => ?_) (fun c => ?_)
    · replace h := h.1 c
      refine st_iinc (pc' := 53) (L' := [(6, vI (x6 + 1)), (0, vR (some 63)), (1, vI x1), (2, vI x2), (3, vI x3), (4, vI x4), (5, vI x5)]) (j := 6) dX5_weigh_50 rfl (by decide) rfl rfl ?_
      refine st_goto (pc' := 9) dX5_weigh_53 (by decide) ?_
      refine WP_sub (L' := [(0, vR (some 63)), (1, vI x1), (2, vI x2), (3, vI x3), (4, vI x4), (5, vI x5), (6, vI (x6 + 1))]) [1, 2, 3, 4, 5, 6, 0] rfl ?_
      exact h
    · replace h := h.2 c
      refine st_iload (pc' := 26) dX5_weigh_24 rfl (j := 4) rfl ?_
      refine st_aload_n (pc' := 27) dX5_weigh_26 rfl rfl (j := 0) rfl ?_
      refine G_X5_9_63 dX5_weigh_27 (pc' := 30) rfl rfl ?_
      refine st_iload (pc' := 32) dX5_weigh_30 rfl (j := 6) rfl ?_
      obtain ⟨e3, h⟩ := h
      refine st_iaload (pc' := 33) (v := (gi I 64 (x6).toNat)) dX5_weigh_32 rfl L_64 (by decide) e3 (show gi I 64 (x6).toNat = (gi I 64 (x6).toNat) from rfl) ?_
      refine st_iadd (pc' := 34) dX5_weigh_33 rfl ?_
      refine st_istore (pc' := 36) (L' := [(4, vI (x4 + (gi I 64 (x6).toNat))), (0, vR (some 63)), (1, vI x1), (2, vI x2), (3, vI x3), (5, vI x5), (6, vI x6)]) dX5_weigh_34 rfl (by decide) rfl ?_
      refine st_iload (pc' := 38) dX5_weigh_36 rfl (j := 5) rfl ?_
      refine st_iload_n (pc' := 39) dX5_weigh_38 rfl rfl (j := 2) rfl ?_
      refine st_aload_n (pc' := 40) dX5_weigh_39 rfl rfl (j := 1) rfl ?_
      refine G_X5_21_63 dX5_weigh_40 (pc' := 43) rfl rfl ?_
      refine st_iload (pc' := 45) dX5_weigh_43 rfl (j := 6) rfl ?_
      refine st_iaload (pc' := 46) (v := (gi I 67 (x6).toNat)) dX5_weigh_45 rfl L_67 (by decide) e3 (show gi I 67 (x6).toNat = (gi I 67 (x6).toNat) from rfl) ?_
      refine st_imul (pc' := 47) dX5_weigh_46 rfl ?_
      refine st_iadd (pc' := 48) dX5_weigh_47 rfl ?_
      refine st_istore (pc' := 50) (L' := [(5, vI (x5 + (x1 * (gi I 67 (x6).toNat)))), (4, vI (x4 + (gi I 64 (x6).toNat))), (0, vR (some 63)), (1, vI x1), (2, vI x2), (3, vI x3), (6, vI x6)]) dX5_weigh_48 rfl (by decide) rfl ?_
      refine st_iinc (pc' := 53) (L' := [(6, vI (x6 + 1)), (5, vI (x5 + (x1 * (gi I 67 (x6).toNat)))), (4, vI (x4 + (gi I 64 (x6).toNat))), (0, vR (some 63)), (1, vI x1), (2, vI x2), (3, vI x3)]) (j := 6) dX5_weigh_50 rfl (by decide) rfl rfl ?_
      refine st_goto (pc' := 9) dX5_weigh_53 (by decide) ?_
      refine WP_sub (L' := [(0, vR (some 63)), (1, vI x1), (2, vI x2), (3, vI x3), (4, vI (x4 + (gi I 64 (x6).toNat))), (5, vI (x5 + (x1 * (gi I 67 (x6).toNat)))), (6, vI (x6 + 1))]) [3, 4, 5, 6, 2, 1, 0] rfl ?_
      exact h
set_option maxRecDepth 20000 in
set_option maxHeartbeats 4000000 in
theorem B_X5_weigh_65 {k : Nat} {P : Option Nat} {I : Nat → Nat → Int32} {J : Nat → Nat → Int64} {x2 : Int} {x3 : Int} {x4 : Int} {x5 : Int} {x6 : Int} {x8 : Int} {x9 : Int} {Q : Option AV → Mem → Prop} (hk : 0 ≤ k) (h : inR x9 ∧ (inR x3 ∧ ((x3 ≤ x9 → (inR x4 ∧ (inR x8 ∧ (inR x5 ∧ (Q (some (vL (((((x6 * 4096) + x4) - x8) * 16384) - x5))) (mem (P, some 5, some 22) I J)))))) ∧ (¬ x3 ≤ x9 → (((and32 x2 (shl32 1 x9)) = 0 → (WP k LAY m_X5_weigh 65 [(0, vR (some 63)), (2, vI x2), (3, vI x3), (4, vI x4), (5, vI x5), (6, vL x6), (8, vI x8), (9, vI (x9 + 1))] [] (mem (P, some 5, some 22) I J) Q)) ∧ (¬ (and32 x2 (shl32 1 x9)) = 0 → (WP k LAY m_X5_weigh 83 [(0, vR (some 63)), (2, vI x2), (3, vI x3), (4, vI x4), (5, vI x5), (6, vL x6), (8, vI x8), (9, vI x9), (10, vI 0)] [] (mem (P, some 5, some 22) I J) Q))))))) : WP k LAY m_X5_weigh 65 [(0, vR (some 63)), (2, vI x2), (3, vI x3), (4, vI x4), (5, vI x5), (6, vL x6), (8, vI x8), (9, vI x9)] [] (mem (P, some 5, some 22) I J) Q := by
  refine st_iload (pc' := 67) dX5_weigh_65 rfl (j := 7) rfl ?_
  refine st_iload_n (pc' := 68) dX5_weigh_67 rfl rfl (j := 2) rfl ?_
  obtain ⟨e1, h⟩ := h
  obtain ⟨e2, h⟩ := h
  refine st_icmp_ge (tg := 163) (pc' := 71) dX5_weigh_68 (by decide) rfl e1 e2 (fun c => ?_) (fun c => ?_)
  · replace h := h.1 c
    refine st_lload (pc' := 165) dX5_weigh_163 rfl (j := 5) rfl ?_
    refine st_ldc2 (pc' := 168) (z := 4096) dX5_weigh_165 rfl q_X5_96 (by decide) ?_
    refine st_lmul (pc' := 169) dX5_weigh_168 rfl ?_
    refine st_iload (pc' := 171) dX5_weigh_169 rfl (j := 3) rfl ?_
    obtain ⟨e3, h⟩ := h
    refine st_i2l (pc' := 172) dX5_weigh_171 rfl e3 ?_
    refine st_ladd (pc' := 173) dX5_weigh_172 rfl ?_
    refine st_iload (pc' := 175) dX5_weigh_173 rfl (j := 6) rfl ?_
    obtain ⟨e4, h⟩ := h
    refine st_i2l (pc' := 176) dX5_weigh_175 rfl e4 ?_
    refine st_lsub (pc' := 177) dX5_weigh_176 rfl ?_
    refine st_ldc2 (pc' := 180) (z := 16384) dX5_weigh_177 rfl q_X5_88 (by decide) ?_
    refine st_lmul (pc' := 181) dX5_weigh_180 rfl ?_
    refine st_iload (pc' := 183) dX5_weigh_181 rfl (j := 4) rfl ?_
    obtain ⟨e5, h⟩ := h
    refine st_i2l (pc' := 184) dX5_weigh_183 rfl e5 ?_
    refine st_lsub (pc' := 185) dX5_weigh_184 rfl ?_
    exact st_lret dX5_weigh_185 rfl rfl h
  · replace h := h.2 c
    refine st_iload_n (pc' := 72) dX5_weigh_71 rfl rfl (j := 1) rfl ?_
    refine st_iconst (pc' := 73) dX5_weigh_72 rfl ?_
    refine st_iload (pc' := 75) dX5_weigh_73 rfl (j := 7) rfl ?_
    refine st_ishl (pc' := 76) (z := (shl32 1 x9)) dX5_weigh_75 rfl rfl ?_
    refine st_iand (pc' := 77) (z := (and32 x2 (shl32 1 x9))) dX5_weigh_76 rfl rfl ?_
    refine st_if_eq (tg := 157) (pc' := 80) dX5_weigh_77 (by decide) rfl (and32_in _ _) (fun c => ?_) (fun c => ?_)
    · replace h := h.1 c
      refine st_iinc (pc' := 160) (L' := [(9, vI (x9 + 1)), (0, vR (some 63)), (2, vI x2), (3, vI x3), (4, vI x4), (5, vI x5), (6, vL x6), (8, vI x8)]) (j := 7) dX5_weigh_157 rfl (by decide) rfl rfl ?_
      refine st_goto (pc' := 65) dX5_weigh_160 (by decide) ?_
      refine WP_sub (L' := [(0, vR (some 63)), (2, vI x2), (3, vI x3), (4, vI x4), (5, vI x5), (6, vL x6), (8, vI x8), (9, vI (x9 + 1))]) [1, 2, 3, 4, 5, 6, 7, 0] rfl ?_
      exact h
    · replace h := h.2 c
      refine st_iconst (pc' := 81) dX5_weigh_80 rfl ?_
      refine st_istore (pc' := 83) (L' := [(10, vI 0), (0, vR (some 63)), (2, vI x2), (3, vI x3), (4, vI x4), (5, vI x5), (6, vL x6), (8, vI x8), (9, vI x9)]) dX5_weigh_81 rfl (by decide) rfl ?_
      refine WP_sub (L' := [(0, vR (some 63)), (2, vI x2), (3, vI x3), (4, vI x4), (5, vI x5), (6, vL x6), (8, vI x8), (9, vI x9), (10, vI 0)]) [1, 2, 3, 4, 5, 6, 7, 8, 0] rfl ?_
      exact h
set_option maxRecDepth 20000 in
set_option maxHeartbeats 4000000 in
theorem B_X5_weigh_83 {k : Nat} {P : Option Nat} {I : Nat → Nat → Int32} {J : Nat → Nat → Int64} {x2 : Int} {x3 : Int} {x4 : Int} {x5 : Int} {x6 : Int} {x8 : Int} {x9 : Int} {x10 : Int} {Q : Option AV → Mem → Prop} (hk : 1 ≤ k) (h : (0 ≤ x9 ∧ x9 < 6) ∧ (inR x10 ∧ (((gi I 65 (x9).toNat) ≤ x10 → (((gi I 65 (x9).toNat) ≤ x10 → ((¬ (gi I 65 (x9).toNat) = 0 → ((0 ≤ (((x9 * 8) + (gi I 65 (x9).toNat)) - 1) ∧ (((x9 * 8) + (gi I 65 (x9).toNat)) - 1) < 48) ∧ (inR x8 ∧ (WP k LAY m_X5_weigh 65 [(0, vR (some 63)), (2, vI x2), (3, vI x3), (4, vI x4), (5, vI x5), (6, vL (x6 + x10)), (8, vI (max x8 (gi I 66 (((x9 * 8) + (gi I 65 (x9).toNat)) - 1).toNat))), (9, vI (x9 + 1))] [] (mem (P, some 5, some 22) I J) Q)))) ∧ ((gi I 65 (x9).toNat) = 0 → (inR x8 ∧ (WP k LAY m_X5_weigh 65 [(0, vR (some 63)), (2, vI x2), (3, vI x3), (4, vI x4), (5, vI x5), (6, vL (x6 + x10)), (8, vI (max x8 0)), (9, vI (x9 + 1))] [] (mem (P, some 5, some 22) I J) Q))))) ∧ (¬ (gi I 65 (x9).toNat) ≤ x10 → (inR x8 ∧ (inR x4 ∧ (WP k LAY m_X5_weigh 65 [(0, vR (some 63)), (2, vI x2), (3, vI x3), (4, vI x4), (5, vI x5), (6, vL (x6 + x10)), (8, vI (max x8 x4)), (9, vI (x9 + 1))] [] (mem (P, some 5, some 22) I J) Q)))))) ∧ (¬ (gi I 65 (x9).toNat) ≤ x10 → ((0 ≤ ((x9 * 8) + x10) ∧ ((x9 * 8) + x10) < 48) ∧ (inR x4 ∧ ((x4 < (gi I 66 ((x9 * 8) + x10).toNat) → (((gi I 65 (x9).toNat) ≤ x10 → ((¬ (gi I 65 (x9).toNat) = 0 → ((0 ≤ (((x9 * 8) + (gi I 65 (x9).toNat)) - 1) ∧ (((x9 * 8) + (gi I 65 (x9).toNat)) - 1) < 48) ∧ (inR x8 ∧ (WP k LAY m_X5_weigh 65 [(0, vR (some 63)), (2, vI x2), (3, vI x3), (4, vI x4), (5, vI x5), (6, vL (x6 + x10)), (8, vI (max x8 (gi I 66 (((x9 * 8) + (gi I 65 (x9).toNat)) - 1).toNat))), (9, vI (x9 + 1))] [] (mem (P, some 5, some 22) I J) Q)))) ∧ ((gi I 65 (x9).toNat) = 0 → (inR x8 ∧ (WP k LAY m_X5_weigh 65 [(0, vR (some 63)), (2, vI x2), (3, vI x3), (4, vI x4), (5, vI x5), (6, vL (x6 + x10)), (8, vI (max x8 0)), (9, vI (x9 + 1))] [] (mem (P, some 5, some 22) I J) Q))))) ∧ (¬ (gi I 65 (x9).toNat) ≤ x10 → (inR x8 ∧ (WP k LAY m_X5_weigh 65 [(0, vR (some 63)), (2, vI x2), (3, vI x3), (4, vI x4), (5, vI x5), (6, vL (x6 + x10)), (8, vI (max x8 x4)), (9, vI (x9 + 1))] [] (mem (P, some 5, some 22) I J) Q))))) ∧ (¬ x4 < (gi I 66 ((x9 * 8) + x10).toNat) → (WP k LAY m_X5_weigh 83 [(0, vR (some 63)), (2, vI x2), (3, vI x3), (4, vI x4), (5, vI x5), (6, vL x6), (8, vI x8), (9, vI x9), (10, vI (x10 + 1))] [] (mem (P, some 5, some 22) I J) Q))))))))) : WP k LAY m_X5_weigh 83 [(0, vR (some 63)), (2, vI x2), (3, vI x3), (4, vI x4), (5, vI x5), (6, vL x6), (8, vI x8), (9, vI x9), (10, vI x10)] [] (mem (P, some 5, some 22) I J) Q := by
  refine st_iload (pc' := 85) dX5_weigh_83 rfl (j := 8) rfl ?_
  refine st_aload_n (pc' := 86) dX5_weigh_85 rfl rfl (j := 0) rfl ?_
  refine G_X5_15_63 dX5_weigh_86 (pc' := 89) rfl rfl ?_
  refine st_iload (pc' := 91) dX5_weigh_89 rfl (j := 7) rfl ?_
  obtain ⟨e1, h⟩ := h
  refine st_iaload (pc' := 92) (v := (gi I 65 (x9).toNat)) dX5_weigh_91 rfl L_65 (by decide) e1 (show gi I 65 (x9).toNat = (gi I 65 (x9).toNat) from rfl) ?_
  obtain ⟨e2, h⟩ := h
  refine st_icmp_ge (tg := 119) (pc' := 95) dX5_weigh_92 (by decide) rfl e2 (gi_in _ _ _) (fun c => ?_) (fun c => ?_)
  · replace h := h.1 c
    refine st_lload (pc' := 121) dX5_weigh_119 rfl (j := 5) rfl ?_
    refine st_iload (pc' := 123) dX5_weigh_121 rfl (j := 8) rfl ?_
    refine st_i2l (pc' := 124) dX5_weigh_123 rfl e2 ?_
    refine st_ladd (pc' := 125) dX5_weigh_124 rfl ?_
    refine st_lstore (pc' := 127) (L' := [(6, vL (x6 + x10)), (0, vR (some 63)), (2, vI x2), (3, vI x3), (4, vI x4), (5, vI x5), (8, vI x8), (9, vI x9), (10, vI x10)]) dX5_weigh_125 rfl (by decide) rfl ?_
    refine st_iload (pc' := 129) dX5_weigh_127 rfl (j := 6) rfl ?_
    refine st_iload (pc' := 131) dX5_weigh_129 rfl (j := 8) rfl ?_
    refine st_aload_n (pc' := 132) dX5_weigh_131 rfl rfl (j := 1) rfl ?_
    refine G_X5_15_63 dX5_weigh_132 (pc' := 135) rfl rfl ?_
    refine st_iload (pc' := 137) dX5_weigh_135 rfl (j := 7) rfl ?_
    refine st_iaload (pc' := 138) (v := (gi I 65 (x9).toNat)) dX5_weigh_137 rfl L_65 (by decide) e1 (show gi I 65 (x9).toNat = (gi I 65 (x9).toNat) from rfl) ?_
    refine st_icmp_ge (tg := 146) (pc' := 141) dX5_weigh_138 (by decide) rfl e2 (gi_in _ _ _) (fun c => ?_) (fun c => ?_)
    · replace h := h.1 c
      refine st_aload_n (pc' := 147) dX5_weigh_146 rfl rfl (j := 1) rfl ?_
      refine st_iload (pc' := 149) dX5_weigh_147 rfl (j := 7) rfl ?_
      refine st_callV (pc' := 152) (kc := k - 1) (E' := LAY) (cal := m_X5_lastEnd) (n := 1) (as := [vI x9]) (S := [vI x8]) dX5_weigh_149 rfl l_X5_140 k_X5_lastEnd rfl L_63 c_X5 rfl rfl (Nat.le_of_ble_eq_true rfl) (by omega) ⟨Nat.le_refl _, Nat.le_refl _, Nat.le_refl _, Nat.le_refl _⟩ (Q1 := fun r M' => WP k LAY m_X5_weigh 152 [(6, vL (x6 + x10)), (0, vR (some 63)), (2, vI x2), (3, vI x3), (4, vI x4), (5, vI x5), (8, vI x8), (9, vI x9), (10, vI x10)] (r.toList ++ [vI x8]) M' Q) (WPm.of k_X5_lastEnd.1 (Nat.le_of_ble_eq_true rfl) (B_X5_lastEnd_0 (by omega) ?_)) (fun r M' q => q)
      refine ⟨e1, ?_⟩
      refine ⟨fun c => ?_, fun c => ?_⟩
      · replace h := h.1 c
        obtain ⟨e3, h⟩ := h
        refine ⟨e3, ?_⟩
        change WP _ LAY m_X5_weigh 152 [(6, vL (x6 + x10)), (0, vR (some 63)), (2, vI x2), (3, vI x3), (4, vI x4), (5, vI x5), (8, vI x8), (9, vI x9), (10, vI x10)] [vI (gi I 66 (((x9 * 8) + (gi I 65 (x9).toNat)) - 1).toNat), vI x8] (mem (P, some 5, some 22) I J) Q
        obtain ⟨e4, h⟩ := h
        refine st_callS (pc' := 155) (kc := k - 1) (E' := LAY) (cal := m_J9_max_7cf53) (n := 2) (as := [vI x8, vI (gi I 66 (((x9 * 8) + (gi I 65 (x9).toNat)) - 1).toNat)]) (S := []) dX5_weigh_152 rfl l_X5_143 k_J9_max_7cf53 rfl rfl (Nat.le_of_ble_eq_true rfl) (by omega) ⟨Nat.le_refl _, Nat.le_refl _, Nat.le_refl _, Nat.le_refl _⟩ (Q1 := fun r M' => WP k LAY m_X5_weigh 155 [(6, vL (x6 + x10)), (0, vR (some 63)), (2, vI x2), (3, vI x3), (4, vI x4), (5, vI x5), (8, vI x8), (9, vI x9), (10, vI x10)] (r.toList ++ []) M' Q) (S_J9_max (by omega) e4 (gi_in _ _ _) ?_) (fun r M' q => q)
        change WP _ LAY m_X5_weigh 155 [(6, vL (x6 + x10)), (0, vR (some 63)), (2, vI x2), (3, vI x3), (4, vI x4), (5, vI x5), (8, vI x8), (9, vI x9), (10, vI x10)] [vI (max x8 (gi I 66 (((x9 * 8) + (gi I 65 (x9).toNat)) - 1).toNat))] (mem (P, some 5, some 22) I J) Q
        refine st_istore (pc' := 157) (L' := [(8, vI (max x8 (gi I 66 (((x9 * 8) + (gi I 65 (x9).toNat)) - 1).toNat))), (6, vL (x6 + x10)), (0, vR (some 63)), (2, vI x2), (3, vI x3), (4, vI x4), (5, vI x5), (9, vI x9), (10, vI x10)]) dX5_weigh_155 rfl (by decide) rfl ?_
        refine st_iinc (pc' := 160) (L' := [(9, vI (x9 + 1)), (8, vI (max x8 (gi I 66 (((x9 * 8) + (gi I 65 (x9).toNat)) - 1).toNat))), (6, vL (x6 + x10)), (0, vR (some 63)), (2, vI x2), (3, vI x3), (4, vI x4), (5, vI x5), (10, vI x10)]) (j := 7) dX5_weigh_157 rfl (by decide) rfl rfl ?_
        refine st_goto (pc' := 65) dX5_weigh_160 (by decide) ?_
        refine WP_sub (L' := [(0, vR (some 63)), (2, vI x2), (3, vI x3), (4, vI x4), (5, vI x5), (6, vL (x6 + x10)), (8, vI (max x8 (gi I 66 (((x9 * 8) + (gi I 65 (x9).toNat)) - 1).toNat))), (9, vI (x9 + 1))]) [3, 4, 5, 6, 7, 2, 1, 0] rfl ?_
        exact h
      · replace h := h.2 c
        change WP _ LAY m_X5_weigh 152 [(6, vL (x6 + x10)), (0, vR (some 63)), (2, vI x2), (3, vI x3), (4, vI x4), (5, vI x5), (8, vI x8), (9, vI x9), (10, vI x10)] [vI 0, vI x8] (mem (P, some 5, some 22) I J) Q
        obtain ⟨e5, h⟩ := h
        refine st_callS (pc' := 155) (kc := k - 1) (E' := LAY) (cal := m_J9_max_7cf53) (n := 2) (as := [vI x8, vI 0]) (S := []) dX5_weigh_152 rfl l_X5_143 k_J9_max_7cf53 rfl rfl (Nat.le_of_ble_eq_true rfl) (by omega) ⟨Nat.le_refl _, Nat.le_refl _, Nat.le_refl _, Nat.le_refl _⟩ (Q1 := fun r M' => WP k LAY m_X5_weigh 155 [(6, vL (x6 + x10)), (0, vR (some 63)), (2, vI x2), (3, vI x3), (4, vI x4), (5, vI x5), (8, vI x8), (9, vI x9), (10, vI x10)] (r.toList ++ []) M' Q) (S_J9_max (by omega) e5 (by decide) ?_) (fun r M' q => q)
        change WP _ LAY m_X5_weigh 155 [(6, vL (x6 + x10)), (0, vR (some 63)), (2, vI x2), (3, vI x3), (4, vI x4), (5, vI x5), (8, vI x8), (9, vI x9), (10, vI x10)] [vI (max x8 0)] (mem (P, some 5, some 22) I J) Q
        refine st_istore (pc' := 157) (L' := [(8, vI (max x8 0)), (6, vL (x6 + x10)), (0, vR (some 63)), (2, vI x2), (3, vI x3), (4, vI x4), (5, vI x5), (9, vI x9), (10, vI x10)]) dX5_weigh_155 rfl (by decide) rfl ?_
        refine st_iinc (pc' := 160) (L' := [(9, vI (x9 + 1)), (8, vI (max x8 0)), (6, vL (x6 + x10)), (0, vR (some 63)), (2, vI x2), (3, vI x3), (4, vI x4), (5, vI x5), (10, vI x10)]) (j := 7) dX5_weigh_157 rfl (by decide) rfl rfl ?_
        refine st_goto (pc' := 65) dX5_weigh_160 (by decide) ?_
        refine WP_sub (L' := [(0, vR (some 63)), (2, vI x2), (3, vI x3), (4, vI x4), (5, vI x5), (6, vL (x6 + x10)), (8, vI (max x8 0)), (9, vI (x9 + 1))]) [3, 4, 5, 6, 7, 2, 1, 0] rfl ?_
        exact h
    · replace h := h.2 c
      refine st_iload (pc' := 143) dX5_weigh_141 rfl (j := 4) rfl ?_
      refine st_goto (pc' := 152) dX5_weigh_143 (by decide) ?_
      obtain ⟨e6, h⟩ := h
      obtain ⟨e7, h⟩ := h
      refine st_callS (pc' := 155) (kc := k - 1) (E' := LAY) (cal := m_J9_max_7cf53) (n := 2) (as := [vI x8, vI x4]) (S := []) dX5_weigh_152 rfl l_X5_143 k_J9_max_7cf53 rfl rfl (Nat.le_of_ble_eq_true rfl) (by omega) ⟨Nat.le_refl _, Nat.le_refl _, Nat.le_refl _, Nat.le_refl _⟩ (Q1 := fun r M' => WP k LAY m_X5_weigh 155 [(6, vL (x6 + x10)), (0, vR (some 63)), (2, vI x2), (3, vI x3), (4, vI x4), (5, vI x5), (8, vI x8), (9, vI x9), (10, vI x10)] (r.toList ++ []) M' Q) (S_J9_max (by omega) e6 e7 ?_) (fun r M' q => q)
      change WP _ LAY m_X5_weigh 155 [(6, vL (x6 + x10)), (0, vR (some 63)), (2, vI x2), (3, vI x3), (4, vI x4), (5, vI x5), (8, vI x8), (9, vI x9), (10, vI x10)] [vI (max x8 x4)] (mem (P, some 5, some 22) I J) Q
      refine st_istore (pc' := 157) (L' := [(8, vI (max x8 x4)), (6, vL (x6 + x10)), (0, vR (some 63)), (2, vI x2), (3, vI x3), (4, vI x4), (5, vI x5), (9, vI x9), (10, vI x10)]) dX5_weigh_155 rfl (by decide) rfl ?_
      refine st_iinc (pc' := 160) (L' := [(9, vI (x9 + 1)), (8, vI (max x8 x4)), (6, vL (x6 + x10)), (0, vR (some 63)), (2, vI x2), (3, vI x3), (4, vI x4), (5, vI x5), (10, vI x10)]) (j := 7) dX5_weigh_157 rfl (by decide) rfl rfl ?_
      refine st_goto (pc' := 65) dX5_weigh_160 (by decide) ?_
      refine WP_sub (L' := [(0, vR (some 63)), (2, vI x2), (3, vI x3), (4, vI x4), (5, vI x5), (6, vL (x6 + x10)), (8, vI (max x8 x4)), (9, vI (x9 + 1))]) [3, 4, 5, 6, 7, 2, 1, 0] rfl ?_
      exact h
  · replace h := h.2 c
    refine st_aload_n (pc' := 96) dX5_weigh_95 rfl rfl (j := 0) rfl ?_
    refine G_X5_18_63 dX5_weigh_96 (pc' := 99) rfl rfl ?_
    refine st_iload (pc' := 101) dX5_weigh_99 rfl (j := 7) rfl ?_
    refine st_bipush (pc' := 103) dX5_weigh_101 rfl (by decide) ?_
    refine st_imul (pc' := 104) dX5_weigh_103 rfl ?_
    refine st_iload (pc' := 106) dX5_weigh_104 rfl (j := 8) rfl ?_
    refine st_iadd (pc' := 107) dX5_weigh_106 rfl ?_
    obtain ⟨e8, h⟩ := h
    refine st_iaload (pc' := 108) (v := (gi I 66 ((x9 * 8) + x10).toNat)) dX5_weigh_107 rfl L_66 (by decide) e8 (show gi I 66 ((x9 * 8) + x10).toNat = (gi I 66 ((x9 * 8) + x10).toNat) from rfl) ?_
    refine st_iload (pc' := 110) dX5_weigh_108 rfl (j := 3) rfl ?_
    obtain ⟨e9, h⟩ := h
    refine st_icmp_gt (tg := 119) (pc' := 113) dX5_weigh_110 (by decide) rfl (gi_in _ _ _) e9 (fun c => ?_) (fun c => ?_)
    · replace h := h.1 c
      refine st_lload (pc' := 121) dX5_weigh_119 rfl (j := 5) rfl ?_
      refine st_iload (pc' := 123) dX5_weigh_121 rfl (j := 8) rfl ?_
      refine st_i2l (pc' := 124) dX5_weigh_123 rfl e2 ?_
      refine st_ladd (pc' := 125) dX5_weigh_124 rfl ?_
      refine st_lstore (pc' := 127) (L' := [(6, vL (x6 + x10)), (0, vR (some 63)), (2, vI x2), (3, vI x3), (4, vI x4), (5, vI x5), (8, vI x8), (9, vI x9), (10, vI x10)]) dX5_weigh_125 rfl (by decide) rfl ?_
      refine st_iload (pc' := 129) dX5_weigh_127 rfl (j := 6) rfl ?_
      refine st_iload (pc' := 131) dX5_weigh_129 rfl (j := 8) rfl ?_
      refine st_aload_n (pc' := 132) dX5_weigh_131 rfl rfl (j := 1) rfl ?_
      refine G_X5_15_63 dX5_weigh_132 (pc' := 135) rfl rfl ?_
      refine st_iload (pc' := 137) dX5_weigh_135 rfl (j := 7) rfl ?_
      refine st_iaload (pc' := 138) (v := (gi I 65 (x9).toNat)) dX5_weigh_137 rfl L_65 (by decide) e1 (show gi I 65 (x9).toNat = (gi I 65 (x9).toNat) from rfl) ?_
      refine st_icmp_ge (tg := 146) (pc' := 141) dX5_weigh_138 (by decide) rfl e2 (gi_in _ _ _) (fun c => ?_) (fun c => ?_)
      · replace h := h.1 c
        refine st_aload_n (pc' := 147) dX5_weigh_146 rfl rfl (j := 1) rfl ?_
        refine st_iload (pc' := 149) dX5_weigh_147 rfl (j := 7) rfl ?_
        refine st_callV (pc' := 152) (kc := k - 1) (E' := LAY) (cal := m_X5_lastEnd) (n := 1) (as := [vI x9]) (S := [vI x8]) dX5_weigh_149 rfl l_X5_140 k_X5_lastEnd rfl L_63 c_X5 rfl rfl (Nat.le_of_ble_eq_true rfl) (by omega) ⟨Nat.le_refl _, Nat.le_refl _, Nat.le_refl _, Nat.le_refl _⟩ (Q1 := fun r M' => WP k LAY m_X5_weigh 152 [(6, vL (x6 + x10)), (0, vR (some 63)), (2, vI x2), (3, vI x3), (4, vI x4), (5, vI x5), (8, vI x8), (9, vI x9), (10, vI x10)] (r.toList ++ [vI x8]) M' Q) (WPm.of k_X5_lastEnd.1 (Nat.le_of_ble_eq_true rfl) (B_X5_lastEnd_0 (by omega) ?_)) (fun r M' q => q)
        refine ⟨e1, ?_⟩
        refine ⟨fun c => ?_, fun c => ?_⟩
        · replace h := h.1 c
          obtain ⟨e10, h⟩ := h
          refine ⟨e10, ?_⟩
          change WP _ LAY m_X5_weigh 152 [(6, vL (x6 + x10)), (0, vR (some 63)), (2, vI x2), (3, vI x3), (4, vI x4), (5, vI x5), (8, vI x8), (9, vI x9), (10, vI x10)] [vI (gi I 66 (((x9 * 8) + (gi I 65 (x9).toNat)) - 1).toNat), vI x8] (mem (P, some 5, some 22) I J) Q
          obtain ⟨e11, h⟩ := h
          refine st_callS (pc' := 155) (kc := k - 1) (E' := LAY) (cal := m_J9_max_7cf53) (n := 2) (as := [vI x8, vI (gi I 66 (((x9 * 8) + (gi I 65 (x9).toNat)) - 1).toNat)]) (S := []) dX5_weigh_152 rfl l_X5_143 k_J9_max_7cf53 rfl rfl (Nat.le_of_ble_eq_true rfl) (by omega) ⟨Nat.le_refl _, Nat.le_refl _, Nat.le_refl _, Nat.le_refl _⟩ (Q1 := fun r M' => WP k LAY m_X5_weigh 155 [(6, vL (x6 + x10)), (0, vR (some 63)), (2, vI x2), (3, vI x3), (4, vI x4), (5, vI x5), (8, vI x8), (9, vI x9), (10, vI x10)] (r.toList ++ []) M' Q) (S_J9_max (by omega) e11 (gi_in _ _ _) ?_) (fun r M' q => q)
          change WP _ LAY m_X5_weigh 155 [(6, vL (x6 + x10)), (0, vR (some 63)), (2, vI x2), (3, vI x3), (4, vI x4), (5, vI x5), (8, vI x8), (9, vI x9), (10, vI x10)] [vI (max x8 (gi I 66 (((x9 * 8) + (gi I 65 (x9).toNat)) - 1).toNat))] (mem (P, some 5, some 22) I J) Q
          refine st_istore (pc' := 157) (L' := [(8, vI (max x8 (gi I 66 (((x9 * 8) + (gi I 65 (x9).toNat)) - 1).toNat))), (6, vL (x6 + x10)), (0, vR (some 63)), (2, vI x2), (3, vI x3), (4, vI x4), (5, vI x5), (9, vI x9), (10, vI x10)]) dX5_weigh_155 rfl (by decide) rfl ?_
          refine st_iinc (pc' := 160) (L' := [(9, vI (x9 + 1)), (8, vI (max x8 (gi I 66 (((x9 * 8) + (gi I 65 (x9).toNat)) - 1).toNat))), (6, vL (x6 + x10)), (0, vR (some 63)), (2, vI x2), (3, vI x3), (4, vI x4), (5, vI x5), (10, vI x10)]) (j := 7) dX5_weigh_157 rfl (by decide) rfl rfl ?_
          refine st_goto (pc' := 65) dX5_weigh_160 (by decide) ?_
          refine WP_sub (L' := [(0, vR (some 63)), (2, vI x2), (3, vI x3), (4, vI x4), (5, vI x5), (6, vL (x6 + x10)), (8, vI (max x8 (gi I 66 (((x9 * 8) + (gi I 65 (x9).toNat)) - 1).toNat))), (9, vI (x9 + 1))]) [3, 4, 5, 6, 7, 2, 1, 0] rfl ?_
          exact h
        · replace h := h.2 c
          change WP _ LAY m_X5_weigh 152 [(6, vL (x6 + x10)), (0, vR (some 63)), (2, vI x2), (3, vI x3), (4, vI x4), (5, vI x5), (8, vI x8), (9, vI x9), (10, vI x10)] [vI 0, vI x8] (mem (P, some 5, some 22) I J) Q
          obtain ⟨e12, h⟩ := h
          refine st_callS (pc' := 155) (kc := k - 1) (E' := LAY) (cal := m_J9_max_7cf53) (n := 2) (as := [vI x8, vI 0]) (S := []) dX5_weigh_152 rfl l_X5_143 k_J9_max_7cf53 rfl rfl (Nat.le_of_ble_eq_true rfl) (by omega) ⟨Nat.le_refl _, Nat.le_refl _, Nat.le_refl _, Nat.le_refl _⟩ (Q1 := fun r M' => WP k LAY m_X5_weigh 155 [(6, vL (x6 + x10)), (0, vR (some 63)), (2, vI x2), (3, vI x3), (4, vI x4), (5, vI x5), (8, vI x8), (9, vI x9), (10, vI x10)] (r.toList ++ []) M' Q) (S_J9_max (by omega) e12 (by decide) ?_) (fun r M' q => q)
          change WP _ LAY m_X5_weigh 155 [(6, vL (x6 + x10)), (0, vR (some 63)), (2, vI x2), (3, vI x3), (4, vI x4), (5, vI x5), (8, vI x8), (9, vI x9), (10, vI x10)] [vI (max x8 0)] (mem (P, some 5, some 22) I J) Q
          refine st_istore (pc' := 157) (L' := [(8, vI (max x8 0)), (6, vL (x6 + x10)), (0, vR (some 63)), (2, vI x2), (3, vI x3), (4, vI x4), (5, vI x5), (9, vI x9), (10, vI x10)]) dX5_weigh_155 rfl (by decide) rfl ?_
          refine st_iinc (pc' := 160) (L' := [(9, vI (x9 + 1)), (8, vI (max x8 0)), (6, vL (x6 + x10)), (0, vR (some 63)), (2, vI x2), (3, vI x3), (4, vI x4), (5, vI x5), (10, vI x10)]) (j := 7) dX5_weigh_157 rfl (by decide) rfl rfl ?_
          refine st_goto (pc' := 65) dX5_weigh_160 (by decide) ?_
          refine WP_sub (L' := [(0, vR (some 63)), (2, vI x2), (3, vI x3), (4, vI x4), (5, vI x5), (6, vL (x6 + x10)), (8, vI (max x8 0)), (9, vI (x9 + 1))]) [3, 4, 5, 6, 7, 2, 1, 0] rfl ?_
          exact h
      · replace h := h.2 c
        refine st_iload (pc' := 143) dX5_weigh_141 rfl (j := 4) rfl ?_
        refine st_goto (pc' := 152) dX5_weigh_143 (by decide) ?_
        obtain ⟨e13, h⟩ := h
        refine st_callS (pc' := 155) (kc := k - 1) (E' := LAY) (cal := m_J9_max_7cf53) (n := 2) (as := [vI x8, vI x4]) (S := []) dX5_weigh_152 rfl l_X5_143 k_J9_max_7cf53 rfl rfl (Nat.le_of_ble_eq_true rfl) (by omega) ⟨Nat.le_refl _, Nat.le_refl _, Nat.le_refl _, Nat.le_refl _⟩ (Q1 := fun r M' => WP k LAY m_X5_weigh 155 [(6, vL (x6 + x10)), (0, vR (some 63)), (2, vI x2), (3, vI x3), (4, vI x4), (5, vI x5), (8, vI x8), (9, vI x9), (10, vI x10)] (r.toList ++ []) M' Q) (S_J9_max (by omega) e13 e9 ?_) (fun r M' q => q)
        change WP _ LAY m_X5_weigh 155 [(6, vL (x6 + x10)), (0, vR (some 63)), (2, vI x2), (3, vI x3), (4, vI x4), (5, vI x5), (8, vI x8), (9, vI x9), (10, vI x10)] [vI (max x8 x4)] (mem (P, some 5, some 22) I J) Q
        refine st_istore (pc' := 157) (L' := [(8, vI (max x8 x4)), (6, vL (x6 + x10)), (0, vR (some 63)), (2, vI x2), (3, vI x3), (4, vI x4), (5, vI x5), (9, vI x9), (10, vI x10)]) dX5_weigh_155 rfl (by decide) rfl ?_
        refine st_iinc (pc' := 160) (L' := [(9, vI (x9 + 1)), (8, vI (max x8 x4)), (6, vL (x6 + x10)), (0, vR (some 63)), (2, vI x2), (3, vI x3), (4, vI x4), (5, vI x5), (10, vI x10)]) (j := 7) dX5_weigh_157 rfl (by decide) rfl rfl ?_
        refine st_goto (pc' := 65) dX5_weigh_160 (by decide) ?_
        refine WP_sub (L' := [(0, vR (some 63)), (2, vI x2), (3, vI x3), (4, vI x4), (5, vI x5), (6, vL (x6 + x10)), (8, vI (max x8 x4)), (9, vI (x9 + 1))]) [3, 4, 5, 6, 7, 2, 1, 0] rfl ?_
        exact h
    · replace h := h.2 c
      refine st_iinc (pc' := 116) (L' := [(10, vI (x10 + 1)), (0, vR (some 63)), (2, vI x2), (3, vI x3), (4, vI x4), (5, vI x5), (6, vL x6), (8, vI x8), (9, vI x9)]) (j := 8) dX5_weigh_113 rfl (by decide) rfl rfl ?_
      refine st_goto (pc' := 83) dX5_weigh_116 (by decide) ?_
      refine WP_sub (L' := [(0, vR (some 63)), (2, vI x2), (3, vI x3), (4, vI x4), (5, vI x5), (6, vL x6), (8, vI x8), (9, vI x9), (10, vI (x10 + 1))]) [1, 2, 3, 4, 5, 6, 7, 8, 0] rfl ?_
      exact h
set_option maxRecDepth 20000 in
set_option maxHeartbeats 4000000 in
theorem B_X5_weighTable_0 {k : Nat} {P : Option Nat} {I : Nat → Nat → Int32} {J : Nat → Nat → Int64} {x1 : Int} {x2 : Int} {Q : Option AV → Mem → Prop} (hk : 0 ≤ k) (h : WP k LAY m_X5_weighTable 9 [(0, vR (some 63)), (1, vI x1), (2, vI x2), (3, vI 1)] [] (mem (P, some 5, some 22) I (sl J 68 0 0)) Q) : WP k LAY m_X5_weighTable 0 [(0, vR (some 63)), (1, vI x1), (2, vI x2)] [] (mem (P, some 5, some 22) I J) Q := by
  refine st_aload_n (pc' := 1) dX5_weighTable_0 rfl rfl (j := 0) rfl ?_
  refine G_X5_24_63 dX5_weighTable_1 (pc' := 4) rfl rfl ?_
  refine st_iconst (pc' := 5) dX5_weighTable_4 rfl ?_
  refine st_lconst (pc' := 6) (z := 0) dX5_weighTable_5 rfl (by decide) ?_
  refine st_lastore (pc' := 7) (M' := (mem (P, some 5, some 22) I (sl J 68 0 0))) dX5_weighTable_6 rfl L_68 (by decide) (by decide) rfl ?_
  refine st_iconst (pc' := 8) dX5_weighTable_7 rfl ?_
  refine st_istore_n (pc' := 9) (L' := [(3, vI 1), (0, vR (some 63)), (1, vI x1), (2, vI x2)]) dX5_weighTable_8 rfl rfl (by decide) rfl ?_
  refine WP_sub (L' := [(0, vR (some 63)), (1, vI x1), (2, vI x2), (3, vI 1)]) [1, 2, 3, 0] rfl ?_
  exact h
set_option maxRecDepth 20000 in
set_option maxHeartbeats 4000000 in
theorem B_X5_weighTable_9 {k : Nat} {P : Option Nat} {I : Nat → Nat → Int32} {J : Nat → Nat → Int64} {x1 : Int} {x2 : Int} {x3 : Int} {Q : Option AV → Mem → Prop} (hk : 0 ≤ k) (h : inR x3 ∧ (inR x2 ∧ ((x2 < x3 → (Q none (mem (P, some 5, some 22) I J))) ∧ (¬ x2 < x3 → (WP k LAY m_X5_weighTable 17 [(0, vR (some 63)), (1, vI x1), (2, vI x2), (3, vI x3), (4, vI 0)] [] (mem (P, some 5, some 22) I J) Q))))) : WP k LAY m_X5_weighTable 9 [(0, vR (some 63)), (1, vI x1), (2, vI x2), (3, vI x3)] [] (mem (P, some 5, some 22) I J) Q := by
  refine st_iload_n (pc' := 10) dX5_weighTable_9 rfl rfl (j := 3) rfl ?_
  refine st_iload_n (pc' := 11) dX5_weighTable_10 rfl rfl (j := 2) rfl ?_
  obtain ⟨e1, h⟩ := h
  obtain ⟨e2, h⟩ := h
  refine st_icmp_gt (tg := 183) (pc' := 14) dX5_weighTable_11 (by decide) rfl e1 e2 (fun c => ?_) (fun c => ?_)
  · replace h := h.1 c
    exact st_vret dX5_weighTable_183 rfl rfl h
  · replace h := h.2 c
    refine st_iconst (pc' := 15) dX5_weighTable_14 rfl ?_
    refine st_istore (pc' := 17) (L' := [(4, vI 0), (0, vR (some 63)), (1, vI x1), (2, vI x2), (3, vI x3)]) dX5_weighTable_15 rfl (by decide) rfl ?_
    refine WP_sub (L' := [(0, vR (some 63)), (1, vI x1), (2, vI x2), (3, vI x3), (4, vI 0)]) [1, 2, 3, 4, 0] rfl ?_
    exact h
set_option maxRecDepth 20000 in
set_option maxHeartbeats 4000000 in
theorem B_X5_weighTable_17 {k : Nat} {P : Option Nat} {I : Nat → Nat → Int32} {J : Nat → Nat → Int64} {x1 : Int} {x2 : Int} {x3 : Int} {x4 : Int} {Q : Option AV → Mem → Prop} (hk : 2 ≤ k) (h : inR x4 ∧ (inR x2 ∧ ((x2 ≤ x4 → (WP k LAY m_X5_weighTable 139 [(0, vR (some 63)), (1, vI x1), (2, vI x2), (3, vI x3), (4, vI 1)] [] (mem (P, some 5, some 22) I J) Q)) ∧ (¬ x2 ≤ x4 → ((0 ≤ x1 ∧ x1 < 5) ∧ ((0 ≤ ((3 + (x4 * 14)) + 1) ∧ ((3 + (x4 * 14)) + 1) < 87) ∧ ((0 ≤ ((3 + (x4 * 14)) + 2) ∧ ((3 + (x4 * 14)) + 2) < 87) ∧ ((0 ≤ x4 ∧ x4 < 6) ∧ (WPm (k - 1) LAY m_X9_inchMinutes [vR (some 36)] (mem (P, some 5, some 22) (si (si (si (si (si (si (si I 38 7 (gi I 13 (x4).toNat)) 38 8 (gi I 14 (x4).toNat)) 38 16 (bc32 (or32 (gi I 19 ((3 + (x4 * 14)) + 1).toNat) (gi I 19 ((3 + (x4 * 14)) + 2).toNat)))) 38 10 (gi I 15 (x1).toNat)) 38 17 x3) 38 11 (gi I 5 15)) 38 18 (gi I 19 0)) J) (retI (fun v7 I8 J9 => WPm (k - 1) LAY m_X0_lay [vR (some 39), vI x4, vI (gi I8 15 (x1).toNat), vI x3, vI 0] (mem (P, some 5, some 22) (si I8 64 (x4).toNat v7) J9) (retV (fun I11 J12 => ((0 : Int) ≤ (x4 * 8) ∧ (x4 * 8) + 8 ≤ 48) ∧ (WP k LAY m_X5_weighTable 17 [(0, vR (some 63)), (1, vI x1), (2, vI x2), (3, vI x3), (4, vI (x4 + 1))] [] (mem (P, some 5, some 22) (fc (si I11 65 (x4).toNat (gi I11 39 4)) 41 0 66 (x4 * 8).toNat 8) J12) Q)) (P, some 5, some 22))) (P, some 5, some 22))))))))))) : WP k LAY m_X5_weighTable 17 [(0, vR (some 63)), (1, vI x1), (2, vI x2), (3, vI x3), (4, vI x4)] [] (mem (P, some 5, some 22) I J) Q := by
  refine st_iload (pc' := 19) dX5_weighTable_17 rfl (j := 4) rfl ?_
  refine st_iload_n (pc' := 20) dX5_weighTable_19 rfl rfl (j := 2) rfl ?_
  obtain ⟨e1, h⟩ := h
  obtain ⟨e2, h⟩ := h
  refine st_icmp_ge (tg := 136) (pc' := 23) dX5_weighTable_20 (by decide) rfl e1 e2 (fun c => ?_) (fun c => ?_)
  · replace h := h.1 c
    refine st_iconst (pc' := 137) dX5_weighTable_136 rfl ?_
    refine st_istore (pc' := 139) (L' := [(4, vI 1), (0, vR (some 63)), (1, vI x1), (2, vI x2), (3, vI x3)]) dX5_weighTable_137 rfl (by decide) rfl ?_
    refine WP_sub (L' := [(0, vR (some 63)), (1, vI x1), (2, vI x2), (3, vI x3), (4, vI 1)]) [1, 2, 3, 4, 0] rfl ?_
    exact h
  · replace h := h.2 c
    refine st_aload_n (pc' := 24) dX5_weighTable_23 rfl rfl (j := 0) rfl ?_
    refine G_X5_39_63 dX5_weighTable_24 (pc' := 27) rfl rfl ?_
    refine st_iload (pc' := 29) dX5_weighTable_27 rfl (j := 4) rfl ?_
    refine st_aload_n (pc' := 30) dX5_weighTable_29 rfl rfl (j := 0) rfl ?_
    refine G_X5_35_63 dX5_weighTable_30 (pc' := 33) rfl rfl ?_
    refine G_X5_53_4 dX5_weighTable_33 (pc' := 36) rfl rfl ?_
    refine G_X5_98_5 dX5_weighTable_36 (pc' := 39) rfl rfl ?_
    refine st_iload_n (pc' := 40) dX5_weighTable_39 rfl rfl (j := 1) rfl ?_
    obtain ⟨e3, h⟩ := h
    refine st_iaload (pc' := 41) (v := (gi I 15 (x1).toNat)) dX5_weighTable_40 rfl L_15 (by decide) e3 (show gi I 15 (x1).toNat = (gi I 15 (x1).toNat) from rfl) ?_
    refine st_iload_n (pc' := 42) dX5_weighTable_41 rfl rfl (j := 3) rfl ?_
    refine st_aload_n (pc' := 43) dX5_weighTable_42 rfl rfl (j := 0) rfl ?_
    refine G_X5_35_63 dX5_weighTable_43 (pc' := 46) rfl rfl ?_
    refine st_iload (pc' := 48) dX5_weighTable_46 rfl (j := 4) rfl ?_
    refine st_callV (pc' := 51) (kc := k - 1) (E' := LAY) (cal := m_X2_known) (n := 1) (as := [vI x4]) (S := [vI x3, vI (gi I 15 (x1).toNat), vI x4, vR (some 36)]) dX5_weighTable_48 rfl l_X5_101 k_X2_known rfl L_4 c_X2 rfl rfl (Nat.le_of_ble_eq_true rfl) (by omega) ⟨Nat.le_refl _, Nat.le_refl _, Nat.le_refl _, Nat.le_refl _⟩ (Q1 := fun r M' => WP k LAY m_X5_weighTable 51 [(0, vR (some 63)), (1, vI x1), (2, vI x2), (3, vI x3), (4, vI x4)] (r.toList ++ [vI x3, vI (gi I 15 (x1).toNat), vI x4, vR (some 36)]) M' Q) (WPm.of k_X2_known.1 (Nat.le_of_ble_eq_true rfl) (B_X2_known_0 (by omega) ?_)) (fun r M' q => q)
    obtain ⟨e4, h⟩ := h
    refine ⟨e4, ?_⟩
    obtain ⟨e5, h⟩ := h
    refine ⟨e5, ?_⟩
    change WP _ LAY m_X5_weighTable 51 [(0, vR (some 63)), (1, vI x1), (2, vI x2), (3, vI x3), (4, vI x4)] [vI (or32 (gi I 19 ((3 + (x4 * 14)) + 1).toNat) (gi I 19 ((3 + (x4 * 14)) + 2).toNat)), vI x3, vI (gi I 15 (x1).toNat), vI x4, vR (some 36)] (mem (P, some 5, some 22) I J) Q
    refine st_callS (pc' := 54) (kc := k - 1) (E' := LAY) (cal := m_J6_bitCount_0f7a4) (n := 1) (as := [vI (or32 (gi I 19 ((3 + (x4 * 14)) + 1).toNat) (gi I 19 ((3 + (x4 * 14)) + 2).toNat))]) (S := [vI x3, vI (gi I 15 (x1).toNat), vI x4, vR (some 36)]) dX5_weighTable_51 rfl l_X5_105 k_J6_bitCount_0f7a4 rfl rfl (Nat.le_of_ble_eq_true rfl) (by omega) ⟨Nat.le_refl _, Nat.le_refl _, Nat.le_refl _, Nat.le_refl _⟩ (Q1 := fun r M' => WP k LAY m_X5_weighTable 54 [(0, vR (some 63)), (1, vI x1), (2, vI x2), (3, vI x3), (4, vI x4)] (r.toList ++ [vI x3, vI (gi I 15 (x1).toNat), vI x4, vR (some 36)]) M' Q) (S_J6_bitCount (by omega)  ?_) (fun r M' q => q)
    change WP _ LAY m_X5_weighTable 54 [(0, vR (some 63)), (1, vI x1), (2, vI x2), (3, vI x3), (4, vI x4)] [vI (bc32 (or32 (gi I 19 ((3 + (x4 * 14)) + 1).toNat) (gi I 19 ((3 + (x4 * 14)) + 2).toNat))), vI x3, vI (gi I 15 (x1).toNat), vI x4, vR (some 36)] (mem (P, some 5, some 22) I J) Q
    refine st_callV (pc' := 57) (kc := k - 1) (E' := LAY) (cal := m_X9_setAt) (n := 4) (as := [vI x4, vI (gi I 15 (x1).toNat), vI x3, vI (bc32 (or32 (gi I 19 ((3 + (x4 * 14)) + 1).toNat) (gi I 19 ((3 + (x4 * 14)) + 2).toNat)))]) (S := []) dX5_weighTable_54 rfl l_X5_110 k_X9_setAt rfl L_36 c_X9 rfl rfl (Nat.le_of_ble_eq_true rfl) (by omega) ⟨Nat.le_refl _, Nat.le_refl _, Nat.le_refl _, Nat.le_refl _⟩ (Q1 := fun r M' => WP k LAY m_X5_weighTable 57 [(0, vR (some 63)), (1, vI x1), (2, vI x2), (3, vI x3), (4, vI x4)] (r.toList ++ []) M' Q) (WPm.of k_X9_setAt.1 (Nat.le_of_ble_eq_true rfl) (B_X9_setAt_0 (by omega) ?_)) (fun r M' q => q)
    obtain ⟨e6, h⟩ := h
    refine ⟨e6, ?_⟩
    change WP _ LAY m_X5_weighTable 57 [(0, vR (some 63)), (1, vI x1), (2, vI x2), (3, vI x3), (4, vI x4)] [] (mem (P, some 5, some 22) (si (si (si (si (si (si (si I 38 7 (gi I 13 (x4).toNat)) 38 8 (gi I 14 (x4).toNat)) 38 16 (bc32 (or32 (gi I 19 ((3 + (x4 * 14)) + 1).toNat) (gi I 19 ((3 + (x4 * 14)) + 2).toNat)))) 38 10 (gi I 15 (x1).toNat)) 38 17 x3) 38 11 (gi I 5 15)) 38 18 (gi I 19 0)) J) Q
    refine st_aload_n (pc' := 58) dX5_weighTable_57 rfl rfl (j := 0) rfl ?_
    refine G_X5_9_63 dX5_weighTable_58 (pc' := 61) rfl rfl ?_
    refine st_iload (pc' := 63) dX5_weighTable_61 rfl (j := 4) rfl ?_
    refine st_aload_n (pc' := 64) dX5_weighTable_63 rfl rfl (j := 0) rfl ?_
    refine G_X5_39_63 dX5_weighTable_64 (pc' := 67) rfl rfl ?_
    refine st_callV (pc' := 70) (kc := k - 1) (E' := LAY) (cal := m_X9_inchMinutes) (n := 0) (as := []) (S := [vI x4, vR (some 64)]) dX5_weighTable_67 rfl l_X5_116 k_X9_inchMinutes rfl L_36 c_X9 rfl rfl (Nat.le_of_ble_eq_true rfl) (by omega) ⟨Nat.le_refl _, Nat.le_refl _, Nat.le_refl _, Nat.le_refl _⟩ h (fun r M' q => ?_)
    obtain ⟨v7, I8, J9, rfl, rfl, h⟩ := q
    change WP _ LAY m_X5_weighTable 70 [(0, vR (some 63)), (1, vI x1), (2, vI x2), (3, vI x3), (4, vI x4)] [vI v7, vI x4, vR (some 64)] (mem (P, some 5, some 22) I8 J9) Q
    refine st_iastore (pc' := 71) (M' := (mem (P, some 5, some 22) (si I8 64 (x4).toNat v7) J9)) dX5_weighTable_70 rfl L_64 (by decide) e6 rfl ?_
    refine st_aload_n (pc' := 72) dX5_weighTable_71 rfl rfl (j := 0) rfl ?_
    refine G_X5_43_63 dX5_weighTable_72 (pc' := 75) rfl rfl ?_
    refine st_iload (pc' := 77) dX5_weighTable_75 rfl (j := 4) rfl ?_
    refine st_aload_n (pc' := 78) dX5_weighTable_77 rfl rfl (j := 0) rfl ?_
    refine G_X5_35_63 dX5_weighTable_78 (pc' := 81) rfl rfl ?_
    refine G_X5_53_4 dX5_weighTable_81 (pc' := 84) rfl rfl ?_
    refine G_X5_98_5 dX5_weighTable_84 (pc' := 87) rfl rfl ?_
    refine st_iload_n (pc' := 88) dX5_weighTable_87 rfl rfl (j := 1) rfl ?_
    refine st_iaload (pc' := 89) (v := (gi I8 15 (x1).toNat)) dX5_weighTable_88 rfl L_15 (by decide) e3 (show gi (si I8 64 (x4).toNat v7) 15 (x1).toNat = (gi I8 15 (x1).toNat) from (gi_cell _ _ _ _ (by decide))) ?_
    refine st_iload_n (pc' := 90) dX5_weighTable_89 rfl rfl (j := 3) rfl ?_
    refine st_iconst (pc' := 91) dX5_weighTable_90 rfl ?_
    refine st_callV (pc' := 94) (kc := k - 1) (E' := LAY) (cal := m_X0_lay) (n := 4) (as := [vI x4, vI (gi I8 15 (x1).toNat), vI x3, vI 0]) (S := []) dX5_weighTable_91 rfl l_X5_120 k_X0_lay rfl L_39 c_X0 rfl rfl (Nat.le_of_ble_eq_true rfl) (by omega) ⟨Nat.le_refl _, Nat.le_refl _, Nat.le_refl _, Nat.le_refl _⟩ h (fun r M' q => ?_)
    obtain ⟨I11, J12, rfl, rfl, h⟩ := q
    change WP _ LAY m_X5_weighTable 94 [(0, vR (some 63)), (1, vI x1), (2, vI x2), (3, vI x3), (4, vI x4)] [] (mem (P, some 5, some 22) I11 J12) Q
    refine st_aload_n (pc' := 95) dX5_weighTable_94 rfl rfl (j := 0) rfl ?_
    refine G_X5_15_63 dX5_weighTable_95 (pc' := 98) rfl rfl ?_
    refine st_iload (pc' := 100) dX5_weighTable_98 rfl (j := 4) rfl ?_
    refine st_aload_n (pc' := 101) dX5_weighTable_100 rfl rfl (j := 0) rfl ?_
    refine G_X5_43_63 dX5_weighTable_101 (pc' := 104) rfl rfl ?_
    refine G_X5_126_39 dX5_weighTable_104 (pc' := 107) rfl rfl ?_
    refine st_iastore (pc' := 108) (M' := (mem (P, some 5, some 22) (si I11 65 (x4).toNat (gi I11 39 4)) J12)) dX5_weighTable_107 rfl L_65 (by decide) e6 rfl ?_
    refine st_aload_n (pc' := 109) dX5_weighTable_108 rfl rfl (j := 0) rfl ?_
    refine G_X5_43_63 dX5_weighTable_109 (pc' := 112) rfl rfl ?_
    refine G_X5_129_39 dX5_weighTable_112 (pc' := 115) rfl rfl ?_
    refine st_iconst (pc' := 116) dX5_weighTable_115 rfl ?_
    refine st_aload_n (pc' := 117) dX5_weighTable_116 rfl rfl (j := 0) rfl ?_
    refine G_X5_18_63 dX5_weighTable_117 (pc' := 120) rfl rfl ?_
    refine st_iload (pc' := 122) dX5_weighTable_120 rfl (j := 4) rfl ?_
    refine st_bipush (pc' := 124) dX5_weighTable_122 rfl (by decide) ?_
    refine st_imul (pc' := 125) dX5_weighTable_124 rfl ?_
    refine st_bipush (pc' := 127) dX5_weighTable_125 rfl (by decide) ?_
    obtain ⟨e13, h⟩ := h
    refine st_copy (pc' := 130) (M' := (mem (P, some 5, some 22) (fc (si I11 65 (x4).toNat (gi I11 39 4)) 41 0 66 (x4 * 8).toNat 8) J12)) dX5_weighTable_127 rfl l_X5_130 a_copy L_41 L_66 (by decide) (by decide) (by decide) e13 (by omega) (Nat.le_of_ble_eq_true rfl) rfl ?_
    refine st_iinc (pc' := 133) (L' := [(4, vI (x4 + 1)), (0, vR (some 63)), (1, vI x1), (2, vI x2), (3, vI x3)]) (j := 4) dX5_weighTable_130 rfl (by decide) rfl rfl ?_
    refine st_goto (pc' := 17) dX5_weighTable_133 (by decide) ?_
    refine WP_sub (L' := [(0, vR (some 63)), (1, vI x1), (2, vI x2), (3, vI x3), (4, vI (x4 + 1))]) [1, 2, 3, 4, 0] rfl ?_
    exact h
set_option maxRecDepth 20000 in
set_option maxHeartbeats 4000000 in
theorem B_X5_weighTable_139 {k : Nat} {P : Option Nat} {I : Nat → Nat → Int32} {J : Nat → Nat → Int64} {x1 : Int} {x2 : Int} {x3 : Int} {x4 : Int} {Q : Option AV → Mem → Prop} (hk : 1 ≤ k) (h : inR x4 ∧ (((shl32 1 x2) ≤ x4 → (WP k LAY m_X5_weighTable 9 [(0, vR (some 63)), (1, vI x1), (2, vI x2), (3, vI (x3 + 1))] [] (mem (P, some 5, some 22) I J) Q)) ∧ (¬ (shl32 1 x2) ≤ x4 → (inR x3 ∧ ((¬ (bc32 x4) = x3 → (WP k LAY m_X5_weighTable 139 [(0, vR (some 63)), (1, vI x1), (2, vI x2), (3, vI x3), (4, vI (x4 + 1))] [] (mem (P, some 5, some 22) I J) Q)) ∧ ((bc32 x4) = x3 → (WPm (k - 1) LAY m_X5_weigh [vR (some 63), vI x1, vI x4, vI x2] (mem (P, some 5, some 22) I J) (retL (fun v3 I4 J5 => (0 ≤ x4 ∧ x4 < 64) ∧ (WP k LAY m_X5_weighTable 139 [(0, vR (some 63)), (1, vI x1), (2, vI x2), (3, vI x3), (4, vI (x4 + 1))] [] (mem (P, some 5, some 22) I4 (sl J5 68 (x4).toNat v3)) Q)) (P, some 5, some 22))))))))) : WP k LAY m_X5_weighTable 139 [(0, vR (some 63)), (1, vI x1), (2, vI x2), (3, vI x3), (4, vI x4)] [] (mem (P, some 5, some 22) I J) Q := by
  refine st_iload (pc' := 141) dX5_weighTable_139 rfl (j := 4) rfl ?_
  refine st_iconst (pc' := 142) dX5_weighTable_141 rfl ?_
  refine st_iload_n (pc' := 143) dX5_weighTable_142 rfl rfl (j := 2) rfl ?_
  refine st_ishl (pc' := 144) (z := (shl32 1 x2)) dX5_weighTable_143 rfl rfl ?_
  obtain ⟨e1, h⟩ := h
  refine st_icmp_ge (tg := 177) (pc' := 147) dX5_weighTable_144 (by decide) rfl e1 (shl32_in _ _) (fun c => ?_) (fun c => ?_)
  · replace h := h.1 c
    refine st_iinc (pc' := 180) (L' := [(3, vI (x3 + 1)), (0, vR (some 63)), (1, vI x1), (2, vI x2), (4, vI x4)]) (j := 3) dX5_weighTable_177 rfl (by decide) rfl rfl ?_
    refine st_goto (pc' := 9) dX5_weighTable_180 (by decide) ?_
    refine WP_sub (L' := [(0, vR (some 63)), (1, vI x1), (2, vI x2), (3, vI (x3 + 1))]) [1, 2, 3, 0] rfl ?_
    exact h
  · replace h := h.2 c
    refine st_iload (pc' := 149) dX5_weighTable_147 rfl (j := 4) rfl ?_
    refine st_callS (pc' := 152) (kc := k - 1) (E' := LAY) (cal := m_J6_bitCount_0f7a4) (n := 1) (as := [vI x4]) (S := []) dX5_weighTable_149 rfl l_X5_105 k_J6_bitCount_0f7a4 rfl rfl (Nat.le_of_ble_eq_true rfl) (by omega) ⟨Nat.le_refl _, Nat.le_refl _, Nat.le_refl _, Nat.le_refl _⟩ (Q1 := fun r M' => WP k LAY m_X5_weighTable 152 [(0, vR (some 63)), (1, vI x1), (2, vI x2), (3, vI x3), (4, vI x4)] (r.toList ++ []) M' Q) (S_J6_bitCount (by omega)  ?_) (fun r M' q => q)
    change WP _ LAY m_X5_weighTable 152 [(0, vR (some 63)), (1, vI x1), (2, vI x2), (3, vI x3), (4, vI x4)] [vI (bc32 x4)] (mem (P, some 5, some 22) I J) Q
    refine st_iload_n (pc' := 153) dX5_weighTable_152 rfl rfl (j := 3) rfl ?_
    obtain ⟨e2, h⟩ := h
    refine st_icmp_ne (tg := 171) (pc' := 156) dX5_weighTable_153 (by decide) rfl (bc32_in _) e2 (fun c => ?_) (fun c => ?_)
    · replace h := h.1 c
      refine st_iinc (pc' := 174) (L' := [(4, vI (x4 + 1)), (0, vR (some 63)), (1, vI x1), (2, vI x2), (3, vI x3)]) (j := 4) dX5_weighTable_171 rfl (by decide) rfl rfl ?_
      refine st_goto (pc' := 139) dX5_weighTable_174 (by decide) ?_
      refine WP_sub (L' := [(0, vR (some 63)), (1, vI x1), (2, vI x2), (3, vI x3), (4, vI (x4 + 1))]) [1, 2, 3, 4, 0] rfl ?_
      exact h
    · replace h := h.2 c
      refine st_aload_n (pc' := 157) dX5_weighTable_156 rfl rfl (j := 0) rfl ?_
      refine G_X5_24_63 dX5_weighTable_157 (pc' := 160) rfl rfl ?_
      refine st_iload (pc' := 162) dX5_weighTable_160 rfl (j := 4) rfl ?_
      refine st_aload_n (pc' := 163) dX5_weighTable_162 rfl rfl (j := 0) rfl ?_
      refine st_iload_n (pc' := 164) dX5_weighTable_163 rfl rfl (j := 1) rfl ?_
      refine st_iload (pc' := 166) dX5_weighTable_164 rfl (j := 4) rfl ?_
      refine st_iload_n (pc' := 167) dX5_weighTable_166 rfl rfl (j := 2) rfl ?_
      refine st_callV (pc' := 170) (kc := k - 1) (E' := LAY) (cal := m_X5_weigh) (n := 3) (as := [vI x1, vI x4, vI x2]) (S := [vI x4, vR (some 68)]) dX5_weighTable_167 rfl l_X5_136 k_X5_weigh rfl L_63 c_X5 rfl rfl (Nat.le_of_ble_eq_true rfl) (by omega) ⟨Nat.le_refl _, Nat.le_refl _, Nat.le_refl _, Nat.le_refl _⟩ h (fun r M' q => ?_)
      obtain ⟨v3, I4, J5, rfl, rfl, h⟩ := q
      change WP _ LAY m_X5_weighTable 170 [(0, vR (some 63)), (1, vI x1), (2, vI x2), (3, vI x3), (4, vI x4)] [vL v3, vI x4, vR (some 68)] (mem (P, some 5, some 22) I4 J5) Q
      obtain ⟨e6, h⟩ := h
      refine st_lastore (pc' := 171) (M' := (mem (P, some 5, some 22) I4 (sl J5 68 (x4).toNat v3))) dX5_weighTable_170 rfl L_68 (by decide) e6 rfl ?_
      refine st_iinc (pc' := 174) (L' := [(4, vI (x4 + 1)), (0, vR (some 63)), (1, vI x1), (2, vI x2), (3, vI x3)]) (j := 4) dX5_weighTable_171 rfl (by decide) rfl rfl ?_
      refine st_goto (pc' := 139) dX5_weighTable_174 (by decide) ?_
      refine WP_sub (L' := [(0, vR (some 63)), (1, vI x1), (2, vI x2), (3, vI x3), (4, vI (x4 + 1))]) [1, 2, 3, 4, 0] rfl ?_
      exact h
set_option maxRecDepth 20000 in
set_option maxHeartbeats 4000000 in
theorem B_X5_joinTable_0 {k : Nat} {P : Option Nat} {I : Nat → Nat → Int32} {J : Nat → Nat → Int64} {x1 : Int} {Q : Option AV → Mem → Prop} (hk : 0 ≤ k) (h : WP k LAY m_X5_joinTable 2 [(0, vR (some 63)), (2, vI x1)] [] (mem (P, some 5, some 22) I J) Q) : WP k LAY m_X5_joinTable 0 [(0, vR (some 63)), (1, vI x1)] [] (mem (P, some 5, some 22) I J) Q := by
  refine st_iload_n (pc' := 1) dX5_joinTable_0 rfl rfl (j := 1) rfl ?_
  refine st_istore_n (pc' := 2) (L' := [(2, vI x1), (0, vR (some 63)), (1, vI x1)]) dX5_joinTable_1 rfl rfl (by decide) rfl ?_
  refine WP_sub (L' := [(0, vR (some 63)), (2, vI x1)]) [1, 0] rfl ?_
  exact h
set_option maxRecDepth 20000 in
set_option maxHeartbeats 4000000 in
theorem B_X5_joinTable_2 {k : Nat} {P : Option Nat} {I : Nat → Nat → Int32} {J : Nat → Nat → Int64} {x2 : Int} {Q : Option AV → Mem → Prop} (hk : 0 ≤ k) (h : inR x2 ∧ ((x2 ≤ 0 → (Q none (mem (P, some 5, some 22) I J))) ∧ (¬ x2 ≤ 0 → ((0 ≤ x2 ∧ x2 < 64) ∧ (WP k LAY m_X5_joinTable 16 [(0, vR (some 63)), (2, vI x2), (3, vL (gl J 69 (x2).toNat)), (5, vI x2)] [] (mem (P, some 5, some 22) I J) Q))))) : WP k LAY m_X5_joinTable 2 [(0, vR (some 63)), (2, vI x2)] [] (mem (P, some 5, some 22) I J) Q := by
  refine st_iload_n (pc' := 3) dX5_joinTable_2 rfl rfl (j := 1) rfl ?_
  obtain ⟨e1, h⟩ := h
  refine st_if_le (tg := 69) (pc' := 6) dX5_joinTable_3 (by decide) rfl e1 (fun c => ?_) (fun c => ?_)
  · replace h := h.1 c
    exact st_vret dX5_joinTable_69 rfl rfl h
  · replace h := h.2 c
    refine st_aload_n (pc' := 7) dX5_joinTable_6 rfl rfl (j := 0) rfl ?_
    refine G_X5_28_63 dX5_joinTable_7 (pc' := 10) rfl rfl ?_
    refine st_iload_n (pc' := 11) dX5_joinTable_10 rfl rfl (j := 1) rfl ?_
    obtain ⟨e2, h⟩ := h
    refine st_laload (pc' := 12) (v := (gl J 69 (x2).toNat)) dX5_joinTable_11 rfl L_69 (by decide) e2 (show gl J 69 (x2).toNat = (gl J 69 (x2).toNat) from rfl) ?_
    refine st_lstore_n (pc' := 13) (L' := [(3, vL (gl J 69 (x2).toNat)), (0, vR (some 63)), (2, vI x2)]) dX5_joinTable_12 rfl rfl (by decide) rfl ?_
    refine st_iload_n (pc' := 14) dX5_joinTable_13 rfl rfl (j := 2) rfl ?_
    refine st_istore (pc' := 16) (L' := [(5, vI x2), (3, vL (gl J 69 (x2).toNat)), (0, vR (some 63)), (2, vI x2)]) dX5_joinTable_14 rfl (by decide) rfl ?_
    refine WP_sub (L' := [(0, vR (some 63)), (2, vI x2), (3, vL (gl J 69 (x2).toNat)), (5, vI x2)]) [2, 3, 1, 0] rfl ?_
    exact h
set_option maxRecDepth 20000 in
set_option maxHeartbeats 4000000 in
theorem B_X5_joinTable_16 {k : Nat} {P : Option Nat} {I : Nat → Nat → Int32} {J : Nat → Nat → Int64} {x2 : Int} {x3 : Int} {x5 : Int} {Q : Option AV → Mem → Prop} (hk : 1 ≤ k) (h : inR x5 ∧ ((x5 ≤ 0 → ((0 ≤ x2 ∧ x2 < 64) ∧ (WP k LAY m_X5_joinTable 2 [(0, vR (some 63)), (2, vI (x2 + (-1)))] [] (mem (P, some 5, some 22) I (sl J 69 (x2).toNat x3)) Q))) ∧ (¬ x5 ≤ 0 → ((0 ≤ (and32 x2 (xor32 x5 (-1))) ∧ (and32 x2 (xor32 x5 (-1))) < 64) ∧ ((0 ≤ x5 ∧ x5 < 64) ∧ (WPm (k - 1) LAY m_J9_max_f86c9 [vL x3, vL ((gl J 69 (and32 x2 (xor32 x5 (-1))).toNat) + (gl J 68 (x5).toNat))] (mem (P, some 5, some 22) I J) (retL (fun v5 I6 J7 => WP k LAY m_X5_joinTable 16 [(0, vR (some 63)), (2, vI x2), (3, vL v5), (5, vI (and32 (x5 - 1) x2))] [] (mem (P, some 5, some 22) I6 J7) Q) (P, some 5, some 22)))))))) : WP k LAY m_X5_joinTable 16 [(0, vR (some 63)), (2, vI x2), (3, vL x3), (5, vI x5)] [] (mem (P, some 5, some 22) I J) Q := by
  refine st_iload (pc' := 18) dX5_joinTable_16 rfl (j := 3) rfl ?_
  obtain ⟨e1, h⟩ := h
  refine st_if_le (tg := 56) (pc' := 21) dX5_joinTable_18 (by decide) rfl e1 (fun c => ?_) (fun c => ?_)
  · replace h := h.1 c
    refine st_aload_n (pc' := 57) dX5_joinTable_56 rfl rfl (j := 0) rfl ?_
    refine G_X5_28_63 dX5_joinTable_57 (pc' := 60) rfl rfl ?_
    refine st_iload_n (pc' := 61) dX5_joinTable_60 rfl rfl (j := 1) rfl ?_
    refine st_lload_n (pc' := 62) dX5_joinTable_61 rfl rfl (j := 2) rfl ?_
    obtain ⟨e2, h⟩ := h
    refine st_lastore (pc' := 63) (M' := (mem (P, some 5, some 22) I (sl J 69 (x2).toNat x3))) dX5_joinTable_62 rfl L_69 (by decide) e2 rfl ?_
    refine st_iinc (pc' := 66) (L' := [(2, vI (x2 + (-1))), (0, vR (some 63)), (3, vL x3), (5, vI x5)]) (j := 1) dX5_joinTable_63 rfl (by decide) rfl rfl ?_
    refine st_goto (pc' := 2) dX5_joinTable_66 (by decide) ?_
    refine WP_sub (L' := [(0, vR (some 63)), (2, vI (x2 + (-1)))]) [1, 0] rfl ?_
    exact h
  · replace h := h.2 c
    refine st_lload_n (pc' := 22) dX5_joinTable_21 rfl rfl (j := 2) rfl ?_
    refine st_aload_n (pc' := 23) dX5_joinTable_22 rfl rfl (j := 0) rfl ?_
    refine G_X5_28_63 dX5_joinTable_23 (pc' := 26) rfl rfl ?_
    refine st_iload_n (pc' := 27) dX5_joinTable_26 rfl rfl (j := 1) rfl ?_
    refine st_iload (pc' := 29) dX5_joinTable_27 rfl (j := 3) rfl ?_
    refine st_iconst (pc' := 30) dX5_joinTable_29 rfl ?_
    refine st_ixor (pc' := 31) (z := (xor32 x5 (-1))) dX5_joinTable_30 rfl rfl ?_
    refine st_iand (pc' := 32) (z := (and32 x2 (xor32 x5 (-1)))) dX5_joinTable_31 rfl rfl ?_
    obtain ⟨e3, h⟩ := h
    refine st_laload (pc' := 33) (v := (gl J 69 (and32 x2 (xor32 x5 (-1))).toNat)) dX5_joinTable_32 rfl L_69 (by decide) e3 (show gl J 69 (and32 x2 (xor32 x5 (-1))).toNat = (gl J 69 (and32 x2 (xor32 x5 (-1))).toNat) from rfl) ?_
    refine st_aload_n (pc' := 34) dX5_joinTable_33 rfl rfl (j := 0) rfl ?_
    refine G_X5_24_63 dX5_joinTable_34 (pc' := 37) rfl rfl ?_
    refine st_iload (pc' := 39) dX5_joinTable_37 rfl (j := 3) rfl ?_
    obtain ⟨e4, h⟩ := h
    refine st_laload (pc' := 40) (v := (gl J 68 (x5).toNat)) dX5_joinTable_39 rfl L_68 (by decide) e4 (show gl J 68 (x5).toNat = (gl J 68 (x5).toNat) from rfl) ?_
    refine st_ladd (pc' := 41) dX5_joinTable_40 rfl ?_
    refine st_callS (pc' := 44) (kc := k - 1) (E' := LAY) (cal := m_J9_max_f86c9) (n := 2) (as := [vL x3, vL ((gl J 69 (and32 x2 (xor32 x5 (-1))).toNat) + (gl J 68 (x5).toNat))]) (S := []) dX5_joinTable_41 rfl l_X5_147 k_J9_max_f86c9 rfl rfl (Nat.le_of_ble_eq_true rfl) (by omega) ⟨Nat.le_refl _, Nat.le_refl _, Nat.le_refl _, Nat.le_refl _⟩ h (fun r M' q => ?_)
    obtain ⟨v5, I6, J7, rfl, rfl, h⟩ := q
    change WP _ LAY m_X5_joinTable 44 [(0, vR (some 63)), (2, vI x2), (3, vL x3), (5, vI x5)] [vL v5] (mem (P, some 5, some 22) I6 J7) Q
    refine st_lstore_n (pc' := 45) (L' := [(3, vL v5), (0, vR (some 63)), (2, vI x2), (5, vI x5)]) dX5_joinTable_44 rfl rfl (by decide) rfl ?_
    refine st_iload (pc' := 47) dX5_joinTable_45 rfl (j := 3) rfl ?_
    refine st_iconst (pc' := 48) dX5_joinTable_47 rfl ?_
    refine st_isub (pc' := 49) dX5_joinTable_48 rfl ?_
    refine st_iload_n (pc' := 50) dX5_joinTable_49 rfl rfl (j := 2) rfl ?_
    refine st_iand (pc' := 51) (z := (and32 (x5 - 1) x2)) dX5_joinTable_50 rfl rfl ?_
    refine st_istore (pc' := 53) (L' := [(5, vI (and32 (x5 - 1) x2)), (3, vL v5), (0, vR (some 63)), (2, vI x2)]) dX5_joinTable_51 rfl (by decide) rfl ?_
    refine st_goto (pc' := 16) dX5_joinTable_53 (by decide) ?_
    refine WP_sub (L' := [(0, vR (some 63)), (2, vI x2), (3, vL v5), (5, vI (and32 (x5 - 1) x2))]) [2, 3, 1, 0] rfl ?_
    exact h
set_option maxRecDepth 20000 in
set_option maxHeartbeats 4000000 in
theorem B_X5_tellFound_0 {k : Nat} {P : Option Nat} {I : Nat → Nat → Int32} {J : Nat → Nat → Int64} {x1 : Int} {Q : Option AV → Mem → Prop} (hk : 1 ≤ k) (h : WPm (k - 1) LAY m_J9_floorMod_f86c9 [vL (-x1), vL 16384] (mem (P, some 5, some 22) I J) (retL (fun v1 I2 J3 => Q none (mem (P, some 5, some 22) (si (si (si I2 63 12 v1) 63 11 (rem64 (div64 (x1 + v1) 16384) 4096)) 63 10 (div64 (div64 (x1 + v1) 16384) 4096)) J3)) (P, some 5, some 22))) : WP k LAY m_X5_tellFound 0 [(0, vR (some 63)), (1, vL x1)] [] (mem (P, some 5, some 22) I J) Q := by
  refine st_lload_n (pc' := 1) dX5_tellFound_0 rfl rfl (j := 1) rfl ?_
  refine st_lneg (pc' := 2) dX5_tellFound_1 rfl ?_
  refine st_ldc2 (pc' := 5) (z := 16384) dX5_tellFound_2 rfl q_X5_88 (by decide) ?_
  refine st_callS (pc' := 8) (kc := k - 1) (E' := LAY) (cal := m_J9_floorMod_f86c9) (n := 2) (as := [vL (-x1), vL 16384]) (S := []) dX5_tellFound_5 rfl l_X5_90 k_J9_floorMod_f86c9 rfl rfl (Nat.le_of_ble_eq_true rfl) (by omega) ⟨Nat.le_refl _, Nat.le_refl _, Nat.le_refl _, Nat.le_refl _⟩ h (fun r M' q => ?_)
  obtain ⟨v1, I2, J3, rfl, rfl, h⟩ := q
  change WP _ LAY m_X5_tellFound 8 [(0, vR (some 63)), (1, vL x1)] [vL v1] (mem (P, some 5, some 22) I2 J3) Q
  refine st_lstore_n (pc' := 9) (L' := [(3, vL v1), (0, vR (some 63)), (1, vL x1)]) dX5_tellFound_8 rfl rfl (by decide) rfl ?_
  refine st_lload_n (pc' := 10) dX5_tellFound_9 rfl rfl (j := 2) rfl ?_
  refine st_lload_n (pc' := 11) dX5_tellFound_10 rfl rfl (j := 0) rfl ?_
  refine st_ladd (pc' := 12) dX5_tellFound_11 rfl ?_
  refine st_ldc2 (pc' := 15) (z := 16384) dX5_tellFound_12 rfl q_X5_88 (by decide) ?_
  refine st_ldiv (pc' := 16) (z := (div64 (x1 + v1) 16384)) dX5_tellFound_15 rfl (by decide) rfl ?_
  refine st_lstore (pc' := 18) (L' := [(5, vL (div64 (x1 + v1) 16384)), (3, vL v1), (0, vR (some 63)), (1, vL x1)]) dX5_tellFound_16 rfl (by decide) rfl ?_
  refine st_aload_n (pc' := 19) dX5_tellFound_18 rfl rfl (j := 2) rfl ?_
  refine st_lload_n (pc' := 20) dX5_tellFound_19 rfl rfl (j := 1) rfl ?_
  refine st_l2i (pc' := 21) dX5_tellFound_20 rfl ?_
  refine P_X5_64_63 dX5_tellFound_21 (pc' := 24) rfl rfl ?_
  refine st_aload_n (pc' := 25) dX5_tellFound_24 rfl rfl (j := 2) rfl ?_
  refine st_lload (pc' := 27) dX5_tellFound_25 rfl (j := 0) rfl ?_
  refine st_ldc2 (pc' := 30) (z := 4096) dX5_tellFound_27 rfl q_X5_96 (by decide) ?_
  refine st_lrem (pc' := 31) (z := (rem64 (div64 (x1 + v1) 16384) 4096)) dX5_tellFound_30 rfl (by decide) rfl ?_
  refine st_l2i (pc' := 32) dX5_tellFound_31 rfl ?_
  refine P_X5_50_63 dX5_tellFound_32 (pc' := 35) rfl rfl ?_
  refine st_aload_n (pc' := 36) dX5_tellFound_35 rfl rfl (j := 2) rfl ?_
  refine st_lload (pc' := 38) dX5_tellFound_36 rfl (j := 0) rfl ?_
  refine st_ldc2 (pc' := 41) (z := 4096) dX5_tellFound_38 rfl q_X5_96 (by decide) ?_
  refine st_ldiv (pc' := 42) (z := (div64 (div64 (x1 + v1) 16384) 4096)) dX5_tellFound_41 rfl (by decide) rfl ?_
  refine st_l2i (pc' := 43) dX5_tellFound_42 rfl ?_
  refine P_X5_47_63 dX5_tellFound_43 (pc' := 46) rfl rfl ?_
  exact st_vret dX5_tellFound_46 rfl rfl h
set_option maxRecDepth 20000 in
set_option maxHeartbeats 4000000 in
theorem B_X5_find_0 {k : Nat} {P : Option Nat} {I : Nat → Nat → Int32} {J : Nat → Nat → Int64}  {Q : Option AV → Mem → Prop} (hk : 0 ≤ k) (h : (¬ (gi I 63 9) = (gi I 4 6) → (WP k LAY m_X5_find 59 [(0, vR (some 63)), (1, vI (gi I 6 3)), (2, vI (gi I 6 2)), (3, vI 1), (4, vI ((gi I 6 2) - 1))] [] (mem (P, some 5, some 22) (si I 63 9 (gi I 4 6)) J) Q)) ∧ ((gi I 63 9) = (gi I 4 6) → (Q none (mem (P, some 5, some 22) I J)))) : WP k LAY m_X5_find 0 [(0, vR (some 63))] [] (mem (P, some 5, some 22) I J) Q := by
  refine st_aload_n (pc' := 1) dX5_find_0 rfl rfl (j := 0) rfl ?_
  refine G_X5_31_63 dX5_find_1 (pc' := 4) rfl rfl ?_
  refine st_aload_n (pc' := 5) dX5_find_4 rfl rfl (j := 0) rfl ?_
  refine G_X5_35_63 dX5_find_5 (pc' := 8) rfl rfl ?_
  refine G_X5_67_4 dX5_find_8 (pc' := 11) rfl rfl ?_
  refine st_icmp_ne (tg := 15) (pc' := 14) dX5_find_11 (by decide) rfl (gi_in _ _ _) (gi_in _ _ _) (fun c => ?_) (fun c => ?_)
  · replace h := h.1 c
    refine st_aload_n (pc' := 16) dX5_find_15 rfl rfl (j := 0) rfl ?_
    refine st_aload_n (pc' := 17) dX5_find_16 rfl rfl (j := 0) rfl ?_
    refine G_X5_35_63 dX5_find_17 (pc' := 20) rfl rfl ?_
    refine G_X5_67_4 dX5_find_20 (pc' := 23) rfl rfl ?_
    refine P_X5_31_63 dX5_find_23 (pc' := 26) rfl rfl ?_
    refine st_aload_n (pc' := 27) dX5_find_26 rfl rfl (j := 0) rfl ?_
    refine G_X5_35_63 dX5_find_27 (pc' := 30) rfl rfl ?_
    refine G_X5_53_4 dX5_find_30 (pc' := 33) rfl rfl ?_
    refine G_X5_59_5 dX5_find_33 (pc' := 36) rfl rfl ?_
    refine st_iconst (pc' := 37) dX5_find_36 rfl ?_
    refine st_iaload (pc' := 38) (v := (gi I 6 3)) dX5_find_37 rfl L_6 (by decide) (by decide) (show gi (si I 63 9 (gi I 4 6)) 6 3 = (gi I 6 3) from (gi_cell _ _ _ _ (by decide))) ?_
    refine st_istore_n (pc' := 39) (L' := [(1, vI (gi I 6 3)), (0, vR (some 63))]) dX5_find_38 rfl rfl (by decide) rfl ?_
    refine st_aload_n (pc' := 40) dX5_find_39 rfl rfl (j := 1) rfl ?_
    refine G_X5_35_63 dX5_find_40 (pc' := 43) rfl rfl ?_
    refine G_X5_53_4 dX5_find_43 (pc' := 46) rfl rfl ?_
    refine G_X5_59_5 dX5_find_46 (pc' := 49) rfl rfl ?_
    refine st_iconst (pc' := 50) dX5_find_49 rfl ?_
    refine st_iaload (pc' := 51) (v := (gi I 6 2)) dX5_find_50 rfl L_6 (by decide) (by decide) (show gi (si I 63 9 (gi I 4 6)) 6 2 = (gi I 6 2) from (gi_cell _ _ _ _ (by decide))) ?_
    refine st_istore_n (pc' := 52) (L' := [(2, vI (gi I 6 2)), (1, vI (gi I 6 3)), (0, vR (some 63))]) dX5_find_51 rfl rfl (by decide) rfl ?_
    refine st_iconst (pc' := 53) dX5_find_52 rfl ?_
    refine st_istore_n (pc' := 54) (L' := [(3, vI 1), (2, vI (gi I 6 2)), (1, vI (gi I 6 3)), (0, vR (some 63))]) dX5_find_53 rfl rfl (by decide) rfl ?_
    refine st_iload_n (pc' := 55) dX5_find_54 rfl rfl (j := 1) rfl ?_
    refine st_iconst (pc' := 56) dX5_find_55 rfl ?_
    refine st_isub (pc' := 57) dX5_find_56 rfl ?_
    refine st_istore (pc' := 59) (L' := [(4, vI ((gi I 6 2) - 1)), (3, vI 1), (2, vI (gi I 6 2)), (1, vI (gi I 6 3)), (0, vR (some 63))]) dX5_find_57 rfl (by decide) rfl ?_
    refine WP_sub (L' := [(0, vR (some 63)), (1, vI (gi I 6 3)), (2, vI (gi I 6 2)), (3, vI 1), (4, vI ((gi I 6 2) - 1))]) [4, 3, 2, 1, 0] rfl ?_
    exact h
  · replace h := h.2 c
    exact st_vret dX5_find_14 rfl rfl h
set_option maxRecDepth 20000 in
set_option maxHeartbeats 4000000 in
theorem B_X5_find_59 {k : Nat} {P : Option Nat} {I : Nat → Nat → Int32} {J : Nat → Nat → Int64} {x1 : Int} {x2 : Int} {x3 : Int} {x4 : Int} {Q : Option AV → Mem → Prop} (hk : 1 ≤ k) (h : inR x4 ∧ ((x4 < 0 → (WPm (k - 1) LAY m_J7_fill_d0a16 [vR (some 69), vL (-1000000000000)] (mem (P, some 5, some 22) I J) (retV (fun I3 J4 => WP k LAY m_X5_find 102 [(0, vR (some 63)), (1, vI x1), (2, vI x2), (4, vI 0)] [] (mem (P, some 5, some 22) I3 (sl J4 69 0 0)) Q) (P, some 5, some 22)))) ∧ (¬ x4 < 0 → ((0 ≤ x4 ∧ x4 < 6) ∧ (WP k LAY m_X5_find 59 [(0, vR (some 63)), (1, vI x1), (2, vI x2), (3, vI (x3 * x1)), (4, vI (x4 + (-1)))] [] (mem (P, some 5, some 22) (si I 67 (x4).toNat x3) J) Q))))) : WP k LAY m_X5_find 59 [(0, vR (some 63)), (1, vI x1), (2, vI x2), (3, vI x3), (4, vI x4)] [] (mem (P, some 5, some 22) I J) Q := by
  refine st_iload (pc' := 61) dX5_find_59 rfl (j := 4) rfl ?_
  obtain ⟨e1, h⟩ := h
  refine st_if_lt (tg := 82) (pc' := 64) dX5_find_61 (by decide) rfl e1 (fun c => ?_) (fun c => ?_)
  · replace h := h.1 c
    refine st_aload_n (pc' := 83) dX5_find_82 rfl rfl (j := 0) rfl ?_
    refine G_X5_28_63 dX5_find_83 (pc' := 86) rfl rfl ?_
    refine st_ldc2 (pc' := 89) (z := (-1000000000000)) dX5_find_86 rfl q_X5_68 (by decide) ?_
    refine st_callS (pc' := 92) (kc := k - 1) (E' := LAY) (cal := m_J7_fill_d0a16) (n := 2) (as := [vR (some 69), vL (-1000000000000)]) (S := []) dX5_find_89 rfl l_X5_70 k_J7_fill_d0a16 rfl rfl (Nat.le_of_ble_eq_true rfl) (by omega) ⟨Nat.le_refl _, Nat.le_refl _, Nat.le_refl _, Nat.le_refl _⟩ h (fun r M' q => ?_)
    obtain ⟨I3, J4, rfl, rfl, h⟩ := q
    change WP _ LAY m_X5_find 92 [(0, vR (some 63)), (1, vI x1), (2, vI x2), (3, vI x3), (4, vI x4)] [] (mem (P, some 5, some 22) I3 J4) Q
    refine st_aload_n (pc' := 93) dX5_find_92 rfl rfl (j := 0) rfl ?_
    refine G_X5_28_63 dX5_find_93 (pc' := 96) rfl rfl ?_
    refine st_iconst (pc' := 97) dX5_find_96 rfl ?_
    refine st_lconst (pc' := 98) (z := 0) dX5_find_97 rfl (by decide) ?_
    refine st_lastore (pc' := 99) (M' := (mem (P, some 5, some 22) I3 (sl J4 69 0 0))) dX5_find_98 rfl L_69 (by decide) (by decide) rfl ?_
    refine st_iconst (pc' := 100) dX5_find_99 rfl ?_
    refine st_istore (pc' := 102) (L' := [(4, vI 0), (0, vR (some 63)), (1, vI x1), (2, vI x2), (3, vI x3)]) dX5_find_100 rfl (by decide) rfl ?_
    refine WP_sub (L' := [(0, vR (some 63)), (1, vI x1), (2, vI x2), (4, vI 0)]) [1, 2, 3, 0] rfl ?_
    exact h
  · replace h := h.2 c
    refine st_aload_n (pc' := 65) dX5_find_64 rfl rfl (j := 0) rfl ?_
    refine G_X5_21_63 dX5_find_65 (pc' := 68) rfl rfl ?_
    refine st_iload (pc' := 70) dX5_find_68 rfl (j := 4) rfl ?_
    refine st_iload_n (pc' := 71) dX5_find_70 rfl rfl (j := 3) rfl ?_
    obtain ⟨e5, h⟩ := h
    refine st_iastore (pc' := 72) (M' := (mem (P, some 5, some 22) (si I 67 (x4).toNat x3) J)) dX5_find_71 rfl L_67 (by decide) e5 rfl ?_
    refine st_iload_n (pc' := 73) dX5_find_72 rfl rfl (j := 3) rfl ?_
    refine st_iload_n (pc' := 74) dX5_find_73 rfl rfl (j := 1) rfl ?_
    refine st_imul (pc' := 75) dX5_find_74 rfl ?_
    refine st_istore_n (pc' := 76) (L' := [(3, vI (x3 * x1)), (0, vR (some 63)), (1, vI x1), (2, vI x2), (4, vI x4)]) dX5_find_75 rfl rfl (by decide) rfl ?_
    refine st_iinc (pc' := 79) (L' := [(4, vI (x4 + (-1))), (3, vI (x3 * x1)), (0, vR (some 63)), (1, vI x1), (2, vI x2)]) (j := 4) dX5_find_76 rfl (by decide) rfl rfl ?_
    refine st_goto (pc' := 59) dX5_find_79 (by decide) ?_
    refine WP_sub (L' := [(0, vR (some 63)), (1, vI x1), (2, vI x2), (3, vI (x3 * x1)), (4, vI (x4 + (-1)))]) [2, 3, 4, 1, 0] rfl ?_
    exact h
set_option maxRecDepth 20000 in
set_option maxHeartbeats 4000000 in
theorem B_X5_find_102 {k : Nat} {P : Option Nat} {I : Nat → Nat → Int32} {J : Nat → Nat → Int64} {x1 : Int} {x2 : Int} {x4 : Int} {Q : Option AV → Mem → Prop} (hk : 1 ≤ k) (h : inR x4 ∧ (inR x1 ∧ ((x1 ≤ x4 → ((0 ≤ ((shl32 1 x2) - 1) ∧ ((shl32 1 x2) - 1) < 64) ∧ (WPm (k - 1) LAY m_X5_tellFound [vR (some 63), vL (gl J 69 ((shl32 1 x2) - 1).toNat)] (mem (P, some 5, some 22) I J) (retV (fun I5 J6 => Q none (mem (P, some 5, some 22) I5 J6)) (P, some 5, some 22))))) ∧ (¬ x1 ≤ x4 → (WPm (k - 1) LAY m_X5_weighTable [vR (some 63), vI x4, vI x2] (mem (P, some 5, some 22) I J) (retV (fun I8 J9 => WPm (k - 1) LAY m_X5_joinTable [vR (some 63), vI ((shl32 1 x2) - 1)] (mem (P, some 5, some 22) I8 J9) (retV (fun I11 J12 => WP k LAY m_X5_find 102 [(0, vR (some 63)), (1, vI x1), (2, vI x2), (4, vI (x4 + 1))] [] (mem (P, some 5, some 22) I11 J12) Q) (P, some 5, some 22))) (P, some 5, some 22))))))) : WP k LAY m_X5_find 102 [(0, vR (some 63)), (1, vI x1), (2, vI x2), (4, vI x4)] [] (mem (P, some 5, some 22) I J) Q := by
  refine st_iload (pc' := 104) dX5_find_102 rfl (j := 3) rfl ?_
  refine st_iload_n (pc' := 105) dX5_find_104 rfl rfl (j := 1) rfl ?_
  obtain ⟨e1, h⟩ := h
  obtain ⟨e2, h⟩ := h
  refine st_icmp_ge (tg := 130) (pc' := 108) dX5_find_105 (by decide) rfl e1 e2 (fun c => ?_) (fun c => ?_)
  · replace h := h.1 c
    refine st_aload_n (pc' := 131) dX5_find_130 rfl rfl (j := 0) rfl ?_
    refine st_aload_n (pc' := 132) dX5_find_131 rfl rfl (j := 0) rfl ?_
    refine G_X5_28_63 dX5_find_132 (pc' := 135) rfl rfl ?_
    refine st_iconst (pc' := 136) dX5_find_135 rfl ?_
    refine st_iload_n (pc' := 137) dX5_find_136 rfl rfl (j := 2) rfl ?_
    refine st_ishl (pc' := 138) (z := (shl32 1 x2)) dX5_find_137 rfl rfl ?_
    refine st_iconst (pc' := 139) dX5_find_138 rfl ?_
    refine st_isub (pc' := 140) dX5_find_139 rfl ?_
    obtain ⟨e3, h⟩ := h
    refine st_laload (pc' := 141) (v := (gl J 69 ((shl32 1 x2) - 1).toNat)) dX5_find_140 rfl L_69 (by decide) e3 (show gl J 69 ((shl32 1 x2) - 1).toNat = (gl J 69 ((shl32 1 x2) - 1).toNat) from rfl) ?_
    refine st_callV (pc' := 144) (kc := k - 1) (E' := LAY) (cal := m_X5_tellFound) (n := 1) (as := [vL (gl J 69 ((shl32 1 x2) - 1).toNat)]) (S := []) dX5_find_141 rfl l_X5_84 k_X5_tellFound rfl L_63 c_X5 rfl rfl (Nat.le_of_ble_eq_true rfl) (by omega) ⟨Nat.le_refl _, Nat.le_refl _, Nat.le_refl _, Nat.le_refl _⟩ h (fun r M' q => ?_)
    obtain ⟨I5, J6, rfl, rfl, h⟩ := q
    change WP _ LAY m_X5_find 144 [(0, vR (some 63)), (1, vI x1), (2, vI x2), (4, vI x4)] [] (mem (P, some 5, some 22) I5 J6) Q
    exact st_vret dX5_find_144 rfl rfl h
  · replace h := h.2 c
    refine st_aload_n (pc' := 109) dX5_find_108 rfl rfl (j := 0) rfl ?_
    refine st_iload (pc' := 111) dX5_find_109 rfl (j := 3) rfl ?_
    refine st_iload_n (pc' := 112) dX5_find_111 rfl rfl (j := 2) rfl ?_
    refine st_callV (pc' := 115) (kc := k - 1) (E' := LAY) (cal := m_X5_weighTable) (n := 2) (as := [vI x4, vI x2]) (S := []) dX5_find_112 rfl l_X5_76 k_X5_weighTable rfl L_63 c_X5 rfl rfl (Nat.le_of_ble_eq_true rfl) (by omega) ⟨Nat.le_refl _, Nat.le_refl _, Nat.le_refl _, Nat.le_refl _⟩ h (fun r M' q => ?_)
    obtain ⟨I8, J9, rfl, rfl, h⟩ := q
    change WP _ LAY m_X5_find 115 [(0, vR (some 63)), (1, vI x1), (2, vI x2), (4, vI x4)] [] (mem (P, some 5, some 22) I8 J9) Q
    refine st_aload_n (pc' := 116) dX5_find_115 rfl rfl (j := 0) rfl ?_
    refine st_iconst (pc' := 117) dX5_find_116 rfl ?_
    refine st_iload_n (pc' := 118) dX5_find_117 rfl rfl (j := 2) rfl ?_
    refine st_ishl (pc' := 119) (z := (shl32 1 x2)) dX5_find_118 rfl rfl ?_
    refine st_iconst (pc' := 120) dX5_find_119 rfl ?_
    refine st_isub (pc' := 121) dX5_find_120 rfl ?_
    refine st_callV (pc' := 124) (kc := k - 1) (E' := LAY) (cal := m_X5_joinTable) (n := 1) (as := [vI ((shl32 1 x2) - 1)]) (S := []) dX5_find_121 rfl l_X5_80 k_X5_joinTable rfl L_63 c_X5 rfl rfl (Nat.le_of_ble_eq_true rfl) (by omega) ⟨Nat.le_refl _, Nat.le_refl _, Nat.le_refl _, Nat.le_refl _⟩ h (fun r M' q => ?_)
    obtain ⟨I11, J12, rfl, rfl, h⟩ := q
    change WP _ LAY m_X5_find 124 [(0, vR (some 63)), (1, vI x1), (2, vI x2), (4, vI x4)] [] (mem (P, some 5, some 22) I11 J12) Q
    refine st_iinc (pc' := 127) (L' := [(4, vI (x4 + 1)), (0, vR (some 63)), (1, vI x1), (2, vI x2)]) (j := 3) dX5_find_124 rfl (by decide) rfl rfl ?_
    refine st_goto (pc' := 102) dX5_find_127 (by decide) ?_
    refine WP_sub (L' := [(0, vR (some 63)), (1, vI x1), (2, vI x2), (4, vI (x4 + 1))]) [1, 2, 3, 0] rfl ?_
    exact h
set_option maxRecDepth 20000 in
set_option maxHeartbeats 4000000 in
theorem B_X5_pagesRead_0 {k : Nat} {P : Option Nat} {I : Nat → Nat → Int32} {J : Nat → Nat → Int64}  {Q : Option AV → Mem → Prop} (hk : 0 ≤ k) (h : Q (some (vI (gi I 63 10))) (mem (P, some 5, some 22) I J)) : WP k LAY m_X5_pagesRead 0 [(0, vR (some 63))] [] (mem (P, some 5, some 22) I J) Q := by
  refine st_aload_n (pc' := 1) dX5_pagesRead_0 rfl rfl (j := 0) rfl ?_
  refine G_X5_47_63 dX5_pagesRead_1 (pc' := 4) rfl rfl ?_
  exact st_iret (ty := .int) dX5_pagesRead_4 rfl rfl rfl h
set_option maxRecDepth 20000 in
set_option maxHeartbeats 4000000 in
theorem B_X5_waxSaved_0 {k : Nat} {P : Option Nat} {I : Nat → Nat → Int32} {J : Nat → Nat → Int64}  {Q : Option AV → Mem → Prop} (hk : 0 ≤ k) (h : Q (some (vI (gi I 63 11))) (mem (P, some 5, some 22) I J)) : WP k LAY m_X5_waxSaved 0 [(0, vR (some 63))] [] (mem (P, some 5, some 22) I J) Q := by
  refine st_aload_n (pc' := 1) dX5_waxSaved_0 rfl rfl (j := 0) rfl ?_
  refine G_X5_50_63 dX5_waxSaved_1 (pc' := 4) rfl rfl ?_
  exact st_iret (ty := .int) dX5_waxSaved_4 rfl rfl rfl h
set_option maxRecDepth 20000 in
set_option maxHeartbeats 4000000 in
theorem B_X5_tableOf_0 {k : Nat} {P : Option Nat} {I : Nat → Nat → Int32} {J : Nat → Nat → Int64} {x1 : Int} {Q : Option AV → Mem → Prop} (hk : 0 ≤ k) (h : ((gi I 6 3) ≤ 0 → (Q (some (vI 0)) (mem (P, some 5, some 22) I J))) ∧ (¬ (gi I 6 3) ≤ 0 → ((0 ≤ x1 ∧ x1 < 6) ∧ (((gi I 67 (x1).toNat) ≤ 0 → (Q (some (vI 0)) (mem (P, some 5, some 22) I J))) ∧ (¬ (gi I 67 (x1).toNat) ≤ 0 → (¬ (gi I 67 (x1).toNat) = 0 ∧ (¬ (gi I 6 3) = 0 ∧ (Q (some (vI (rem32 (div32 (gi I 63 12) (gi I 67 (x1).toNat)) (gi I 6 3)))) (mem (P, some 5, some 22) I J))))))))) : WP k LAY m_X5_tableOf 0 [(0, vR (some 63)), (1, vI x1)] [] (mem (P, some 5, some 22) I J) Q := by
  refine st_aload_n (pc' := 1) dX5_tableOf_0 rfl rfl (j := 0) rfl ?_
  refine G_X5_35_63 dX5_tableOf_1 (pc' := 4) rfl rfl ?_
  refine G_X5_53_4 dX5_tableOf_4 (pc' := 7) rfl rfl ?_
  refine G_X5_59_5 dX5_tableOf_7 (pc' := 10) rfl rfl ?_
  refine st_iconst (pc' := 11) dX5_tableOf_10 rfl ?_
  refine st_iaload (pc' := 12) (v := (gi I 6 3)) dX5_tableOf_11 rfl L_6 (by decide) (by decide) (show gi I 6 3 = (gi I 6 3) from rfl) ?_
  refine st_istore_n (pc' := 13) (L' := [(2, vI (gi I 6 3)), (0, vR (some 63)), (1, vI x1)]) dX5_tableOf_12 rfl rfl (by decide) rfl ?_
  refine st_iload_n (pc' := 14) dX5_tableOf_13 rfl rfl (j := 0) rfl ?_
  refine st_if_le (tg := 42) (pc' := 17) dX5_tableOf_14 (by decide) rfl (gi_in _ _ _) (fun c => ?_) (fun c => ?_)
  · replace h := h.1 c
    refine st_iconst (pc' := 43) dX5_tableOf_42 rfl ?_
    exact st_iret (ty := .int) dX5_tableOf_43 rfl rfl rfl h
  · replace h := h.2 c
    refine st_aload_n (pc' := 18) dX5_tableOf_17 rfl rfl (j := 1) rfl ?_
    refine G_X5_21_63 dX5_tableOf_18 (pc' := 21) rfl rfl ?_
    refine st_iload_n (pc' := 22) dX5_tableOf_21 rfl rfl (j := 2) rfl ?_
    obtain ⟨e1, h⟩ := h
    refine st_iaload (pc' := 23) (v := (gi I 67 (x1).toNat)) dX5_tableOf_22 rfl L_67 (by decide) e1 (show gi I 67 (x1).toNat = (gi I 67 (x1).toNat) from rfl) ?_
    refine st_if_le (tg := 42) (pc' := 26) dX5_tableOf_23 (by decide) rfl (gi_in _ _ _) (fun c => ?_) (fun c => ?_)
    · replace h := h.1 c
      refine st_iconst (pc' := 43) dX5_tableOf_42 rfl ?_
      exact st_iret (ty := .int) dX5_tableOf_43 rfl rfl rfl h
    · replace h := h.2 c
      refine st_aload_n (pc' := 27) dX5_tableOf_26 rfl rfl (j := 1) rfl ?_
      refine G_X5_64_63 dX5_tableOf_27 (pc' := 30) rfl rfl ?_
      refine st_aload_n (pc' := 31) dX5_tableOf_30 rfl rfl (j := 1) rfl ?_
      refine G_X5_21_63 dX5_tableOf_31 (pc' := 34) rfl rfl ?_
      refine st_iload_n (pc' := 35) dX5_tableOf_34 rfl rfl (j := 2) rfl ?_
      refine st_iaload (pc' := 36) (v := (gi I 67 (x1).toNat)) dX5_tableOf_35 rfl L_67 (by decide) e1 (show gi I 67 (x1).toNat = (gi I 67 (x1).toNat) from rfl) ?_
      obtain ⟨e2, h⟩ := h
      refine st_idiv (pc' := 37) (z := (div32 (gi I 63 12) (gi I 67 (x1).toNat))) dX5_tableOf_36 rfl (fun q => e2 ((z_eq (gi_in _ _ _)).mp q)) rfl ?_
      refine st_iload_n (pc' := 38) dX5_tableOf_37 rfl rfl (j := 0) rfl ?_
      obtain ⟨e3, h⟩ := h
      refine st_irem (pc' := 39) (z := (rem32 (div32 (gi I 63 12) (gi I 67 (x1).toNat)) (gi I 6 3))) dX5_tableOf_38 rfl (fun q => e3 ((z_eq (gi_in _ _ _)).mp q)) rfl ?_
      refine st_goto (pc' := 43) dX5_tableOf_39 (by decide) ?_
      exact st_iret (ty := .int) dX5_tableOf_43 rfl rfl rfl h
end WX5
