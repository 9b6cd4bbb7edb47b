section WM4
set_option maxRecDepth 20000 in
set_option maxHeartbeats 4000000 in
theorem B_X12_library_0 {k : Nat} {P : Option Nat} {I : Nat → Nat → Int32} {J : Nat → Nat → Int64}  {Q : Option AV → Mem → Prop} (hk : 1 ≤ k) (h : (0 ≤ (gi (si (si (si (si (si (si I 74 2 (gi I 74 1)) 74 1 0) 74 5 0) 74 8 0) 74 9 (-1)) 74 40 (1 - (gi I 74 13))) 74 40) ∧ (gi (si (si (si (si (si (si I 74 2 (gi I 74 1)) 74 1 0) 74 5 0) 74 8 0) 74 9 (-1)) 74 40 (1 - (gi I 74 13))) 74 40) < 2) ∧ (WPm (k - 1) LAY m_X12_ahead [vR (some 74)] (mem (P, some 5, some 22) (si (si (si (si (si (si (si (si (si (si (si (si (si (si (si (si I 74 2 (gi I 74 1)) 74 1 0) 74 5 0) 74 8 0) 74 9 (-1)) 74 40 (1 - (gi I 74 13))) 76 (gi (si (si (si (si (si (si I 74 2 (gi I 74 1)) 74 1 0) 74 5 0) 74 8 0) 74 9 (-1)) 74 40 (1 - (gi I 74 13))) 74 40).toNat 0) 77 (gi (si (si (si (si (si (si I 74 2 (gi I 74 1)) 74 1 0) 74 5 0) 74 8 0) 74 9 (-1)) 74 40 (1 - (gi I 74 13))) 74 40).toNat 0) 82 (gi (si (si (si (si (si (si I 74 2 (gi I 74 1)) 74 1 0) 74 5 0) 74 8 0) 74 9 (-1)) 74 40 (1 - (gi I 74 13))) 74 40).toNat 0) 83 (gi (si (si (si (si (si (si I 74 2 (gi I 74 1)) 74 1 0) 74 5 0) 74 8 0) 74 9 (-1)) 74 40 (1 - (gi I 74 13))) 74 40).toNat 0) 86 (gi (si (si (si (si (si (si I 74 2 (gi I 74 1)) 74 1 0) 74 5 0) 74 8 0) 74 9 (-1)) 74 40 (1 - (gi I 74 13))) 74 40).toNat 0) 88 (gi (si (si (si (si (si (si I 74 2 (gi I 74 1)) 74 1 0) 74 5 0) 74 8 0) 74 9 (-1)) 74 40 (1 - (gi I 74 13))) 74 40).toNat 60) 89 (gi (si (si (si (si (si (si I 74 2 (gi I 74 1)) 74 1 0) 74 5 0) 74 8 0) 74 9 (-1)) 74 40 (1 - (gi I 74 13))) 74 40).toNat (-1)) 91 (gi (si (si (si (si (si (si I 74 2 (gi I 74 1)) 74 1 0) 74 5 0) 74 8 0) 74 9 (-1)) 74 40 (1 - (gi I 74 13))) 74 40).toNat (-1)) 93 (gi (si (si (si (si (si (si I 74 2 (gi I 74 1)) 74 1 0) 74 5 0) 74 8 0) 74 9 (-1)) 74 40 (1 - (gi I 74 13))) 74 40).toNat (-1)) 74 39 0) J) (retV (fun I3 J4 => WP k LAY m_X12_library 140 [(0, vR (some 74)), (1, vI 0)] [] (mem (P, some 5, some 22) I3 J4) Q) (P, some 5, some 22)))) : WP k LAY m_X12_library 0 [(0, vR (some 74))] [] (mem (P, some 5, some 22) I J) Q := by
  refine st_aload_n (pc' := 1) dX12_library_0 rfl rfl (j := 0) rfl ?_
  refine st_aload_n (pc' := 2) dX12_library_1 rfl rfl (j := 0) rfl ?_
  refine G_X12_13_74 dX12_library_2 (pc' := 5) rfl rfl ?_
  refine P_X12_17_74 dX12_library_5 (pc' := 8) rfl rfl ?_
  refine st_aload_n (pc' := 9) dX12_library_8 rfl rfl (j := 0) rfl ?_
  refine st_iconst (pc' := 10) dX12_library_9 rfl ?_
  refine P_X12_13_74 dX12_library_10 (pc' := 13) rfl rfl ?_
  refine st_aload_n (pc' := 14) dX12_library_13 rfl rfl (j := 0) rfl ?_
  refine st_iconst (pc' := 15) dX12_library_14 rfl ?_
  refine P_X12_26_74 dX12_library_15 (pc' := 18) rfl rfl ?_
  refine st_aload_n (pc' := 19) dX12_library_18 rfl rfl (j := 0) rfl ?_
  refine st_iconst (pc' := 20) dX12_library_19 rfl ?_
  refine P_X12_36_74 dX12_library_20 (pc' := 23) rfl rfl ?_
  refine st_aload_n (pc' := 24) dX12_library_23 rfl rfl (j := 0) rfl ?_
  refine st_iconst (pc' := 25) dX12_library_24 rfl ?_
  refine P_X12_39_74 dX12_library_25 (pc' := 28) rfl rfl ?_
  refine st_aload_n (pc' := 29) dX12_library_28 rfl rfl (j := 0) rfl ?_
  refine st_iconst (pc' := 30) dX12_library_29 rfl ?_
  refine st_aload_n (pc' := 31) dX12_library_30 rfl rfl (j := 0) rfl ?_
  refine G_X12_51_74 dX12_library_31 (pc' := 34) rfl rfl ?_
  rw [show gi (si (si (si (si (si I 74 2 (gi I 74 1)) 74 1 0) 74 5 0) 74 8 0) 74 9 (-1)) 74 13 = (gi I 74 13) from ((gi_idx _ _ _ (by decide)).trans ((gi_idx _ _ _ (by decide)).trans ((gi_idx _ _ _ (by decide)).trans ((gi_idx _ _ _ (by decide)).trans (gi_idx _ _ _ (by decide))))))]
  refine st_isub (pc' := 35) dX12_library_34 rfl ?_
  refine P_X12_133_74 dX12_library_35 (pc' := 38) rfl rfl ?_
  refine st_aload_n (pc' := 39) dX12_library_38 rfl rfl (j := 0) rfl ?_
  refine G_X12_54_74 dX12_library_39 (pc' := 42) rfl rfl ?_
  refine st_aload_n (pc' := 43) dX12_library_42 rfl rfl (j := 0) rfl ?_
  refine G_X12_133_74 dX12_library_43 (pc' := 46) rfl rfl ?_
  refine st_iconst (pc' := 47) dX12_library_46 rfl ?_
  obtain ⟨e1, h⟩ := h
  refine st_iastore (pc' := 48) (M' := (mem (P, some 5, some 22) (si (si (si (si (si (si (si I 74 2 (gi I 74 1)) 74 1 0) 74 5 0) 74 8 0) 74 9 (-1)) 74 40 (1 - (gi I 74 13))) 76 (gi (si (si (si (si (si (si I 74 2 (gi I 74 1)) 74 1 0) 74 5 0) 74 8 0) 74 9 (-1)) 74 40 (1 - (gi I 74 13))) 74 40).toNat 0) J)) dX12_library_47 rfl L_76 (by decide) e1 rfl ?_
  refine st_aload_n (pc' := 49) dX12_library_48 rfl rfl (j := 0) rfl ?_
  refine G_X12_57_74 dX12_library_49 (pc' := 52) rfl rfl ?_
  refine st_aload_n (pc' := 53) dX12_library_52 rfl rfl (j := 0) rfl ?_
  refine G_X12_133_74 dX12_library_53 (pc' := 56) rfl rfl ?_
  rw [show gi (si (si (si (si (si (si (si I 74 2 (gi I 74 1)) 74 1 0) 74 5 0) 74 8 0) 74 9 (-1)) 74 40 (1 - (gi I 74 13))) 76 (gi (si (si (si (si (si (si I 74 2 (gi I 74 1)) 74 1 0) 74 5 0) 74 8 0) 74 9 (-1)) 74 40 (1 - (gi I 74 13))) 74 40).toNat 0) 74 40 = (gi (si (si (si (si (si (si I 74 2 (gi I 74 1)) 74 1 0) 74 5 0) 74 8 0) 74 9 (-1)) 74 40 (1 - (gi I 74 13))) 74 40) from (gi_cell _ _ _ _ (by decide))]
  refine st_iconst (pc' := 57) dX12_library_56 rfl ?_
  refine st_iastore (pc' := 58) (M' := (mem (P, some 5, some 22) (si (si (si (si (si (si (si (si I 74 2 (gi I 74 1)) 74 1 0) 74 5 0) 74 8 0) 74 9 (-1)) 74 40 (1 - (gi I 74 13))) 76 (gi (si (si (si (si (si (si I 74 2 (gi I 74 1)) 74 1 0) 74 5 0) 74 8 0) 74 9 (-1)) 74 40 (1 - (gi I 74 13))) 74 40).toNat 0) 77 (gi (si (si (si (si (si (si I 74 2 (gi I 74 1)) 74 1 0) 74 5 0) 74 8 0) 74 9 (-1)) 74 40 (1 - (gi I 74 13))) 74 40).toNat 0) J)) dX12_library_57 rfl L_77 (by decide) e1 rfl ?_
  refine st_aload_n (pc' := 59) dX12_library_58 rfl rfl (j := 0) rfl ?_
  refine G_X12_72_74 dX12_library_59 (pc' := 62) rfl rfl ?_
  refine st_aload_n (pc' := 63) dX12_library_62 rfl rfl (j := 0) rfl ?_
  refine G_X12_133_74 dX12_library_63 (pc' := 66) rfl rfl ?_
  rw [show gi (si (si (si (si (si (si (si (si I 74 2 (gi I 74 1)) 74 1 0) 74 5 0) 74 8 0) 74 9 (-1)) 74 40 (1 - (gi I 74 13))) 76 (gi (si (si (si (si (si (si I 74 2 (gi I 74 1)) 74 1 0) 74 5 0) 74 8 0) 74 9 (-1)) 74 40 (1 - (gi I 74 13))) 74 40).toNat 0) 77 (gi (si (si (si (si (si (si I 74 2 (gi I 74 1)) 74 1 0) 74 5 0) 74 8 0) 74 9 (-1)) 74 40 (1 - (gi I 74 13))) 74 40).toNat 0) 74 40 = (gi (si (si (si (si (si (si I 74 2 (gi I 74 1)) 74 1 0) 74 5 0) 74 8 0) 74 9 (-1)) 74 40 (1 - (gi I 74 13))) 74 40) from ((gi_cell _ _ _ _ (by decide)).trans (gi_cell _ _ _ _ (by decide)))]
  refine st_iconst (pc' := 67) dX12_library_66 rfl ?_
  refine st_iastore (pc' := 68) (M' := (mem (P, some 5, some 22) (si (si (si (si (si (si (si (si (si I 74 2 (gi I 74 1)) 74 1 0) 74 5 0) 74 8 0) 74 9 (-1)) 74 40 (1 - (gi I 74 13))) 76 (gi (si (si (si (si (si (si I 74 2 (gi I 74 1)) 74 1 0) 74 5 0) 74 8 0) 74 9 (-1)) 74 40 (1 - (gi I 74 13))) 74 40).toNat 0) 77 (gi (si (si (si (si (si (si I 74 2 (gi I 74 1)) 74 1 0) 74 5 0) 74 8 0) 74 9 (-1)) 74 40 (1 - (gi I 74 13))) 74 40).toNat 0) 82 (gi (si (si (si (si (si (si I 74 2 (gi I 74 1)) 74 1 0) 74 5 0) 74 8 0) 74 9 (-1)) 74 40 (1 - (gi I 74 13))) 74 40).toNat 0) J)) dX12_library_67 rfl L_82 (by decide) e1 rfl ?_
  refine st_aload_n (pc' := 69) dX12_library_68 rfl rfl (j := 0) rfl ?_
  refine G_X12_75_74 dX12_library_69 (pc' := 72) rfl rfl ?_
  refine st_aload_n (pc' := 73) dX12_library_72 rfl rfl (j := 0) rfl ?_
  refine G_X12_133_74 dX12_library_73 (pc' := 76) rfl rfl ?_
  rw [show gi (si (si (si (si (si (si (si (si (si I 74 2 (gi I 74 1)) 74 1 0) 74 5 0) 74 8 0) 74 9 (-1)) 74 40 (1 - (gi I 74 13))) 76 (gi (si (si (si (si (si (si I 74 2 (gi I 74 1)) 74 1 0) 74 5 0) 74 8 0) 74 9 (-1)) 74 40 (1 - (gi I 74 13))) 74 40).toNat 0) 77 (gi (si (si (si (si (si (si I 74 2 (gi I 74 1)) 74 1 0) 74 5 0) 74 8 0) 74 9 (-1)) 74 40 (1 - (gi I 74 13))) 74 40).toNat 0) 82 (gi (si (si (si (si (si (si I 74 2 (gi I 74 1)) 74 1 0) 74 5 0) 74 8 0) 74 9 (-1)) 74 40 (1 - (gi I 74 13))) 74 40).toNat 0) 74 40 = (gi (si (si (si (si (si (si I 74 2 (gi I 74 1)) 74 1 0) 74 5 0) 74 8 0) 74 9 (-1)) 74 40 (1 - (gi I 74 13))) 74 40) from ((gi_cell _ _ _ _ (by decide)).trans ((gi_cell _ _ _ _ (by decide)).trans (gi_cell _ _ _ _ (by decide))))]
  refine st_iconst (pc' := 77) dX12_library_76 rfl ?_
  refine st_iastore (pc' := 78) (M' := (mem (P, some 5, some 22) (si (si (si (si (si (si (si (si (si (si I 74 2 (gi I 74 1)) 74 1 0) 74 5 0) 74 8 0) 74 9 (-1)) 74 40 (1 - (gi I 74 13))) 76 (gi (si (si (si (si (si (si I 74 2 (gi I 74 1)) 74 1 0) 74 5 0) 74 8 0) 74 9 (-1)) 74 40 (1 - (gi I 74 13))) 74 40).toNat 0) 77 (gi (si (si (si (si (si (si I 74 2 (gi I 74 1)) 74 1 0) 74 5 0) 74 8 0) 74 9 (-1)) 74 40 (1 - (gi I 74 13))) 74 40).toNat 0) 82 (gi (si (si (si (si (si (si I 74 2 (gi I 74 1)) 74 1 0) 74 5 0) 74 8 0) 74 9 (-1)) 74 40 (1 - (gi I 74 13))) 74 40).toNat 0) 83 (gi (si (si (si (si (si (si I 74 2 (gi I 74 1)) 74 1 0) 74 5 0) 74 8 0) 74 9 (-1)) 74 40 (1 - (gi I 74 13))) 74 40).toNat 0) J)) dX12_library_77 rfl L_83 (by decide) e1 rfl ?_
  refine st_aload_n (pc' := 79) dX12_library_78 rfl rfl (j := 0) rfl ?_
  refine G_X12_84_74 dX12_library_79 (pc' := 82) rfl rfl ?_
  refine st_aload_n (pc' := 83) dX12_library_82 rfl rfl (j := 0) rfl ?_
  refine G_X12_133_74 dX12_library_83 (pc' := 86) rfl rfl ?_
  rw [show gi (si (si (si (si (si (si (si (si (si (si I 74 2 (gi I 74 1)) 74 1 0) 74 5 0) 74 8 0) 74 9 (-1)) 74 40 (1 - (gi I 74 13))) 76 (gi (si (si (si (si (si (si I 74 2 (gi I 74 1)) 74 1 0) 74 5 0) 74 8 0) 74 9 (-1)) 74 40 (1 - (gi I 74 13))) 74 40).toNat 0) 77 (gi (si (si (si (si (si (si I 74 2 (gi I 74 1)) 74 1 0) 74 5 0) 74 8 0) 74 9 (-1)) 74 40 (1 - (gi I 74 13))) 74 40).toNat 0) 82 (gi (si (si (si (si (si (si I 74 2 (gi I 74 1)) 74 1 0) 74 5 0) 74 8 0) 74 9 (-1)) 74 40 (1 - (gi I 74 13))) 74 40).toNat 0) 83 (gi (si (si (si (si (si (si I 74 2 (gi I 74 1)) 74 1 0) 74 5 0) 74 8 0) 74 9 (-1)) 74 40 (1 - (gi I 74 13))) 74 40).toNat 0) 74 40 = (gi (si (si (si (si (si (si I 74 2 (gi I 74 1)) 74 1 0) 74 5 0) 74 8 0) 74 9 (-1)) 74 40 (1 - (gi I 74 13))) 74 40) from ((gi_cell _ _ _ _ (by decide)).trans ((gi_cell _ _ _ _ (by decide)).trans ((gi_cell _ _ _ _ (by decide)).trans (gi_cell _ _ _ _ (by decide)))))]
  refine st_iconst (pc' := 87) dX12_library_86 rfl ?_
  refine st_iastore (pc' := 88) (M' := (mem (P, some 5, some 22) (si (si (si (si (si (si (si (si (si (si (si I 74 2 (gi I 74 1)) 74 1 0) 74 5 0) 74 8 0) 74 9 (-1)) 74 40 (1 - (gi I 74 13))) 76 (gi (si (si (si (si (si (si I 74 2 (gi I 74 1)) 74 1 0) 74 5 0) 74 8 0) 74 9 (-1)) 74 40 (1 - (gi I 74 13))) 74 40).toNat 0) 77 (gi (si (si (si (si (si (si I 74 2 (gi I 74 1)) 74 1 0) 74 5 0) 74 8 0) 74 9 (-1)) 74 40 (1 - (gi I 74 13))) 74 40).toNat 0) 82 (gi (si (si (si (si (si (si I 74 2 (gi I 74 1)) 74 1 0) 74 5 0) 74 8 0) 74 9 (-1)) 74 40 (1 - (gi I 74 13))) 74 40).toNat 0) 83 (gi (si (si (si (si (si (si I 74 2 (gi I 74 1)) 74 1 0) 74 5 0) 74 8 0) 74 9 (-1)) 74 40 (1 - (gi I 74 13))) 74 40).toNat 0) 86 (gi (si (si (si (si (si (si I 74 2 (gi I 74 1)) 74 1 0) 74 5 0) 74 8 0) 74 9 (-1)) 74 40 (1 - (gi I 74 13))) 74 40).toNat 0) J)) dX12_library_87 rfl L_86 (by decide) e1 rfl ?_
  refine st_aload_n (pc' := 89) dX12_library_88 rfl rfl (j := 0) rfl ?_
  refine G_X12_90_74 dX12_library_89 (pc' := 92) rfl rfl ?_
  refine st_aload_n (pc' := 93) dX12_library_92 rfl rfl (j := 0) rfl ?_
  refine G_X12_133_74 dX12_library_93 (pc' := 96) rfl rfl ?_
  rw [show gi (si (si (si (si (si (si (si (si (si (si (si I 74 2 (gi I 74 1)) 74 1 0) 74 5 0) 74 8 0) 74 9 (-1)) 74 40 (1 - (gi I 74 13))) 76 (gi (si (si (si (si (si (si I 74 2 (gi I 74 1)) 74 1 0) 74 5 0) 74 8 0) 74 9 (-1)) 74 40 (1 - (gi I 74 13))) 74 40).toNat 0) 77 (gi (si (si (si (si (si (si I 74 2 (gi I 74 1)) 74 1 0) 74 5 0) 74 8 0) 74 9 (-1)) 74 40 (1 - (gi I 74 13))) 74 40).toNat 0) 82 (gi (si (si (si (si (si (si I 74 2 (gi I 74 1)) 74 1 0) 74 5 0) 74 8 0) 74 9 (-1)) 74 40 (1 - (gi I 74 13))) 74 40).toNat 0) 83 (gi (si (si (si (si (si (si I 74 2 (gi I 74 1)) 74 1 0) 74 5 0) 74 8 0) 74 9 (-1)) 74 40 (1 - (gi I 74 13))) 74 40).toNat 0) 86 (gi (si (si (si (si (si (si I 74 2 (gi I 74 1)) 74 1 0) 74 5 0) 74 8 0) 74 9 (-1)) 74 40 (1 - (gi I 74 13))) 74 40).toNat 0) 74 40 = (gi (si (si (si (si (si (si I 74 2 (gi I 74 1)) 74 1 0) 74 5 0) 74 8 0) 74 9 (-1)) 74 40 (1 - (gi I 74 13))) 74 40) from ((gi_cell _ _ _ _ (by decide)).trans ((gi_cell _ _ _ _ (by decide)).trans ((gi_cell _ _ _ _ (by decide)).trans ((gi_cell _ _ _ _ (by decide)).trans (gi_cell _ _ _ _ (by decide))))))]
  refine st_bipush (pc' := 98) dX12_library_96 rfl (by decide) ?_
  refine st_iastore (pc' := 99) (M' := (mem (P, some 5, some 22) (si (si (si (si (si (si (si (si (si (si (si (si I 74 2 (gi I 74 1)) 74 1 0) 74 5 0) 74 8 0) 74 9 (-1)) 74 40 (1 - (gi I 74 13))) 76 (gi (si (si (si (si (si (si I 74 2 (gi I 74 1)) 74 1 0) 74 5 0) 74 8 0) 74 9 (-1)) 74 40 (1 - (gi I 74 13))) 74 40).toNat 0) 77 (gi (si (si (si (si (si (si I 74 2 (gi I 74 1)) 74 1 0) 74 5 0) 74 8 0) 74 9 (-1)) 74 40 (1 - (gi I 74 13))) 74 40).toNat 0) 82 (gi (si (si (si (si (si (si I 74 2 (gi I 74 1)) 74 1 0) 74 5 0) 74 8 0) 74 9 (-1)) 74 40 (1 - (gi I 74 13))) 74 40).toNat 0) 83 (gi (si (si (si (si (si (si I 74 2 (gi I 74 1)) 74 1 0) 74 5 0) 74 8 0) 74 9 (-1)) 74 40 (1 - (gi I 74 13))) 74 40).toNat 0) 86 (gi (si (si (si (si (si (si I 74 2 (gi I 74 1)) 74 1 0) 74 5 0) 74 8 0) 74 9 (-1)) 74 40 (1 - (gi I 74 13))) 74 40).toNat 0) 88 (gi (si (si (si (si (si (si I 74 2 (gi I 74 1)) 74 1 0) 74 5 0) 74 8 0) 74 9 (-1)) 74 40 (1 - (gi I 74 13))) 74 40).toNat 60) J)) dX12_library_98 rfl L_88 (by decide) e1 rfl ?_
  refine st_aload_n (pc' := 100) dX12_library_99 rfl rfl (j := 0) rfl ?_
  refine G_X12_93_74 dX12_library_100 (pc' := 103) rfl rfl ?_
  refine st_aload_n (pc' := 104) dX12_library_103 rfl rfl (j := 0) rfl ?_
  refine G_X12_133_74 dX12_library_104 (pc' := 107) rfl rfl ?_
  rw [show gi (si (si (si (si (si (si (si (si (si (si (si (si I 74 2 (gi I 74 1)) 74 1 0) 74 5 0) 74 8 0) 74 9 (-1)) 74 40 (1 - (gi I 74 13))) 76 (gi (si (si (si (si (si (si I 74 2 (gi I 74 1)) 74 1 0) 74 5 0) 74 8 0) 74 9 (-1)) 74 40 (1 - (gi I 74 13))) 74 40).toNat 0) 77 (gi (si (si (si (si (si (si I 74 2 (gi I 74 1)) 74 1 0) 74 5 0) 74 8 0) 74 9 (-1)) 74 40 (1 - (gi I 74 13))) 74 40).toNat 0) 82 (gi (si (si (si (si (si (si I 74 2 (gi I 74 1)) 74 1 0) 74 5 0) 74 8 0) 74 9 (-1)) 74 40 (1 - (gi I 74 13))) 74 40).toNat 0) 83 (gi (si (si (si (si (si (si I 74 2 (gi I 74 1)) 74 1 0) 74 5 0) 74 8 0) 74 9 (-1)) 74 40 (1 - (gi I 74 13))) 74 40).toNat 0) 86 (gi (si (si (si (si (si (si I 74 2 (gi I 74 1)) 74 1 0) 74 5 0) 74 8 0) 74 9 (-1)) 74 40 (1 - (gi I 74 13))) 74 40).toNat 0) 88 (gi (si (si (si (si (si (si I 74 2 (gi I 74 1)) 74 1 0) 74 5 0) 74 8 0) 74 9 (-1)) 74 40 (1 - (gi I 74 13))) 74 40).toNat 60) 74 40 = (gi (si (si (si (si (si (si I 74 2 (gi I 74 1)) 74 1 0) 74 5 0) 74 8 0) 74 9 (-1)) 74 40 (1 - (gi I 74 13))) 74 40) from ((gi_cell _ _ _ _ (by decide)).trans ((gi_cell _ _ _ _ (by decide)).trans ((gi_cell _ _ _ _ (by decide)).trans ((gi_cell _ _ _ _ (by decide)).trans ((gi_cell _ _ _ _ (by decide)).trans (gi_cell _ _ _ _ (by decide)))))))]
  refine st_iconst (pc' := 108) dX12_library_107 rfl ?_
  refine st_iastore (pc' := 109) (M' := (mem (P, some 5, some 22) (si (si (si (si (si (si (si (si (si (si (si (si (si I 74 2 (gi I 74 1)) 74 1 0) 74 5 0) 74 8 0) 74 9 (-1)) 74 40 (1 - (gi I 74 13))) 76 (gi (si (si (si (si (si (si I 74 2 (gi I 74 1)) 74 1 0) 74 5 0) 74 8 0) 74 9 (-1)) 74 40 (1 - (gi I 74 13))) 74 40).toNat 0) 77 (gi (si (si (si (si (si (si I 74 2 (gi I 74 1)) 74 1 0) 74 5 0) 74 8 0) 74 9 (-1)) 74 40 (1 - (gi I 74 13))) 74 40).toNat 0) 82 (gi (si (si (si (si (si (si I 74 2 (gi I 74 1)) 74 1 0) 74 5 0) 74 8 0) 74 9 (-1)) 74 40 (1 - (gi I 74 13))) 74 40).toNat 0) 83 (gi (si (si (si (si (si (si I 74 2 (gi I 74 1)) 74 1 0) 74 5 0) 74 8 0) 74 9 (-1)) 74 40 (1 - (gi I 74 13))) 74 40).toNat 0) 86 (gi (si (si (si (si (si (si I 74 2 (gi I 74 1)) 74 1 0) 74 5 0) 74 8 0) 74 9 (-1)) 74 40 (1 - (gi I 74 13))) 74 40).toNat 0) 88 (gi (si (si (si (si (si (si I 74 2 (gi I 74 1)) 74 1 0) 74 5 0) 74 8 0) 74 9 (-1)) 74 40 (1 - (gi I 74 13))) 74 40).toNat 60) 89 (gi (si (si (si (si (si (si I 74 2 (gi I 74 1)) 74 1 0) 74 5 0) 74 8 0) 74 9 (-1)) 74 40 (1 - (gi I 74 13))) 74 40).toNat (-1)) J)) dX12_library_108 rfl L_89 (by decide) e1 rfl ?_
  refine st_aload_n (pc' := 110) dX12_library_109 rfl rfl (j := 0) rfl ?_
  refine G_X12_99_74 dX12_library_110 (pc' := 113) rfl rfl ?_
  refine st_aload_n (pc' := 114) dX12_library_113 rfl rfl (j := 0) rfl ?_
  refine G_X12_133_74 dX12_library_114 (pc' := 117) rfl rfl ?_
  rw [show gi (si (si (si (si (si (si (si (si (si (si (si (si (si I 74 2 (gi I 74 1)) 74 1 0) 74 5 0) 74 8 0) 74 9 (-1)) 74 40 (1 - (gi I 74 13))) 76 (gi (si (si (si (si (si (si I 74 2 (gi I 74 1)) 74 1 0) 74 5 0) 74 8 0) 74 9 (-1)) 74 40 (1 - (gi I 74 13))) 74 40).toNat 0) 77 (gi (si (si (si (si (si (si I 74 2 (gi I 74 1)) 74 1 0) 74 5 0) 74 8 0) 74 9 (-1)) 74 40 (1 - (gi I 74 13))) 74 40).toNat 0) 82 (gi (si (si (si (si (si (si I 74 2 (gi I 74 1)) 74 1 0) 74 5 0) 74 8 0) 74 9 (-1)) 74 40 (1 - (gi I 74 13))) 74 40).toNat 0) 83 (gi (si (si (si (si (si (si I 74 2 (gi I 74 1)) 74 1 0) 74 5 0) 74 8 0) 74 9 (-1)) 74 40 (1 - (gi I 74 13))) 74 40).toNat 0) 86 (gi (si (si (si (si (si (si I 74 2 (gi I 74 1)) 74 1 0) 74 5 0) 74 8 0) 74 9 (-1)) 74 40 (1 - (gi I 74 13))) 74 40).toNat 0) 88 (gi (si (si (si (si (si (si I 74 2 (gi I 74 1)) 74 1 0) 74 5 0) 74 8 0) 74 9 (-1)) 74 40 (1 - (gi I 74 13))) 74 40).toNat 60) 89 (gi (si (si (si (si (si (si I 74 2 (gi I 74 1)) 74 1 0) 74 5 0) 74 8 0) 74 9 (-1)) 74 40 (1 - (gi I 74 13))) 74 40).toNat (-1)) 74 40 = (gi (si (si (si (si (si (si I 74 2 (gi I 74 1)) 74 1 0) 74 5 0) 74 8 0) 74 9 (-1)) 74 40 (1 - (gi I 74 13))) 74 40) from ((gi_cell _ _ _ _ (by decide)).trans ((gi_cell _ _ _ _ (by decide)).trans ((gi_cell _ _ _ _ (by decide)).trans ((gi_cell _ _ _ _ (by decide)).trans ((gi_cell _ _ _ _ (by decide)).trans ((gi_cell _ _ _ _ (by decide)).trans (gi_cell _ _ _ _ (by decide))))))))]
  refine st_iconst (pc' := 118) dX12_library_117 rfl ?_
  refine st_iastore (pc' := 119) (M' := (mem (P, some 5, some 22) (si (si (si (si (si (si (si (si (si (si (si (si (si (si I 74 2 (gi I 74 1)) 74 1 0) 74 5 0) 74 8 0) 74 9 (-1)) 74 40 (1 - (gi I 74 13))) 76 (gi (si (si (si (si (si (si I 74 2 (gi I 74 1)) 74 1 0) 74 5 0) 74 8 0) 74 9 (-1)) 74 40 (1 - (gi I 74 13))) 74 40).toNat 0) 77 (gi (si (si (si (si (si (si I 74 2 (gi I 74 1)) 74 1 0) 74 5 0) 74 8 0) 74 9 (-1)) 74 40 (1 - (gi I 74 13))) 74 40).toNat 0) 82 (gi (si (si (si (si (si (si I 74 2 (gi I 74 1)) 74 1 0) 74 5 0) 74 8 0) 74 9 (-1)) 74 40 (1 - (gi I 74 13))) 74 40).toNat 0) 83 (gi (si (si (si (si (si (si I 74 2 (gi I 74 1)) 74 1 0) 74 5 0) 74 8 0) 74 9 (-1)) 74 40 (1 - (gi I 74 13))) 74 40).toNat 0) 86 (gi (si (si (si (si (si (si I 74 2 (gi I 74 1)) 74 1 0) 74 5 0) 74 8 0) 74 9 (-1)) 74 40 (1 - (gi I 74 13))) 74 40).toNat 0) 88 (gi (si (si (si (si (si (si I 74 2 (gi I 74 1)) 74 1 0) 74 5 0) 74 8 0) 74 9 (-1)) 74 40 (1 - (gi I 74 13))) 74 40).toNat 60) 89 (gi (si (si (si (si (si (si I 74 2 (gi I 74 1)) 74 1 0) 74 5 0) 74 8 0) 74 9 (-1)) 74 40 (1 - (gi I 74 13))) 74 40).toNat (-1)) 91 (gi (si (si (si (si (si (si I 74 2 (gi I 74 1)) 74 1 0) 74 5 0) 74 8 0) 74 9 (-1)) 74 40 (1 - (gi I 74 13))) 74 40).toNat (-1)) J)) dX12_library_118 rfl L_91 (by decide) e1 rfl ?_
  refine st_aload_n (pc' := 120) dX12_library_119 rfl rfl (j := 0) rfl ?_
  refine G_X12_105_74 dX12_library_120 (pc' := 123) rfl rfl ?_
  refine st_aload_n (pc' := 124) dX12_library_123 rfl rfl (j := 0) rfl ?_
  refine G_X12_133_74 dX12_library_124 (pc' := 127) rfl rfl ?_
  rw [show gi (si (si (si (si (si (si (si (si (si (si (si (si (si (si I 74 2 (gi I 74 1)) 74 1 0) 74 5 0) 74 8 0) 74 9 (-1)) 74 40 (1 - (gi I 74 13))) 76 (gi (si (si (si (si (si (si I 74 2 (gi I 74 1)) 74 1 0) 74 5 0) 74 8 0) 74 9 (-1)) 74 40 (1 - (gi I 74 13))) 74 40).toNat 0) 77 (gi (si (si (si (si (si (si I 74 2 (gi I 74 1)) 74 1 0) 74 5 0) 74 8 0) 74 9 (-1)) 74 40 (1 - (gi I 74 13))) 74 40).toNat 0) 82 (gi (si (si (si (si (si (si I 74 2 (gi I 74 1)) 74 1 0) 74 5 0) 74 8 0) 74 9 (-1)) 74 40 (1 - (gi I 74 13))) 74 40).toNat 0) 83 (gi (si (si (si (si (si (si I 74 2 (gi I 74 1)) 74 1 0) 74 5 0) 74 8 0) 74 9 (-1)) 74 40 (1 - (gi I 74 13))) 74 40).toNat 0) 86 (gi (si (si (si (si (si (si I 74 2 (gi I 74 1)) 74 1 0) 74 5 0) 74 8 0) 74 9 (-1)) 74 40 (1 - (gi I 74 13))) 74 40).toNat 0) 88 (gi (si (si (si (si (si (si I 74 2 (gi I 74 1)) 74 1 0) 74 5 0) 74 8 0) 74 9 (-1)) 74 40 (1 - (gi I 74 13))) 74 40).toNat 60) 89 (gi (si (si (si (si (si (si I 74 2 (gi I 74 1)) 74 1 0) 74 5 0) 74 8 0) 74 9 (-1)) 74 40 (1 - (gi I 74 13))) 74 40).toNat (-1)) 91 (gi (si (si (si (si (si (si I 74 2 (gi I 74 1)) 74 1 0) 74 5 0) 74 8 0) 74 9 (-1)) 74 40 (1 - (gi I 74 13))) 74 40).toNat (-1)) 74 40 = (gi (si (si (si (si (si (si I 74 2 (gi I 74 1)) 74 1 0) 74 5 0) 74 8 0) 74 9 (-1)) 74 40 (1 - (gi I 74 13))) 74 40) from ((gi_cell _ _ _ _ (by decide)).trans ((gi_cell _ _ _ _ (by decide)).trans ((gi_cell _ _ _ _ (by decide)).trans ((gi_cell _ _ _ _ (by decide)).trans ((gi_cell _ _ _ _ (by decide)).trans ((gi_cell _ _ _ _ (by decide)).trans ((gi_cell _ _ _ _ (by decide)).trans (gi_cell _ _ _ _ (by decide)))))))))]
  refine st_iconst (pc' := 128) dX12_library_127 rfl ?_
  refine st_iastore (pc' := 129) (M' := (mem (P, some 5, some 22) (si (si (si (si (si (si (si (si (si (si (si (si (si (si (si I 74 2 (gi I 74 1)) 74 1 0) 74 5 0) 74 8 0) 74 9 (-1)) 74 40 (1 - (gi I 74 13))) 76 (gi (si (si (si (si (si (si I 74 2 (gi I 74 1)) 74 1 0) 74 5 0) 74 8 0) 74 9 (-1)) 74 40 (1 - (gi I 74 13))) 74 40).toNat 0) 77 (gi (si (si (si (si (si (si I 74 2 (gi I 74 1)) 74 1 0) 74 5 0) 74 8 0) 74 9 (-1)) 74 40 (1 - (gi I 74 13))) 74 40).toNat 0) 82 (gi (si (si (si (si (si (si I 74 2 (gi I 74 1)) 74 1 0) 74 5 0) 74 8 0) 74 9 (-1)) 74 40 (1 - (gi I 74 13))) 74 40).toNat 0) 83 (gi (si (si (si (si (si (si I 74 2 (gi I 74 1)) 74 1 0) 74 5 0) 74 8 0) 74 9 (-1)) 74 40 (1 - (gi I 74 13))) 74 40).toNat 0) 86 (gi (si (si (si (si (si (si I 74 2 (gi I 74 1)) 74 1 0) 74 5 0) 74 8 0) 74 9 (-1)) 74 40 (1 - (gi I 74 13))) 74 40).toNat 0) 88 (gi (si (si (si (si (si (si I 74 2 (gi I 74 1)) 74 1 0) 74 5 0) 74 8 0) 74 9 (-1)) 74 40 (1 - (gi I 74 13))) 74 40).toNat 60) 89 (gi (si (si (si (si (si (si I 74 2 (gi I 74 1)) 74 1 0) 74 5 0) 74 8 0) 74 9 (-1)) 74 40 (1 - (gi I 74 13))) 74 40).toNat (-1)) 91 (gi (si (si (si (si (si (si I 74 2 (gi I 74 1)) 74 1 0) 74 5 0) 74 8 0) 74 9 (-1)) 74 40 (1 - (gi I 74 13))) 74 40).toNat (-1)) 93 (gi (si (si (si (si (si (si I 74 2 (gi I 74 1)) 74 1 0) 74 5 0) 74 8 0) 74 9 (-1)) 74 40 (1 - (gi I 74 13))) 74 40).toNat (-1)) J)) dX12_library_128 rfl L_93 (by decide) e1 rfl ?_
  refine st_aload_n (pc' := 130) dX12_library_129 rfl rfl (j := 0) rfl ?_
  refine st_iconst (pc' := 131) dX12_library_130 rfl ?_
  refine P_X12_130_74 dX12_library_131 (pc' := 134) rfl rfl ?_
  refine st_iconst (pc' := 135) dX12_library_134 rfl ?_
  refine st_istore_n (pc' := 136) (L' := [(1, vI 0), (0, vR (some 74))]) dX12_library_135 rfl rfl (by decide) rfl ?_
  refine st_aload_n (pc' := 137) dX12_library_136 rfl rfl (j := 1) rfl ?_
  refine st_callV (pc' := 140) (kc := k - 1) (E' := LAY) (cal := m_X12_ahead) (n := 0) (as := []) (S := []) dX12_library_137 rfl l_X12_308 k_X12_ahead rfl L_74 c_X12 rfl rfl (Nat.le_of_ble_eq_true rfl) (by omega) ⟨Nat.le_refl _, Nat.le_refl _, Nat.le_refl _, Nat.le_refl _⟩ h (fun r M' q => ?_)
  obtain ⟨I3, J4, rfl, rfl, h⟩ := q
  change WP _ LAY m_X12_library 140 [(1, vI 0), (0, vR (some 74))] [] (mem (P, some 5, some 22) I3 J4) Q
  refine WP_sub (L' := [(0, vR (some 74)), (1, vI 0)]) [1, 0] rfl ?_
  exact h
set_option maxRecDepth 20000 in
set_option maxHeartbeats 4000000 in
theorem B_X12_library_140 {k : Nat} {P : Option Nat} {I : Nat → Nat → Int32} {J : Nat → Nat → Int64} {x1 : Int} {Q : Option AV → Mem → Prop} (hk : 1 ≤ k) (h : (¬ (gi I 74 8) = 0 → ((¬ (gi I 74 8) = 0 → (((gi I 74 8) ≤ 0 → (WPm (k - 1) LAY m_X12_begin [vR (some 74)] (mem (P, some 5, some 22) (si (si (si I 74 10 (gi I 74 8)) 74 11 (gi I 74 9)) 74 13 (gi I 74 40)) J) (retV (fun I2 J3 => Q (some (vI x1)) (mem (P, some 5, some 22) I2 J3)) (P, some 5, some 22)))) ∧ (¬ (gi I 74 8) ≤ 0 → (Q (some (vI (-1))) (mem (P, some 5, some 22) (si (si (si I 74 10 (gi I 74 8)) 74 11 (gi I 74 9)) 107 1 ((gi (si (si I 74 10 (gi I 74 8)) 74 11 (gi I 74 9)) 107 1) + 1)) J))))) ∧ ((gi I 74 8) = 0 → ((0 ≤ (gi I 74 40) ∧ (gi I 74 40) < 2) ∧ (((gi I 83 (gi I 74 40).toNat) ≤ 0 → (((gi I 74 8) ≤ 0 → (WPm (k - 1) LAY m_X12_begin [vR (some 74)] (mem (P, some 5, some 22) (si (si (si I 74 10 (gi I 74 8)) 74 11 (gi I 74 9)) 74 13 (gi I 74 40)) J) (retV (fun I6 J7 => Q (some (vI x1)) (mem (P, some 5, some 22) I6 J7)) (P, some 5, some 22)))) ∧ (¬ (gi I 74 8) ≤ 0 → (Q (some (vI (-1))) (mem (P, some 5, some 22) (si (si (si I 74 10 (gi I 74 8)) 74 11 (gi I 74 9)) 107 1 ((gi (si (si I 74 10 (gi I 74 8)) 74 11 (gi I 74 9)) 107 1) + 1)) J))))) ∧ (¬ (gi I 83 (gi I 74 40).toNat) ≤ 0 → ((¬ (gi I 86 (gi I 74 40).toNat) = 0 → (((gi I 74 8) ≤ 0 → (WPm (k - 1) LAY m_X12_begin [vR (some 74)] (mem (P, some 5, some 22) (si (si (si I 74 10 (gi I 74 8)) 74 11 (gi I 74 9)) 74 13 (gi I 74 40)) J) (retV (fun I9 J10 => Q (some (vI x1)) (mem (P, some 5, some 22) I9 J10)) (P, some 5, some 22)))) ∧ (¬ (gi I 74 8) ≤ 0 → (Q (some (vI (-1))) (mem (P, some 5, some 22) (si (si (si I 74 10 (gi I 74 8)) 74 11 (gi I 74 9)) 107 1 ((gi (si (si I 74 10 (gi I 74 8)) 74 11 (gi I 74 9)) 107 1) + 1)) J))))) ∧ ((gi I 86 (gi I 74 40).toNat) = 0 → (((gi I 74 8) ≤ 0 → (Q (some (vI (-1))) (mem (P, some 5, some 22) (si (si (si (si (si I 74 8 1) 74 9 (gi I 74 2)) 74 10 1) 74 11 (gi I 74 2)) 107 1 ((gi (si (si (si (si I 74 8 1) 74 9 (gi I 74 2)) 74 10 1) 74 11 (gi I 74 2)) 107 1) + 1)) J))) ∧ (¬ (gi I 74 8) ≤ 0 → (((gi I 74 8) ≤ 0 → (WPm (k - 1) LAY m_X12_begin [vR (some 74)] (mem (P, some 5, some 22) (si (si (si I 74 10 (gi I 74 8)) 74 11 (gi I 74 9)) 74 13 (gi I 74 40)) J) (retV (fun I12 J13 => Q (some (vI x1)) (mem (P, some 5, some 22) I12 J13)) (P, some 5, some 22)))) ∧ (¬ (gi I 74 8) ≤ 0 → (Q (some (vI (-1))) (mem (P, some 5, some 22) (si (si (si I 74 10 (gi I 74 8)) 74 11 (gi I 74 9)) 107 1 ((gi (si (si I 74 10 (gi I 74 8)) 74 11 (gi I 74 9)) 107 1) + 1)) J)))))))))))))) ∧ ((gi I 74 8) = 0 → (((gi I 74 3) = 0 → ((¬ (gi I 74 8) = 0 → (((gi I 74 8) ≤ 0 → (WPm (k - 1) LAY m_X12_begin [vR (some 74)] (mem (P, some 5, some 22) (si (si (si I 74 10 (gi I 74 8)) 74 11 (gi I 74 9)) 74 13 (gi I 74 40)) J) (retV (fun I15 J16 => Q (some (vI x1)) (mem (P, some 5, some 22) I15 J16)) (P, some 5, some 22)))) ∧ (¬ (gi I 74 8) ≤ 0 → (Q (some (vI (-1))) (mem (P, some 5, some 22) (si (si (si I 74 10 (gi I 74 8)) 74 11 (gi I 74 9)) 107 1 ((gi (si (si I 74 10 (gi I 74 8)) 74 11 (gi I 74 9)) 107 1) + 1)) J))))) ∧ ((gi I 74 8) = 0 → ((0 ≤ (gi I 74 40) ∧ (gi I 74 40) < 2) ∧ (((gi I 83 (gi I 74 40).toNat) ≤ 0 → (((gi I 74 8) ≤ 0 → (WPm (k - 1) LAY m_X12_begin [vR (some 74)] (mem (P, some 5, some 22) (si (si (si I 74 10 (gi I 74 8)) 74 11 (gi I 74 9)) 74 13 (gi I 74 40)) J) (retV (fun I19 J20 => Q (some (vI x1)) (mem (P, some 5, some 22) I19 J20)) (P, some 5, some 22)))) ∧ (¬ (gi I 74 8) ≤ 0 → (Q (some (vI (-1))) (mem (P, some 5, some 22) (si (si (si I 74 10 (gi I 74 8)) 74 11 (gi I 74 9)) 107 1 ((gi (si (si I 74 10 (gi I 74 8)) 74 11 (gi I 74 9)) 107 1) + 1)) J))))) ∧ (¬ (gi I 83 (gi I 74 40).toNat) ≤ 0 → ((¬ (gi I 86 (gi I 74 40).toNat) = 0 → (((gi I 74 8) ≤ 0 → (WPm (k - 1) LAY m_X12_begin [vR (some 74)] (mem (P, some 5, some 22) (si (si (si I 74 10 (gi I 74 8)) 74 11 (gi I 74 9)) 74 13 (gi I 74 40)) J) (retV (fun I22 J23 => Q (some (vI x1)) (mem (P, some 5, some 22) I22 J23)) (P, some 5, some 22)))) ∧ (¬ (gi I 74 8) ≤ 0 → (Q (some (vI (-1))) (mem (P, some 5, some 22) (si (si (si I 74 10 (gi I 74 8)) 74 11 (gi I 74 9)) 107 1 ((gi (si (si I 74 10 (gi I 74 8)) 74 11 (gi I 74 9)) 107 1) + 1)) J))))) ∧ ((gi I 86 (gi I 74 40).toNat) = 0 → (((gi I 74 8) ≤ 0 → (Q (some (vI (-1))) (mem (P, some 5, some 22) (si (si (si (si (si I 74 8 1) 74 9 (gi I 74 2)) 74 10 1) 74 11 (gi I 74 2)) 107 1 ((gi (si (si (si (si I 74 8 1) 74 9 (gi I 74 2)) 74 10 1) 74 11 (gi I 74 2)) 107 1) + 1)) J))) ∧ (¬ (gi I 74 8) ≤ 0 → (((gi I 74 8) ≤ 0 → (WPm (k - 1) LAY m_X12_begin [vR (some 74)] (mem (P, some 5, some 22) (si (si (si I 74 10 (gi I 74 8)) 74 11 (gi I 74 9)) 74 13 (gi I 74 40)) J) (retV (fun I25 J26 => Q (some (vI x1)) (mem (P, some 5, some 22) I25 J26)) (P, some 5, some 22)))) ∧ (¬ (gi I 74 8) ≤ 0 → (Q (some (vI (-1))) (mem (P, some 5, some 22) (si (si (si I 74 10 (gi I 74 8)) 74 11 (gi I 74 9)) 107 1 ((gi (si (si I 74 10 (gi I 74 8)) 74 11 (gi I 74 9)) 107 1) + 1)) J)))))))))))))) ∧ (¬ (gi I 74 3) = 0 → (WPm (k - 1) LAY m_X12_statement [vR (some 74)] (mem (P, some 5, some 22) I J) (retV (fun I28 J29 => WPm (k - 1) LAY m_X12_finishes [vR (some 74), vI (x1 + 1)] (mem (P, some 5, some 22) I28 J29) (retV (fun I31 J32 => WP k LAY m_X12_library 140 [(0, vR (some 74)), (1, vI (x1 + 1))] [] (mem (P, some 5, some 22) I31 J32) Q) (P, some 5, some 22))) (P, some 5, some 22))))))) : WP k LAY m_X12_library 140 [(0, vR (some 74)), (1, vI x1)] [] (mem (P, some 5, some 22) I J) Q := by
  refine st_aload_n (pc' := 141) dX12_library_140 rfl rfl (j := 0) rfl ?_
  refine G_X12_36_74 dX12_library_141 (pc' := 144) rfl rfl ?_
  refine st_if_ne (tg := 169) (pc' := 147) dX12_library_144 (by decide) rfl (gi_in _ _ _) (fun c => ?_) (fun c => ?_)
  · replace h := h.1 c
    refine st_aload_n (pc' := 170) dX12_library_169 rfl rfl (j := 0) rfl ?_
    refine G_X12_36_74 dX12_library_170 (pc' := 173) rfl rfl ?_
    refine st_if_ne (tg := 209) (pc' := 176) dX12_library_173 (by decide) rfl (gi_in _ _ _) (fun c => ?_) (fun c => ?_)
    · replace h := h.1 c
      refine st_aload_n (pc' := 210) dX12_library_209 rfl rfl (j := 0) rfl ?_
      refine st_aload_n (pc' := 211) dX12_library_210 rfl rfl (j := 0) rfl ?_
      refine G_X12_36_74 dX12_library_211 (pc' := 214) rfl rfl ?_
      refine P_X12_42_74 dX12_library_214 (pc' := 217) rfl rfl ?_
      refine st_aload_n (pc' := 218) dX12_library_217 rfl rfl (j := 0) rfl ?_
      refine st_aload_n (pc' := 219) dX12_library_218 rfl rfl (j := 0) rfl ?_
      refine G_X12_39_74 dX12_library_219 (pc' := 222) rfl rfl ?_
      rw [show gi (si I 74 10 (gi I 74 8)) 74 9 = (gi I 74 9) from (gi_idx _ _ _ (by decide))]
      refine P_X12_45_74 dX12_library_222 (pc' := 225) rfl rfl ?_
      refine st_aload_n (pc' := 226) dX12_library_225 rfl rfl (j := 0) rfl ?_
      refine G_X12_36_74 dX12_library_226 (pc' := 229) rfl rfl ?_
      rw [show gi (si (si I 74 10 (gi I 74 8)) 74 11 (gi I 74 9)) 74 8 = (gi I 74 8) from ((gi_idx _ _ _ (by decide)).trans (gi_idx _ _ _ (by decide)))]
      refine st_if_le (tg := 238) (pc' := 232) dX12_library_229 (by decide) rfl (gi_in _ _ _) (fun c => ?_) (fun c => ?_)
      · replace h := h.1 c
        refine st_aload_n (pc' := 239) dX12_library_238 rfl rfl (j := 0) rfl ?_
        refine st_aload_n (pc' := 240) dX12_library_239 rfl rfl (j := 0) rfl ?_
        refine G_X12_133_74 dX12_library_240 (pc' := 243) rfl rfl ?_
        rw [show gi (si (si I 74 10 (gi I 74 8)) 74 11 (gi I 74 9)) 74 40 = (gi I 74 40) from ((gi_idx _ _ _ (by decide)).trans (gi_idx _ _ _ (by decide)))]
        refine P_X12_51_74 dX12_library_243 (pc' := 246) rfl rfl ?_
        refine st_aload_n (pc' := 247) dX12_library_246 rfl rfl (j := 0) rfl ?_
        refine st_callV (pc' := 250) (kc := k - 1) (E' := LAY) (cal := m_X12_begin) (n := 0) (as := []) (S := []) dX12_library_247 rfl l_X12_467 k_X12_begin rfl L_74 c_X12 rfl rfl (Nat.le_of_ble_eq_true rfl) (by omega) ⟨Nat.le_refl _, Nat.le_refl _, Nat.le_refl _, Nat.le_refl _⟩ h (fun r M' q => ?_)
        obtain ⟨I2, J3, rfl, rfl, h⟩ := q
        change WP _ LAY m_X12_library 250 [(0, vR (some 74)), (1, vI x1)] [] (mem (P, some 5, some 22) I2 J3) Q
        refine st_iload_n (pc' := 251) dX12_library_250 rfl rfl (j := 1) rfl ?_
        exact st_iret (ty := .int) dX12_library_251 rfl rfl rfl h
      · replace h := h.2 c
        refine st_aload_n (pc' := 233) dX12_library_232 rfl rfl (j := 0) rfl ?_
        refine st_iconst (pc' := 234) dX12_library_233 rfl ?_
        refine st_callV (pc' := 237) (kc := k - 1) (E' := LAY) (cal := m_X12_refuses) (n := 1) (as := [vI 1]) (S := []) dX12_library_234 rfl l_X12_279 k_X12_refuses rfl L_74 c_X12 rfl rfl (Nat.le_of_ble_eq_true rfl) (by omega) ⟨Nat.le_refl _, Nat.le_refl _, Nat.le_refl _, Nat.le_refl _⟩ (Q1 := fun r M' => WP k LAY m_X12_library 237 [(0, vR (some 74)), (1, vI x1)] (r.toList ++ []) M' Q) (WPm.of k_X12_refuses.1 (Nat.le_of_ble_eq_true rfl) (B_X12_refuses_0 (by omega) ?_)) (fun r M' q => q)
        refine ⟨by decide, ?_⟩
        change WP _ LAY m_X12_library 237 [(0, vR (some 74)), (1, vI x1)] [vI (-1)] (mem (P, some 5, some 22) (si (si (si I 74 10 (gi I 74 8)) 74 11 (gi I 74 9)) 107 1 ((gi (si (si I 74 10 (gi I 74 8)) 74 11 (gi I 74 9)) 107 1) + 1)) J) Q
        exact st_iret (ty := .int) dX12_library_237 rfl rfl rfl h
    · replace h := h.2 c
      refine st_aload_n (pc' := 177) dX12_library_176 rfl rfl (j := 0) rfl ?_
      refine G_X12_75_74 dX12_library_177 (pc' := 180) rfl rfl ?_
      refine st_aload_n (pc' := 181) dX12_library_180 rfl rfl (j := 0) rfl ?_
      refine G_X12_133_74 dX12_library_181 (pc' := 184) rfl rfl ?_
      obtain ⟨e4, h⟩ := h
      refine st_iaload (pc' := 185) (v := (gi I 83 (gi I 74 40).toNat)) dX12_library_184 rfl L_83 (by decide) e4 (show gi I 83 (gi I 74 40).toNat = (gi I 83 (gi I 74 40).toNat) from rfl) ?_
      refine st_if_le (tg := 209) (pc' := 188) dX12_library_185 (by decide) rfl (gi_in _ _ _) (fun c => ?_) (fun c => ?_)
      · replace h := h.1 c
        refine st_aload_n (pc' := 210) dX12_library_209 rfl rfl (j := 0) rfl ?_
        refine st_aload_n (pc' := 211) dX12_library_210 rfl rfl (j := 0) rfl ?_
        refine G_X12_36_74 dX12_library_211 (pc' := 214) rfl rfl ?_
        refine P_X12_42_74 dX12_library_214 (pc' := 217) rfl rfl ?_
        refine st_aload_n (pc' := 218) dX12_library_217 rfl rfl (j := 0) rfl ?_
        refine st_aload_n (pc' := 219) dX12_library_218 rfl rfl (j := 0) rfl ?_
        refine G_X12_39_74 dX12_library_219 (pc' := 222) rfl rfl ?_
        rw [show gi (si I 74 10 (gi I 74 8)) 74 9 = (gi I 74 9) from (gi_idx _ _ _ (by decide))]
        refine P_X12_45_74 dX12_library_222 (pc' := 225) rfl rfl ?_
        refine st_aload_n (pc' := 226) dX12_library_225 rfl rfl (j := 0) rfl ?_
        refine G_X12_36_74 dX12_library_226 (pc' := 229) rfl rfl ?_
        rw [show gi (si (si I 74 10 (gi I 74 8)) 74 11 (gi I 74 9)) 74 8 = (gi I 74 8) from ((gi_idx _ _ _ (by decide)).trans (gi_idx _ _ _ (by decide)))]
        refine st_if_le (tg := 238) (pc' := 232) dX12_library_229 (by decide) rfl (gi_in _ _ _) (fun c => ?_) (fun c => ?_)
        · replace h := h.1 c
          refine st_aload_n (pc' := 239) dX12_library_238 rfl rfl (j := 0) rfl ?_
          refine st_aload_n (pc' := 240) dX12_library_239 rfl rfl (j := 0) rfl ?_
          refine G_X12_133_74 dX12_library_240 (pc' := 243) rfl rfl ?_
          rw [show gi (si (si I 74 10 (gi I 74 8)) 74 11 (gi I 74 9)) 74 40 = (gi I 74 40) from ((gi_idx _ _ _ (by decide)).trans (gi_idx _ _ _ (by decide)))]
          refine P_X12_51_74 dX12_library_243 (pc' := 246) rfl rfl ?_
          refine st_aload_n (pc' := 247) dX12_library_246 rfl rfl (j := 0) rfl ?_
          refine st_callV (pc' := 250) (kc := k - 1) (E' := LAY) (cal := m_X12_begin) (n := 0) (as := []) (S := []) dX12_library_247 rfl l_X12_467 k_X12_begin rfl L_74 c_X12 rfl rfl (Nat.le_of_ble_eq_true rfl) (by omega) ⟨Nat.le_refl _, Nat.le_refl _, Nat.le_refl _, Nat.le_refl _⟩ h (fun r M' q => ?_)
          obtain ⟨I6, J7, rfl, rfl, h⟩ := q
          change WP _ LAY m_X12_library 250 [(0, vR (some 74)), (1, vI x1)] [] (mem (P, some 5, some 22) I6 J7) Q
          refine st_iload_n (pc' := 251) dX12_library_250 rfl rfl (j := 1) rfl ?_
          exact st_iret (ty := .int) dX12_library_251 rfl rfl rfl h
        · replace h := h.2 c
          refine st_aload_n (pc' := 233) dX12_library_232 rfl rfl (j := 0) rfl ?_
          refine st_iconst (pc' := 234) dX12_library_233 rfl ?_
          refine st_callV (pc' := 237) (kc := k - 1) (E' := LAY) (cal := m_X12_refuses) (n := 1) (as := [vI 1]) (S := []) dX12_library_234 rfl l_X12_279 k_X12_refuses rfl L_74 c_X12 rfl rfl (Nat.le_of_ble_eq_true rfl) (by omega) ⟨Nat.le_refl _, Nat.le_refl _, Nat.le_refl _, Nat.le_refl _⟩ (Q1 := fun r M' => WP k LAY m_X12_library 237 [(0, vR (some 74)), (1, vI x1)] (r.toList ++ []) M' Q) (WPm.of k_X12_refuses.1 (Nat.le_of_ble_eq_true rfl) (B_X12_refuses_0 (by omega) ?_)) (fun r M' q => q)
          refine ⟨by decide, ?_⟩
          change WP _ LAY m_X12_library 237 [(0, vR (some 74)), (1, vI x1)] [vI (-1)] (mem (P, some 5, some 22) (si (si (si I 74 10 (gi I 74 8)) 74 11 (gi I 74 9)) 107 1 ((gi (si (si I 74 10 (gi I 74 8)) 74 11 (gi I 74 9)) 107 1) + 1)) J) Q
          exact st_iret (ty := .int) dX12_library_237 rfl rfl rfl h
      · replace h := h.2 c
        refine st_aload_n (pc' := 189) dX12_library_188 rfl rfl (j := 0) rfl ?_
        refine G_X12_84_74 dX12_library_189 (pc' := 192) rfl rfl ?_
        refine st_aload_n (pc' := 193) dX12_library_192 rfl rfl (j := 0) rfl ?_
        refine G_X12_133_74 dX12_library_193 (pc' := 196) rfl rfl ?_
        refine st_iaload (pc' := 197) (v := (gi I 86 (gi I 74 40).toNat)) dX12_library_196 rfl L_86 (by decide) e4 (show gi I 86 (gi I 74 40).toNat = (gi I 86 (gi I 74 40).toNat) from rfl) ?_
        refine st_if_ne (tg := 209) (pc' := 200) dX12_library_197 (by decide) rfl (gi_in _ _ _) (fun c => ?_) (fun c => ?_)
        · replace h := h.1 c
          refine st_aload_n (pc' := 210) dX12_library_209 rfl rfl (j := 0) rfl ?_
          refine st_aload_n (pc' := 211) dX12_library_210 rfl rfl (j := 0) rfl ?_
          refine G_X12_36_74 dX12_library_211 (pc' := 214) rfl rfl ?_
          refine P_X12_42_74 dX12_library_214 (pc' := 217) rfl rfl ?_
          refine st_aload_n (pc' := 218) dX12_library_217 rfl rfl (j := 0) rfl ?_
          refine st_aload_n (pc' := 219) dX12_library_218 rfl rfl (j := 0) rfl ?_
          refine G_X12_39_74 dX12_library_219 (pc' := 222) rfl rfl ?_
          rw [show gi (si I 74 10 (gi I 74 8)) 74 9 = (gi I 74 9) from (gi_idx _ _ _ (by decide))]
          refine P_X12_45_74 dX12_library_222 (pc' := 225) rfl rfl ?_
          refine st_aload_n (pc' := 226) dX12_library_225 rfl rfl (j := 0) rfl ?_
          refine G_X12_36_74 dX12_library_226 (pc' := 229) rfl rfl ?_
          rw [show gi (si (si I 74 10 (gi I 74 8)) 74 11 (gi I 74 9)) 74 8 = (gi I 74 8) from ((gi_idx _ _ _ (by decide)).trans (gi_idx _ _ _ (by decide)))]
          refine st_if_le (tg := 238) (pc' := 232) dX12_library_229 (by decide) rfl (gi_in _ _ _) (fun c => ?_) (fun c => ?_)
          · replace h := h.1 c
            refine st_aload_n (pc' := 239) dX12_library_238 rfl rfl (j := 0) rfl ?_
            refine st_aload_n (pc' := 240) dX12_library_239 rfl rfl (j := 0) rfl ?_
            refine G_X12_133_74 dX12_library_240 (pc' := 243) rfl rfl ?_
            rw [show gi (si (si I 74 10 (gi I 74 8)) 74 11 (gi I 74 9)) 74 40 = (gi I 74 40) from ((gi_idx _ _ _ (by decide)).trans (gi_idx _ _ _ (by decide)))]
            refine P_X12_51_74 dX12_library_243 (pc' := 246) rfl rfl ?_
            refine st_aload_n (pc' := 247) dX12_library_246 rfl rfl (j := 0) rfl ?_
            refine st_callV (pc' := 250) (kc := k - 1) (E' := LAY) (cal := m_X12_begin) (n := 0) (as := []) (S := []) dX12_library_247 rfl l_X12_467 k_X12_begin rfl L_74 c_X12 rfl rfl (Nat.le_of_ble_eq_true rfl) (by omega) ⟨Nat.le_refl _, Nat.le_refl _, Nat.le_refl _, Nat.le_refl _⟩ h (fun r M' q => ?_)
            obtain ⟨I9, J10, rfl, rfl, h⟩ := q
            change WP _ LAY m_X12_library 250 [(0, vR (some 74)), (1, vI x1)] [] (mem (P, some 5, some 22) I9 J10) Q
            refine st_iload_n (pc' := 251) dX12_library_250 rfl rfl (j := 1) rfl ?_
            exact st_iret (ty := .int) dX12_library_251 rfl rfl rfl h
          · replace h := h.2 c
            refine st_aload_n (pc' := 233) dX12_library_232 rfl rfl (j := 0) rfl ?_
            refine st_iconst (pc' := 234) dX12_library_233 rfl ?_
            refine st_callV (pc' := 237) (kc := k - 1) (E' := LAY) (cal := m_X12_refuses) (n := 1) (as := [vI 1]) (S := []) dX12_library_234 rfl l_X12_279 k_X12_refuses rfl L_74 c_X12 rfl rfl (Nat.le_of_ble_eq_true rfl) (by omega) ⟨Nat.le_refl _, Nat.le_refl _, Nat.le_refl _, Nat.le_refl _⟩ (Q1 := fun r M' => WP k LAY m_X12_library 237 [(0, vR (some 74)), (1, vI x1)] (r.toList ++ []) M' Q) (WPm.of k_X12_refuses.1 (Nat.le_of_ble_eq_true rfl) (B_X12_refuses_0 (by omega) ?_)) (fun r M' q => q)
            refine ⟨by decide, ?_⟩
            change WP _ LAY m_X12_library 237 [(0, vR (some 74)), (1, vI x1)] [vI (-1)] (mem (P, some 5, some 22) (si (si (si I 74 10 (gi I 74 8)) 74 11 (gi I 74 9)) 107 1 ((gi (si (si I 74 10 (gi I 74 8)) 74 11 (gi I 74 9)) 107 1) + 1)) J) Q
            exact st_iret (ty := .int) dX12_library_237 rfl rfl rfl h
        · replace h := h.2 c
          refine st_aload_n (pc' := 201) dX12_library_200 rfl rfl (j := 0) rfl ?_
          refine st_iconst (pc' := 202) dX12_library_201 rfl ?_
          refine st_aload_n (pc' := 203) dX12_library_202 rfl rfl (j := 0) rfl ?_
          refine G_X12_17_74 dX12_library_203 (pc' := 206) rfl rfl ?_
          refine st_callV (pc' := 209) (kc := k - 1) (E' := LAY) (cal := m_X12_blame) (n := 2) (as := [vI 1, vI (gi I 74 2)]) (S := []) dX12_library_206 rfl l_X12_287 k_X12_blame rfl L_74 c_X12 rfl rfl (Nat.le_of_ble_eq_true rfl) (by omega) ⟨Nat.le_refl _, Nat.le_refl _, Nat.le_refl _, Nat.le_refl _⟩ (Q1 := fun r M' => WP k LAY m_X12_library 209 [(0, vR (some 74)), (1, vI x1)] (r.toList ++ []) M' Q) (WPm.of k_X12_blame.1 (Nat.le_of_ble_eq_true rfl) (B_X12_blame_0 (by omega) ?_)) (fun r M' q => q)
          refine ⟨fun c => ?_, fun c => ?_⟩
          · replace h := h.1 c
            change WP _ LAY m_X12_library 209 [(0, vR (some 74)), (1, vI x1)] [] (mem (P, some 5, some 22) (si (si I 74 8 1) 74 9 (gi I 74 2)) J) Q
            refine st_aload_n (pc' := 210) dX12_library_209 rfl rfl (j := 0) rfl ?_
            refine st_aload_n (pc' := 211) dX12_library_210 rfl rfl (j := 0) rfl ?_
            refine G_X12_36_74 dX12_library_211 (pc' := 214) rfl rfl ?_
            rw [show gi (si (si I 74 8 1) 74 9 (gi I 74 2)) 74 8 = 1 from ((gi_idx _ _ _ (by decide)).trans (gi_same _ _ _ (by decide)))]
            refine P_X12_42_74 dX12_library_214 (pc' := 217) rfl rfl ?_
            refine st_aload_n (pc' := 218) dX12_library_217 rfl rfl (j := 0) rfl ?_
            refine st_aload_n (pc' := 219) dX12_library_218 rfl rfl (j := 0) rfl ?_
            refine G_X12_39_74 dX12_library_219 (pc' := 222) rfl rfl ?_
            rw [show gi (si (si (si I 74 8 1) 74 9 (gi I 74 2)) 74 10 1) 74 9 = (gi I 74 2) from ((gi_idx _ _ _ (by decide)).trans (gi_same _ _ _ (gi_in _ _ _)))]
            refine P_X12_45_74 dX12_library_222 (pc' := 225) rfl rfl ?_
            refine st_aload_n (pc' := 226) dX12_library_225 rfl rfl (j := 0) rfl ?_
            refine G_X12_36_74 dX12_library_226 (pc' := 229) rfl rfl ?_
            rw [show gi (si (si (si (si I 74 8 1) 74 9 (gi I 74 2)) 74 10 1) 74 11 (gi I 74 2)) 74 8 = 1 from ((gi_idx _ _ _ (by decide)).trans ((gi_idx _ _ _ (by decide)).trans ((gi_idx _ _ _ (by decide)).trans (gi_same _ _ _ (by decide)))))]
            refine st_if_le (tg := 238) (pc' := 232) dX12_library_229 (by decide) rfl (by decide) (fun c => ?_) (fun c => ?_)
            · exact absurd c (by decide)
            · refine st_aload_n (pc' := 233) dX12_library_232 rfl rfl (j := 0) rfl ?_
              refine st_iconst (pc' := 234) dX12_library_233 rfl ?_
              refine st_callV (pc' := 237) (kc := k - 1) (E' := LAY) (cal := m_X12_refuses) (n := 1) (as := [vI 1]) (S := []) dX12_library_234 rfl l_X12_279 k_X12_refuses rfl L_74 c_X12 rfl rfl (Nat.le_of_ble_eq_true rfl) (by omega) ⟨Nat.le_refl _, Nat.le_refl _, Nat.le_refl _, Nat.le_refl _⟩ (Q1 := fun r M' => WP k LAY m_X12_library 237 [(0, vR (some 74)), (1, vI x1)] (r.toList ++ []) M' Q) (WPm.of k_X12_refuses.1 (Nat.le_of_ble_eq_true rfl) (B_X12_refuses_0 (by omega) ?_)) (fun r M' q => q)
              refine ⟨by decide, ?_⟩
              change WP _ LAY m_X12_library 237 [(0, vR (some 74)), (1, vI x1)] [vI (-1)] (mem (P, some 5, some 22) (si (si (si (si (si I 74 8 1) 74 9 (gi I 74 2)) 74 10 1) 74 11 (gi I 74 2)) 107 1 ((gi (si (si (si (si I 74 8 1) 74 9 (gi I 74 2)) 74 10 1) 74 11 (gi I 74 2)) 107 1) + 1)) J) Q
              exact st_iret (ty := .int) dX12_library_237 rfl rfl rfl h
          · replace h := h.2 c
            change WP _ LAY m_X12_library 209 [(0, vR (some 74)), (1, vI x1)] [] (mem (P, some 5, some 22) I J) Q
            refine st_aload_n (pc' := 210) dX12_library_209 rfl rfl (j := 0) rfl ?_
            refine st_aload_n (pc' := 211) dX12_library_210 rfl rfl (j := 0) rfl ?_
            refine G_X12_36_74 dX12_library_211 (pc' := 214) rfl rfl ?_
            refine P_X12_42_74 dX12_library_214 (pc' := 217) rfl rfl ?_
            refine st_aload_n (pc' := 218) dX12_library_217 rfl rfl (j := 0) rfl ?_
            refine st_aload_n (pc' := 219) dX12_library_218 rfl rfl (j := 0) rfl ?_
            refine G_X12_39_74 dX12_library_219 (pc' := 222) rfl rfl ?_
            rw [show gi (si I 74 10 (gi I 74 8)) 74 9 = (gi I 74 9) from (gi_idx _ _ _ (by decide))]
            refine P_X12_45_74 dX12_library_222 (pc' := 225) rfl rfl ?_
            refine st_aload_n (pc' := 226) dX12_library_225 rfl rfl (j := 0) rfl ?_
            refine G_X12_36_74 dX12_library_226 (pc' := 229) rfl rfl ?_
            rw [show gi (si (si I 74 10 (gi I 74 8)) 74 11 (gi I 74 9)) 74 8 = (gi I 74 8) from ((gi_idx _ _ _ (by decide)).trans (gi_idx _ _ _ (by decide)))]
            refine st_if_le (tg := 238) (pc' := 232) dX12_library_229 (by decide) rfl (gi_in _ _ _) (fun c => ?_) (fun c => ?_)
            · replace h := h.1 c
              refine st_aload_n (pc' := 239) dX12_library_238 rfl rfl (j := 0) rfl ?_
              refine st_aload_n (pc' := 240) dX12_library_239 rfl rfl (j := 0) rfl ?_
              refine G_X12_133_74 dX12_library_240 (pc' := 243) rfl rfl ?_
              rw [show gi (si (si I 74 10 (gi I 74 8)) 74 11 (gi I 74 9)) 74 40 = (gi I 74 40) from ((gi_idx _ _ _ (by decide)).trans (gi_idx _ _ _ (by decide)))]
              refine P_X12_51_74 dX12_library_243 (pc' := 246) rfl rfl ?_
              refine st_aload_n (pc' := 247) dX12_library_246 rfl rfl (j := 0) rfl ?_
              refine st_callV (pc' := 250) (kc := k - 1) (E' := LAY) (cal := m_X12_begin) (n := 0) (as := []) (S := []) dX12_library_247 rfl l_X12_467 k_X12_begin rfl L_74 c_X12 rfl rfl (Nat.le_of_ble_eq_true rfl) (by omega) ⟨Nat.le_refl _, Nat.le_refl _, Nat.le_refl _, Nat.le_refl _⟩ h (fun r M' q => ?_)
              obtain ⟨I12, J13, rfl, rfl, h⟩ := q
              change WP _ LAY m_X12_library 250 [(0, vR (some 74)), (1, vI x1)] [] (mem (P, some 5, some 22) I12 J13) Q
              refine st_iload_n (pc' := 251) dX12_library_250 rfl rfl (j := 1) rfl ?_
              exact st_iret (ty := .int) dX12_library_251 rfl rfl rfl h
            · replace h := h.2 c
              refine st_aload_n (pc' := 233) dX12_library_232 rfl rfl (j := 0) rfl ?_
              refine st_iconst (pc' := 234) dX12_library_233 rfl ?_
              refine st_callV (pc' := 237) (kc := k - 1) (E' := LAY) (cal := m_X12_refuses) (n := 1) (as := [vI 1]) (S := []) dX12_library_234 rfl l_X12_279 k_X12_refuses rfl L_74 c_X12 rfl rfl (Nat.le_of_ble_eq_true rfl) (by omega) ⟨Nat.le_refl _, Nat.le_refl _, Nat.le_refl _, Nat.le_refl _⟩ (Q1 := fun r M' => WP k LAY m_X12_library 237 [(0, vR (some 74)), (1, vI x1)] (r.toList ++ []) M' Q) (WPm.of k_X12_refuses.1 (Nat.le_of_ble_eq_true rfl) (B_X12_refuses_0 (by omega) ?_)) (fun r M' q => q)
              refine ⟨by decide, ?_⟩
              change WP _ LAY m_X12_library 237 [(0, vR (some 74)), (1, vI x1)] [vI (-1)] (mem (P, some 5, some 22) (si (si (si I 74 10 (gi I 74 8)) 74 11 (gi I 74 9)) 107 1 ((gi (si (si I 74 10 (gi I 74 8)) 74 11 (gi I 74 9)) 107 1) + 1)) J) Q
              exact st_iret (ty := .int) dX12_library_237 rfl rfl rfl h
  · replace h := h.2 c
    refine st_aload_n (pc' := 148) dX12_library_147 rfl rfl (j := 0) rfl ?_
    refine G_X12_20_74 dX12_library_148 (pc' := 151) rfl rfl ?_
    refine st_if_eq (tg := 169) (pc' := 154) dX12_library_151 (by decide) rfl (gi_in _ _ _) (fun c => ?_) (fun c => ?_)
    · replace h := h.1 c
      refine st_aload_n (pc' := 170) dX12_library_169 rfl rfl (j := 0) rfl ?_
      refine G_X12_36_74 dX12_library_170 (pc' := 173) rfl rfl ?_
      refine st_if_ne (tg := 209) (pc' := 176) dX12_library_173 (by decide) rfl (gi_in _ _ _) (fun c => ?_) (fun c => ?_)
      · replace h := h.1 c
        refine st_aload_n (pc' := 210) dX12_library_209 rfl rfl (j := 0) rfl ?_
        refine st_aload_n (pc' := 211) dX12_library_210 rfl rfl (j := 0) rfl ?_
        refine G_X12_36_74 dX12_library_211 (pc' := 214) rfl rfl ?_
        refine P_X12_42_74 dX12_library_214 (pc' := 217) rfl rfl ?_
        refine st_aload_n (pc' := 218) dX12_library_217 rfl rfl (j := 0) rfl ?_
        refine st_aload_n (pc' := 219) dX12_library_218 rfl rfl (j := 0) rfl ?_
        refine G_X12_39_74 dX12_library_219 (pc' := 222) rfl rfl ?_
        rw [show gi (si I 74 10 (gi I 74 8)) 74 9 = (gi I 74 9) from (gi_idx _ _ _ (by decide))]
        refine P_X12_45_74 dX12_library_222 (pc' := 225) rfl rfl ?_
        refine st_aload_n (pc' := 226) dX12_library_225 rfl rfl (j := 0) rfl ?_
        refine G_X12_36_74 dX12_library_226 (pc' := 229) rfl rfl ?_
        rw [show gi (si (si I 74 10 (gi I 74 8)) 74 11 (gi I 74 9)) 74 8 = (gi I 74 8) from ((gi_idx _ _ _ (by decide)).trans (gi_idx _ _ _ (by decide)))]
        refine st_if_le (tg := 238) (pc' := 232) dX12_library_229 (by decide) rfl (gi_in _ _ _) (fun c => ?_) (fun c => ?_)
        · replace h := h.1 c
          refine st_aload_n (pc' := 239) dX12_library_238 rfl rfl (j := 0) rfl ?_
          refine st_aload_n (pc' := 240) dX12_library_239 rfl rfl (j := 0) rfl ?_
          refine G_X12_133_74 dX12_library_240 (pc' := 243) rfl rfl ?_
          rw [show gi (si (si I 74 10 (gi I 74 8)) 74 11 (gi I 74 9)) 74 40 = (gi I 74 40) from ((gi_idx _ _ _ (by decide)).trans (gi_idx _ _ _ (by decide)))]
          refine P_X12_51_74 dX12_library_243 (pc' := 246) rfl rfl ?_
          refine st_aload_n (pc' := 247) dX12_library_246 rfl rfl (j := 0) rfl ?_
          refine st_callV (pc' := 250) (kc := k - 1) (E' := LAY) (cal := m_X12_begin) (n := 0) (as := []) (S := []) dX12_library_247 rfl l_X12_467 k_X12_begin rfl L_74 c_X12 rfl rfl (Nat.le_of_ble_eq_true rfl) (by omega) ⟨Nat.le_refl _, Nat.le_refl _, Nat.le_refl _, Nat.le_refl _⟩ h (fun r M' q => ?_)
          obtain ⟨I15, J16, rfl, rfl, h⟩ := q
          change WP _ LAY m_X12_library 250 [(0, vR (some 74)), (1, vI x1)] [] (mem (P, some 5, some 22) I15 J16) Q
          refine st_iload_n (pc' := 251) dX12_library_250 rfl rfl (j := 1) rfl ?_
          exact st_iret (ty := .int) dX12_library_251 rfl rfl rfl h
        · replace h := h.2 c
          refine st_aload_n (pc' := 233) dX12_library_232 rfl rfl (j := 0) rfl ?_
          refine st_iconst (pc' := 234) dX12_library_233 rfl ?_
          refine st_callV (pc' := 237) (kc := k - 1) (E' := LAY) (cal := m_X12_refuses) (n := 1) (as := [vI 1]) (S := []) dX12_library_234 rfl l_X12_279 k_X12_refuses rfl L_74 c_X12 rfl rfl (Nat.le_of_ble_eq_true rfl) (by omega) ⟨Nat.le_refl _, Nat.le_refl _, Nat.le_refl _, Nat.le_refl _⟩ (Q1 := fun r M' => WP k LAY m_X12_library 237 [(0, vR (some 74)), (1, vI x1)] (r.toList ++ []) M' Q) (WPm.of k_X12_refuses.1 (Nat.le_of_ble_eq_true rfl) (B_X12_refuses_0 (by omega) ?_)) (fun r M' q => q)
          refine ⟨by decide, ?_⟩
          change WP _ LAY m_X12_library 237 [(0, vR (some 74)), (1, vI x1)] [vI (-1)] (mem (P, some 5, some 22) (si (si (si I 74 10 (gi I 74 8)) 74 11 (gi I 74 9)) 107 1 ((gi (si (si I 74 10 (gi I 74 8)) 74 11 (gi I 74 9)) 107 1) + 1)) J) Q
          exact st_iret (ty := .int) dX12_library_237 rfl rfl rfl h
      · replace h := h.2 c
        refine st_aload_n (pc' := 177) dX12_library_176 rfl rfl (j := 0) rfl ?_
        refine G_X12_75_74 dX12_library_177 (pc' := 180) rfl rfl ?_
        refine st_aload_n (pc' := 181) dX12_library_180 rfl rfl (j := 0) rfl ?_
        refine G_X12_133_74 dX12_library_181 (pc' := 184) rfl rfl ?_
        obtain ⟨e17, h⟩ := h
        refine st_iaload (pc' := 185) (v := (gi I 83 (gi I 74 40).toNat)) dX12_library_184 rfl L_83 (by decide) e17 (show gi I 83 (gi I 74 40).toNat = (gi I 83 (gi I 74 40).toNat) from rfl) ?_
        refine st_if_le (tg := 209) (pc' := 188) dX12_library_185 (by decide) rfl (gi_in _ _ _) (fun c => ?_) (fun c => ?_)
        · replace h := h.1 c
          refine st_aload_n (pc' := 210) dX12_library_209 rfl rfl (j := 0) rfl ?_
          refine st_aload_n (pc' := 211) dX12_library_210 rfl rfl (j := 0) rfl ?_
          refine G_X12_36_74 dX12_library_211 (pc' := 214) rfl rfl ?_
          refine P_X12_42_74 dX12_library_214 (pc' := 217) rfl rfl ?_
          refine st_aload_n (pc' := 218) dX12_library_217 rfl rfl (j := 0) rfl ?_
          refine st_aload_n (pc' := 219) dX12_library_218 rfl rfl (j := 0) rfl ?_
          refine G_X12_39_74 dX12_library_219 (pc' := 222) rfl rfl ?_
          rw [show gi (si I 74 10 (gi I 74 8)) 74 9 = (gi I 74 9) from (gi_idx _ _ _ (by decide))]
          refine P_X12_45_74 dX12_library_222 (pc' := 225) rfl rfl ?_
          refine st_aload_n (pc' := 226) dX12_library_225 rfl rfl (j := 0) rfl ?_
          refine G_X12_36_74 dX12_library_226 (pc' := 229) rfl rfl ?_
          rw [show gi (si (si I 74 10 (gi I 74 8)) 74 11 (gi I 74 9)) 74 8 = (gi I 74 8) from ((gi_idx _ _ _ (by decide)).trans (gi_idx _ _ _ (by decide)))]
          refine st_if_le (tg := 238) (pc' := 232) dX12_library_229 (by decide) rfl (gi_in _ _ _) (fun c => ?_) (fun c => ?_)
          · replace h := h.1 c
            refine st_aload_n (pc' := 239) dX12_library_238 rfl rfl (j := 0) rfl ?_
            refine st_aload_n (pc' := 240) dX12_library_239 rfl rfl (j := 0) rfl ?_
            refine G_X12_133_74 dX12_library_240 (pc' := 243) rfl rfl ?_
            rw [show gi (si (si I 74 10 (gi I 74 8)) 74 11 (gi I 74 9)) 74 40 = (gi I 74 40) from ((gi_idx _ _ _ (by decide)).trans (gi_idx _ _ _ (by decide)))]
            refine P_X12_51_74 dX12_library_243 (pc' := 246) rfl rfl ?_
            refine st_aload_n (pc' := 247) dX12_library_246 rfl rfl (j := 0) rfl ?_
            refine st_callV (pc' := 250) (kc := k - 1) (E' := LAY) (cal := m_X12_begin) (n := 0) (as := []) (S := []) dX12_library_247 rfl l_X12_467 k_X12_begin rfl L_74 c_X12 rfl rfl (Nat.le_of_ble_eq_true rfl) (by omega) ⟨Nat.le_refl _, Nat.le_refl _, Nat.le_refl _, Nat.le_refl _⟩ h (fun r M' q => ?_)
            obtain ⟨I19, J20, rfl, rfl, h⟩ := q
            change WP _ LAY m_X12_library 250 [(0, vR (some 74)), (1, vI x1)] [] (mem (P, some 5, some 22) I19 J20) Q
            refine st_iload_n (pc' := 251) dX12_library_250 rfl rfl (j := 1) rfl ?_
            exact st_iret (ty := .int) dX12_library_251 rfl rfl rfl h
          · replace h := h.2 c
            refine st_aload_n (pc' := 233) dX12_library_232 rfl rfl (j := 0) rfl ?_
            refine st_iconst (pc' := 234) dX12_library_233 rfl ?_
            refine st_callV (pc' := 237) (kc := k - 1) (E' := LAY) (cal := m_X12_refuses) (n := 1) (as := [vI 1]) (S := []) dX12_library_234 rfl l_X12_279 k_X12_refuses rfl L_74 c_X12 rfl rfl (Nat.le_of_ble_eq_true rfl) (by omega) ⟨Nat.le_refl _, Nat.le_refl _, Nat.le_refl _, Nat.le_refl _⟩ (Q1 := fun r M' => WP k LAY m_X12_library 237 [(0, vR (some 74)), (1, vI x1)] (r.toList ++ []) M' Q) (WPm.of k_X12_refuses.1 (Nat.le_of_ble_eq_true rfl) (B_X12_refuses_0 (by omega) ?_)) (fun r M' q => q)
            refine ⟨by decide, ?_⟩
            change WP _ LAY m_X12_library 237 [(0, vR (some 74)), (1, vI x1)] [vI (-1)] (mem (P, some 5, some 22) (si (si (si I 74 10 (gi I 74 8)) 74 11 (gi I 74 9)) 107 1 ((gi (si (si I 74 10 (gi I 74 8)) 74 11 (gi I 74 9)) 107 1) + 1)) J) Q
            exact st_iret (ty := .int) dX12_library_237 rfl rfl rfl h
        · replace h := h.2 c
          refine st_aload_n (pc' := 189) dX12_library_188 rfl rfl (j := 0) rfl ?_
          refine G_X12_84_74 dX12_library_189 (pc' := 192) rfl rfl ?_
          refine st_aload_n (pc' := 193) dX12_library_192 rfl rfl (j := 0) rfl ?_
          refine G_X12_133_74 dX12_library_193 (pc' := 196) rfl rfl ?_
          refine st_iaload (pc' := 197) (v := (gi I 86 (gi I 74 40).toNat)) dX12_library_196 rfl L_86 (by decide) e17 (show gi I 86 (gi I 74 40).toNat = (gi I 86 (gi I 74 40).toNat) from rfl) ?_
          refine st_if_ne (tg := 209) (pc' := 200) dX12_library_197 (by decide) rfl (gi_in _ _ _) (fun c => ?_) (fun c => ?_)
          · replace h := h.1 c
            refine st_aload_n (pc' := 210) dX12_library_209 rfl rfl (j := 0) rfl ?_
            refine st_aload_n (pc' := 211) dX12_library_210 rfl rfl (j := 0) rfl ?_
            refine G_X12_36_74 dX12_library_211 (pc' := 214) rfl rfl ?_
            refine P_X12_42_74 dX12_library_214 (pc' := 217) rfl rfl ?_
            refine st_aload_n (pc' := 218) dX12_library_217 rfl rfl (j := 0) rfl ?_
            refine st_aload_n (pc' := 219) dX12_library_218 rfl rfl (j := 0) rfl ?_
            refine G_X12_39_74 dX12_library_219 (pc' := 222) rfl rfl ?_
            rw [show gi (si I 74 10 (gi I 74 8)) 74 9 = (gi I 74 9) from (gi_idx _ _ _ (by decide))]
            refine P_X12_45_74 dX12_library_222 (pc' := 225) rfl rfl ?_
            refine st_aload_n (pc' := 226) dX12_library_225 rfl rfl (j := 0) rfl ?_
            refine G_X12_36_74 dX12_library_226 (pc' := 229) rfl rfl ?_
            rw [show gi (si (si I 74 10 (gi I 74 8)) 74 11 (gi I 74 9)) 74 8 = (gi I 74 8) from ((gi_idx _ _ _ (by decide)).trans (gi_idx _ _ _ (by decide)))]
            refine st_if_le (tg := 238) (pc' := 232) dX12_library_229 (by decide) rfl (gi_in _ _ _) (fun c => ?_) (fun c => ?_)
            · replace h := h.1 c
              refine st_aload_n (pc' := 239) dX12_library_238 rfl rfl (j := 0) rfl ?_
              refine st_aload_n (pc' := 240) dX12_library_239 rfl rfl (j := 0) rfl ?_
              refine G_X12_133_74 dX12_library_240 (pc' := 243) rfl rfl ?_
              rw [show gi (si (si I 74 10 (gi I 74 8)) 74 11 (gi I 74 9)) 74 40 = (gi I 74 40) from ((gi_idx _ _ _ (by decide)).trans (gi_idx _ _ _ (by decide)))]
              refine P_X12_51_74 dX12_library_243 (pc' := 246) rfl rfl ?_
              refine st_aload_n (pc' := 247) dX12_library_246 rfl rfl (j := 0) rfl ?_
              refine st_callV (pc' := 250) (kc := k - 1) (E' := LAY) (cal := m_X12_begin) (n := 0) (as := []) (S := []) dX12_library_247 rfl l_X12_467 k_X12_begin rfl L_74 c_X12 rfl rfl (Nat.le_of_ble_eq_true rfl) (by omega) ⟨Nat.le_refl _, Nat.le_refl _, Nat.le_refl _, Nat.le_refl _⟩ h (fun r M' q => ?_)
              obtain ⟨I22, J23, rfl, rfl, h⟩ := q
              change WP _ LAY m_X12_library 250 [(0, vR (some 74)), (1, vI x1)] [] (mem (P, some 5, some 22) I22 J23) Q
              refine st_iload_n (pc' := 251) dX12_library_250 rfl rfl (j := 1) rfl ?_
              exact st_iret (ty := .int) dX12_library_251 rfl rfl rfl h
            · replace h := h.2 c
              refine st_aload_n (pc' := 233) dX12_library_232 rfl rfl (j := 0) rfl ?_
              refine st_iconst (pc' := 234) dX12_library_233 rfl ?_
              refine st_callV (pc' := 237) (kc := k - 1) (E' := LAY) (cal := m_X12_refuses) (n := 1) (as := [vI 1]) (S := []) dX12_library_234 rfl l_X12_279 k_X12_refuses rfl L_74 c_X12 rfl rfl (Nat.le_of_ble_eq_true rfl) (by omega) ⟨Nat.le_refl _, Nat.le_refl _, Nat.le_refl _, Nat.le_refl _⟩ (Q1 := fun r M' => WP k LAY m_X12_library 237 [(0, vR (some 74)), (1, vI x1)] (r.toList ++ []) M' Q) (WPm.of k_X12_refuses.1 (Nat.le_of_ble_eq_true rfl) (B_X12_refuses_0 (by omega) ?_)) (fun r M' q => q)
              refine ⟨by decide, ?_⟩
              change WP _ LAY m_X12_library 237 [(0, vR (some 74)), (1, vI x1)] [vI (-1)] (mem (P, some 5, some 22) (si (si (si I 74 10 (gi I 74 8)) 74 11 (gi I 74 9)) 107 1 ((gi (si (si I 74 10 (gi I 74 8)) 74 11 (gi I 74 9)) 107 1) + 1)) J) Q
              exact st_iret (ty := .int) dX12_library_237 rfl rfl rfl h
          · replace h := h.2 c
            refine st_aload_n (pc' := 201) dX12_library_200 rfl rfl (j := 0) rfl ?_
            refine st_iconst (pc' := 202) dX12_library_201 rfl ?_
            refine st_aload_n (pc' := 203) dX12_library_202 rfl rfl (j := 0) rfl ?_
            refine G_X12_17_74 dX12_library_203 (pc' := 206) rfl rfl ?_
            refine st_callV (pc' := 209) (kc := k - 1) (E' := LAY) (cal := m_X12_blame) (n := 2) (as := [vI 1, vI (gi I 74 2)]) (S := []) dX12_library_206 rfl l_X12_287 k_X12_blame rfl L_74 c_X12 rfl rfl (Nat.le_of_ble_eq_true rfl) (by omega) ⟨Nat.le_refl _, Nat.le_refl _, Nat.le_refl _, Nat.le_refl _⟩ (Q1 := fun r M' => WP k LAY m_X12_library 209 [(0, vR (some 74)), (1, vI x1)] (r.toList ++ []) M' Q) (WPm.of k_X12_blame.1 (Nat.le_of_ble_eq_true rfl) (B_X12_blame_0 (by omega) ?_)) (fun r M' q => q)
            refine ⟨fun c => ?_, fun c => ?_⟩
            · replace h := h.1 c
              change WP _ LAY m_X12_library 209 [(0, vR (some 74)), (1, vI x1)] [] (mem (P, some 5, some 22) (si (si I 74 8 1) 74 9 (gi I 74 2)) J) Q
              refine st_aload_n (pc' := 210) dX12_library_209 rfl rfl (j := 0) rfl ?_
              refine st_aload_n (pc' := 211) dX12_library_210 rfl rfl (j := 0) rfl ?_
              refine G_X12_36_74 dX12_library_211 (pc' := 214) rfl rfl ?_
              rw [show gi (si (si I 74 8 1) 74 9 (gi I 74 2)) 74 8 = 1 from ((gi_idx _ _ _ (by decide)).trans (gi_same _ _ _ (by decide)))]
              refine P_X12_42_74 dX12_library_214 (pc' := 217) rfl rfl ?_
              refine st_aload_n (pc' := 218) dX12_library_217 rfl rfl (j := 0) rfl ?_
              refine st_aload_n (pc' := 219) dX12_library_218 rfl rfl (j := 0) rfl ?_
              refine G_X12_39_74 dX12_library_219 (pc' := 222) rfl rfl ?_
              rw [show gi (si (si (si I 74 8 1) 74 9 (gi I 74 2)) 74 10 1) 74 9 = (gi I 74 2) from ((gi_idx _ _ _ (by decide)).trans (gi_same _ _ _ (gi_in _ _ _)))]
              refine P_X12_45_74 dX12_library_222 (pc' := 225) rfl rfl ?_
              refine st_aload_n (pc' := 226) dX12_library_225 rfl rfl (j := 0) rfl ?_
              refine G_X12_36_74 dX12_library_226 (pc' := 229) rfl rfl ?_
              rw [show gi (si (si (si (si I 74 8 1) 74 9 (gi I 74 2)) 74 10 1) 74 11 (gi I 74 2)) 74 8 = 1 from ((gi_idx _ _ _ (by decide)).trans ((gi_idx _ _ _ (by decide)).trans ((gi_idx _ _ _ (by decide)).trans (gi_same _ _ _ (by decide)))))]
              refine st_if_le (tg := 238) (pc' := 232) dX12_library_229 (by decide) rfl (by decide) (fun c => ?_) (fun c => ?_)
              · exact absurd c (by decide)
              · refine st_aload_n (pc' := 233) dX12_library_232 rfl rfl (j := 0) rfl ?_
                refine st_iconst (pc' := 234) dX12_library_233 rfl ?_
                refine st_callV (pc' := 237) (kc := k - 1) (E' := LAY) (cal := m_X12_refuses) (n := 1) (as := [vI 1]) (S := []) dX12_library_234 rfl l_X12_279 k_X12_refuses rfl L_74 c_X12 rfl rfl (Nat.le_of_ble_eq_true rfl) (by omega) ⟨Nat.le_refl _, Nat.le_refl _, Nat.le_refl _, Nat.le_refl _⟩ (Q1 := fun r M' => WP k LAY m_X12_library 237 [(0, vR (some 74)), (1, vI x1)] (r.toList ++ []) M' Q) (WPm.of k_X12_refuses.1 (Nat.le_of_ble_eq_true rfl) (B_X12_refuses_0 (by omega) ?_)) (fun r M' q => q)
                refine ⟨by decide, ?_⟩
                change WP _ LAY m_X12_library 237 [(0, vR (some 74)), (1, vI x1)] [vI (-1)] (mem (P, some 5, some 22) (si (si (si (si (si I 74 8 1) 74 9 (gi I 74 2)) 74 10 1) 74 11 (gi I 74 2)) 107 1 ((gi (si (si (si (si I 74 8 1) 74 9 (gi I 74 2)) 74 10 1) 74 11 (gi I 74 2)) 107 1) + 1)) J) Q
                exact st_iret (ty := .int) dX12_library_237 rfl rfl rfl h
            · replace h := h.2 c
              change WP _ LAY m_X12_library 209 [(0, vR (some 74)), (1, vI x1)] [] (mem (P, some 5, some 22) I J) Q
              refine st_aload_n (pc' := 210) dX12_library_209 rfl rfl (j := 0) rfl ?_
              refine st_aload_n (pc' := 211) dX12_library_210 rfl rfl (j := 0) rfl ?_
              refine G_X12_36_74 dX12_library_211 (pc' := 214) rfl rfl ?_
              refine P_X12_42_74 dX12_library_214 (pc' := 217) rfl rfl ?_
              refine st_aload_n (pc' := 218) dX12_library_217 rfl rfl (j := 0) rfl ?_
              refine st_aload_n (pc' := 219) dX12_library_218 rfl rfl (j := 0) rfl ?_
              refine G_X12_39_74 dX12_library_219 (pc' := 222) rfl rfl ?_
              rw [show gi (si I 74 10 (gi I 74 8)) 74 9 = (gi I 74 9) from (gi_idx _ _ _ (by decide))]
              refine P_X12_45_74 dX12_library_222 (pc' := 225) rfl rfl ?_
              refine st_aload_n (pc' := 226) dX12_library_225 rfl rfl (j := 0) rfl ?_
              refine G_X12_36_74 dX12_library_226 (pc' := 229) rfl rfl ?_
              rw [show gi (si (si I 74 10 (gi I 74 8)) 74 11 (gi I 74 9)) 74 8 = (gi I 74 8) from ((gi_idx _ _ _ (by decide)).trans (gi_idx _ _ _ (by decide)))]
              refine st_if_le (tg := 238) (pc' := 232) dX12_library_229 (by decide) rfl (gi_in _ _ _) (fun c => ?_) (fun c => ?_)
              · replace h := h.1 c
                refine st_aload_n (pc' := 239) dX12_library_238 rfl rfl (j := 0) rfl ?_
                refine st_aload_n (pc' := 240) dX12_library_239 rfl rfl (j := 0) rfl ?_
                refine G_X12_133_74 dX12_library_240 (pc' := 243) rfl rfl ?_
                rw [show gi (si (si I 74 10 (gi I 74 8)) 74 11 (gi I 74 9)) 74 40 = (gi I 74 40) from ((gi_idx _ _ _ (by decide)).trans (gi_idx _ _ _ (by decide)))]
                refine P_X12_51_74 dX12_library_243 (pc' := 246) rfl rfl ?_
                refine st_aload_n (pc' := 247) dX12_library_246 rfl rfl (j := 0) rfl ?_
                refine st_callV (pc' := 250) (kc := k - 1) (E' := LAY) (cal := m_X12_begin) (n := 0) (as := []) (S := []) dX12_library_247 rfl l_X12_467 k_X12_begin rfl L_74 c_X12 rfl rfl (Nat.le_of_ble_eq_true rfl) (by omega) ⟨Nat.le_refl _, Nat.le_refl _, Nat.le_refl _, Nat.le_refl _⟩ h (fun r M' q => ?_)
                obtain ⟨I25, J26, rfl, rfl, h⟩ := q
                change WP _ LAY m_X12_library 250 [(0, vR (some 74)), (1, vI x1)] [] (mem (P, some 5, some 22) I25 J26) Q
                refine st_iload_n (pc' := 251) dX12_library_250 rfl rfl (j := 1) rfl ?_
                exact st_iret (ty := .int) dX12_library_251 rfl rfl rfl h
              · replace h := h.2 c
                refine st_aload_n (pc' := 233) dX12_library_232 rfl rfl (j := 0) rfl ?_
                refine st_iconst (pc' := 234) dX12_library_233 rfl ?_
                refine st_callV (pc' := 237) (kc := k - 1) (E' := LAY) (cal := m_X12_refuses) (n := 1) (as := [vI 1]) (S := []) dX12_library_234 rfl l_X12_279 k_X12_refuses rfl L_74 c_X12 rfl rfl (Nat.le_of_ble_eq_true rfl) (by omega) ⟨Nat.le_refl _, Nat.le_refl _, Nat.le_refl _, Nat.le_refl _⟩ (Q1 := fun r M' => WP k LAY m_X12_library 237 [(0, vR (some 74)), (1, vI x1)] (r.toList ++ []) M' Q) (WPm.of k_X12_refuses.1 (Nat.le_of_ble_eq_true rfl) (B_X12_refuses_0 (by omega) ?_)) (fun r M' q => q)
                refine ⟨by decide, ?_⟩
                change WP _ LAY m_X12_library 237 [(0, vR (some 74)), (1, vI x1)] [vI (-1)] (mem (P, some 5, some 22) (si (si (si I 74 10 (gi I 74 8)) 74 11 (gi I 74 9)) 107 1 ((gi (si (si I 74 10 (gi I 74 8)) 74 11 (gi I 74 9)) 107 1) + 1)) J) Q
                exact st_iret (ty := .int) dX12_library_237 rfl rfl rfl h
    · replace h := h.2 c
      refine st_aload_n (pc' := 155) dX12_library_154 rfl rfl (j := 0) rfl ?_
      refine st_callV (pc' := 158) (kc := k - 1) (E' := LAY) (cal := m_X12_statement) (n := 0) (as := []) (S := []) dX12_library_155 rfl l_X12_461 k_X12_statement rfl L_74 c_X12 rfl rfl (Nat.le_of_ble_eq_true rfl) (by omega) ⟨Nat.le_refl _, Nat.le_refl _, Nat.le_refl _, Nat.le_refl _⟩ h (fun r M' q => ?_)
      obtain ⟨I28, J29, rfl, rfl, h⟩ := q
      change WP _ LAY m_X12_library 158 [(0, vR (some 74)), (1, vI x1)] [] (mem (P, some 5, some 22) I28 J29) Q
      refine st_iinc (pc' := 161) (L' := [(1, vI (x1 + 1)), (0, vR (some 74))]) (j := 1) dX12_library_158 rfl (by decide) rfl rfl ?_
      refine st_aload_n (pc' := 162) dX12_library_161 rfl rfl (j := 1) rfl ?_
      refine st_iload_n (pc' := 163) dX12_library_162 rfl rfl (j := 0) rfl ?_
      refine st_callV (pc' := 166) (kc := k - 1) (E' := LAY) (cal := m_X12_finishes) (n := 1) (as := [vI (x1 + 1)]) (S := []) dX12_library_163 rfl l_X12_464 k_X12_finishes rfl L_74 c_X12 rfl rfl (Nat.le_of_ble_eq_true rfl) (by omega) ⟨Nat.le_refl _, Nat.le_refl _, Nat.le_refl _, Nat.le_refl _⟩ h (fun r M' q => ?_)
      obtain ⟨I31, J32, rfl, rfl, h⟩ := q
      change WP _ LAY m_X12_library 166 [(1, vI (x1 + 1)), (0, vR (some 74))] [] (mem (P, some 5, some 22) I31 J32) Q
      refine st_goto (pc' := 140) dX12_library_166 (by decide) ?_
      refine WP_sub (L' := [(0, vR (some 74)), (1, vI (x1 + 1))]) [1, 0] rfl ?_
      exact h
set_option maxRecDepth 20000 in
set_option maxHeartbeats 4000000 in
theorem B_X12_list_0 {k : Nat} {P : Option Nat} {I : Nat → Nat → Int32} {J : Nat → Nat → Int64} {x1 : Int} {x2 : Int} {Q : Option AV → Mem → Prop} (hk : 1 ≤ k) (h : (0 ≤ (gi I 74 13) ∧ (gi I 74 13) < 2) ∧ (inR x1 ∧ ((¬ (0 ≤ x1 ∧ x1 < gi I 83 (gi I 74 13).toNat) → (Q (some (vI 0)) (mem (P, some 5, some 22) (si I 107 2 ((gi I 107 2) + 1)) J))) ∧ ((0 ≤ x1 ∧ x1 < gi I 83 (gi I 74 13).toNat) → (inR x2 ∧ ((¬ (0 ≤ x2 ∧ x2 < gi I 77 (gi I 74 13).toNat) → (Q (some (vI 0)) (mem (P, some 5, some 22) (si I 107 2 ((gi I 107 2) + 1)) J))) ∧ ((0 ≤ x2 ∧ x2 < gi I 77 (gi I 74 13).toNat) → ((0 ≤ ((6 * 0) + x1) ∧ ((6 * 0) + x1) < 132) ∧ (((and32 (shr32 (or32 (gi I 111 (((6 * 0) + x1) : Int).toNat) (gi I 112 (((6 * 0) + x1) : Int).toNat)) x2) 1 = 1) → (Q (some (vI 0)) (mem (P, some 5, some 22) (si I 107 2 ((gi I 107 2) + 1)) J))) ∧ (¬ (and32 (shr32 (or32 (gi I 111 (((6 * 0) + x1) : Int).toNat) (gi I 112 (((6 * 0) + x1) : Int).toNat)) x2) 1 = 1) → (WPm (k - 1) LAY m_X12_isListed [vR (some 74), vI 0, vI x1, vI x2] (mem (P, some 5, some 22) I J) (retI (fun v5 I6 J7 => inR v5 ∧ ((¬ v5 = 0 → (Q (some (vI 0)) (mem (P, some 5, some 22) (si I6 107 2 ((gi I6 107 2) + 1)) J7))) ∧ (v5 = 0 → ((0 ≤ x1 ∧ x1 < 132) ∧ ((8 ≤ (gi I6 115 (x1).toNat) → (Q (some (vI 0)) (mem (P, some 5, some 22) (si I6 107 2 ((gi I6 107 2) + 1)) J7))) ∧ (¬ 8 ≤ (gi I6 115 (x1).toNat) → (WPm (k - 1) LAY m_X12_keeps [vR (some 74)] (mem (P, some 5, some 22) I6 J7) (retV (fun I11 J12 => (0 ≤ ((8 * x1) + (gi I11 115 (x1).toNat)) ∧ ((8 * x1) + (gi I11 115 (x1).toNat)) < 1056) ∧ (Q (some (vI 1)) (mem (P, some 5, some 22) (si (si I11 116 (((8 * x1) + (gi I11 115 (x1).toNat)) : Int).toNat x2) 115 (x1).toNat ((gi I11 115 (x1).toNat) + 1)) J12))) (P, some 5, some 22))))))))) (P, some 5, some 22))))))))))))) : WP k LAY m_X12_list 0 [(0, vR (some 74)), (1, vI x1), (2, vI x2)] [] (mem (P, some 5, some 22) I J) Q := by
  refine st_aload_n (pc' := 1) dX12_list_0 rfl rfl (j := 0) rfl ?_
  refine st_iload_n (pc' := 2) dX12_list_1 rfl rfl (j := 1) rfl ?_
  obtain ⟨e1, h⟩ := h
  obtain ⟨e2, h⟩ := h
  refine st_callV (pc' := 5) (kc := k - 1) (E' := LAY) (cal := m_X12_isReader) (n := 1) (as := [vI x1]) (S := []) dX12_list_2 rfl l_X12_562 k_X12_isReader rfl L_74 c_X12 rfl rfl (Nat.le_of_ble_eq_true rfl) (by omega) ⟨Nat.le_refl _, Nat.le_refl _, Nat.le_refl _, Nat.le_refl _⟩ (Q1 := fun r M' => WP k LAY m_X12_list 5 [(0, vR (some 74)), (1, vI x1), (2, vI x2)] (r.toList ++ []) M' Q) (S_X12_isReader (by omega) e1 e2 ?_) (fun r M' q => q)
  change WP _ LAY m_X12_list 5 [(0, vR (some 74)), (1, vI x1), (2, vI x2)] [vI (b2i (0 ≤ x1 ∧ x1 < gi I 83 (gi I 74 13).toNat))] (mem (P, some 5, some 22) I J) Q
  refine st_if_eq (tg := 54) (pc' := 8) dX12_list_5 (by decide) rfl (b2i_in _) (fun c => ?_) (fun c => ?_)
  · replace h := h.1 (b2i_f.mp c)
    refine st_iconst (pc' := 55) dX12_list_54 rfl ?_
    refine st_istore_n (pc' := 56) (L' := [(3, vI 0), (0, vR (some 74)), (1, vI x1), (2, vI x2)]) dX12_list_55 rfl rfl (by decide) rfl ?_
    refine st_iload_n (pc' := 57) dX12_list_56 rfl rfl (j := 0) rfl ?_
    refine st_if_ne (tg := 74) (pc' := 60) dX12_list_57 (by decide) rfl (by decide) (fun c => ?_) (fun c => ?_)
    · exact absurd c (by decide)
    · refine st_aload_n (pc' := 61) dX12_list_60 rfl rfl (j := 1) rfl ?_
      refine st_iconst (pc' := 62) dX12_list_61 rfl ?_
      refine st_callV (pc' := 65) (kc := k - 1) (E' := LAY) (cal := m_X12_refuses) (n := 1) (as := [vI 2]) (S := []) dX12_list_62 rfl l_X12_279 k_X12_refuses rfl L_74 c_X12 rfl rfl (Nat.le_of_ble_eq_true rfl) (by omega) ⟨Nat.le_refl _, Nat.le_refl _, Nat.le_refl _, Nat.le_refl _⟩ (Q1 := fun r M' => WP k LAY m_X12_list 65 [(3, vI 0), (0, vR (some 74)), (1, vI x1), (2, vI x2)] (r.toList ++ []) M' Q) (WPm.of k_X12_refuses.1 (Nat.le_of_ble_eq_true rfl) (B_X12_refuses_0 (by omega) ?_)) (fun r M' q => q)
      refine ⟨by decide, ?_⟩
      change WP _ LAY m_X12_list 65 [(3, vI 0), (0, vR (some 74)), (1, vI x1), (2, vI x2)] [vI (-1)] (mem (P, some 5, some 22) (si I 107 2 ((gi I 107 2) + 1)) J) Q
      refine st_if_lt (tg := 72) (pc' := 68) dX12_list_65 (by decide) rfl (by decide) (fun c => ?_) (fun c => ?_)
      · refine st_iconst (pc' := 73) dX12_list_72 rfl ?_
        exact st_iret (ty := .boolean) dX12_list_73 rfl (by decide) rfl h
      · exact absurd c (by decide)
  · replace h := h.2 (b2i_t.mp c)
    refine st_aload_n (pc' := 9) dX12_list_8 rfl rfl (j := 0) rfl ?_
    refine st_iload_n (pc' := 10) dX12_list_9 rfl rfl (j := 2) rfl ?_
    obtain ⟨e3, h⟩ := h
    refine st_callV (pc' := 13) (kc := k - 1) (E' := LAY) (cal := m_X12_isPage) (n := 1) (as := [vI x2]) (S := []) dX12_list_10 rfl l_X12_556 k_X12_isPage rfl L_74 c_X12 rfl rfl (Nat.le_of_ble_eq_true rfl) (by omega) ⟨Nat.le_refl _, Nat.le_refl _, Nat.le_refl _, Nat.le_refl _⟩ (Q1 := fun r M' => WP k LAY m_X12_list 13 [(0, vR (some 74)), (1, vI x1), (2, vI x2)] (r.toList ++ []) M' Q) (S_X12_isPage (by omega) e1 e3 ?_) (fun r M' q => q)
    change WP _ LAY m_X12_list 13 [(0, vR (some 74)), (1, vI x1), (2, vI x2)] [vI (b2i (0 ≤ x2 ∧ x2 < gi I 77 (gi I 74 13).toNat))] (mem (P, some 5, some 22) I J) Q
    refine st_if_eq (tg := 54) (pc' := 16) dX12_list_13 (by decide) rfl (b2i_in _) (fun c => ?_) (fun c => ?_)
    · replace h := h.1 (b2i_f.mp c)
      refine st_iconst (pc' := 55) dX12_list_54 rfl ?_
      refine st_istore_n (pc' := 56) (L' := [(3, vI 0), (0, vR (some 74)), (1, vI x1), (2, vI x2)]) dX12_list_55 rfl rfl (by decide) rfl ?_
      refine st_iload_n (pc' := 57) dX12_list_56 rfl rfl (j := 0) rfl ?_
      refine st_if_ne (tg := 74) (pc' := 60) dX12_list_57 (by decide) rfl (by decide) (fun c => ?_) (fun c => ?_)
      · exact absurd c (by decide)
      · refine st_aload_n (pc' := 61) dX12_list_60 rfl rfl (j := 1) rfl ?_
        refine st_iconst (pc' := 62) dX12_list_61 rfl ?_
        refine st_callV (pc' := 65) (kc := k - 1) (E' := LAY) (cal := m_X12_refuses) (n := 1) (as := [vI 2]) (S := []) dX12_list_62 rfl l_X12_279 k_X12_refuses rfl L_74 c_X12 rfl rfl (Nat.le_of_ble_eq_true rfl) (by omega) ⟨Nat.le_refl _, Nat.le_refl _, Nat.le_refl _, Nat.le_refl _⟩ (Q1 := fun r M' => WP k LAY m_X12_list 65 [(3, vI 0), (0, vR (some 74)), (1, vI x1), (2, vI x2)] (r.toList ++ []) M' Q) (WPm.of k_X12_refuses.1 (Nat.le_of_ble_eq_true rfl) (B_X12_refuses_0 (by omega) ?_)) (fun r M' q => q)
        refine ⟨by decide, ?_⟩
        change WP _ LAY m_X12_list 65 [(3, vI 0), (0, vR (some 74)), (1, vI x1), (2, vI x2)] [vI (-1)] (mem (P, some 5, some 22) (si I 107 2 ((gi I 107 2) + 1)) J) Q
        refine st_if_lt (tg := 72) (pc' := 68) dX12_list_65 (by decide) rfl (by decide) (fun c => ?_) (fun c => ?_)
        · refine st_iconst (pc' := 73) dX12_list_72 rfl ?_
          exact st_iret (ty := .boolean) dX12_list_73 rfl (by decide) rfl h
        · exact absurd c (by decide)
    · replace h := h.2 (b2i_t.mp c)
      refine st_aload_n (pc' := 17) dX12_list_16 rfl rfl (j := 0) rfl ?_
      refine st_iconst (pc' := 18) dX12_list_17 rfl ?_
      refine st_iload_n (pc' := 19) dX12_list_18 rfl rfl (j := 1) rfl ?_
      refine st_callV (pc' := 22) (kc := k - 1) (E' := LAY) (cal := m_X12_known) (n := 2) (as := [vI 0, vI x1]) (S := []) dX12_list_19 rfl l_X12_473 k_X12_known rfl L_74 c_X12 rfl rfl (Nat.le_of_ble_eq_true rfl) (by omega) ⟨Nat.le_refl _, Nat.le_refl _, Nat.le_refl _, Nat.le_refl _⟩ (Q1 := fun r M' => WP k LAY m_X12_list 22 [(0, vR (some 74)), (1, vI x1), (2, vI x2)] (r.toList ++ []) M' Q) (WPm.of k_X12_known.1 (Nat.le_of_ble_eq_true rfl) (B_X12_known_0 (by omega) ?_)) (fun r M' q => q)
      obtain ⟨e4, h⟩ := h
      refine ⟨e4, ?_⟩
      change WP _ LAY m_X12_list 22 [(0, vR (some 74)), (1, vI x1), (2, vI x2)] [vI (or32 (gi I 111 (((6 * 0) + x1) : Int).toNat) (gi I 112 (((6 * 0) + x1) : Int).toNat))] (mem (P, some 5, some 22) I J) Q
      refine st_iload_n (pc' := 23) dX12_list_22 rfl rfl (j := 2) rfl ?_
      refine st_callS (pc' := 26) (kc := k - 1) (E' := LAY) (cal := m_X12_has) (n := 2) (as := [vI (or32 (gi I 111 (((6 * 0) + x1) : Int).toNat) (gi I 112 (((6 * 0) + x1) : Int).toNat)), vI x2]) (S := []) dX12_list_23 rfl l_X12_552 k_X12_has rfl rfl (Nat.le_of_ble_eq_true rfl) (by omega) ⟨Nat.le_refl _, Nat.le_refl _, Nat.le_refl _, Nat.le_refl _⟩ (Q1 := fun r M' => WP k LAY m_X12_list 26 [(0, vR (some 74)), (1, vI x1), (2, vI x2)] (r.toList ++ []) M' Q) (S_X12_has (by omega)  ?_) (fun r M' q => q)
      change WP _ LAY m_X12_list 26 [(0, vR (some 74)), (1, vI x1), (2, vI x2)] [vI (b2i (and32 (shr32 (or32 (gi I 111 (((6 * 0) + x1) : Int).toNat) (gi I 112 (((6 * 0) + x1) : Int).toNat)) x2) 1 = 1))] (mem (P, some 5, some 22) I J) Q
      refine st_if_ne (tg := 54) (pc' := 29) dX12_list_26 (by decide) rfl (b2i_in _) (fun c => ?_) (fun c => ?_)
      · replace h := h.1 (b2i_t.mp c)
        refine st_iconst (pc' := 55) dX12_list_54 rfl ?_
        refine st_istore_n (pc' := 56) (L' := [(3, vI 0), (0, vR (some 74)), (1, vI x1), (2, vI x2)]) dX12_list_55 rfl rfl (by decide) rfl ?_
        refine st_iload_n (pc' := 57) dX12_list_56 rfl rfl (j := 0) rfl ?_
        refine st_if_ne (tg := 74) (pc' := 60) dX12_list_57 (by decide) rfl (by decide) (fun c => ?_) (fun c => ?_)
        · exact absurd c (by decide)
        · refine st_aload_n (pc' := 61) dX12_list_60 rfl rfl (j := 1) rfl ?_
          refine st_iconst (pc' := 62) dX12_list_61 rfl ?_
          refine st_callV (pc' := 65) (kc := k - 1) (E' := LAY) (cal := m_X12_refuses) (n := 1) (as := [vI 2]) (S := []) dX12_list_62 rfl l_X12_279 k_X12_refuses rfl L_74 c_X12 rfl rfl (Nat.le_of_ble_eq_true rfl) (by omega) ⟨Nat.le_refl _, Nat.le_refl _, Nat.le_refl _, Nat.le_refl _⟩ (Q1 := fun r M' => WP k LAY m_X12_list 65 [(3, vI 0), (0, vR (some 74)), (1, vI x1), (2, vI x2)] (r.toList ++ []) M' Q) (WPm.of k_X12_refuses.1 (Nat.le_of_ble_eq_true rfl) (B_X12_refuses_0 (by omega) ?_)) (fun r M' q => q)
          refine ⟨by decide, ?_⟩
          change WP _ LAY m_X12_list 65 [(3, vI 0), (0, vR (some 74)), (1, vI x1), (2, vI x2)] [vI (-1)] (mem (P, some 5, some 22) (si I 107 2 ((gi I 107 2) + 1)) J) Q
          refine st_if_lt (tg := 72) (pc' := 68) dX12_list_65 (by decide) rfl (by decide) (fun c => ?_) (fun c => ?_)
          · refine st_iconst (pc' := 73) dX12_list_72 rfl ?_
            exact st_iret (ty := .boolean) dX12_list_73 rfl (by decide) rfl h
          · exact absurd c (by decide)
      · replace h := h.2 (b2i_f.mp c)
        refine st_aload_n (pc' := 30) dX12_list_29 rfl rfl (j := 0) rfl ?_
        refine st_iconst (pc' := 31) dX12_list_30 rfl ?_
        refine st_iload_n (pc' := 32) dX12_list_31 rfl rfl (j := 1) rfl ?_
        refine st_iload_n (pc' := 33) dX12_list_32 rfl rfl (j := 2) rfl ?_
        refine st_callV (pc' := 36) (kc := k - 1) (E' := LAY) (cal := m_X12_isListed) (n := 3) (as := [vI 0, vI x1, vI x2]) (S := []) dX12_list_33 rfl l_X12_575 k_X12_isListed rfl L_74 c_X12 rfl rfl (Nat.le_of_ble_eq_true rfl) (by omega) ⟨Nat.le_refl _, Nat.le_refl _, Nat.le_refl _, Nat.le_refl _⟩ h (fun r M' q => ?_)
        obtain ⟨v5, I6, J7, rfl, rfl, h⟩ := q
        change WP _ LAY m_X12_list 36 [(0, vR (some 74)), (1, vI x1), (2, vI x2)] [vI v5] (mem (P, some 5, some 22) I6 J7) Q
        obtain ⟨e8, h⟩ := h
        refine st_if_ne (tg := 54) (pc' := 39) dX12_list_36 (by decide) rfl e8 (fun c => ?_) (fun c => ?_)
        · replace h := h.1 c
          refine st_iconst (pc' := 55) dX12_list_54 rfl ?_
          refine st_istore_n (pc' := 56) (L' := [(3, vI 0), (0, vR (some 74)), (1, vI x1), (2, vI x2)]) dX12_list_55 rfl rfl (by decide) rfl ?_
          refine st_iload_n (pc' := 57) dX12_list_56 rfl rfl (j := 0) rfl ?_
          refine st_if_ne (tg := 74) (pc' := 60) dX12_list_57 (by decide) rfl (by decide) (fun c => ?_) (fun c => ?_)
          · exact absurd c (by decide)
          · refine st_aload_n (pc' := 61) dX12_list_60 rfl rfl (j := 1) rfl ?_
            refine st_iconst (pc' := 62) dX12_list_61 rfl ?_
            refine st_callV (pc' := 65) (kc := k - 1) (E' := LAY) (cal := m_X12_refuses) (n := 1) (as := [vI 2]) (S := []) dX12_list_62 rfl l_X12_279 k_X12_refuses rfl L_74 c_X12 rfl rfl (Nat.le_of_ble_eq_true rfl) (by omega) ⟨Nat.le_refl _, Nat.le_refl _, Nat.le_refl _, Nat.le_refl _⟩ (Q1 := fun r M' => WP k LAY m_X12_list 65 [(3, vI 0), (0, vR (some 74)), (1, vI x1), (2, vI x2)] (r.toList ++ []) M' Q) (WPm.of k_X12_refuses.1 (Nat.le_of_ble_eq_true rfl) (B_X12_refuses_0 (by omega) ?_)) (fun r M' q => q)
            refine ⟨by decide, ?_⟩
            change WP _ LAY m_X12_list 65 [(3, vI 0), (0, vR (some 74)), (1, vI x1), (2, vI x2)] [vI (-1)] (mem (P, some 5, some 22) (si I6 107 2 ((gi I6 107 2) + 1)) J7) Q
            refine st_if_lt (tg := 72) (pc' := 68) dX12_list_65 (by decide) rfl (by decide) (fun c => ?_) (fun c => ?_)
            · refine st_iconst (pc' := 73) dX12_list_72 rfl ?_
              exact st_iret (ty := .boolean) dX12_list_73 rfl (by decide) rfl h
            · exact absurd c (by decide)
        · replace h := h.2 c
          refine st_aload_n (pc' := 40) dX12_list_39 rfl rfl (j := 0) rfl ?_
          refine G_X12_192_74 dX12_list_40 (pc' := 43) rfl rfl ?_
          refine st_iload_n (pc' := 44) dX12_list_43 rfl rfl (j := 1) rfl ?_
          obtain ⟨e9, h⟩ := h
          refine st_iaload (pc' := 45) (v := (gi I6 115 (x1).toNat)) dX12_list_44 rfl L_115 (by decide) e9 (show gi I6 115 (x1).toNat = (gi I6 115 (x1).toNat) from rfl) ?_
          refine st_bipush (pc' := 47) dX12_list_45 rfl (by decide) ?_
          refine st_icmp_ge (tg := 54) (pc' := 50) dX12_list_47 (by decide) rfl (gi_in _ _ _) (by decide) (fun c => ?_) (fun c => ?_)
          · replace h := h.1 c
            refine st_iconst (pc' := 55) dX12_list_54 rfl ?_
            refine st_istore_n (pc' := 56) (L' := [(3, vI 0), (0, vR (some 74)), (1, vI x1), (2, vI x2)]) dX12_list_55 rfl rfl (by decide) rfl ?_
            refine st_iload_n (pc' := 57) dX12_list_56 rfl rfl (j := 0) rfl ?_
            refine st_if_ne (tg := 74) (pc' := 60) dX12_list_57 (by decide) rfl (by decide) (fun c => ?_) (fun c => ?_)
            · exact absurd c (by decide)
            · refine st_aload_n (pc' := 61) dX12_list_60 rfl rfl (j := 1) rfl ?_
              refine st_iconst (pc' := 62) dX12_list_61 rfl ?_
              refine st_callV (pc' := 65) (kc := k - 1) (E' := LAY) (cal := m_X12_refuses) (n := 1) (as := [vI 2]) (S := []) dX12_list_62 rfl l_X12_279 k_X12_refuses rfl L_74 c_X12 rfl rfl (Nat.le_of_ble_eq_true rfl) (by omega) ⟨Nat.le_refl _, Nat.le_refl _, Nat.le_refl _, Nat.le_refl _⟩ (Q1 := fun r M' => WP k LAY m_X12_list 65 [(3, vI 0), (0, vR (some 74)), (1, vI x1), (2, vI x2)] (r.toList ++ []) M' Q) (WPm.of k_X12_refuses.1 (Nat.le_of_ble_eq_true rfl) (B_X12_refuses_0 (by omega) ?_)) (fun r M' q => q)
              refine ⟨by decide, ?_⟩
              change WP _ LAY m_X12_list 65 [(3, vI 0), (0, vR (some 74)), (1, vI x1), (2, vI x2)] [vI (-1)] (mem (P, some 5, some 22) (si I6 107 2 ((gi I6 107 2) + 1)) J7) Q
              refine st_if_lt (tg := 72) (pc' := 68) dX12_list_65 (by decide) rfl (by decide) (fun c => ?_) (fun c => ?_)
              · refine st_iconst (pc' := 73) dX12_list_72 rfl ?_
                exact st_iret (ty := .boolean) dX12_list_73 rfl (by decide) rfl h
              · exact absurd c (by decide)
          · replace h := h.2 c
            refine st_iconst (pc' := 51) dX12_list_50 rfl ?_
            refine st_goto (pc' := 55) dX12_list_51 (by decide) ?_
            refine st_istore_n (pc' := 56) (L' := [(3, vI 1), (0, vR (some 74)), (1, vI x1), (2, vI x2)]) dX12_list_55 rfl rfl (by decide) rfl ?_
            refine st_iload_n (pc' := 57) dX12_list_56 rfl rfl (j := 0) rfl ?_
            refine st_if_ne (tg := 74) (pc' := 60) dX12_list_57 (by decide) rfl (by decide) (fun c => ?_) (fun c => ?_)
            · refine st_aload_n (pc' := 75) dX12_list_74 rfl rfl (j := 1) rfl ?_
              refine st_callV (pc' := 78) (kc := k - 1) (E' := LAY) (cal := m_X12_keeps) (n := 0) (as := []) (S := []) dX12_list_75 rfl l_X12_572 k_X12_keeps rfl L_74 c_X12 rfl rfl (Nat.le_of_ble_eq_true rfl) (by omega) ⟨Nat.le_refl _, Nat.le_refl _, Nat.le_refl _, Nat.le_refl _⟩ h (fun r M' q => ?_)
              obtain ⟨I11, J12, rfl, rfl, h⟩ := q
              change WP _ LAY m_X12_list 78 [(3, vI 1), (0, vR (some 74)), (1, vI x1), (2, vI x2)] [] (mem (P, some 5, some 22) I11 J12) Q
              refine st_aload_n (pc' := 79) dX12_list_78 rfl rfl (j := 1) rfl ?_
              refine G_X12_195_74 dX12_list_79 (pc' := 82) rfl rfl ?_
              refine st_bipush (pc' := 84) dX12_list_82 rfl (by decide) ?_
              refine st_iload_n (pc' := 85) dX12_list_84 rfl rfl (j := 2) rfl ?_
              refine st_imul (pc' := 86) dX12_list_85 rfl ?_
              refine st_aload_n (pc' := 87) dX12_list_86 rfl rfl (j := 1) rfl ?_
              refine G_X12_192_74 dX12_list_87 (pc' := 90) rfl rfl ?_
              refine st_iload_n (pc' := 91) dX12_list_90 rfl rfl (j := 2) rfl ?_
              refine st_iaload (pc' := 92) (v := (gi I11 115 (x1).toNat)) dX12_list_91 rfl L_115 (by decide) e9 (show gi I11 115 (x1).toNat = (gi I11 115 (x1).toNat) from rfl) ?_
              refine st_iadd (pc' := 93) dX12_list_92 rfl ?_
              refine st_iload_n (pc' := 94) dX12_list_93 rfl rfl (j := 3) rfl ?_
              obtain ⟨e13, h⟩ := h
              refine st_iastore (pc' := 95) (M' := (mem (P, some 5, some 22) (si I11 116 (((8 * x1) + (gi I11 115 (x1).toNat)) : Int).toNat x2) J12)) dX12_list_94 rfl L_116 (by decide) e13 rfl ?_
              refine st_aload_n (pc' := 96) dX12_list_95 rfl rfl (j := 1) rfl ?_
              refine G_X12_192_74 dX12_list_96 (pc' := 99) rfl rfl ?_
              refine st_iload_n (pc' := 100) dX12_list_99 rfl rfl (j := 2) rfl ?_
              refine st_dup2 (pc' := 101) dX12_list_100 rfl rfl rfl ?_
              refine st_iaload (pc' := 102) (v := (gi I11 115 (x1).toNat)) dX12_list_101 rfl L_115 (by decide) e9 (show gi (si I11 116 (((8 * x1) + (gi I11 115 (x1).toNat)) : Int).toNat x2) 115 (x1).toNat = (gi I11 115 (x1).toNat) from (gi_cell _ _ _ _ (by decide))) ?_
              refine st_iconst (pc' := 103) dX12_list_102 rfl ?_
              refine st_iadd (pc' := 104) dX12_list_103 rfl ?_
              refine st_iastore (pc' := 105) (M' := (mem (P, some 5, some 22) (si (si I11 116 (((8 * x1) + (gi I11 115 (x1).toNat)) : Int).toNat x2) 115 (x1).toNat ((gi I11 115 (x1).toNat) + 1)) J12)) dX12_list_104 rfl L_115 (by decide) e9 rfl ?_
              refine st_iconst (pc' := 106) dX12_list_105 rfl ?_
              exact st_iret (ty := .boolean) dX12_list_106 rfl (by decide) rfl h
            · exact absurd c (by decide)
set_option maxRecDepth 20000 in
set_option maxHeartbeats 4000000 in
theorem B_X12_mayHear_0 {k : Nat} {P : Option Nat} {I : Nat → Nat → Int32} {J : Nat → Nat → Int64} {x1 : Int} {x2 : Int} {Q : Option AV → Mem → Prop} (hk : 2 ≤ k) (h : (0 ≤ ((6 * 0) + x1) ∧ ((6 * 0) + x1) < 132) ∧ (((and32 (shr32 (or32 (gi I 111 (((6 * 0) + x1) : Int).toNat) (gi I 112 (((6 * 0) + x1) : Int).toNat)) x2) 1 = 1) → (Q (some (vI 0)) (mem (P, some 5, some 22) I J))) ∧ (¬ (and32 (shr32 (or32 (gi I 111 (((6 * 0) + x1) : Int).toNat) (gi I 112 (((6 * 0) + x1) : Int).toNat)) x2) 1 = 1) → ((0 ≤ ((14 * (gi I 74 13)) + x2) ∧ ((14 * (gi I 74 13)) + x2) < 28) ∧ ((¬ (and32 (gi I 81 (((14 * (gi I 74 13)) + x2) : Int).toNat) (xor32 (or32 (gi I 111 (((6 * 0) + x1) : Int).toNat) (gi I 112 (((6 * 0) + x1) : Int).toNat)) (-1))) = 0 → (Q (some (vI 0)) (mem (P, some 5, some 22) I J))) ∧ ((and32 (gi I 81 (((14 * (gi I 74 13)) + x2) : Int).toNat) (xor32 (or32 (gi I 111 (((6 * 0) + x1) : Int).toNat) (gi I 112 (((6 * 0) + x1) : Int).toNat)) (-1))) = 0 → ((0 ≤ (gi I 74 13) ∧ (gi I 74 13) < 2) ∧ (((gi I 93 (gi I 74 13).toNat) = (-1) → (Q (some (vI 1)) (mem (P, some 5, some 22) (si (si (si I 74 69 0) 74 70 x1) 74 71 x2) J))) ∧ (¬ (gi I 93 (gi I 74 13).toNat) = (-1) → (WPm (k - 1) LAY m_X12_reckons [vR (some 74), vI (gi I 93 (gi I 74 13).toNat), vI (gi I 94 (gi I 74 13).toNat)] (mem (P, some 5, some 22) (si (si (si I 74 69 0) 74 70 x1) 74 71 x2) J) (retL (fun v4 I5 J6 => inL v4 ∧ ((¬ v4 = 1 → (Q (some (vI 0)) (mem (P, some 5, some 22) I5 J6))) ∧ (v4 = 1 → (Q (some (vI 1)) (mem (P, some 5, some 22) I5 J6))))) (P, some 5, some 22)))))))))))) : WP k LAY m_X12_mayHear 0 [(0, vR (some 74)), (1, vI x1), (2, vI x2)] [] (mem (P, some 5, some 22) I J) Q := by
  refine st_aload_n (pc' := 1) dX12_mayHear_0 rfl rfl (j := 0) rfl ?_
  refine st_iconst (pc' := 2) dX12_mayHear_1 rfl ?_
  refine st_iload_n (pc' := 3) dX12_mayHear_2 rfl rfl (j := 1) rfl ?_
  refine st_callV (pc' := 6) (kc := k - 1) (E' := LAY) (cal := m_X12_known) (n := 2) (as := [vI 0, vI x1]) (S := []) dX12_mayHear_3 rfl l_X12_473 k_X12_known rfl L_74 c_X12 rfl rfl (Nat.le_of_ble_eq_true rfl) (by omega) ⟨Nat.le_refl _, Nat.le_refl _, Nat.le_refl _, Nat.le_refl _⟩ (Q1 := fun r M' => WP k LAY m_X12_mayHear 6 [(0, vR (some 74)), (1, vI x1), (2, vI x2)] (r.toList ++ []) M' Q) (WPm.of k_X12_known.1 (Nat.le_of_ble_eq_true rfl) (B_X12_known_0 (by omega) ?_)) (fun r M' q => q)
  obtain ⟨e1, h⟩ := h
  refine ⟨e1, ?_⟩
  change WP _ LAY m_X12_mayHear 6 [(0, vR (some 74)), (1, vI x1), (2, vI x2)] [vI (or32 (gi I 111 (((6 * 0) + x1) : Int).toNat) (gi I 112 (((6 * 0) + x1) : Int).toNat))] (mem (P, some 5, some 22) I J) Q
  refine st_iload_n (pc' := 7) dX12_mayHear_6 rfl rfl (j := 2) rfl ?_
  refine st_callS (pc' := 10) (kc := k - 1) (E' := LAY) (cal := m_X12_has) (n := 2) (as := [vI (or32 (gi I 111 (((6 * 0) + x1) : Int).toNat) (gi I 112 (((6 * 0) + x1) : Int).toNat)), vI x2]) (S := []) dX12_mayHear_7 rfl l_X12_552 k_X12_has rfl rfl (Nat.le_of_ble_eq_true rfl) (by omega) ⟨Nat.le_refl _, Nat.le_refl _, Nat.le_refl _, Nat.le_refl _⟩ (Q1 := fun r M' => WP k LAY m_X12_mayHear 10 [(0, vR (some 74)), (1, vI x1), (2, vI x2)] (r.toList ++ []) M' Q) (S_X12_has (by omega)  ?_) (fun r M' q => q)
  change WP _ LAY m_X12_mayHear 10 [(0, vR (some 74)), (1, vI x1), (2, vI x2)] [vI (b2i (and32 (shr32 (or32 (gi I 111 (((6 * 0) + x1) : Int).toNat) (gi I 112 (((6 * 0) + x1) : Int).toNat)) x2) 1 = 1))] (mem (P, some 5, some 22) I J) Q
  refine st_if_ne (tg := 23) (pc' := 13) dX12_mayHear_10 (by decide) rfl (b2i_in _) (fun c => ?_) (fun c => ?_)
  · replace h := h.1 (b2i_t.mp c)
    refine st_iconst (pc' := 24) dX12_mayHear_23 rfl ?_
    exact st_iret (ty := .boolean) dX12_mayHear_24 rfl (by decide) rfl h
  · replace h := h.2 (b2i_f.mp c)
    refine st_aload_n (pc' := 14) dX12_mayHear_13 rfl rfl (j := 0) rfl ?_
    refine st_iconst (pc' := 15) dX12_mayHear_14 rfl ?_
    refine st_iload_n (pc' := 16) dX12_mayHear_15 rfl rfl (j := 1) rfl ?_
    refine st_iload_n (pc' := 17) dX12_mayHear_16 rfl rfl (j := 2) rfl ?_
    refine st_callV (pc' := 20) (kc := k - 1) (E' := LAY) (cal := m_X12_mayRead) (n := 3) (as := [vI 0, vI x1, vI x2]) (S := []) dX12_mayHear_17 rfl l_X12_524 k_X12_mayRead rfl L_74 c_X12 rfl rfl (Nat.le_of_ble_eq_true rfl) (by omega) ⟨Nat.le_refl _, Nat.le_refl _, Nat.le_refl _, Nat.le_refl _⟩ (Q1 := fun r M' => WP k LAY m_X12_mayHear 20 [(0, vR (some 74)), (1, vI x1), (2, vI x2)] (r.toList ++ []) M' Q) (WPm.of k_X12_mayRead.1 (Nat.le_of_ble_eq_true rfl) (B_X12_mayRead_0 (by omega) ?_)) (fun r M' q => q)
    obtain ⟨e2, h⟩ := h
    refine ⟨e2, ?_⟩
    refine ⟨e1, ?_⟩
    refine ⟨fun c => ?_, fun c => ?_⟩
    · replace h := h.1 c
      change WP _ LAY m_X12_mayHear 20 [(0, vR (some 74)), (1, vI x1), (2, vI x2)] [vI 0] (mem (P, some 5, some 22) I J) Q
      refine st_if_ne (tg := 25) (pc' := 23) dX12_mayHear_20 (by decide) rfl (by decide) (fun c => ?_) (fun c => ?_)
      · exact absurd c (by decide)
      · refine st_iconst (pc' := 24) dX12_mayHear_23 rfl ?_
        exact st_iret (ty := .boolean) dX12_mayHear_24 rfl (by decide) rfl h
    · replace h := h.2 c
      change WP _ LAY m_X12_mayHear 20 [(0, vR (some 74)), (1, vI x1), (2, vI x2)] [vI 1] (mem (P, some 5, some 22) I J) Q
      refine st_if_ne (tg := 25) (pc' := 23) dX12_mayHear_20 (by decide) rfl (by decide) (fun c => ?_) (fun c => ?_)
      · refine st_aload_n (pc' := 26) dX12_mayHear_25 rfl rfl (j := 0) rfl ?_
        refine st_iconst (pc' := 27) dX12_mayHear_26 rfl ?_
        refine P_X12_222_74 dX12_mayHear_27 (pc' := 30) rfl rfl ?_
        refine st_aload_n (pc' := 31) dX12_mayHear_30 rfl rfl (j := 0) rfl ?_
        refine st_iload_n (pc' := 32) dX12_mayHear_31 rfl rfl (j := 1) rfl ?_
        refine P_X12_225_74 dX12_mayHear_32 (pc' := 35) rfl rfl ?_
        refine st_aload_n (pc' := 36) dX12_mayHear_35 rfl rfl (j := 0) rfl ?_
        refine st_iload_n (pc' := 37) dX12_mayHear_36 rfl rfl (j := 2) rfl ?_
        refine P_X12_228_74 dX12_mayHear_37 (pc' := 40) rfl rfl ?_
        refine st_aload_n (pc' := 41) dX12_mayHear_40 rfl rfl (j := 0) rfl ?_
        refine G_X12_105_74 dX12_mayHear_41 (pc' := 44) rfl rfl ?_
        refine st_aload_n (pc' := 45) dX12_mayHear_44 rfl rfl (j := 0) rfl ?_
        refine G_X12_51_74 dX12_mayHear_45 (pc' := 48) rfl rfl ?_
        rw [show gi (si (si (si I 74 69 0) 74 70 x1) 74 71 x2) 74 13 = (gi I 74 13) from ((gi_idx _ _ _ (by decide)).trans ((gi_idx _ _ _ (by decide)).trans (gi_idx _ _ _ (by decide))))]
        obtain ⟨e3, h⟩ := h
        refine st_iaload (pc' := 49) (v := (gi I 93 (gi I 74 13).toNat)) dX12_mayHear_48 rfl L_93 (by decide) e3 (show gi (si (si (si I 74 69 0) 74 70 x1) 74 71 x2) 93 (gi I 74 13).toNat = (gi I 93 (gi I 74 13).toNat) from ((gi_cell _ _ _ _ (by decide)).trans ((gi_cell _ _ _ _ (by decide)).trans (gi_cell _ _ _ _ (by decide))))) ?_
        refine st_iconst (pc' := 50) dX12_mayHear_49 rfl ?_
        refine st_icmp_eq (tg := 80) (pc' := 53) dX12_mayHear_50 (by decide) rfl (gi_in _ _ _) (by decide) (fun c => ?_) (fun c => ?_)
        · replace h := h.1 c
          refine st_iconst (pc' := 81) dX12_mayHear_80 rfl ?_
          refine st_goto (pc' := 85) dX12_mayHear_81 (by decide) ?_
          exact st_iret (ty := .boolean) dX12_mayHear_85 rfl (by decide) rfl h
        · replace h := h.2 c
          refine st_aload_n (pc' := 54) dX12_mayHear_53 rfl rfl (j := 0) rfl ?_
          refine st_aload_n (pc' := 55) dX12_mayHear_54 rfl rfl (j := 0) rfl ?_
          refine G_X12_105_74 dX12_mayHear_55 (pc' := 58) rfl rfl ?_
          refine st_aload_n (pc' := 59) dX12_mayHear_58 rfl rfl (j := 0) rfl ?_
          refine G_X12_51_74 dX12_mayHear_59 (pc' := 62) rfl rfl ?_
          rw [show gi (si (si (si I 74 69 0) 74 70 x1) 74 71 x2) 74 13 = (gi I 74 13) from ((gi_idx _ _ _ (by decide)).trans ((gi_idx _ _ _ (by decide)).trans (gi_idx _ _ _ (by decide))))]
          refine st_iaload (pc' := 63) (v := (gi I 93 (gi I 74 13).toNat)) dX12_mayHear_62 rfl L_93 (by decide) e3 (show gi (si (si (si I 74 69 0) 74 70 x1) 74 71 x2) 93 (gi I 74 13).toNat = (gi I 93 (gi I 74 13).toNat) from ((gi_cell _ _ _ _ (by decide)).trans ((gi_cell _ _ _ _ (by decide)).trans (gi_cell _ _ _ _ (by decide))))) ?_
          refine st_aload_n (pc' := 64) dX12_mayHear_63 rfl rfl (j := 0) rfl ?_
          refine G_X12_108_74 dX12_mayHear_64 (pc' := 67) rfl rfl ?_
          refine st_aload_n (pc' := 68) dX12_mayHear_67 rfl rfl (j := 0) rfl ?_
          refine G_X12_51_74 dX12_mayHear_68 (pc' := 71) rfl rfl ?_
          rw [show gi (si (si (si I 74 69 0) 74 70 x1) 74 71 x2) 74 13 = (gi I 74 13) from ((gi_idx _ _ _ (by decide)).trans ((gi_idx _ _ _ (by decide)).trans (gi_idx _ _ _ (by decide))))]
          refine st_iaload (pc' := 72) (v := (gi I 94 (gi I 74 13).toNat)) dX12_mayHear_71 rfl L_94 (by decide) e3 (show gi (si (si (si I 74 69 0) 74 70 x1) 74 71 x2) 94 (gi I 74 13).toNat = (gi I 94 (gi I 74 13).toNat) from ((gi_cell _ _ _ _ (by decide)).trans ((gi_cell _ _ _ _ (by decide)).trans (gi_cell _ _ _ _ (by decide))))) ?_
          refine st_callV (pc' := 75) (kc := k - 1) (E' := LAY) (cal := m_X12_reckons) (n := 2) (as := [vI (gi I 93 (gi I 74 13).toNat), vI (gi I 94 (gi I 74 13).toNat)]) (S := []) dX12_mayHear_72 rfl l_X12_514 k_X12_reckons rfl L_74 c_X12 rfl rfl (Nat.le_of_ble_eq_true rfl) (by omega) ⟨Nat.le_refl _, Nat.le_refl _, Nat.le_refl _, Nat.le_refl _⟩ h (fun r M' q => ?_)
          obtain ⟨v4, I5, J6, rfl, rfl, h⟩ := q
          change WP _ LAY m_X12_mayHear 75 [(0, vR (some 74)), (1, vI x1), (2, vI x2)] [vL v4] (mem (P, some 5, some 22) I5 J6) Q
          refine st_lconst (pc' := 76) (z := 1) dX12_mayHear_75 rfl (by decide) ?_
          obtain ⟨e7, h⟩ := h
          refine st_lif_ne (tg := 84) (pc' := 80) (pc1 := 77) dX12_mayHear_76 rfl dX12_mayHear_77 (by decide) rfl e7 (by decide) (fun c => ?_) (fun c => ?_)
          · replace h := h.1 c
            refine st_iconst (pc' := 85) dX12_mayHear_84 rfl ?_
            exact st_iret (ty := .boolean) dX12_mayHear_85 rfl (by decide) rfl h
          · replace h := h.2 c
            refine st_iconst (pc' := 81) dX12_mayHear_80 rfl ?_
            refine st_goto (pc' := 85) dX12_mayHear_81 (by decide) ?_
            exact st_iret (ty := .boolean) dX12_mayHear_85 rfl (by decide) rfl h
      · exact absurd c (by decide)
set_option maxRecDepth 20000 in
set_option maxHeartbeats 4000000 in
theorem B_X12_most_0 {k : Nat} {P : Option Nat} {I : Nat → Nat → Int32} {J : Nat → Nat → Int64} {x1 : Int} {x2 : Int} {x3 : Int} {Q : Option AV → Mem → Prop} (hk : 1 ≤ k) (h : (0 ≤ (gi I 74 13) ∧ (gi I 74 13) < 2) ∧ (inR x1 ∧ ((¬ (0 ≤ x1 ∧ x1 < gi I 83 (gi I 74 13).toNat) → (Q (some (vI (-1))) (mem (P, some 5, some 22) I J))) ∧ ((0 ≤ x1 ∧ x1 < gi I 83 (gi I 74 13).toNat) → (inR x2 ∧ ((¬ (0 ≤ x2 ∧ x2 ≤ 99) → (Q (some (vI (-1))) (mem (P, some 5, some 22) I J))) ∧ ((0 ≤ x2 ∧ x2 ≤ 99) → (inR x3 ∧ (((0 ≤ x3 ∧ x3 ≤ 2) → ((0 ≤ ((6 * 0) + x1) ∧ ((6 * 0) + x1) < 132) ∧ (∀ y6 : Int, y6 = (or32 (gi I 111 (((6 * 0) + x1) : Int).toNat) (gi I 112 (((6 * 0) + x1) : Int).toNat)) → ((0 ≤ x1 ∧ x1 < 132) ∧ (WPm (k - 1) LAY m_X12_lightOf [vR (some 74), vI 0, vI (gi I 110 (x1).toNat)] (mem (P, some 5, some 22) I J) (retI (fun v8 I9 J10 => WP k LAY m_X12_most 55 [(0, vR (some 74)), (1, vI x1), (3, vI x3), (4, vI y6), (5, vI (x2 * v8)), (6, vI 0)] [] (mem (P, some 5, some 22) I9 J10) Q) (P, some 5, some 22))))))) ∧ (¬ (0 ≤ x3 ∧ x3 ≤ 2) → (Q (some (vI (-1))) (mem (P, some 5, some 22) I J)))))))))))) : WP k LAY m_X12_most 0 [(0, vR (some 74)), (1, vI x1), (2, vI x2), (3, vI x3)] [] (mem (P, some 5, some 22) I J) Q := by
  refine st_aload_n (pc' := 1) dX12_most_0 rfl rfl (j := 0) rfl ?_
  refine st_iload_n (pc' := 2) dX12_most_1 rfl rfl (j := 1) rfl ?_
  obtain ⟨e1, h⟩ := h
  obtain ⟨e2, h⟩ := h
  refine st_callV (pc' := 5) (kc := k - 1) (E' := LAY) (cal := m_X12_isReader) (n := 1) (as := [vI x1]) (S := []) dX12_most_2 rfl l_X12_562 k_X12_isReader rfl L_74 c_X12 rfl rfl (Nat.le_of_ble_eq_true rfl) (by omega) ⟨Nat.le_refl _, Nat.le_refl _, Nat.le_refl _, Nat.le_refl _⟩ (Q1 := fun r M' => WP k LAY m_X12_most 5 [(0, vR (some 74)), (1, vI x1), (2, vI x2), (3, vI x3)] (r.toList ++ []) M' Q) (S_X12_isReader (by omega) e1 e2 ?_) (fun r M' q => q)
  change WP _ LAY m_X12_most 5 [(0, vR (some 74)), (1, vI x1), (2, vI x2), (3, vI x3)] [vI (b2i (0 ≤ x1 ∧ x1 < gi I 83 (gi I 74 13).toNat))] (mem (P, some 5, some 22) I J) Q
  refine st_if_eq (tg := 27) (pc' := 8) dX12_most_5 (by decide) rfl (b2i_in _) (fun c => ?_) (fun c => ?_)
  · replace h := h.1 (b2i_f.mp c)
    refine st_iconst (pc' := 28) dX12_most_27 rfl ?_
    exact st_iret (ty := .int) dX12_most_28 rfl rfl rfl h
  · replace h := h.2 (b2i_t.mp c)
    refine st_iload_n (pc' := 9) dX12_most_8 rfl rfl (j := 2) rfl ?_
    refine st_iconst (pc' := 10) dX12_most_9 rfl ?_
    refine st_bipush (pc' := 12) dX12_most_10 rfl (by decide) ?_
    obtain ⟨e3, h⟩ := h
    refine st_callS (pc' := 15) (kc := k - 1) (E' := LAY) (cal := m_X12_is) (n := 3) (as := [vI x2, vI 0, vI 99]) (S := []) dX12_most_12 rfl l_X12_369 k_X12_is rfl rfl (Nat.le_of_ble_eq_true rfl) (by omega) ⟨Nat.le_refl _, Nat.le_refl _, Nat.le_refl _, Nat.le_refl _⟩ (Q1 := fun r M' => WP k LAY m_X12_most 15 [(0, vR (some 74)), (1, vI x1), (2, vI x2), (3, vI x3)] (r.toList ++ []) M' Q) (S_X12_is (by omega) e3 (by decide) (by decide) ?_) (fun r M' q => q)
    change WP _ LAY m_X12_most 15 [(0, vR (some 74)), (1, vI x1), (2, vI x2), (3, vI x3)] [vI (b2i (0 ≤ x2 ∧ x2 ≤ 99))] (mem (P, some 5, some 22) I J) Q
    refine st_if_eq (tg := 27) (pc' := 18) dX12_most_15 (by decide) rfl (b2i_in _) (fun c => ?_) (fun c => ?_)
    · replace h := h.1 (b2i_f.mp c)
      refine st_iconst (pc' := 28) dX12_most_27 rfl ?_
      exact st_iret (ty := .int) dX12_most_28 rfl rfl rfl h
    · replace h := h.2 (b2i_t.mp c)
      refine st_iload_n (pc' := 19) dX12_most_18 rfl rfl (j := 3) rfl ?_
      refine st_iconst (pc' := 20) dX12_most_19 rfl ?_
      refine st_iconst (pc' := 21) dX12_most_20 rfl ?_
      obtain ⟨e4, h⟩ := h
      refine st_callS (pc' := 24) (kc := k - 1) (E' := LAY) (cal := m_X12_is) (n := 3) (as := [vI x3, vI 0, vI 2]) (S := []) dX12_most_21 rfl l_X12_369 k_X12_is rfl rfl (Nat.le_of_ble_eq_true rfl) (by omega) ⟨Nat.le_refl _, Nat.le_refl _, Nat.le_refl _, Nat.le_refl _⟩ (Q1 := fun r M' => WP k LAY m_X12_most 24 [(0, vR (some 74)), (1, vI x1), (2, vI x2), (3, vI x3)] (r.toList ++ []) M' Q) (S_X12_is (by omega) e4 (by decide) (by decide) ?_) (fun r M' q => q)
      change WP _ LAY m_X12_most 24 [(0, vR (some 74)), (1, vI x1), (2, vI x2), (3, vI x3)] [vI (b2i (0 ≤ x3 ∧ x3 ≤ 2))] (mem (P, some 5, some 22) I J) Q
      refine st_if_ne (tg := 29) (pc' := 27) dX12_most_24 (by decide) rfl (b2i_in _) (fun c => ?_) (fun c => ?_)
      · replace h := h.1 (b2i_t.mp c)
        refine st_aload_n (pc' := 30) dX12_most_29 rfl rfl (j := 0) rfl ?_
        refine st_iconst (pc' := 31) dX12_most_30 rfl ?_
        refine st_iload_n (pc' := 32) dX12_most_31 rfl rfl (j := 1) rfl ?_
        refine st_callV (pc' := 35) (kc := k - 1) (E' := LAY) (cal := m_X12_known) (n := 2) (as := [vI 0, vI x1]) (S := []) dX12_most_32 rfl l_X12_473 k_X12_known rfl L_74 c_X12 rfl rfl (Nat.le_of_ble_eq_true rfl) (by omega) ⟨Nat.le_refl _, Nat.le_refl _, Nat.le_refl _, Nat.le_refl _⟩ (Q1 := fun r M' => WP k LAY m_X12_most 35 [(0, vR (some 74)), (1, vI x1), (2, vI x2), (3, vI x3)] (r.toList ++ []) M' Q) (WPm.of k_X12_known.1 (Nat.le_of_ble_eq_true rfl) (B_X12_known_0 (by omega) ?_)) (fun r M' q => q)
        obtain ⟨e5, h⟩ := h
        refine ⟨e5, ?_⟩
        change WP _ LAY m_X12_most 35 [(0, vR (some 74)), (1, vI x1), (2, vI x2), (3, vI x3)] [vI (or32 (gi I 111 (((6 * 0) + x1) : Int).toNat) (gi I 112 (((6 * 0) + x1) : Int).toNat))] (mem (P, some 5, some 22) I J) Q
        obtain ⟨y6, hy6⟩ : ∃ y : Int, y = (or32 (gi I 111 (((6 * 0) + x1) : Int).toNat) (gi I 112 (((6 * 0) + x1) : Int).toNat)) := ⟨_, rfl⟩
        rw [← hy6]
        replace h := h y6 hy6
        refine st_istore (pc' := 37) (L' := [(4, vI y6), (0, vR (some 74)), (1, vI x1), (2, vI x2), (3, vI x3)]) dX12_most_35 rfl (by decide) rfl ?_
        refine st_iload_n (pc' := 38) dX12_most_37 rfl rfl (j := 3) rfl ?_
        refine st_aload_n (pc' := 39) dX12_most_38 rfl rfl (j := 1) rfl ?_
        refine st_iconst (pc' := 40) dX12_most_39 rfl ?_
        refine st_aload_n (pc' := 41) dX12_most_40 rfl rfl (j := 1) rfl ?_
        refine G_X12_177_74 dX12_most_41 (pc' := 44) rfl rfl ?_
        refine st_iload_n (pc' := 45) dX12_most_44 rfl rfl (j := 2) rfl ?_
        obtain ⟨e7, h⟩ := h
        refine st_iaload (pc' := 46) (v := (gi I 110 (x1).toNat)) dX12_most_45 rfl L_110 (by decide) e7 (show gi I 110 (x1).toNat = (gi I 110 (x1).toNat) from rfl) ?_
        refine st_callV (pc' := 49) (kc := k - 1) (E' := LAY) (cal := m_X12_lightOf) (n := 2) (as := [vI 0, vI (gi I 110 (x1).toNat)]) (S := [vI x2]) dX12_most_46 rfl l_X12_541 k_X12_lightOf rfl L_74 c_X12 rfl rfl (Nat.le_of_ble_eq_true rfl) (by omega) ⟨Nat.le_refl _, Nat.le_refl _, Nat.le_refl _, Nat.le_refl _⟩ h (fun r M' q => ?_)
        obtain ⟨v8, I9, J10, rfl, rfl, h⟩ := q
        change WP _ LAY m_X12_most 49 [(4, vI y6), (0, vR (some 74)), (1, vI x1), (2, vI x2), (3, vI x3)] [vI v8, vI x2] (mem (P, some 5, some 22) I9 J10) Q
        refine st_imul (pc' := 50) dX12_most_49 rfl ?_
        refine st_istore (pc' := 52) (L' := [(5, vI (x2 * v8)), (4, vI y6), (0, vR (some 74)), (1, vI x1), (2, vI x2), (3, vI x3)]) dX12_most_50 rfl (by decide) rfl ?_
        refine st_iconst (pc' := 53) dX12_most_52 rfl ?_
        refine st_istore (pc' := 55) (L' := [(6, vI 0), (5, vI (x2 * v8)), (4, vI y6), (0, vR (some 74)), (1, vI x1), (2, vI x2), (3, vI x3)]) dX12_most_53 rfl (by decide) rfl ?_
        refine WP_sub (L' := [(0, vR (some 74)), (1, vI x1), (3, vI x3), (4, vI y6), (5, vI (x2 * v8)), (6, vI 0)]) [3, 4, 6, 2, 1, 0] rfl ?_
        exact h
      · replace h := h.2 (b2i_f.mp c)
        refine st_iconst (pc' := 28) dX12_most_27 rfl ?_
        exact st_iret (ty := .int) dX12_most_28 rfl rfl rfl h
set_option maxRecDepth 20000 in
set_option maxHeartbeats 4000000 in
theorem B_X12_most_55 {k : Nat} {P : Option Nat} {I : Nat → Nat → Int32} {J : Nat → Nat → Int64} {x1 : Int} {x3 : Int} {x4 : Int} {x5 : Int} {x6 : Int} {Q : Option AV → Mem → Prop} (hk : 1 ≤ k) (h : (0 ≤ (gi I 74 13) ∧ (gi I 74 13) < 2) ∧ (inR x6 ∧ (((gi I 77 (gi I 74 13).toNat) ≤ x6 → (WP k LAY m_X12_most 99 [(0, vR (some 74)), (3, vI x3), (4, vI x4), (5, vI x5), (6, vI 0), (7, vI 0), (8, vI 1)] [] (mem (P, some 5, some 22) I J) Q)) ∧ (¬ (gi I 77 (gi I 74 13).toNat) ≤ x6 → (WPm (k - 1) LAY m_X12_longOf [vR (some 74), vI 0, vI x1, vI x6] (mem (P, some 5, some 22) I J) (retI (fun v3 I4 J5 => (0 ≤ x6 ∧ x6 < 14) ∧ (WP k LAY m_X12_most 55 [(0, vR (some 74)), (1, vI x1), (3, vI x3), (4, vI x4), (5, vI x5), (6, vI (x6 + 1))] [] (mem (P, some 5, some 22) (si I4 130 (x6).toNat v3) J5) Q)) (P, some 5, some 22))))))) : WP k LAY m_X12_most 55 [(0, vR (some 74)), (1, vI x1), (3, vI x3), (4, vI x4), (5, vI x5), (6, vI x6)] [] (mem (P, some 5, some 22) I J) Q := by
  refine st_iload (pc' := 57) dX12_most_55 rfl (j := 5) rfl ?_
  refine st_aload_n (pc' := 58) dX12_most_57 rfl rfl (j := 0) rfl ?_
  refine G_X12_57_74 dX12_most_58 (pc' := 61) rfl rfl ?_
  refine st_aload_n (pc' := 62) dX12_most_61 rfl rfl (j := 0) rfl ?_
  refine G_X12_51_74 dX12_most_62 (pc' := 65) rfl rfl ?_
  obtain ⟨e1, h⟩ := h
  refine st_iaload (pc' := 66) (v := (gi I 77 (gi I 74 13).toNat)) dX12_most_65 rfl L_77 (by decide) e1 (show gi I 77 (gi I 74 13).toNat = (gi I 77 (gi I 74 13).toNat) from rfl) ?_
  obtain ⟨e2, h⟩ := h
  refine st_icmp_ge (tg := 90) (pc' := 69) dX12_most_66 (by decide) rfl e2 (gi_in _ _ _) (fun c => ?_) (fun c => ?_)
  · replace h := h.1 c
    refine st_iconst (pc' := 91) dX12_most_90 rfl ?_
    refine st_istore (pc' := 93) (L' := [(6, vI 0), (0, vR (some 74)), (1, vI x1), (3, vI x3), (4, vI x4), (5, vI x5)]) dX12_most_91 rfl (by decide) rfl ?_
    refine st_iconst (pc' := 94) dX12_most_93 rfl ?_
    refine st_istore (pc' := 96) (L' := [(7, vI 0), (6, vI 0), (0, vR (some 74)), (1, vI x1), (3, vI x3), (4, vI x4), (5, vI x5)]) dX12_most_94 rfl (by decide) rfl ?_
    refine st_iconst (pc' := 97) dX12_most_96 rfl ?_
    refine st_istore (pc' := 99) (L' := [(8, vI 1), (7, vI 0), (6, vI 0), (0, vR (some 74)), (1, vI x1), (3, vI x3), (4, vI x4), (5, vI x5)]) dX12_most_97 rfl (by decide) rfl ?_
    refine WP_sub (L' := [(0, vR (some 74)), (3, vI x3), (4, vI x4), (5, vI x5), (6, vI 0), (7, vI 0), (8, vI 1)]) [3, 5, 6, 7, 2, 1, 0] rfl ?_
    exact h
  · replace h := h.2 c
    refine st_aload_n (pc' := 70) dX12_most_69 rfl rfl (j := 0) rfl ?_
    refine G_X12_270_74 dX12_most_70 (pc' := 73) rfl rfl ?_
    refine st_iload (pc' := 75) dX12_most_73 rfl (j := 5) rfl ?_
    refine st_aload_n (pc' := 76) dX12_most_75 rfl rfl (j := 0) rfl ?_
    refine st_iconst (pc' := 77) dX12_most_76 rfl ?_
    refine st_iload_n (pc' := 78) dX12_most_77 rfl rfl (j := 1) rfl ?_
    refine st_iload (pc' := 80) dX12_most_78 rfl (j := 5) rfl ?_
    refine st_callV (pc' := 83) (kc := k - 1) (E' := LAY) (cal := m_X12_longOf) (n := 3) (as := [vI 0, vI x1, vI x6]) (S := [vI x6, vR (some 130)]) dX12_most_80 rfl l_X12_530 k_X12_longOf rfl L_74 c_X12 rfl rfl (Nat.le_of_ble_eq_true rfl) (by omega) ⟨Nat.le_refl _, Nat.le_refl _, Nat.le_refl _, Nat.le_refl _⟩ h (fun r M' q => ?_)
    obtain ⟨v3, I4, J5, rfl, rfl, h⟩ := q
    change WP _ LAY m_X12_most 83 [(0, vR (some 74)), (1, vI x1), (3, vI x3), (4, vI x4), (5, vI x5), (6, vI x6)] [vI v3, vI x6, vR (some 130)] (mem (P, some 5, some 22) I4 J5) Q
    obtain ⟨e6, h⟩ := h
    refine st_iastore (pc' := 84) (M' := (mem (P, some 5, some 22) (si I4 130 (x6).toNat v3) J5)) dX12_most_83 rfl L_130 (by decide) e6 rfl ?_
    refine st_iinc (pc' := 87) (L' := [(6, vI (x6 + 1)), (0, vR (some 74)), (1, vI x1), (3, vI x3), (4, vI x4), (5, vI x5)]) (j := 5) dX12_most_84 rfl (by decide) rfl rfl ?_
    refine st_goto (pc' := 55) dX12_most_87 (by decide) ?_
    refine WP_sub (L' := [(0, vR (some 74)), (1, vI x1), (3, vI x3), (4, vI x4), (5, vI x5), (6, vI (x6 + 1))]) [1, 2, 3, 4, 5, 0] rfl ?_
    exact h
set_option maxRecDepth 20000 in
set_option maxHeartbeats 4000000 in
theorem B_X12_most_99 {k : Nat} {P : Option Nat} {I : Nat → Nat → Int32} {J : Nat → Nat → Int64} {x3 : Int} {x4 : Int} {x5 : Int} {x6 : Int} {x7 : Int} {x8 : Int} {Q : Option AV → Mem → Prop} (hk : 1 ≤ k) (h : (0 ≤ (gi I 74 13) ∧ (gi I 74 13) < 2) ∧ (inR x8 ∧ (((shl32 1 (gi I 77 (gi I 74 13).toNat)) ≤ x8 → (inR x3 ∧ ((¬ x3 = 0 → ((¬ x3 = 1 → (Q (some (vI x7)) (mem (P, some 5, some 22) I J))) ∧ (x3 = 1 → (Q (some (vI x6)) (mem (P, some 5, some 22) I J))))) ∧ (x3 = 0 → (WPm (k - 1) LAY m_X12_bits [vI x6] (mem (P, some 5, some 22) I J) (retI (fun v4 I5 J6 => Q (some (vI v4)) (mem (P, some 5, some 22) I5 J6)) (P, some 5, some 22))))))) ∧ (¬ (shl32 1 (gi I 77 (gi I 74 13).toNat)) ≤ x8 → ((¬ (and32 x8 x4) = 0 → (WP k LAY m_X12_most 267 [(0, vR (some 74)), (3, vI x3), (4, vI x4), (5, vI x5), (6, vI x6), (7, vI x7), (8, vI x8)] [] (mem (P, some 5, some 22) I J) Q)) ∧ ((and32 x8 x4) = 0 → (WPm (k - 1) LAY m_X12_bits [vI x8] (mem (P, some 5, some 22) I J) (retI (fun v7 I8 J9 => WPm (k - 1) LAY m_X12_bits [vI x6] (mem (P, some 5, some 22) I8 J9) (retI (fun v10 I11 J12 => inR v7 ∧ (inR v10 ∧ ((v10 ≤ v7 → (WP k LAY m_X12_most 148 [(0, vR (some 74)), (3, vI x3), (4, vI x4), (5, vI x5), (6, vI x6), (7, vI x7), (8, vI x8), (9, vI 0), (10, vI 1), (11, vI 0)] [] (mem (P, some 5, some 22) I11 J12) Q)) ∧ (¬ v10 ≤ v7 → (WP k LAY m_X12_most 267 [(0, vR (some 74)), (3, vI x3), (4, vI x4), (5, vI x5), (6, vI x6), (7, vI x7), (8, vI x8)] [] (mem (P, some 5, some 22) I11 J12) Q))))) (P, some 5, some 22))) (P, some 5, some 22))))))))) : WP k LAY m_X12_most 99 [(0, vR (some 74)), (3, vI x3), (4, vI x4), (5, vI x5), (6, vI x6), (7, vI x7), (8, vI x8)] [] (mem (P, some 5, some 22) I J) Q := by
  refine st_iload (pc' := 101) dX12_most_99 rfl (j := 6) rfl ?_
  refine st_iconst (pc' := 102) dX12_most_101 rfl ?_
  refine st_aload_n (pc' := 103) dX12_most_102 rfl rfl (j := 0) rfl ?_
  refine G_X12_57_74 dX12_most_103 (pc' := 106) rfl rfl ?_
  refine st_aload_n (pc' := 107) dX12_most_106 rfl rfl (j := 0) rfl ?_
  refine G_X12_51_74 dX12_most_107 (pc' := 110) rfl rfl ?_
  obtain ⟨e1, h⟩ := h
  refine st_iaload (pc' := 111) (v := (gi I 77 (gi I 74 13).toNat)) dX12_most_110 rfl L_77 (by decide) e1 (show gi I 77 (gi I 74 13).toNat = (gi I 77 (gi I 74 13).toNat) from rfl) ?_
  refine st_ishl (pc' := 112) (z := (shl32 1 (gi I 77 (gi I 74 13).toNat))) dX12_most_111 rfl rfl ?_
  obtain ⟨e2, h⟩ := h
  refine st_icmp_ge (tg := 273) (pc' := 115) dX12_most_112 (by decide) rfl e2 (shl32_in _ _) (fun c => ?_) (fun c => ?_)
  · replace h := h.1 c
    refine st_iload_n (pc' := 274) dX12_most_273 rfl rfl (j := 1) rfl ?_
    obtain ⟨e3, h⟩ := h
    refine st_if_ne (tg := 285) (pc' := 277) dX12_most_274 (by decide) rfl e3 (fun c => ?_) (fun c => ?_)
    · replace h := h.1 c
      refine st_iload_n (pc' := 286) dX12_most_285 rfl rfl (j := 1) rfl ?_
      refine st_iconst (pc' := 287) dX12_most_286 rfl ?_
      refine st_icmp_ne (tg := 295) (pc' := 290) dX12_most_287 (by decide) rfl e3 (by decide) (fun c => ?_) (fun c => ?_)
      · replace h := h.1 c
        refine st_iload (pc' := 297) dX12_most_295 rfl (j := 5) rfl ?_
        exact st_iret (ty := .int) dX12_most_297 rfl rfl rfl h
      · replace h := h.2 c
        refine st_iload (pc' := 292) dX12_most_290 rfl (j := 4) rfl ?_
        refine st_goto (pc' := 297) dX12_most_292 (by decide) ?_
        exact st_iret (ty := .int) dX12_most_297 rfl rfl rfl h
    · replace h := h.2 c
      refine st_iload (pc' := 279) dX12_most_277 rfl (j := 4) rfl ?_
      refine st_callS (pc' := 282) (kc := k - 1) (E' := LAY) (cal := m_X12_bits) (n := 1) (as := [vI x6]) (S := []) dX12_most_279 rfl l_X12_482 k_X12_bits rfl rfl (Nat.le_of_ble_eq_true rfl) (by omega) ⟨Nat.le_refl _, Nat.le_refl _, Nat.le_refl _, Nat.le_refl _⟩ h (fun r M' q => ?_)
      obtain ⟨v4, I5, J6, rfl, rfl, h⟩ := q
      change WP _ LAY m_X12_most 282 [(0, vR (some 74)), (3, vI x3), (4, vI x4), (5, vI x5), (6, vI x6), (7, vI x7), (8, vI x8)] [vI v4] (mem (P, some 5, some 22) I5 J6) Q
      refine st_goto (pc' := 297) dX12_most_282 (by decide) ?_
      exact st_iret (ty := .int) dX12_most_297 rfl rfl rfl h
  · replace h := h.2 c
    refine st_iload (pc' := 117) dX12_most_115 rfl (j := 6) rfl ?_
    refine st_iload (pc' := 119) dX12_most_117 rfl (j := 2) rfl ?_
    refine st_iand (pc' := 120) (z := (and32 x8 x4)) dX12_most_119 rfl rfl ?_
    refine st_if_ne (tg := 267) (pc' := 123) dX12_most_120 (by decide) rfl (and32_in _ _) (fun c => ?_) (fun c => ?_)
    · replace h := h.1 c
      exact h
    · replace h := h.2 c
      refine st_iload (pc' := 125) dX12_most_123 rfl (j := 6) rfl ?_
      refine st_callS (pc' := 128) (kc := k - 1) (E' := LAY) (cal := m_X12_bits) (n := 1) (as := [vI x8]) (S := []) dX12_most_125 rfl l_X12_482 k_X12_bits rfl rfl (Nat.le_of_ble_eq_true rfl) (by omega) ⟨Nat.le_refl _, Nat.le_refl _, Nat.le_refl _, Nat.le_refl _⟩ h (fun r M' q => ?_)
      obtain ⟨v7, I8, J9, rfl, rfl, h⟩ := q
      change WP _ LAY m_X12_most 128 [(0, vR (some 74)), (3, vI x3), (4, vI x4), (5, vI x5), (6, vI x6), (7, vI x7), (8, vI x8)] [vI v7] (mem (P, some 5, some 22) I8 J9) Q
      refine st_iload (pc' := 130) dX12_most_128 rfl (j := 4) rfl ?_
      refine st_callS (pc' := 133) (kc := k - 1) (E' := LAY) (cal := m_X12_bits) (n := 1) (as := [vI x6]) (S := [vI v7]) dX12_most_130 rfl l_X12_482 k_X12_bits rfl rfl (Nat.le_of_ble_eq_true rfl) (by omega) ⟨Nat.le_refl _, Nat.le_refl _, Nat.le_refl _, Nat.le_refl _⟩ h (fun r M' q => ?_)
      obtain ⟨v10, I11, J12, rfl, rfl, h⟩ := q
      change WP _ LAY m_X12_most 133 [(0, vR (some 74)), (3, vI x3), (4, vI x4), (5, vI x5), (6, vI x6), (7, vI x7), (8, vI x8)] [vI v10, vI v7] (mem (P, some 5, some 22) I11 J12) Q
      obtain ⟨e13, h⟩ := h
      obtain ⟨e14, h⟩ := h
      refine st_icmp_ge (tg := 139) (pc' := 136) dX12_most_133 (by decide) rfl e13 e14 (fun c => ?_) (fun c => ?_)
      · replace h := h.1 c
        refine st_iconst (pc' := 140) dX12_most_139 rfl ?_
        refine st_istore (pc' := 142) (L' := [(9, vI 0), (0, vR (some 74)), (3, vI x3), (4, vI x4), (5, vI x5), (6, vI x6), (7, vI x7), (8, vI x8)]) dX12_most_140 rfl (by decide) rfl ?_
        refine st_iconst (pc' := 143) dX12_most_142 rfl ?_
        refine st_istore (pc' := 145) (L' := [(10, vI 1), (9, vI 0), (0, vR (some 74)), (3, vI x3), (4, vI x4), (5, vI x5), (6, vI x6), (7, vI x7), (8, vI x8)]) dX12_most_143 rfl (by decide) rfl ?_
        refine st_iconst (pc' := 146) dX12_most_145 rfl ?_
        refine st_istore (pc' := 148) (L' := [(11, vI 0), (10, vI 1), (9, vI 0), (0, vR (some 74)), (3, vI x3), (4, vI x4), (5, vI x5), (6, vI x6), (7, vI x7), (8, vI x8)]) dX12_most_146 rfl (by decide) rfl ?_
        refine WP_sub (L' := [(0, vR (some 74)), (3, vI x3), (4, vI x4), (5, vI x5), (6, vI x6), (7, vI x7), (8, vI x8), (9, vI 0), (10, vI 1), (11, vI 0)]) [3, 4, 5, 6, 7, 8, 9, 2, 1, 0] rfl ?_
        exact h
      · replace h := h.2 c
        refine st_goto (pc' := 267) dX12_most_136 (by decide) ?_
        exact h
set_option maxRecDepth 20000 in
set_option maxHeartbeats 4000000 in
theorem B_X12_most_267 {k : Nat} {P : Option Nat} {I : Nat → Nat → Int32} {J : Nat → Nat → Int64} {x3 : Int} {x4 : Int} {x5 : Int} {x6 : Int} {x7 : Int} {x8 : Int} {Q : Option AV → Mem → Prop} (hk : 0 ≤ k) (h : WP k LAY m_X12_most 99 [(0, vR (some 74)), (3, vI x3), (4, vI x4), (5, vI x5), (6, vI x6), (7, vI x7), (8, vI (x8 + 1))] [] (mem (P, some 5, some 22) I J) Q) : WP k LAY m_X12_most 267 [(0, vR (some 74)), (3, vI x3), (4, vI x4), (5, vI x5), (6, vI x6), (7, vI x7), (8, vI x8)] [] (mem (P, some 5, some 22) I J) Q := by
  refine st_iinc (pc' := 270) (L' := [(8, vI (x8 + 1)), (0, vR (some 74)), (3, vI x3), (4, vI x4), (5, vI x5), (6, vI x6), (7, vI x7)]) (j := 6) dX12_most_267 rfl (by decide) rfl rfl ?_
  refine st_goto (pc' := 99) dX12_most_270 (by decide) ?_
  refine WP_sub (L' := [(0, vR (some 74)), (3, vI x3), (4, vI x4), (5, vI x5), (6, vI x6), (7, vI x7), (8, vI (x8 + 1))]) [1, 2, 3, 4, 5, 6, 0] rfl ?_
  exact h
set_option maxRecDepth 20000 in
set_option maxHeartbeats 4000000 in
theorem B_X12_most_148 {k : Nat} {P : Option Nat} {I : Nat → Nat → Int32} {J : Nat → Nat → Int64} {x3 : Int} {x4 : Int} {x5 : Int} {x6 : Int} {x7 : Int} {x8 : Int} {x9 : Int} {x10 : Int} {x11 : Int} {Q : Option AV → Mem → Prop} (hk : 1 ≤ k) (h : (0 ≤ (gi I 74 13) ∧ (gi I 74 13) < 2) ∧ (inR x11 ∧ (((gi I 77 (gi I 74 13).toNat) ≤ x11 → (WP k LAY m_X12_most 224 [(0, vR (some 74)), (3, vI x3), (4, vI x4), (5, vI x5), (6, vI x6), (7, vI x7), (8, vI x8), (9, vI x9), (10, vI x10)] [] (mem (P, some 5, some 22) I J) Q)) ∧ (¬ (gi I 77 (gi I 74 13).toNat) ≤ x11 → (inR x10 ∧ ((x10 = 0 → (WP k LAY m_X12_most 224 [(0, vR (some 74)), (3, vI x3), (4, vI x4), (5, vI x5), (6, vI x6), (7, vI x7), (8, vI x8), (9, vI x9), (10, vI x10)] [] (mem (P, some 5, some 22) I J) Q)) ∧ (¬ x10 = 0 → (((and32 (shr32 x8 x11) 1 = 1) → ((0 ≤ x11 ∧ x11 < 14) ∧ ((0 ≤ ((14 * (gi I 74 13)) + x11) ∧ ((14 * (gi I 74 13)) + x11) < 28) ∧ ((¬ (and32 (and32 (gi I 81 (((14 * (gi I 74 13)) + x11) : Int).toNat) (xor32 x4 (-1))) (xor32 x8 (-1))) = 0 → (WP k LAY m_X12_most 148 [(0, vR (some 74)), (3, vI x3), (4, vI x4), (5, vI x5), (6, vI x6), (7, vI x7), (8, vI x8), (9, vI (x9 + (gi I 130 (x11).toNat))), (10, vI 0), (11, vI (x11 + 1))] [] (mem (P, some 5, some 22) I J) Q)) ∧ ((and32 (and32 (gi I 81 (((14 * (gi I 74 13)) + x11) : Int).toNat) (xor32 x4 (-1))) (xor32 x8 (-1))) = 0 → (WP k LAY m_X12_most 148 [(0, vR (some 74)), (3, vI x3), (4, vI x4), (5, vI x5), (6, vI x6), (7, vI x7), (8, vI x8), (9, vI (x9 + (gi I 130 (x11).toNat))), (10, vI 1), (11, vI (x11 + 1))] [] (mem (P, some 5, some 22) I J) Q)))))) ∧ (¬ (and32 (shr32 x8 x11) 1 = 1) → (WP k LAY m_X12_most 148 [(0, vR (some 74)), (3, vI x3), (4, vI x4), (5, vI x5), (6, vI x6), (7, vI x7), (8, vI x8), (9, vI x9), (10, vI x10), (11, vI (x11 + 1))] [] (mem (P, some 5, some 22) I J) Q)))))))))) : WP k LAY m_X12_most 148 [(0, vR (some 74)), (3, vI x3), (4, vI x4), (5, vI x5), (6, vI x6), (7, vI x7), (8, vI x8), (9, vI x9), (10, vI x10), (11, vI x11)] [] (mem (P, some 5, some 22) I J) Q := by
  refine st_iload (pc' := 150) dX12_most_148 rfl (j := 9) rfl ?_
  refine st_aload_n (pc' := 151) dX12_most_150 rfl rfl (j := 0) rfl ?_
  refine G_X12_57_74 dX12_most_151 (pc' := 154) rfl rfl ?_
  refine st_aload_n (pc' := 155) dX12_most_154 rfl rfl (j := 0) rfl ?_
  refine G_X12_51_74 dX12_most_155 (pc' := 158) rfl rfl ?_
  obtain ⟨e1, h⟩ := h
  refine st_iaload (pc' := 159) (v := (gi I 77 (gi I 74 13).toNat)) dX12_most_158 rfl L_77 (by decide) e1 (show gi I 77 (gi I 74 13).toNat = (gi I 77 (gi I 74 13).toNat) from rfl) ?_
  obtain ⟨e2, h⟩ := h
  refine st_icmp_ge (tg := 224) (pc' := 162) dX12_most_159 (by decide) rfl e2 (gi_in _ _ _) (fun c => ?_) (fun c => ?_)
  · replace h := h.1 c
    refine WP_sub (L' := [(0, vR (some 74)), (3, vI x3), (4, vI x4), (5, vI x5), (6, vI x6), (7, vI x7), (8, vI x8), (9, vI x9), (10, vI x10)]) [0, 1, 2, 3, 4, 5, 6, 7, 8] rfl ?_
    exact h
  · replace h := h.2 c
    refine st_iload (pc' := 164) dX12_most_162 rfl (j := 8) rfl ?_
    obtain ⟨e3, h⟩ := h
    refine st_if_eq (tg := 224) (pc' := 167) dX12_most_164 (by decide) rfl e3 (fun c => ?_) (fun c => ?_)
    · replace h := h.1 c
      refine WP_sub (L' := [(0, vR (some 74)), (3, vI x3), (4, vI x4), (5, vI x5), (6, vI x6), (7, vI x7), (8, vI x8), (9, vI x9), (10, vI x10)]) [0, 1, 2, 3, 4, 5, 6, 7, 8] rfl ?_
      exact h
    · replace h := h.2 c
      refine st_iload (pc' := 169) dX12_most_167 rfl (j := 6) rfl ?_
      refine st_iload (pc' := 171) dX12_most_169 rfl (j := 9) rfl ?_
      refine st_callS (pc' := 174) (kc := k - 1) (E' := LAY) (cal := m_X12_has) (n := 2) (as := [vI x8, vI x11]) (S := []) dX12_most_171 rfl l_X12_552 k_X12_has rfl rfl (Nat.le_of_ble_eq_true rfl) (by omega) ⟨Nat.le_refl _, Nat.le_refl _, Nat.le_refl _, Nat.le_refl _⟩ (Q1 := fun r M' => WP k LAY m_X12_most 174 [(0, vR (some 74)), (3, vI x3), (4, vI x4), (5, vI x5), (6, vI x6), (7, vI x7), (8, vI x8), (9, vI x9), (10, vI x10), (11, vI x11)] (r.toList ++ []) M' Q) (S_X12_has (by omega)  ?_) (fun r M' q => q)
      change WP _ LAY m_X12_most 174 [(0, vR (some 74)), (3, vI x3), (4, vI x4), (5, vI x5), (6, vI x6), (7, vI x7), (8, vI x8), (9, vI x9), (10, vI x10), (11, vI x11)] [vI (b2i (and32 (shr32 x8 x11) 1 = 1))] (mem (P, some 5, some 22) I J) Q
      refine st_if_ne (tg := 180) (pc' := 177) dX12_most_174 (by decide) rfl (b2i_in _) (fun c => ?_) (fun c => ?_)
      · replace h := h.1 (b2i_t.mp c)
        refine st_iload (pc' := 182) dX12_most_180 rfl (j := 7) rfl ?_
        refine st_aload_n (pc' := 183) dX12_most_182 rfl rfl (j := 0) rfl ?_
        refine G_X12_270_74 dX12_most_183 (pc' := 186) rfl rfl ?_
        refine st_iload (pc' := 188) dX12_most_186 rfl (j := 9) rfl ?_
        obtain ⟨e4, h⟩ := h
        refine st_iaload (pc' := 189) (v := (gi I 130 (x11).toNat)) dX12_most_188 rfl L_130 (by decide) e4 (show gi I 130 (x11).toNat = (gi I 130 (x11).toNat) from rfl) ?_
        refine st_iadd (pc' := 190) dX12_most_189 rfl ?_
        refine st_istore (pc' := 192) (L' := [(9, vI (x9 + (gi I 130 (x11).toNat))), (0, vR (some 74)), (3, vI x3), (4, vI x4), (5, vI x5), (6, vI x6), (7, vI x7), (8, vI x8), (10, vI x10), (11, vI x11)]) dX12_most_190 rfl (by decide) rfl ?_
        refine st_aload_n (pc' := 193) dX12_most_192 rfl rfl (j := 1) rfl ?_
        refine st_iload (pc' := 195) dX12_most_193 rfl (j := 9) rfl ?_
        refine st_callV (pc' := 198) (kc := k - 1) (E' := LAY) (cal := m_X12_needsOf) (n := 1) (as := [vI x11]) (S := []) dX12_most_195 rfl l_X12_470 k_X12_needsOf rfl L_74 c_X12 rfl rfl (Nat.le_of_ble_eq_true rfl) (by omega) ⟨Nat.le_refl _, Nat.le_refl _, Nat.le_refl _, Nat.le_refl _⟩ (Q1 := fun r M' => WP k LAY m_X12_most 198 [(9, vI (x9 + (gi I 130 (x11).toNat))), (0, vR (some 74)), (3, vI x3), (4, vI x4), (5, vI x5), (6, vI x6), (7, vI x7), (8, vI x8), (10, vI x10), (11, vI x11)] (r.toList ++ []) M' Q) (WPm.of k_X12_needsOf.1 (Nat.le_of_ble_eq_true rfl) (B_X12_needsOf_0 (by omega) ?_)) (fun r M' q => q)
        obtain ⟨e5, h⟩ := h
        refine ⟨e5, ?_⟩
        change WP _ LAY m_X12_most 198 [(9, vI (x9 + (gi I 130 (x11).toNat))), (0, vR (some 74)), (3, vI x3), (4, vI x4), (5, vI x5), (6, vI x6), (7, vI x7), (8, vI x8), (10, vI x10), (11, vI x11)] [vI (gi I 81 (((14 * (gi I 74 13)) + x11) : Int).toNat)] (mem (P, some 5, some 22) I J) Q
        refine st_iload (pc' := 200) dX12_most_198 rfl (j := 3) rfl ?_
        refine st_iconst (pc' := 201) dX12_most_200 rfl ?_
        refine st_ixor (pc' := 202) (z := (xor32 x4 (-1))) dX12_most_201 rfl rfl ?_
        refine st_iand (pc' := 203) (z := (and32 (gi I 81 (((14 * (gi I 74 13)) + x11) : Int).toNat) (xor32 x4 (-1)))) dX12_most_202 rfl rfl ?_
        refine st_iload (pc' := 205) dX12_most_203 rfl (j := 7) rfl ?_
        refine st_iconst (pc' := 206) dX12_most_205 rfl ?_
        refine st_ixor (pc' := 207) (z := (xor32 x8 (-1))) dX12_most_206 rfl rfl ?_
        refine st_iand (pc' := 208) (z := (and32 (and32 (gi I 81 (((14 * (gi I 74 13)) + x11) : Int).toNat) (xor32 x4 (-1))) (xor32 x8 (-1)))) dX12_most_207 rfl rfl ?_
        refine st_if_ne (tg := 215) (pc' := 211) dX12_most_208 (by decide) rfl (and32_in _ _) (fun c => ?_) (fun c => ?_)
        · replace h := h.1 c
          refine st_iconst (pc' := 216) dX12_most_215 rfl ?_
          refine st_istore (pc' := 218) (L' := [(10, vI 0), (9, vI (x9 + (gi I 130 (x11).toNat))), (0, vR (some 74)), (3, vI x3), (4, vI x4), (5, vI x5), (6, vI x6), (7, vI x7), (8, vI x8), (11, vI x11)]) dX12_most_216 rfl (by decide) rfl ?_
          refine st_iinc (pc' := 221) (L' := [(11, vI (x11 + 1)), (10, vI 0), (9, vI (x9 + (gi I 130 (x11).toNat))), (0, vR (some 74)), (3, vI x3), (4, vI x4), (5, vI x5), (6, vI x6), (7, vI x7), (8, vI x8)]) (j := 9) dX12_most_218 rfl (by decide) rfl rfl ?_
          refine st_goto (pc' := 148) dX12_most_221 (by decide) ?_
          refine WP_sub (L' := [(0, vR (some 74)), (3, vI x3), (4, vI x4), (5, vI x5), (6, vI x6), (7, vI x7), (8, vI x8), (9, vI (x9 + (gi I 130 (x11).toNat))), (10, vI 0), (11, vI (x11 + 1))]) [3, 4, 5, 6, 7, 8, 9, 2, 1, 0] rfl ?_
          exact h
        · replace h := h.2 c
          refine st_iconst (pc' := 212) dX12_most_211 rfl ?_
          refine st_goto (pc' := 216) dX12_most_212 (by decide) ?_
          refine st_istore (pc' := 218) (L' := [(10, vI 1), (9, vI (x9 + (gi I 130 (x11).toNat))), (0, vR (some 74)), (3, vI x3), (4, vI x4), (5, vI x5), (6, vI x6), (7, vI x7), (8, vI x8), (11, vI x11)]) dX12_most_216 rfl (by decide) rfl ?_
          refine st_iinc (pc' := 221) (L' := [(11, vI (x11 + 1)), (10, vI 1), (9, vI (x9 + (gi I 130 (x11).toNat))), (0, vR (some 74)), (3, vI x3), (4, vI x4), (5, vI x5), (6, vI x6), (7, vI x7), (8, vI x8)]) (j := 9) dX12_most_218 rfl (by decide) rfl rfl ?_
          refine st_goto (pc' := 148) dX12_most_221 (by decide) ?_
          refine WP_sub (L' := [(0, vR (some 74)), (3, vI x3), (4, vI x4), (5, vI x5), (6, vI x6), (7, vI x7), (8, vI x8), (9, vI (x9 + (gi I 130 (x11).toNat))), (10, vI 1), (11, vI (x11 + 1))]) [3, 4, 5, 6, 7, 8, 9, 2, 1, 0] rfl ?_
          exact h
      · replace h := h.2 (b2i_f.mp c)
        refine st_goto (pc' := 218) dX12_most_177 (by decide) ?_
        refine st_iinc (pc' := 221) (L' := [(11, vI (x11 + 1)), (0, vR (some 74)), (3, vI x3), (4, vI x4), (5, vI x5), (6, vI x6), (7, vI x7), (8, vI x8), (9, vI x9), (10, vI x10)]) (j := 9) dX12_most_218 rfl (by decide) rfl rfl ?_
        refine st_goto (pc' := 148) dX12_most_221 (by decide) ?_
        refine WP_sub (L' := [(0, vR (some 74)), (3, vI x3), (4, vI x4), (5, vI x5), (6, vI x6), (7, vI x7), (8, vI x8), (9, vI x9), (10, vI x10), (11, vI (x11 + 1))]) [1, 2, 3, 4, 5, 6, 7, 8, 9, 0] rfl ?_
        exact h
set_option maxRecDepth 20000 in
set_option maxHeartbeats 4000000 in
theorem B_X12_most_224 {k : Nat} {P : Option Nat} {I : Nat → Nat → Int32} {J : Nat → Nat → Int64} {x3 : Int} {x4 : Int} {x5 : Int} {x6 : Int} {x7 : Int} {x8 : Int} {x9 : Int} {x10 : Int} {Q : Option AV → Mem → Prop} (hk : 1 ≤ k) (h : inR x10 ∧ ((x10 = 0 → (WP k LAY m_X12_most 267 [(0, vR (some 74)), (3, vI x3), (4, vI x4), (5, vI x5), (6, vI x6), (7, vI x7), (8, vI x8)] [] (mem (P, some 5, some 22) I J) Q)) ∧ (¬ x10 = 0 → (inR x9 ∧ (inR x5 ∧ ((x5 < x9 → (WP k LAY m_X12_most 267 [(0, vR (some 74)), (3, vI x3), (4, vI x4), (5, vI x5), (6, vI x6), (7, vI x7), (8, vI x8)] [] (mem (P, some 5, some 22) I J) Q)) ∧ (¬ x5 < x9 → (WPm (k - 1) LAY m_X12_bits [vI x8] (mem (P, some 5, some 22) I J) (retI (fun v4 I5 J6 => WPm (k - 1) LAY m_X12_bits [vI x6] (mem (P, some 5, some 22) I5 J6) (retI (fun v7 I8 J9 => inR v4 ∧ (inR v7 ∧ ((¬ v4 = v7 → (WP k LAY m_X12_most 267 [(0, vR (some 74)), (3, vI x3), (4, vI x4), (5, vI x5), (6, vI x8), (7, vI x9), (8, vI x8)] [] (mem (P, some 5, some 22) I8 J9) Q)) ∧ (v4 = v7 → (inR x7 ∧ ((x9 < x7 → (WP k LAY m_X12_most 267 [(0, vR (some 74)), (3, vI x3), (4, vI x4), (5, vI x5), (6, vI x8), (7, vI x9), (8, vI x8)] [] (mem (P, some 5, some 22) I8 J9) Q)) ∧ (¬ x9 < x7 → (WP k LAY m_X12_most 267 [(0, vR (some 74)), (3, vI x3), (4, vI x4), (5, vI x5), (6, vI x6), (7, vI x7), (8, vI x8)] [] (mem (P, some 5, some 22) I8 J9) Q)))))))) (P, some 5, some 22))) (P, some 5, some 22)))))))))) : WP k LAY m_X12_most 224 [(0, vR (some 74)), (3, vI x3), (4, vI x4), (5, vI x5), (6, vI x6), (7, vI x7), (8, vI x8), (9, vI x9), (10, vI x10)] [] (mem (P, some 5, some 22) I J) Q := by
  refine st_iload (pc' := 226) dX12_most_224 rfl (j := 8) rfl ?_
  obtain ⟨e1, h⟩ := h
  refine st_if_eq (tg := 267) (pc' := 229) dX12_most_226 (by decide) rfl e1 (fun c => ?_) (fun c => ?_)
  · replace h := h.1 c
    refine WP_sub (L' := [(0, vR (some 74)), (3, vI x3), (4, vI x4), (5, vI x5), (6, vI x6), (7, vI x7), (8, vI x8)]) [0, 1, 2, 3, 4, 5, 6] rfl ?_
    exact h
  · replace h := h.2 c
    refine st_iload (pc' := 231) dX12_most_229 rfl (j := 7) rfl ?_
    refine st_iload (pc' := 233) dX12_most_231 rfl (j := 3) rfl ?_
    obtain ⟨e2, h⟩ := h
    obtain ⟨e3, h⟩ := h
    refine st_icmp_gt (tg := 267) (pc' := 236) dX12_most_233 (by decide) rfl e2 e3 (fun c => ?_) (fun c => ?_)
    · replace h := h.1 c
      refine WP_sub (L' := [(0, vR (some 74)), (3, vI x3), (4, vI x4), (5, vI x5), (6, vI x6), (7, vI x7), (8, vI x8)]) [0, 1, 2, 3, 4, 5, 6] rfl ?_
      exact h
    · replace h := h.2 c
      refine st_iload (pc' := 238) dX12_most_236 rfl (j := 6) rfl ?_
      refine st_callS (pc' := 241) (kc := k - 1) (E' := LAY) (cal := m_X12_bits) (n := 1) (as := [vI x8]) (S := []) dX12_most_238 rfl l_X12_482 k_X12_bits rfl rfl (Nat.le_of_ble_eq_true rfl) (by omega) ⟨Nat.le_refl _, Nat.le_refl _, Nat.le_refl _, Nat.le_refl _⟩ h (fun r M' q => ?_)
      obtain ⟨v4, I5, J6, rfl, rfl, h⟩ := q
      change WP _ LAY m_X12_most 241 [(0, vR (some 74)), (3, vI x3), (4, vI x4), (5, vI x5), (6, vI x6), (7, vI x7), (8, vI x8), (9, vI x9), (10, vI x10)] [vI v4] (mem (P, some 5, some 22) I5 J6) Q
      refine st_iload (pc' := 243) dX12_most_241 rfl (j := 4) rfl ?_
      refine st_callS (pc' := 246) (kc := k - 1) (E' := LAY) (cal := m_X12_bits) (n := 1) (as := [vI x6]) (S := [vI v4]) dX12_most_243 rfl l_X12_482 k_X12_bits rfl rfl (Nat.le_of_ble_eq_true rfl) (by omega) ⟨Nat.le_refl _, Nat.le_refl _, Nat.le_refl _, Nat.le_refl _⟩ h (fun r M' q => ?_)
      obtain ⟨v7, I8, J9, rfl, rfl, h⟩ := q
      change WP _ LAY m_X12_most 246 [(0, vR (some 74)), (3, vI x3), (4, vI x4), (5, vI x5), (6, vI x6), (7, vI x7), (8, vI x8), (9, vI x9), (10, vI x10)] [vI v7, vI v4] (mem (P, some 5, some 22) I8 J9) Q
      obtain ⟨e10, h⟩ := h
      obtain ⟨e11, h⟩ := h
      refine st_icmp_ne (tg := 259) (pc' := 249) dX12_most_246 (by decide) rfl e10 e11 (fun c => ?_) (fun c => ?_)
      · replace h := h.1 c
        refine st_iload (pc' := 261) dX12_most_259 rfl (j := 6) rfl ?_
        refine st_istore (pc' := 263) (L' := [(6, vI x8), (0, vR (some 74)), (3, vI x3), (4, vI x4), (5, vI x5), (7, vI x7), (8, vI x8), (9, vI x9), (10, vI x10)]) dX12_most_261 rfl (by decide) rfl ?_
        refine st_iload (pc' := 265) dX12_most_263 rfl (j := 7) rfl ?_
        refine st_istore (pc' := 267) (L' := [(7, vI x9), (6, vI x8), (0, vR (some 74)), (3, vI x3), (4, vI x4), (5, vI x5), (8, vI x8), (9, vI x9), (10, vI x10)]) dX12_most_265 rfl (by decide) rfl ?_
        refine WP_sub (L' := [(0, vR (some 74)), (3, vI x3), (4, vI x4), (5, vI x5), (6, vI x8), (7, vI x9), (8, vI x8)]) [2, 3, 4, 5, 1, 0, 6] rfl ?_
        exact h
      · replace h := h.2 c
        refine st_iload (pc' := 251) dX12_most_249 rfl (j := 7) rfl ?_
        refine st_iload (pc' := 253) dX12_most_251 rfl (j := 5) rfl ?_
        obtain ⟨e12, h⟩ := h
        refine st_icmp_lt (tg := 259) (pc' := 256) dX12_most_253 (by decide) rfl e2 e12 (fun c => ?_) (fun c => ?_)
        · replace h := h.1 c
          refine st_iload (pc' := 261) dX12_most_259 rfl (j := 6) rfl ?_
          refine st_istore (pc' := 263) (L' := [(6, vI x8), (0, vR (some 74)), (3, vI x3), (4, vI x4), (5, vI x5), (7, vI x7), (8, vI x8), (9, vI x9), (10, vI x10)]) dX12_most_261 rfl (by decide) rfl ?_
          refine st_iload (pc' := 265) dX12_most_263 rfl (j := 7) rfl ?_
          refine st_istore (pc' := 267) (L' := [(7, vI x9), (6, vI x8), (0, vR (some 74)), (3, vI x3), (4, vI x4), (5, vI x5), (8, vI x8), (9, vI x9), (10, vI x10)]) dX12_most_265 rfl (by decide) rfl ?_
          refine WP_sub (L' := [(0, vR (some 74)), (3, vI x3), (4, vI x4), (5, vI x5), (6, vI x8), (7, vI x9), (8, vI x8)]) [2, 3, 4, 5, 1, 0, 6] rfl ?_
          exact h
        · replace h := h.2 c
          refine st_goto (pc' := 267) dX12_most_256 (by decide) ?_
          refine WP_sub (L' := [(0, vR (some 74)), (3, vI x3), (4, vI x4), (5, vI x5), (6, vI x6), (7, vI x7), (8, vI x8)]) [0, 1, 2, 3, 4, 5, 6] rfl ?_
          exact h
set_option maxRecDepth 20000 in
set_option maxHeartbeats 4000000 in
theorem B_X12_nightGoes_0 {k : Nat} {P : Option Nat} {I : Nat → Nat → Int32} {J : Nat → Nat → Int64}  {Q : Option AV → Mem → Prop} (hk : 1 ≤ k) (h : WPm (k - 1) LAY m_X12_goesNight [vR (some 74), vI 0] (mem (P, some 5, some 22) I J) (retI (fun v1 I2 J3 => inR ((gi I 109 0) + v1) ∧ ((((gi I 109 0) + v1) ≤ 9999 → (Q (some (vI (gi I2 74 77))) (mem (P, some 5, some 22) (si (si I2 109 0 ((gi I 109 0) + v1)) 108 0 ((gi I2 108 0) + 1)) J3))) ∧ (¬ ((gi I 109 0) + v1) ≤ 9999 → (Q (some (vI (gi I2 74 77))) (mem (P, some 5, some 22) (si (si I2 109 0 9999) 108 0 ((gi I2 108 0) + 1)) J3))))) (P, some 5, some 22))) : WP k LAY m_X12_nightGoes 0 [(0, vR (some 74))] [] (mem (P, some 5, some 22) I J) Q := by
  refine st_aload_n (pc' := 1) dX12_nightGoes_0 rfl rfl (j := 0) rfl ?_
  refine G_X12_174_74 dX12_nightGoes_1 (pc' := 4) rfl rfl ?_
  refine st_iconst (pc' := 5) dX12_nightGoes_4 rfl ?_
  refine st_iaload (pc' := 6) (v := (gi I 109 0)) dX12_nightGoes_5 rfl L_109 (by decide) (by decide) (show gi I 109 0 = (gi I 109 0) from rfl) ?_
  refine st_aload_n (pc' := 7) dX12_nightGoes_6 rfl rfl (j := 0) rfl ?_
  refine st_iconst (pc' := 8) dX12_nightGoes_7 rfl ?_
  refine st_callV (pc' := 11) (kc := k - 1) (E' := LAY) (cal := m_X12_goesNight) (n := 1) (as := [vI 0]) (S := [vI (gi I 109 0)]) dX12_nightGoes_8 rfl l_X12_547 k_X12_goesNight rfl L_74 c_X12 rfl rfl (Nat.le_of_ble_eq_true rfl) (by omega) ⟨Nat.le_refl _, Nat.le_refl _, Nat.le_refl _, Nat.le_refl _⟩ h (fun r M' q => ?_)
  obtain ⟨v1, I2, J3, rfl, rfl, h⟩ := q
  change WP _ LAY m_X12_nightGoes 11 [(0, vR (some 74))] [vI v1, vI (gi I 109 0)] (mem (P, some 5, some 22) I2 J3) Q
  refine st_iadd (pc' := 12) dX12_nightGoes_11 rfl ?_
  refine st_istore_n (pc' := 13) (L' := [(1, vI ((gi I 109 0) + v1)), (0, vR (some 74))]) dX12_nightGoes_12 rfl rfl (by decide) rfl ?_
  refine st_aload_n (pc' := 14) dX12_nightGoes_13 rfl rfl (j := 1) rfl ?_
  refine G_X12_174_74 dX12_nightGoes_14 (pc' := 17) rfl rfl ?_
  refine st_iconst (pc' := 18) dX12_nightGoes_17 rfl ?_
  refine st_iload_n (pc' := 19) dX12_nightGoes_18 rfl rfl (j := 0) rfl ?_
  refine st_sipush (pc' := 22) dX12_nightGoes_19 rfl (by decide) ?_
  obtain ⟨e4, h⟩ := h
  refine st_icmp_le (tg := 31) (pc' := 25) dX12_nightGoes_22 (by decide) rfl e4 (by decide) (fun c => ?_) (fun c => ?_)
  · replace h := h.1 c
    refine st_iload_n (pc' := 32) dX12_nightGoes_31 rfl rfl (j := 0) rfl ?_
    refine st_iastore (pc' := 33) (M' := (mem (P, some 5, some 22) (si I2 109 0 ((gi I 109 0) + v1)) J3)) dX12_nightGoes_32 rfl L_109 (by decide) (by decide) rfl ?_
    refine st_aload_n (pc' := 34) dX12_nightGoes_33 rfl rfl (j := 1) rfl ?_
    refine G_X12_171_74 dX12_nightGoes_34 (pc' := 37) rfl rfl ?_
    refine st_iconst (pc' := 38) dX12_nightGoes_37 rfl ?_
    refine st_dup2 (pc' := 39) dX12_nightGoes_38 rfl rfl rfl ?_
    refine st_iaload (pc' := 40) (v := (gi I2 108 0)) dX12_nightGoes_39 rfl L_108 (by decide) (by decide) (show gi (si I2 109 0 ((gi I 109 0) + v1)) 108 0 = (gi I2 108 0) from (gi_cell _ _ _ _ (by decide))) ?_
    refine st_iconst (pc' := 41) dX12_nightGoes_40 rfl ?_
    refine st_iadd (pc' := 42) dX12_nightGoes_41 rfl ?_
    refine st_iastore (pc' := 43) (M' := (mem (P, some 5, some 22) (si (si I2 109 0 ((gi I 109 0) + v1)) 108 0 ((gi I2 108 0) + 1)) J3)) dX12_nightGoes_42 rfl L_108 (by decide) (by decide) rfl ?_
    refine st_aload_n (pc' := 44) dX12_nightGoes_43 rfl rfl (j := 1) rfl ?_
    refine G_X12_246_74 dX12_nightGoes_44 (pc' := 47) rfl rfl ?_
    rw [show gi (si (si I2 109 0 ((gi I 109 0) + v1)) 108 0 ((gi I2 108 0) + 1)) 74 77 = (gi I2 74 77) from ((gi_cell _ _ _ _ (by decide)).trans (gi_cell _ _ _ _ (by decide)))]
    exact st_iret (ty := .int) dX12_nightGoes_47 rfl rfl rfl h
  · replace h := h.2 c
    refine st_sipush (pc' := 28) dX12_nightGoes_25 rfl (by decide) ?_
    refine st_goto (pc' := 32) dX12_nightGoes_28 (by decide) ?_
    refine st_iastore (pc' := 33) (M' := (mem (P, some 5, some 22) (si I2 109 0 9999) J3)) dX12_nightGoes_32 rfl L_109 (by decide) (by decide) rfl ?_
    refine st_aload_n (pc' := 34) dX12_nightGoes_33 rfl rfl (j := 1) rfl ?_
    refine G_X12_171_74 dX12_nightGoes_34 (pc' := 37) rfl rfl ?_
    refine st_iconst (pc' := 38) dX12_nightGoes_37 rfl ?_
    refine st_dup2 (pc' := 39) dX12_nightGoes_38 rfl rfl rfl ?_
    refine st_iaload (pc' := 40) (v := (gi I2 108 0)) dX12_nightGoes_39 rfl L_108 (by decide) (by decide) (show gi (si I2 109 0 9999) 108 0 = (gi I2 108 0) from (gi_cell _ _ _ _ (by decide))) ?_
    refine st_iconst (pc' := 41) dX12_nightGoes_40 rfl ?_
    refine st_iadd (pc' := 42) dX12_nightGoes_41 rfl ?_
    refine st_iastore (pc' := 43) (M' := (mem (P, some 5, some 22) (si (si I2 109 0 9999) 108 0 ((gi I2 108 0) + 1)) J3)) dX12_nightGoes_42 rfl L_108 (by decide) (by decide) rfl ?_
    refine st_aload_n (pc' := 44) dX12_nightGoes_43 rfl rfl (j := 1) rfl ?_
    refine G_X12_246_74 dX12_nightGoes_44 (pc' := 47) rfl rfl ?_
    rw [show gi (si (si I2 109 0 9999) 108 0 ((gi I2 108 0) + 1)) 74 77 = (gi I2 74 77) from ((gi_cell _ _ _ _ (by decide)).trans (gi_cell _ _ _ _ (by decide)))]
    exact st_iret (ty := .int) dX12_nightGoes_47 rfl rfl rfl h
set_option maxRecDepth 20000 in
set_option maxHeartbeats 4000000 in
theorem B_X12_night_0 {k : Nat} {P : Option Nat} {I : Nat → Nat → Int32} {J : Nat → Nat → Int64}  {Q : Option AV → Mem → Prop} (hk : 1 ≤ k) (h : (¬ (gi I 108 0) = 999 → (WPm (k - 1) LAY m_X12_keeps [vR (some 74)] (mem (P, some 5, some 22) I J) (retV (fun I2 J3 => WPm (k - 1) LAY m_X12_nightGoes [vR (some 74)] (mem (P, some 5, some 22) I2 J3) (retI (fun v4 I5 J6 => Q (some (vI v4)) (mem (P, some 5, some 22) I5 J6)) (P, some 5, some 22))) (P, some 5, some 22)))) ∧ ((gi I 108 0) = 999 → (Q (some (vI (-1))) (mem (P, some 5, some 22) (si I 107 3 ((gi I 107 3) + 1)) J)))) : WP k LAY m_X12_night 0 [(0, vR (some 74))] [] (mem (P, some 5, some 22) I J) Q := by
  refine st_aload_n (pc' := 1) dX12_night_0 rfl rfl (j := 0) rfl ?_
  refine G_X12_171_74 dX12_night_1 (pc' := 4) rfl rfl ?_
  refine st_iconst (pc' := 5) dX12_night_4 rfl ?_
  refine st_iaload (pc' := 6) (v := (gi I 108 0)) dX12_night_5 rfl L_108 (by decide) (by decide) (show gi I 108 0 = (gi I 108 0) from rfl) ?_
  refine st_sipush (pc' := 9) dX12_night_6 rfl (by decide) ?_
  refine st_icmp_ne (tg := 18) (pc' := 12) dX12_night_9 (by decide) rfl (gi_in _ _ _) (by decide) (fun c => ?_) (fun c => ?_)
  · replace h := h.1 c
    refine st_aload_n (pc' := 19) dX12_night_18 rfl rfl (j := 0) rfl ?_
    refine st_callV (pc' := 22) (kc := k - 1) (E' := LAY) (cal := m_X12_keeps) (n := 0) (as := []) (S := []) dX12_night_19 rfl l_X12_572 k_X12_keeps rfl L_74 c_X12 rfl rfl (Nat.le_of_ble_eq_true rfl) (by omega) ⟨Nat.le_refl _, Nat.le_refl _, Nat.le_refl _, Nat.le_refl _⟩ h (fun r M' q => ?_)
    obtain ⟨I2, J3, rfl, rfl, h⟩ := q
    change WP _ LAY m_X12_night 22 [(0, vR (some 74))] [] (mem (P, some 5, some 22) I2 J3) Q
    refine st_aload_n (pc' := 23) dX12_night_22 rfl rfl (j := 0) rfl ?_
    refine st_callV (pc' := 26) (kc := k - 1) (E' := LAY) (cal := m_X12_nightGoes) (n := 0) (as := []) (S := []) dX12_night_23 rfl l_X12_581 k_X12_nightGoes rfl L_74 c_X12 rfl rfl (Nat.le_of_ble_eq_true rfl) (by omega) ⟨Nat.le_refl _, Nat.le_refl _, Nat.le_refl _, Nat.le_refl _⟩ h (fun r M' q => ?_)
    obtain ⟨v4, I5, J6, rfl, rfl, h⟩ := q
    change WP _ LAY m_X12_night 26 [(0, vR (some 74))] [vI v4] (mem (P, some 5, some 22) I5 J6) Q
    exact st_iret (ty := .int) dX12_night_26 rfl rfl rfl h
  · replace h := h.2 c
    refine st_aload_n (pc' := 13) dX12_night_12 rfl rfl (j := 0) rfl ?_
    refine st_iconst (pc' := 14) dX12_night_13 rfl ?_
    refine st_callV (pc' := 17) (kc := k - 1) (E' := LAY) (cal := m_X12_refuses) (n := 1) (as := [vI 3]) (S := []) dX12_night_14 rfl l_X12_279 k_X12_refuses rfl L_74 c_X12 rfl rfl (Nat.le_of_ble_eq_true rfl) (by omega) ⟨Nat.le_refl _, Nat.le_refl _, Nat.le_refl _, Nat.le_refl _⟩ (Q1 := fun r M' => WP k LAY m_X12_night 17 [(0, vR (some 74))] (r.toList ++ []) M' Q) (WPm.of k_X12_refuses.1 (Nat.le_of_ble_eq_true rfl) (B_X12_refuses_0 (by omega) ?_)) (fun r M' q => q)
    refine ⟨by decide, ?_⟩
    change WP _ LAY m_X12_night 17 [(0, vR (some 74))] [vI (-1)] (mem (P, some 5, some 22) (si I 107 3 ((gi I 107 3) + 1)) J) Q
    exact st_iret (ty := .int) dX12_night_17 rfl rfl rfl h
set_option maxRecDepth 20000 in
set_option maxHeartbeats 4000000 in
theorem B_X12_nightsFor_0 {k : Nat} {P : Option Nat} {I : Nat → Nat → Int32} {J : Nat → Nat → Int64} {x1 : Int} {x2 : Int} {Q : Option AV → Mem → Prop} (hk : 1 ≤ k) (h : inR x2 ∧ ((¬ x2 = 0 → ((0 ≤ x1 ∧ x1 < 132) ∧ (WPm (k - 1) LAY m_X12_lightOf [vR (some 74), vI 0, vI (gi I 110 (x1).toNat)] (mem (P, some 5, some 22) I J) (retI (fun v3 I4 J5 => inR v3 ∧ ((¬ v3 = 0 → (¬ v3 = 0 ∧ (Q (some (vI (div32 ((x2 + v3) - 1) v3))) (mem (P, some 5, some 22) I4 J5)))) ∧ (v3 = 0 → (Q (some (vI (-1))) (mem (P, some 5, some 22) I4 J5))))) (P, some 5, some 22))))) ∧ (x2 = 0 → (Q (some (vI 0)) (mem (P, some 5, some 22) I J))))) : WP k LAY m_X12_nightsFor 0 [(0, vR (some 74)), (1, vI x1), (2, vI x2)] [] (mem (P, some 5, some 22) I J) Q := by
  refine st_iload_n (pc' := 1) dX12_nightsFor_0 rfl rfl (j := 2) rfl ?_
  obtain ⟨e1, h⟩ := h
  refine st_if_ne (tg := 6) (pc' := 4) dX12_nightsFor_1 (by decide) rfl e1 (fun c => ?_) (fun c => ?_)
  · replace h := h.1 c
    refine st_aload_n (pc' := 7) dX12_nightsFor_6 rfl rfl (j := 0) rfl ?_
    refine st_iconst (pc' := 8) dX12_nightsFor_7 rfl ?_
    refine st_aload_n (pc' := 9) dX12_nightsFor_8 rfl rfl (j := 0) rfl ?_
    refine G_X12_177_74 dX12_nightsFor_9 (pc' := 12) rfl rfl ?_
    refine st_iload_n (pc' := 13) dX12_nightsFor_12 rfl rfl (j := 1) rfl ?_
    obtain ⟨e2, h⟩ := h
    refine st_iaload (pc' := 14) (v := (gi I 110 (x1).toNat)) dX12_nightsFor_13 rfl L_110 (by decide) e2 (show gi I 110 (x1).toNat = (gi I 110 (x1).toNat) from rfl) ?_
    refine st_callV (pc' := 17) (kc := k - 1) (E' := LAY) (cal := m_X12_lightOf) (n := 2) (as := [vI 0, vI (gi I 110 (x1).toNat)]) (S := []) dX12_nightsFor_14 rfl l_X12_541 k_X12_lightOf rfl L_74 c_X12 rfl rfl (Nat.le_of_ble_eq_true rfl) (by omega) ⟨Nat.le_refl _, Nat.le_refl _, Nat.le_refl _, Nat.le_refl _⟩ h (fun r M' q => ?_)
    obtain ⟨v3, I4, J5, rfl, rfl, h⟩ := q
    change WP _ LAY m_X12_nightsFor 17 [(0, vR (some 74)), (1, vI x1), (2, vI x2)] [vI v3] (mem (P, some 5, some 22) I4 J5) Q
    refine st_istore_n (pc' := 18) (L' := [(3, vI v3), (0, vR (some 74)), (1, vI x1), (2, vI x2)]) dX12_nightsFor_17 rfl rfl (by decide) rfl ?_
    refine st_iload_n (pc' := 19) dX12_nightsFor_18 rfl rfl (j := 0) rfl ?_
    obtain ⟨e6, h⟩ := h
    refine st_if_ne (tg := 26) (pc' := 22) dX12_nightsFor_19 (by decide) rfl e6 (fun c => ?_) (fun c => ?_)
    · replace h := h.1 c
      refine st_iload_n (pc' := 27) dX12_nightsFor_26 rfl rfl (j := 3) rfl ?_
      refine st_iload_n (pc' := 28) dX12_nightsFor_27 rfl rfl (j := 0) rfl ?_
      refine st_iadd (pc' := 29) dX12_nightsFor_28 rfl ?_
      refine st_iconst (pc' := 30) dX12_nightsFor_29 rfl ?_
      refine st_isub (pc' := 31) dX12_nightsFor_30 rfl ?_
      refine st_iload_n (pc' := 32) dX12_nightsFor_31 rfl rfl (j := 0) rfl ?_
      obtain ⟨e7, h⟩ := h
      refine st_idiv (pc' := 33) (z := (div32 ((x2 + v3) - 1) v3)) dX12_nightsFor_32 rfl (fun q => e7 ((z_eq e6).mp q)) rfl ?_
      exact st_iret (ty := .int) dX12_nightsFor_33 rfl rfl rfl h
    · replace h := h.2 c
      refine st_iconst (pc' := 23) dX12_nightsFor_22 rfl ?_
      refine st_goto (pc' := 33) dX12_nightsFor_23 (by decide) ?_
      exact st_iret (ty := .int) dX12_nightsFor_33 rfl rfl rfl h
  · replace h := h.2 c
    refine st_iconst (pc' := 5) dX12_nightsFor_4 rfl ?_
    exact st_iret (ty := .int) dX12_nightsFor_5 rfl rfl rfl h
set_option maxRecDepth 20000 in
set_option maxHeartbeats 4000000 in
theorem B_X12_octet_0 {k : Nat} {P : Option Nat} {I : Nat → Nat → Int32} {J : Nat → Nat → Int64} {x1 : Int} {Q : Option AV → Mem → Prop} (hk : 1 ≤ k) (h : inR x1 ∧ (inR ((gi I 74 87) - 1) ∧ ((¬ (0 ≤ x1 ∧ x1 ≤ ((gi I 74 87) - 1)) → (Q (some (vI (-1))) (mem (P, some 5, some 22) I J))) ∧ ((0 ≤ x1 ∧ x1 ≤ ((gi I 74 87) - 1)) → ((0 ≤ x1 ∧ x1 < 110) ∧ (Q (some (vI (gi I 131 (x1).toNat))) (mem (P, some 5, some 22) I J))))))) : WP k LAY m_X12_octet 0 [(0, vR (some 74)), (1, vI x1)] [] (mem (P, some 5, some 22) I J) Q := by
  refine st_iload_n (pc' := 1) dX12_octet_0 rfl rfl (j := 1) rfl ?_
  refine st_iconst (pc' := 2) dX12_octet_1 rfl ?_
  refine st_aload_n (pc' := 3) dX12_octet_2 rfl rfl (j := 0) rfl ?_
  refine G_X12_276_74 dX12_octet_3 (pc' := 6) rfl rfl ?_
  refine st_iconst (pc' := 7) dX12_octet_6 rfl ?_
  refine st_isub (pc' := 8) dX12_octet_7 rfl ?_
  obtain ⟨e1, h⟩ := h
  obtain ⟨e2, h⟩ := h
  refine st_callS (pc' := 11) (kc := k - 1) (E' := LAY) (cal := m_X12_is) (n := 3) (as := [vI x1, vI 0, vI ((gi I 74 87) - 1)]) (S := []) dX12_octet_8 rfl l_X12_369 k_X12_is rfl rfl (Nat.le_of_ble_eq_true rfl) (by omega) ⟨Nat.le_refl _, Nat.le_refl _, Nat.le_refl _, Nat.le_refl _⟩ (Q1 := fun r M' => WP k LAY m_X12_octet 11 [(0, vR (some 74)), (1, vI x1)] (r.toList ++ []) M' Q) (S_X12_is (by omega) e1 (by decide) e2 ?_) (fun r M' q => q)
  change WP _ LAY m_X12_octet 11 [(0, vR (some 74)), (1, vI x1)] [vI (b2i (0 ≤ x1 ∧ x1 ≤ ((gi I 74 87) - 1)))] (mem (P, some 5, some 22) I J) Q
  refine st_if_eq (tg := 23) (pc' := 14) dX12_octet_11 (by decide) rfl (b2i_in _) (fun c => ?_) (fun c => ?_)
  · replace h := h.1 (b2i_f.mp c)
    refine st_iconst (pc' := 24) dX12_octet_23 rfl ?_
    exact st_iret (ty := .int) dX12_octet_24 rfl rfl rfl h
  · replace h := h.2 (b2i_t.mp c)
    refine st_aload_n (pc' := 15) dX12_octet_14 rfl rfl (j := 0) rfl ?_
    refine G_X12_273_74 dX12_octet_15 (pc' := 18) rfl rfl ?_
    refine st_iload_n (pc' := 19) dX12_octet_18 rfl rfl (j := 1) rfl ?_
    obtain ⟨e3, h⟩ := h
    refine st_iaload (pc' := 20) (v := (gi I 131 (x1).toNat)) dX12_octet_19 rfl L_131 (by decide) e3 (show gi I 131 (x1).toNat = (gi I 131 (x1).toNat) from rfl) ?_
    refine st_goto (pc' := 24) dX12_octet_20 (by decide) ?_
    exact st_iret (ty := .int) dX12_octet_24 rfl rfl rfl h
set_option maxRecDepth 20000 in
set_option maxHeartbeats 4000000 in
theorem B_X12_on_0 {k : Nat} {P : Option Nat} {I : Nat → Nat → Int32} {J : Nat → Nat → Int64}  {Q : Option AV → Mem → Prop} (hk : 1 ≤ k) (h : WPm (k - 1) LAY m_X12_comesOn [vR (some 74), vI (gi I 74 1)] (mem (P, some 5, some 22) (si I 74 1 0) J) (retI (fun v1 I2 J3 => inR v1 ∧ ((¬ v1 = 0 → (WPm (k - 1) LAY m_X12_copies [vR (some 74), vI 0, vI 1] (mem (P, some 5, some 22) I2 J3) (retV (fun I6 J7 => Q (some (vI 1)) (mem (P, some 5, some 22) (si I6 74 66 0) J7)) (P, some 5, some 22)))) ∧ (v1 = 0 → (Q (some (vI 0)) (mem (P, some 5, some 22) (si I2 107 5 ((gi I2 107 5) + 1)) J3))))) (P, some 5, some 22))) : WP k LAY m_X12_on 0 [(0, vR (some 74))] [] (mem (P, some 5, some 22) I J) Q := by
  refine st_aload_n (pc' := 1) dX12_on_0 rfl rfl (j := 0) rfl ?_
  refine G_X12_13_74 dX12_on_1 (pc' := 4) rfl rfl ?_
  refine st_istore_n (pc' := 5) (L' := [(1, vI (gi I 74 1)), (0, vR (some 74))]) dX12_on_4 rfl rfl (by decide) rfl ?_
  refine st_aload_n (pc' := 6) dX12_on_5 rfl rfl (j := 1) rfl ?_
  refine st_iconst (pc' := 7) dX12_on_6 rfl ?_
  refine P_X12_13_74 dX12_on_7 (pc' := 10) rfl rfl ?_
  refine st_aload_n (pc' := 11) dX12_on_10 rfl rfl (j := 1) rfl ?_
  refine st_iload_n (pc' := 12) dX12_on_11 rfl rfl (j := 0) rfl ?_
  refine st_callV (pc' := 15) (kc := k - 1) (E' := LAY) (cal := m_X12_comesOn) (n := 1) (as := [vI (gi I 74 1)]) (S := []) dX12_on_12 rfl l_X12_629 k_X12_comesOn rfl L_74 c_X12 rfl rfl (Nat.le_of_ble_eq_true rfl) (by omega) ⟨Nat.le_refl _, Nat.le_refl _, Nat.le_refl _, Nat.le_refl _⟩ h (fun r M' q => ?_)
  obtain ⟨v1, I2, J3, rfl, rfl, h⟩ := q
  change WP _ LAY m_X12_on 15 [(1, vI (gi I 74 1)), (0, vR (some 74))] [vI v1] (mem (P, some 5, some 22) I2 J3) Q
  obtain ⟨e4, h⟩ := h
  refine st_if_ne (tg := 32) (pc' := 18) dX12_on_15 (by decide) rfl e4 (fun c => ?_) (fun c => ?_)
  · replace h := h.1 c
    refine st_aload_n (pc' := 33) dX12_on_32 rfl rfl (j := 1) rfl ?_
    refine st_iconst (pc' := 34) dX12_on_33 rfl ?_
    refine st_iconst (pc' := 35) dX12_on_34 rfl ?_
    refine st_callV (pc' := 38) (kc := k - 1) (E' := LAY) (cal := m_X12_copies) (n := 2) (as := [vI 0, vI 1]) (S := []) dX12_on_35 rfl l_X12_479 k_X12_copies rfl L_74 c_X12 rfl rfl (Nat.le_of_ble_eq_true rfl) (by omega) ⟨Nat.le_refl _, Nat.le_refl _, Nat.le_refl _, Nat.le_refl _⟩ h (fun r M' q => ?_)
    obtain ⟨I6, J7, rfl, rfl, h⟩ := q
    change WP _ LAY m_X12_on 38 [(1, vI (gi I 74 1)), (0, vR (some 74))] [] (mem (P, some 5, some 22) I6 J7) Q
    refine st_aload_n (pc' := 39) dX12_on_38 rfl rfl (j := 1) rfl ?_
    refine st_iconst (pc' := 40) dX12_on_39 rfl ?_
    refine P_X12_213_74 dX12_on_40 (pc' := 43) rfl rfl ?_
    refine st_iconst (pc' := 44) dX12_on_43 rfl ?_
    exact st_iret (ty := .boolean) dX12_on_44 rfl (by decide) rfl h
  · replace h := h.2 c
    refine st_aload_n (pc' := 19) dX12_on_18 rfl rfl (j := 1) rfl ?_
    refine st_iconst (pc' := 20) dX12_on_19 rfl ?_
    refine st_callV (pc' := 23) (kc := k - 1) (E' := LAY) (cal := m_X12_refuses) (n := 1) (as := [vI 5]) (S := []) dX12_on_20 rfl l_X12_279 k_X12_refuses rfl L_74 c_X12 rfl rfl (Nat.le_of_ble_eq_true rfl) (by omega) ⟨Nat.le_refl _, Nat.le_refl _, Nat.le_refl _, Nat.le_refl _⟩ (Q1 := fun r M' => WP k LAY m_X12_on 23 [(1, vI (gi I 74 1)), (0, vR (some 74))] (r.toList ++ []) M' Q) (WPm.of k_X12_refuses.1 (Nat.le_of_ble_eq_true rfl) (B_X12_refuses_0 (by omega) ?_)) (fun r M' q => q)
    refine ⟨by decide, ?_⟩
    change WP _ LAY m_X12_on 23 [(1, vI (gi I 74 1)), (0, vR (some 74))] [vI (-1)] (mem (P, some 5, some 22) (si I2 107 5 ((gi I2 107 5) + 1)) J3) Q
    refine st_if_lt (tg := 30) (pc' := 26) dX12_on_23 (by decide) rfl (by decide) (fun c => ?_) (fun c => ?_)
    · refine st_iconst (pc' := 31) dX12_on_30 rfl ?_
      exact st_iret (ty := .boolean) dX12_on_31 rfl (by decide) rfl h
    · exact absurd c (by decide)
set_option maxRecDepth 20000 in
set_option maxHeartbeats 4000000 in
theorem B_X12_page_0 {k : Nat} {P : Option Nat} {I : Nat → Nat → Int32} {J : Nat → Nat → Int64} {x1 : Int} {x2 : Int} {Q : Option AV → Mem → Prop} (hk : 1 ≤ k) (h : (0 ≤ (gi I 74 13) ∧ (gi I 74 13) < 2) ∧ (inR x1 ∧ (((0 ≤ x1 ∧ x1 < gi I 77 (gi I 74 13).toNat) → (inR x2 ∧ ((x2 = 0 → ((0 ≤ ((14 * (gi I 74 13)) + x1) ∧ ((14 * (gi I 74 13)) + x1) < 28) ∧ (Q (some (vI (gi I 78 (((14 * (gi I 74 13)) + x1) : Int).toNat))) (mem (P, some 5, some 22) I J)))) ∧ (¬ x2 = 0 → ((x2 = 1 → ((0 ≤ ((14 * (gi I 74 13)) + x1) ∧ ((14 * (gi I 74 13)) + x1) < 28) ∧ (Q (some (vI (gi I 79 (((14 * (gi I 74 13)) + x1) : Int).toNat))) (mem (P, some 5, some 22) I J)))) ∧ (¬ x2 = 1 → ((x2 = 2 → ((0 ≤ ((14 * (gi I 74 13)) + x1) ∧ ((14 * (gi I 74 13)) + x1) < 28) ∧ (Q (some (vI (gi I 80 (((14 * (gi I 74 13)) + x1) : Int).toNat))) (mem (P, some 5, some 22) I J)))) ∧ (¬ x2 = 2 → ((x2 = 3 → ((0 ≤ ((14 * (gi I 74 13)) + x1) ∧ ((14 * (gi I 74 13)) + x1) < 28) ∧ (Q (some (vI (gi I 81 (((14 * (gi I 74 13)) + x1) : Int).toNat))) (mem (P, some 5, some 22) I J)))) ∧ (¬ x2 = 3 → ((x2 = 4 → (WPm (k - 1) LAY m_X12_closed [vR (some 74), vI (shl32 1 x1), vI 0, vI (-1)] (mem (P, some 5, some 22) I J) (retI (fun v8 I9 J10 => Q (some (vI (and32 v8 (xor32 (shl32 1 x1) (-1))))) (mem (P, some 5, some 22) I9 J10)) (P, some 5, some 22)))) ∧ (¬ x2 = 4 → ((x2 = 5 → (WP k LAY m_X12_page 122 [(0, vR (some 74)), (1, vI x1), (3, vI 0), (4, vI 0)] [] (mem (P, some 5, some 22) I J) Q)) ∧ (¬ x2 = 5 → (Q (some (vI (-1))) (mem (P, some 5, some 22) I J)))))))))))))))) ∧ (¬ (0 ≤ x1 ∧ x1 < gi I 77 (gi I 74 13).toNat) → (Q (some (vI (-1))) (mem (P, some 5, some 22) I J)))))) : WP k LAY m_X12_page 0 [(0, vR (some 74)), (1, vI x1), (2, vI x2)] [] (mem (P, some 5, some 22) I J) Q := by
  refine st_aload_n (pc' := 1) dX12_page_0 rfl rfl (j := 0) rfl ?_
  refine st_iload_n (pc' := 2) dX12_page_1 rfl rfl (j := 1) rfl ?_
  obtain ⟨e1, h⟩ := h
  obtain ⟨e2, h⟩ := h
  refine st_callV (pc' := 5) (kc := k - 1) (E' := LAY) (cal := m_X12_isPage) (n := 1) (as := [vI x1]) (S := []) dX12_page_2 rfl l_X12_556 k_X12_isPage rfl L_74 c_X12 rfl rfl (Nat.le_of_ble_eq_true rfl) (by omega) ⟨Nat.le_refl _, Nat.le_refl _, Nat.le_refl _, Nat.le_refl _⟩ (Q1 := fun r M' => WP k LAY m_X12_page 5 [(0, vR (some 74)), (1, vI x1), (2, vI x2)] (r.toList ++ []) M' Q) (S_X12_isPage (by omega) e1 e2 ?_) (fun r M' q => q)
  change WP _ LAY m_X12_page 5 [(0, vR (some 74)), (1, vI x1), (2, vI x2)] [vI (b2i (0 ≤ x1 ∧ x1 < gi I 77 (gi I 74 13).toNat))] (mem (P, some 5, some 22) I J) Q
  refine st_if_ne (tg := 10) (pc' := 8) dX12_page_5 (by decide) rfl (b2i_in _) (fun c => ?_) (fun c => ?_)
  · replace h := h.1 (b2i_t.mp c)
    refine st_iconst (pc' := 11) dX12_page_10 rfl ?_
    refine st_istore_n (pc' := 12) (L' := [(3, vI 0), (0, vR (some 74)), (1, vI x1), (2, vI x2)]) dX12_page_11 rfl rfl (by decide) rfl ?_
    refine st_iload_n (pc' := 13) dX12_page_12 rfl rfl (j := 3) rfl ?_
    obtain ⟨e3, h⟩ := h
    by_cases c : x2 = 0
    · replace h := h.1 c
      refine st_tblIn (pc' := 52) (off := 39) dX12_page_13 e3 (by omega) (by rw [c]; rfl) (by decide) ?_
      refine st_aload_n (pc' := 53) dX12_page_52 rfl rfl (j := 1) rfl ?_
      refine G_X12_60_74 dX12_page_53 (pc' := 56) rfl rfl ?_
      refine st_bipush (pc' := 58) dX12_page_56 rfl (by decide) ?_
      refine st_aload_n (pc' := 59) dX12_page_58 rfl rfl (j := 1) rfl ?_
      refine G_X12_51_74 dX12_page_59 (pc' := 62) rfl rfl ?_
      refine st_imul (pc' := 63) dX12_page_62 rfl ?_
      refine st_iload_n (pc' := 64) dX12_page_63 rfl rfl (j := 2) rfl ?_
      refine st_iadd (pc' := 65) dX12_page_64 rfl ?_
      obtain ⟨e4, h⟩ := h
      refine st_iaload (pc' := 66) (v := (gi I 78 (((14 * (gi I 74 13)) + x1) : Int).toNat)) dX12_page_65 rfl L_78 (by decide) e4 (show gi I 78 (((14 * (gi I 74 13)) + x1) : Int).toNat = (gi I 78 (((14 * (gi I 74 13)) + x1) : Int).toNat) from rfl) ?_
      exact st_iret (ty := .int) dX12_page_66 rfl rfl rfl h
    replace h := h.2 c
    have c0 := c
    clear c
    by_cases c : x2 = 1
    · replace h := h.1 c
      refine st_tblIn (pc' := 67) (off := 54) dX12_page_13 e3 (by omega) (by rw [c]; rfl) (by decide) ?_
      refine st_aload_n (pc' := 68) dX12_page_67 rfl rfl (j := 1) rfl ?_
      refine G_X12_63_74 dX12_page_68 (pc' := 71) rfl rfl ?_
      refine st_bipush (pc' := 73) dX12_page_71 rfl (by decide) ?_
      refine st_aload_n (pc' := 74) dX12_page_73 rfl rfl (j := 1) rfl ?_
      refine G_X12_51_74 dX12_page_74 (pc' := 77) rfl rfl ?_
      refine st_imul (pc' := 78) dX12_page_77 rfl ?_
      refine st_iload_n (pc' := 79) dX12_page_78 rfl rfl (j := 2) rfl ?_
      refine st_iadd (pc' := 80) dX12_page_79 rfl ?_
      obtain ⟨e5, h⟩ := h
      refine st_iaload (pc' := 81) (v := (gi I 79 (((14 * (gi I 74 13)) + x1) : Int).toNat)) dX12_page_80 rfl L_79 (by decide) e5 (show gi I 79 (((14 * (gi I 74 13)) + x1) : Int).toNat = (gi I 79 (((14 * (gi I 74 13)) + x1) : Int).toNat) from rfl) ?_
      exact st_iret (ty := .int) dX12_page_81 rfl rfl rfl h
    replace h := h.2 c
    have c1 := c
    clear c
    by_cases c : x2 = 2
    · replace h := h.1 c
      refine st_tblIn (pc' := 82) (off := 69) dX12_page_13 e3 (by omega) (by rw [c]; rfl) (by decide) ?_
      refine st_aload_n (pc' := 83) dX12_page_82 rfl rfl (j := 1) rfl ?_
      refine G_X12_66_74 dX12_page_83 (pc' := 86) rfl rfl ?_
      refine st_bipush (pc' := 88) dX12_page_86 rfl (by decide) ?_
      refine st_aload_n (pc' := 89) dX12_page_88 rfl rfl (j := 1) rfl ?_
      refine G_X12_51_74 dX12_page_89 (pc' := 92) rfl rfl ?_
      refine st_imul (pc' := 93) dX12_page_92 rfl ?_
      refine st_iload_n (pc' := 94) dX12_page_93 rfl rfl (j := 2) rfl ?_
      refine st_iadd (pc' := 95) dX12_page_94 rfl ?_
      obtain ⟨e6, h⟩ := h
      refine st_iaload (pc' := 96) (v := (gi I 80 (((14 * (gi I 74 13)) + x1) : Int).toNat)) dX12_page_95 rfl L_80 (by decide) e6 (show gi I 80 (((14 * (gi I 74 13)) + x1) : Int).toNat = (gi I 80 (((14 * (gi I 74 13)) + x1) : Int).toNat) from rfl) ?_
      exact st_iret (ty := .int) dX12_page_96 rfl rfl rfl h
    replace h := h.2 c
    have c2 := c
    clear c
    by_cases c : x2 = 3
    · replace h := h.1 c
      refine st_tblIn (pc' := 97) (off := 84) dX12_page_13 e3 (by omega) (by rw [c]; rfl) (by decide) ?_
      refine st_aload_n (pc' := 98) dX12_page_97 rfl rfl (j := 1) rfl ?_
      refine st_iload_n (pc' := 99) dX12_page_98 rfl rfl (j := 2) rfl ?_
      refine st_callV (pc' := 102) (kc := k - 1) (E' := LAY) (cal := m_X12_needsOf) (n := 1) (as := [vI x1]) (S := []) dX12_page_99 rfl l_X12_470 k_X12_needsOf rfl L_74 c_X12 rfl rfl (Nat.le_of_ble_eq_true rfl) (by omega) ⟨Nat.le_refl _, Nat.le_refl _, Nat.le_refl _, Nat.le_refl _⟩ (Q1 := fun r M' => WP k LAY m_X12_page 102 [(3, vI 0), (0, vR (some 74)), (1, vI x1), (2, vI x2)] (r.toList ++ []) M' Q) (WPm.of k_X12_needsOf.1 (Nat.le_of_ble_eq_true rfl) (B_X12_needsOf_0 (by omega) ?_)) (fun r M' q => q)
      obtain ⟨e7, h⟩ := h
      refine ⟨e7, ?_⟩
      change WP _ LAY m_X12_page 102 [(3, vI 0), (0, vR (some 74)), (1, vI x1), (2, vI x2)] [vI (gi I 81 (((14 * (gi I 74 13)) + x1) : Int).toNat)] (mem (P, some 5, some 22) I J) Q
      exact st_iret (ty := .int) dX12_page_102 rfl rfl rfl h
    replace h := h.2 c
    have c3 := c
    clear c
    by_cases c : x2 = 4
    · replace h := h.1 c
      refine st_tblIn (pc' := 103) (off := 90) dX12_page_13 e3 (by omega) (by rw [c]; rfl) (by decide) ?_
      refine st_aload_n (pc' := 104) dX12_page_103 rfl rfl (j := 1) rfl ?_
      refine st_iconst (pc' := 105) dX12_page_104 rfl ?_
      refine st_iload_n (pc' := 106) dX12_page_105 rfl rfl (j := 2) rfl ?_
      refine st_ishl (pc' := 107) (z := (shl32 1 x1)) dX12_page_106 rfl rfl ?_
      refine st_iconst (pc' := 108) dX12_page_107 rfl ?_
      refine st_iconst (pc' := 109) dX12_page_108 rfl ?_
      refine st_callV (pc' := 112) (kc := k - 1) (E' := LAY) (cal := m_X12_closed) (n := 3) (as := [vI (shl32 1 x1), vI 0, vI (-1)]) (S := []) dX12_page_109 rfl l_X12_559 k_X12_closed rfl L_74 c_X12 rfl rfl (Nat.le_of_ble_eq_true rfl) (by omega) ⟨Nat.le_refl _, Nat.le_refl _, Nat.le_refl _, Nat.le_refl _⟩ h (fun r M' q => ?_)
      obtain ⟨v8, I9, J10, rfl, rfl, h⟩ := q
      change WP _ LAY m_X12_page 112 [(3, vI 0), (0, vR (some 74)), (1, vI x1), (2, vI x2)] [vI v8] (mem (P, some 5, some 22) I9 J10) Q
      refine st_iconst (pc' := 113) dX12_page_112 rfl ?_
      refine st_iload_n (pc' := 114) dX12_page_113 rfl rfl (j := 2) rfl ?_
      refine st_ishl (pc' := 115) (z := (shl32 1 x1)) dX12_page_114 rfl rfl ?_
      refine st_iconst (pc' := 116) dX12_page_115 rfl ?_
      refine st_ixor (pc' := 117) (z := (xor32 (shl32 1 x1) (-1))) dX12_page_116 rfl rfl ?_
      refine st_iand (pc' := 118) (z := (and32 v8 (xor32 (shl32 1 x1) (-1)))) dX12_page_117 rfl rfl ?_
      exact st_iret (ty := .int) dX12_page_118 rfl rfl rfl h
    replace h := h.2 c
    have c4 := c
    clear c
    by_cases c : x2 = 5
    · replace h := h.1 c
      refine st_tblIn (pc' := 119) (off := 106) dX12_page_13 e3 (by omega) (by rw [c]; rfl) (by decide) ?_
      refine st_iconst (pc' := 120) dX12_page_119 rfl ?_
      refine st_istore (pc' := 122) (L' := [(4, vI 0), (3, vI 0), (0, vR (some 74)), (1, vI x1), (2, vI x2)]) dX12_page_120 rfl (by decide) rfl ?_
      refine WP_sub (L' := [(0, vR (some 74)), (1, vI x1), (3, vI 0), (4, vI 0)]) [2, 3, 1, 0] rfl ?_
      exact h
    replace h := h.2 c
    have c5 := c
    clear c
    have go : WP k LAY m_X12_page 166 [(3, vI 0), (0, vR (some 74)), (1, vI x1), (2, vI x2)] [] (mem (P, some 5, some 22) I J) Q := by
      refine st_iconst (pc' := 167) dX12_page_166 rfl ?_
      exact st_iret (ty := .int) dX12_page_167 rfl rfl rfl h
    exact st_tblOut (pc' := 166) dX12_page_13 e3 (by omega) (by decide) go
  · replace h := h.2 (b2i_f.mp c)
    refine st_iconst (pc' := 9) dX12_page_8 rfl ?_
    exact st_iret (ty := .int) dX12_page_9 rfl rfl rfl h
set_option maxRecDepth 20000 in
set_option maxHeartbeats 4000000 in
theorem B_X12_page_122 {k : Nat} {P : Option Nat} {I : Nat → Nat → Int32} {J : Nat → Nat → Int64} {x1 : Int} {x3 : Int} {x4 : Int} {Q : Option AV → Mem → Prop} (hk : 1 ≤ k) (h : (0 ≤ (gi I 74 13) ∧ (gi I 74 13) < 2) ∧ (inR x4 ∧ (((gi I 83 (gi I 74 13).toNat) ≤ x4 → (Q (some (vI x3)) (mem (P, some 5, some 22) I J))) ∧ (¬ (gi I 83 (gi I 74 13).toNat) ≤ x4 → ((0 ≤ ((6 * 0) + x4) ∧ ((6 * 0) + x4) < 132) ∧ ((¬ (and32 (shr32 (or32 (gi I 111 (((6 * 0) + x4) : Int).toNat) (gi I 112 (((6 * 0) + x4) : Int).toNat)) x1) 1 = 1) → (WP k LAY m_X12_page 122 [(0, vR (some 74)), (1, vI x1), (3, vI (x3 + 0)), (4, vI (x4 + 1))] [] (mem (P, some 5, some 22) I J) Q)) ∧ ((and32 (shr32 (or32 (gi I 111 (((6 * 0) + x4) : Int).toNat) (gi I 112 (((6 * 0) + x4) : Int).toNat)) x1) 1 = 1) → (WP k LAY m_X12_page 122 [(0, vR (some 74)), (1, vI x1), (3, vI (x3 + 1)), (4, vI (x4 + 1))] [] (mem (P, some 5, some 22) I J) Q)))))))) : WP k LAY m_X12_page 122 [(0, vR (some 74)), (1, vI x1), (3, vI x3), (4, vI x4)] [] (mem (P, some 5, some 22) I J) Q := by
  refine st_iload (pc' := 124) dX12_page_122 rfl (j := 3) rfl ?_
  refine st_aload_n (pc' := 125) dX12_page_124 rfl rfl (j := 0) rfl ?_
  refine G_X12_75_74 dX12_page_125 (pc' := 128) rfl rfl ?_
  refine st_aload_n (pc' := 129) dX12_page_128 rfl rfl (j := 0) rfl ?_
  refine G_X12_51_74 dX12_page_129 (pc' := 132) rfl rfl ?_
  obtain ⟨e1, h⟩ := h
  refine st_iaload (pc' := 133) (v := (gi I 83 (gi I 74 13).toNat)) dX12_page_132 rfl L_83 (by decide) e1 (show gi I 83 (gi I 74 13).toNat = (gi I 83 (gi I 74 13).toNat) from rfl) ?_
  obtain ⟨e2, h⟩ := h
  refine st_icmp_ge (tg := 164) (pc' := 136) dX12_page_133 (by decide) rfl e2 (gi_in _ _ _) (fun c => ?_) (fun c => ?_)
  · replace h := h.1 c
    refine st_iload_n (pc' := 165) dX12_page_164 rfl rfl (j := 2) rfl ?_
    exact st_iret (ty := .int) dX12_page_165 rfl rfl rfl h
  · replace h := h.2 c
    refine st_iload_n (pc' := 137) dX12_page_136 rfl rfl (j := 2) rfl ?_
    refine st_aload_n (pc' := 138) dX12_page_137 rfl rfl (j := 0) rfl ?_
    refine st_iconst (pc' := 139) dX12_page_138 rfl ?_
    refine st_iload (pc' := 141) dX12_page_139 rfl (j := 3) rfl ?_
    refine st_callV (pc' := 144) (kc := k - 1) (E' := LAY) (cal := m_X12_known) (n := 2) (as := [vI 0, vI x4]) (S := [vI x3]) dX12_page_141 rfl l_X12_473 k_X12_known rfl L_74 c_X12 rfl rfl (Nat.le_of_ble_eq_true rfl) (by omega) ⟨Nat.le_refl _, Nat.le_refl _, Nat.le_refl _, Nat.le_refl _⟩ (Q1 := fun r M' => WP k LAY m_X12_page 144 [(0, vR (some 74)), (1, vI x1), (3, vI x3), (4, vI x4)] (r.toList ++ [vI x3]) M' Q) (WPm.of k_X12_known.1 (Nat.le_of_ble_eq_true rfl) (B_X12_known_0 (by omega) ?_)) (fun r M' q => q)
    obtain ⟨e3, h⟩ := h
    refine ⟨e3, ?_⟩
    change WP _ LAY m_X12_page 144 [(0, vR (some 74)), (1, vI x1), (3, vI x3), (4, vI x4)] [vI (or32 (gi I 111 (((6 * 0) + x4) : Int).toNat) (gi I 112 (((6 * 0) + x4) : Int).toNat)), vI x3] (mem (P, some 5, some 22) I J) Q
    refine st_iload_n (pc' := 145) dX12_page_144 rfl rfl (j := 1) rfl ?_
    refine st_callS (pc' := 148) (kc := k - 1) (E' := LAY) (cal := m_X12_has) (n := 2) (as := [vI (or32 (gi I 111 (((6 * 0) + x4) : Int).toNat) (gi I 112 (((6 * 0) + x4) : Int).toNat)), vI x1]) (S := [vI x3]) dX12_page_145 rfl l_X12_552 k_X12_has rfl rfl (Nat.le_of_ble_eq_true rfl) (by omega) ⟨Nat.le_refl _, Nat.le_refl _, Nat.le_refl _, Nat.le_refl _⟩ (Q1 := fun r M' => WP k LAY m_X12_page 148 [(0, vR (some 74)), (1, vI x1), (3, vI x3), (4, vI x4)] (r.toList ++ [vI x3]) M' Q) (S_X12_has (by omega)  ?_) (fun r M' q => q)
    change WP _ LAY m_X12_page 148 [(0, vR (some 74)), (1, vI x1), (3, vI x3), (4, vI x4)] [vI (b2i (and32 (shr32 (or32 (gi I 111 (((6 * 0) + x4) : Int).toNat) (gi I 112 (((6 * 0) + x4) : Int).toNat)) x1) 1 = 1)), vI x3] (mem (P, some 5, some 22) I J) Q
    refine st_if_eq (tg := 155) (pc' := 151) dX12_page_148 (by decide) rfl (b2i_in _) (fun c => ?_) (fun c => ?_)
    · replace h := h.1 (b2i_f.mp c)
      refine st_iconst (pc' := 156) dX12_page_155 rfl ?_
      refine st_iadd (pc' := 157) dX12_page_156 rfl ?_
      refine st_istore_n (pc' := 158) (L' := [(3, vI (x3 + 0)), (0, vR (some 74)), (1, vI x1), (4, vI x4)]) dX12_page_157 rfl rfl (by decide) rfl ?_
      refine st_iinc (pc' := 161) (L' := [(4, vI (x4 + 1)), (3, vI (x3 + 0)), (0, vR (some 74)), (1, vI x1)]) (j := 3) dX12_page_158 rfl (by decide) rfl rfl ?_
      refine st_goto (pc' := 122) dX12_page_161 (by decide) ?_
      refine WP_sub (L' := [(0, vR (some 74)), (1, vI x1), (3, vI (x3 + 0)), (4, vI (x4 + 1))]) [2, 3, 1, 0] rfl ?_
      exact h
    · replace h := h.2 (b2i_t.mp c)
      refine st_iconst (pc' := 152) dX12_page_151 rfl ?_
      refine st_goto (pc' := 156) dX12_page_152 (by decide) ?_
      refine st_iadd (pc' := 157) dX12_page_156 rfl ?_
      refine st_istore_n (pc' := 158) (L' := [(3, vI (x3 + 1)), (0, vR (some 74)), (1, vI x1), (4, vI x4)]) dX12_page_157 rfl rfl (by decide) rfl ?_
      refine st_iinc (pc' := 161) (L' := [(4, vI (x4 + 1)), (3, vI (x3 + 1)), (0, vR (some 74)), (1, vI x1)]) (j := 3) dX12_page_158 rfl (by decide) rfl rfl ?_
      refine st_goto (pc' := 122) dX12_page_161 (by decide) ?_
      refine WP_sub (L' := [(0, vR (some 74)), (1, vI x1), (3, vI (x3 + 1)), (4, vI (x4 + 1))]) [2, 3, 1, 0] rfl ?_
      exact h
set_option maxRecDepth 20000 in
set_option maxHeartbeats 4000000 in
theorem B_X12_reader_0 {k : Nat} {P : Option Nat} {I : Nat → Nat → Int32} {J : Nat → Nat → Int64} {x1 : Int} {x2 : Int} {Q : Option AV → Mem → Prop} (hk : 1 ≤ k) (h : (0 ≤ (gi I 74 13) ∧ (gi I 74 13) < 2) ∧ (inR x1 ∧ (((0 ≤ x1 ∧ x1 < gi I 83 (gi I 74 13).toNat) → (inR x2 ∧ ((x2 = 0 → ((0 ≤ x1 ∧ x1 < 132) ∧ (Q (some (vI (gi I 110 (x1).toNat))) (mem (P, some 5, some 22) I J)))) ∧ (¬ x2 = 0 → ((x2 = 1 → ((0 ≤ ((6 * (gi I 74 13)) + x1) ∧ ((6 * (gi I 74 13)) + x1) < 12) ∧ (Q (some (vI (gi I 84 (((6 * (gi I 74 13)) + x1) : Int).toNat))) (mem (P, some 5, some 22) I J)))) ∧ (¬ x2 = 1 → ((x2 = 2 → ((0 ≤ ((6 * (gi I 74 13)) + x1) ∧ ((6 * (gi I 74 13)) + x1) < 12) ∧ (Q (some (vI (gi I 85 (((6 * (gi I 74 13)) + x1) : Int).toNat))) (mem (P, some 5, some 22) I J)))) ∧ (¬ x2 = 2 → ((x2 = 3 → ((0 ≤ x1 ∧ x1 < 132) ∧ (Q (some (vI (gi I 111 (x1).toNat))) (mem (P, some 5, some 22) I J)))) ∧ (¬ x2 = 3 → ((x2 = 4 → ((0 ≤ x1 ∧ x1 < 132) ∧ (Q (some (vI (gi I 112 (x1).toNat))) (mem (P, some 5, some 22) I J)))) ∧ (¬ x2 = 4 → ((x2 = 5 → ((0 ≤ x1 ∧ x1 < 132) ∧ (Q (some (vI (gi I 113 (x1).toNat))) (mem (P, some 5, some 22) I J)))) ∧ (¬ x2 = 5 → ((x2 = 6 → ((0 ≤ x1 ∧ x1 < 132) ∧ (Q (some (vI (gi I 114 (x1).toNat))) (mem (P, some 5, some 22) I J)))) ∧ (¬ x2 = 6 → ((x2 = 7 → ((0 ≤ x1 ∧ x1 < 132) ∧ (Q (some (vI (gi I 115 (x1).toNat))) (mem (P, some 5, some 22) I J)))) ∧ (¬ x2 = 7 → ((0 ≤ x1 ∧ x1 < 132) ∧ (inR (9 + (gi I 115 (x1).toNat)) ∧ ((¬ (10 ≤ x2 ∧ x2 ≤ (9 + (gi I 115 (x1).toNat))) → (Q (some (vI (-1))) (mem (P, some 5, some 22) I J))) ∧ ((10 ≤ x2 ∧ x2 ≤ (9 + (gi I 115 (x1).toNat))) → ((0 ≤ (((8 * x1) + x2) - 10) ∧ (((8 * x1) + x2) - 10) < 1056) ∧ (Q (some (vI (gi I 116 ((((8 * x1) + x2) - 10) : Int).toNat))) (mem (P, some 5, some 22) I J))))))))))))))))))))))))) ∧ (¬ (0 ≤ x1 ∧ x1 < gi I 83 (gi I 74 13).toNat) → (Q (some (vI (-1))) (mem (P, some 5, some 22) I J)))))) : WP k LAY m_X12_reader 0 [(0, vR (some 74)), (1, vI x1), (2, vI x2)] [] (mem (P, some 5, some 22) I J) Q := by
  refine st_aload_n (pc' := 1) dX12_reader_0 rfl rfl (j := 0) rfl ?_
  refine st_iload_n (pc' := 2) dX12_reader_1 rfl rfl (j := 1) rfl ?_
  obtain ⟨e1, h⟩ := h
  obtain ⟨e2, h⟩ := h
  refine st_callV (pc' := 5) (kc := k - 1) (E' := LAY) (cal := m_X12_isReader) (n := 1) (as := [vI x1]) (S := []) dX12_reader_2 rfl l_X12_562 k_X12_isReader rfl L_74 c_X12 rfl rfl (Nat.le_of_ble_eq_true rfl) (by omega) ⟨Nat.le_refl _, Nat.le_refl _, Nat.le_refl _, Nat.le_refl _⟩ (Q1 := fun r M' => WP k LAY m_X12_reader 5 [(0, vR (some 74)), (1, vI x1), (2, vI x2)] (r.toList ++ []) M' Q) (S_X12_isReader (by omega) e1 e2 ?_) (fun r M' q => q)
  change WP _ LAY m_X12_reader 5 [(0, vR (some 74)), (1, vI x1), (2, vI x2)] [vI (b2i (0 ≤ x1 ∧ x1 < gi I 83 (gi I 74 13).toNat))] (mem (P, some 5, some 22) I J) Q
  refine st_if_ne (tg := 10) (pc' := 8) dX12_reader_5 (by decide) rfl (b2i_in _) (fun c => ?_) (fun c => ?_)
  · replace h := h.1 (b2i_t.mp c)
    refine st_iload_n (pc' := 11) dX12_reader_10 rfl rfl (j := 2) rfl ?_
    obtain ⟨e3, h⟩ := h
    by_cases c : x2 = 0
    · replace h := h.1 c
      refine st_tblIn (pc' := 56) (off := 45) dX12_reader_11 e3 (by omega) (by rw [c]; rfl) (by decide) ?_
      refine st_aload_n (pc' := 57) dX12_reader_56 rfl rfl (j := 0) rfl ?_
      refine G_X12_177_74 dX12_reader_57 (pc' := 60) rfl rfl ?_
      refine st_iload_n (pc' := 61) dX12_reader_60 rfl rfl (j := 1) rfl ?_
      obtain ⟨e4, h⟩ := h
      refine st_iaload (pc' := 62) (v := (gi I 110 (x1).toNat)) dX12_reader_61 rfl L_110 (by decide) e4 (show gi I 110 (x1).toNat = (gi I 110 (x1).toNat) from rfl) ?_
      exact st_iret (ty := .int) dX12_reader_62 rfl rfl rfl h
    replace h := h.2 c
    have c0 := c
    clear c
    by_cases c : x2 = 1
    · replace h := h.1 c
      refine st_tblIn (pc' := 63) (off := 52) dX12_reader_11 e3 (by omega) (by rw [c]; rfl) (by decide) ?_
      refine st_aload_n (pc' := 64) dX12_reader_63 rfl rfl (j := 0) rfl ?_
      refine G_X12_78_74 dX12_reader_64 (pc' := 67) rfl rfl ?_
      refine st_bipush (pc' := 69) dX12_reader_67 rfl (by decide) ?_
      refine st_aload_n (pc' := 70) dX12_reader_69 rfl rfl (j := 0) rfl ?_
      refine G_X12_51_74 dX12_reader_70 (pc' := 73) rfl rfl ?_
      refine st_imul (pc' := 74) dX12_reader_73 rfl ?_
      refine st_iload_n (pc' := 75) dX12_reader_74 rfl rfl (j := 1) rfl ?_
      refine st_iadd (pc' := 76) dX12_reader_75 rfl ?_
      obtain ⟨e5, h⟩ := h
      refine st_iaload (pc' := 77) (v := (gi I 84 (((6 * (gi I 74 13)) + x1) : Int).toNat)) dX12_reader_76 rfl L_84 (by decide) e5 (show gi I 84 (((6 * (gi I 74 13)) + x1) : Int).toNat = (gi I 84 (((6 * (gi I 74 13)) + x1) : Int).toNat) from rfl) ?_
      exact st_iret (ty := .int) dX12_reader_77 rfl rfl rfl h
    replace h := h.2 c
    have c1 := c
    clear c
    by_cases c : x2 = 2
    · replace h := h.1 c
      refine st_tblIn (pc' := 78) (off := 67) dX12_reader_11 e3 (by omega) (by rw [c]; rfl) (by decide) ?_
      refine st_aload_n (pc' := 79) dX12_reader_78 rfl rfl (j := 0) rfl ?_
      refine G_X12_81_74 dX12_reader_79 (pc' := 82) rfl rfl ?_
      refine st_bipush (pc' := 84) dX12_reader_82 rfl (by decide) ?_
      refine st_aload_n (pc' := 85) dX12_reader_84 rfl rfl (j := 0) rfl ?_
      refine G_X12_51_74 dX12_reader_85 (pc' := 88) rfl rfl ?_
      refine st_imul (pc' := 89) dX12_reader_88 rfl ?_
      refine st_iload_n (pc' := 90) dX12_reader_89 rfl rfl (j := 1) rfl ?_
      refine st_iadd (pc' := 91) dX12_reader_90 rfl ?_
      obtain ⟨e6, h⟩ := h
      refine st_iaload (pc' := 92) (v := (gi I 85 (((6 * (gi I 74 13)) + x1) : Int).toNat)) dX12_reader_91 rfl L_85 (by decide) e6 (show gi I 85 (((6 * (gi I 74 13)) + x1) : Int).toNat = (gi I 85 (((6 * (gi I 74 13)) + x1) : Int).toNat) from rfl) ?_
      exact st_iret (ty := .int) dX12_reader_92 rfl rfl rfl h
    replace h := h.2 c
    have c2 := c
    clear c
    by_cases c : x2 = 3
    · replace h := h.1 c
      refine st_tblIn (pc' := 93) (off := 82) dX12_reader_11 e3 (by omega) (by rw [c]; rfl) (by decide) ?_
      refine st_aload_n (pc' := 94) dX12_reader_93 rfl rfl (j := 0) rfl ?_
      refine G_X12_180_74 dX12_reader_94 (pc' := 97) rfl rfl ?_
      refine st_iload_n (pc' := 98) dX12_reader_97 rfl rfl (j := 1) rfl ?_
      obtain ⟨e7, h⟩ := h
      refine st_iaload (pc' := 99) (v := (gi I 111 (x1).toNat)) dX12_reader_98 rfl L_111 (by decide) e7 (show gi I 111 (x1).toNat = (gi I 111 (x1).toNat) from rfl) ?_
      exact st_iret (ty := .int) dX12_reader_99 rfl rfl rfl h
    replace h := h.2 c
    have c3 := c
    clear c
    by_cases c : x2 = 4
    · replace h := h.1 c
      refine st_tblIn (pc' := 100) (off := 89) dX12_reader_11 e3 (by omega) (by rw [c]; rfl) (by decide) ?_
      refine st_aload_n (pc' := 101) dX12_reader_100 rfl rfl (j := 0) rfl ?_
      refine G_X12_183_74 dX12_reader_101 (pc' := 104) rfl rfl ?_
      refine st_iload_n (pc' := 105) dX12_reader_104 rfl rfl (j := 1) rfl ?_
      obtain ⟨e8, h⟩ := h
      refine st_iaload (pc' := 106) (v := (gi I 112 (x1).toNat)) dX12_reader_105 rfl L_112 (by decide) e8 (show gi I 112 (x1).toNat = (gi I 112 (x1).toNat) from rfl) ?_
      exact st_iret (ty := .int) dX12_reader_106 rfl rfl rfl h
    replace h := h.2 c
    have c4 := c
    clear c
    by_cases c : x2 = 5
    · replace h := h.1 c
      refine st_tblIn (pc' := 107) (off := 96) dX12_reader_11 e3 (by omega) (by rw [c]; rfl) (by decide) ?_
      refine st_aload_n (pc' := 108) dX12_reader_107 rfl rfl (j := 0) rfl ?_
      refine G_X12_186_74 dX12_reader_108 (pc' := 111) rfl rfl ?_
      refine st_iload_n (pc' := 112) dX12_reader_111 rfl rfl (j := 1) rfl ?_
      obtain ⟨e9, h⟩ := h
      refine st_iaload (pc' := 113) (v := (gi I 113 (x1).toNat)) dX12_reader_112 rfl L_113 (by decide) e9 (show gi I 113 (x1).toNat = (gi I 113 (x1).toNat) from rfl) ?_
      exact st_iret (ty := .int) dX12_reader_113 rfl rfl rfl h
    replace h := h.2 c
    have c5 := c
    clear c
    by_cases c : x2 = 6
    · replace h := h.1 c
      refine st_tblIn (pc' := 114) (off := 103) dX12_reader_11 e3 (by omega) (by rw [c]; rfl) (by decide) ?_
      refine st_aload_n (pc' := 115) dX12_reader_114 rfl rfl (j := 0) rfl ?_
      refine G_X12_189_74 dX12_reader_115 (pc' := 118) rfl rfl ?_
      refine st_iload_n (pc' := 119) dX12_reader_118 rfl rfl (j := 1) rfl ?_
      obtain ⟨e10, h⟩ := h
      refine st_iaload (pc' := 120) (v := (gi I 114 (x1).toNat)) dX12_reader_119 rfl L_114 (by decide) e10 (show gi I 114 (x1).toNat = (gi I 114 (x1).toNat) from rfl) ?_
      exact st_iret (ty := .int) dX12_reader_120 rfl rfl rfl h
    replace h := h.2 c
    have c6 := c
    clear c
    by_cases c : x2 = 7
    · replace h := h.1 c
      refine st_tblIn (pc' := 121) (off := 110) dX12_reader_11 e3 (by omega) (by rw [c]; rfl) (by decide) ?_
      refine st_aload_n (pc' := 122) dX12_reader_121 rfl rfl (j := 0) rfl ?_
      refine G_X12_192_74 dX12_reader_122 (pc' := 125) rfl rfl ?_
      refine st_iload_n (pc' := 126) dX12_reader_125 rfl rfl (j := 1) rfl ?_
      obtain ⟨e11, h⟩ := h
      refine st_iaload (pc' := 127) (v := (gi I 115 (x1).toNat)) dX12_reader_126 rfl L_115 (by decide) e11 (show gi I 115 (x1).toNat = (gi I 115 (x1).toNat) from rfl) ?_
      exact st_iret (ty := .int) dX12_reader_127 rfl rfl rfl h
    replace h := h.2 c
    have c7 := c
    clear c
    have go : WP k LAY m_X12_reader 128 [(0, vR (some 74)), (1, vI x1), (2, vI x2)] [] (mem (P, some 5, some 22) I J) Q := by
      refine st_iload_n (pc' := 129) dX12_reader_128 rfl rfl (j := 2) rfl ?_
      refine st_bipush (pc' := 131) dX12_reader_129 rfl (by decide) ?_
      refine st_bipush (pc' := 133) dX12_reader_131 rfl (by decide) ?_
      refine st_aload_n (pc' := 134) dX12_reader_133 rfl rfl (j := 0) rfl ?_
      refine G_X12_192_74 dX12_reader_134 (pc' := 137) rfl rfl ?_
      refine st_iload_n (pc' := 138) dX12_reader_137 rfl rfl (j := 1) rfl ?_
      obtain ⟨e12, h⟩ := h
      refine st_iaload (pc' := 139) (v := (gi I 115 (x1).toNat)) dX12_reader_138 rfl L_115 (by decide) e12 (show gi I 115 (x1).toNat = (gi I 115 (x1).toNat) from rfl) ?_
      refine st_iadd (pc' := 140) dX12_reader_139 rfl ?_
      obtain ⟨e13, h⟩ := h
      refine st_callS (pc' := 143) (kc := k - 1) (E' := LAY) (cal := m_X12_is) (n := 3) (as := [vI x2, vI 10, vI (9 + (gi I 115 (x1).toNat))]) (S := []) dX12_reader_140 rfl l_X12_369 k_X12_is rfl rfl (Nat.le_of_ble_eq_true rfl) (by omega) ⟨Nat.le_refl _, Nat.le_refl _, Nat.le_refl _, Nat.le_refl _⟩ (Q1 := fun r M' => WP k LAY m_X12_reader 143 [(0, vR (some 74)), (1, vI x1), (2, vI x2)] (r.toList ++ []) M' Q) (S_X12_is (by omega) e3 (by decide) e13 ?_) (fun r M' q => q)
      change WP _ LAY m_X12_reader 143 [(0, vR (some 74)), (1, vI x1), (2, vI x2)] [vI (b2i (10 ≤ x2 ∧ x2 ≤ (9 + (gi I 115 (x1).toNat))))] (mem (P, some 5, some 22) I J) Q
      refine st_if_eq (tg := 163) (pc' := 146) dX12_reader_143 (by decide) rfl (b2i_in _) (fun c => ?_) (fun c => ?_)
      · replace h := h.1 (b2i_f.mp c)
        refine st_iconst (pc' := 164) dX12_reader_163 rfl ?_
        exact st_iret (ty := .int) dX12_reader_164 rfl rfl rfl h
      · replace h := h.2 (b2i_t.mp c)
        refine st_aload_n (pc' := 147) dX12_reader_146 rfl rfl (j := 0) rfl ?_
        refine G_X12_195_74 dX12_reader_147 (pc' := 150) rfl rfl ?_
        refine st_bipush (pc' := 152) dX12_reader_150 rfl (by decide) ?_
        refine st_iload_n (pc' := 153) dX12_reader_152 rfl rfl (j := 1) rfl ?_
        refine st_imul (pc' := 154) dX12_reader_153 rfl ?_
        refine st_iload_n (pc' := 155) dX12_reader_154 rfl rfl (j := 2) rfl ?_
        refine st_iadd (pc' := 156) dX12_reader_155 rfl ?_
        refine st_bipush (pc' := 158) dX12_reader_156 rfl (by decide) ?_
        refine st_isub (pc' := 159) dX12_reader_158 rfl ?_
        obtain ⟨e14, h⟩ := h
        refine st_iaload (pc' := 160) (v := (gi I 116 ((((8 * x1) + x2) - 10) : Int).toNat)) dX12_reader_159 rfl L_116 (by decide) e14 (show gi I 116 ((((8 * x1) + x2) - 10) : Int).toNat = (gi I 116 ((((8 * x1) + x2) - 10) : Int).toNat) from rfl) ?_
        refine st_goto (pc' := 164) dX12_reader_160 (by decide) ?_
        exact st_iret (ty := .int) dX12_reader_164 rfl rfl rfl h
    exact st_tblOut (pc' := 128) dX12_reader_11 e3 (by omega) (by decide) go
  · replace h := h.2 (b2i_f.mp c)
    refine st_iconst (pc' := 9) dX12_reader_8 rfl ?_
    exact st_iret (ty := .int) dX12_reader_9 rfl rfl rfl h
set_option maxRecDepth 20000 in
set_option maxHeartbeats 4000000 in
theorem B_X12_scholar_0 {k : Nat} {P : Option Nat} {I : Nat → Nat → Int32} {J : Nat → Nat → Int64} {x1 : Int} {Q : Option AV → Mem → Prop} (hk : 2 ≤ k) (h : (0 ≤ (gi I 74 13) ∧ (gi I 74 13) < 2) ∧ (inR x1 ∧ (inR ((shl32 1 (gi I 77 (gi I 74 13).toNat)) - 1) ∧ (((0 ≤ x1 ∧ x1 ≤ ((shl32 1 (gi I 77 (gi I 74 13).toNat)) - 1)) → (WP k LAY m_X12_scholar 19 [(0, vR (some 74)), (1, vI x1), (2, vI (-1)), (3, vI 100000000), (4, vI 0)] [] (mem (P, some 5, some 22) I J) Q)) ∧ (¬ (0 ≤ x1 ∧ x1 ≤ ((shl32 1 (gi I 77 (gi I 74 13).toNat)) - 1)) → (Q (some (vI (-1))) (mem (P, some 5, some 22) I J))))))) : WP k LAY m_X12_scholar 0 [(0, vR (some 74)), (1, vI x1)] [] (mem (P, some 5, some 22) I J) Q := by
  refine st_aload_n (pc' := 1) dX12_scholar_0 rfl rfl (j := 0) rfl ?_
  refine st_iload_n (pc' := 2) dX12_scholar_1 rfl rfl (j := 1) rfl ?_
  refine st_callV (pc' := 5) (kc := k - 1) (E' := LAY) (cal := m_X12_isQuestion) (n := 1) (as := [vI x1]) (S := []) dX12_scholar_2 rfl l_X12_598 k_X12_isQuestion rfl L_74 c_X12 rfl rfl (Nat.le_of_ble_eq_true rfl) (by omega) ⟨Nat.le_refl _, Nat.le_refl _, Nat.le_refl _, Nat.le_refl _⟩ (Q1 := fun r M' => WP k LAY m_X12_scholar 5 [(0, vR (some 74)), (1, vI x1)] (r.toList ++ []) M' Q) (WPm.of k_X12_isQuestion.1 (Nat.le_of_ble_eq_true rfl) (B_X12_isQuestion_0 (by omega) ?_)) (fun r M' q => q)
  obtain ⟨e1, h⟩ := h
  refine ⟨e1, ?_⟩
  obtain ⟨e2, h⟩ := h
  refine ⟨e2, ?_⟩
  obtain ⟨e3, h⟩ := h
  refine ⟨e3, ?_⟩
  change WP _ LAY m_X12_scholar 5 [(0, vR (some 74)), (1, vI x1)] [vI (b2i (0 ≤ x1 ∧ x1 ≤ ((shl32 1 (gi I 77 (gi I 74 13).toNat)) - 1)))] (mem (P, some 5, some 22) I J) Q
  refine st_if_ne (tg := 10) (pc' := 8) dX12_scholar_5 (by decide) rfl (b2i_in _) (fun c => ?_) (fun c => ?_)
  · replace h := h.1 (b2i_t.mp c)
    refine st_iconst (pc' := 11) dX12_scholar_10 rfl ?_
    refine st_istore_n (pc' := 12) (L' := [(2, vI (-1)), (0, vR (some 74)), (1, vI x1)]) dX12_scholar_11 rfl rfl (by decide) rfl ?_
    refine st_ldc_w (pc' := 15) (z := 100000000) dX12_scholar_12 rfl q_X12_607 (by decide) ?_
    refine st_istore_n (pc' := 16) (L' := [(3, vI 100000000), (2, vI (-1)), (0, vR (some 74)), (1, vI x1)]) dX12_scholar_15 rfl rfl (by decide) rfl ?_
    refine st_iconst (pc' := 17) dX12_scholar_16 rfl ?_
    refine st_istore (pc' := 19) (L' := [(4, vI 0), (3, vI 100000000), (2, vI (-1)), (0, vR (some 74)), (1, vI x1)]) dX12_scholar_17 rfl (by decide) rfl ?_
    refine WP_sub (L' := [(0, vR (some 74)), (1, vI x1), (2, vI (-1)), (3, vI 100000000), (4, vI 0)]) [3, 4, 2, 1, 0] rfl ?_
    exact h
  · replace h := h.2 (b2i_f.mp c)
    refine st_iconst (pc' := 9) dX12_scholar_8 rfl ?_
    exact st_iret (ty := .int) dX12_scholar_9 rfl rfl rfl h
set_option maxRecDepth 20000 in
set_option maxHeartbeats 4000000 in
theorem B_X12_scholar_19 {k : Nat} {P : Option Nat} {I : Nat → Nat → Int32} {J : Nat → Nat → Int64} {x1 : Int} {x2 : Int} {x3 : Int} {x4 : Int} {Q : Option AV → Mem → Prop} (hk : 1 ≤ k) (h : (0 ≤ (gi I 74 13) ∧ (gi I 74 13) < 2) ∧ (inR x4 ∧ (((gi I 83 (gi I 74 13).toNat) ≤ x4 → (Q (some (vI x2)) (mem (P, some 5, some 22) I J))) ∧ (¬ (gi I 83 (gi I 74 13).toNat) ≤ x4 → (WPm (k - 1) LAY m_X12_workOf [vR (some 74), vI x4, vI x1, vI (-1)] (mem (P, some 5, some 22) I J) (retI (fun v3 I4 J5 => WPm (k - 1) LAY m_X12_nightsFor [vR (some 74), vI x4, vI v3] (mem (P, some 5, some 22) I4 J5) (retI (fun v6 I7 J8 => inR v6 ∧ ((v6 = (-1) → (WP k LAY m_X12_scholar 19 [(0, vR (some 74)), (1, vI x1), (2, vI x2), (3, vI x3), (4, vI (x4 + 1))] [] (mem (P, some 5, some 22) I7 J8) Q)) ∧ (¬ v6 = (-1) → (inR x3 ∧ ((v6 < x3 → (WP k LAY m_X12_scholar 19 [(0, vR (some 74)), (1, vI x1), (2, vI x4), (3, vI v6), (4, vI (x4 + 1))] [] (mem (P, some 5, some 22) I7 J8) Q)) ∧ (¬ v6 < x3 → (WP k LAY m_X12_scholar 19 [(0, vR (some 74)), (1, vI x1), (2, vI x2), (3, vI x3), (4, vI (x4 + 1))] [] (mem (P, some 5, some 22) I7 J8) Q))))))) (P, some 5, some 22))) (P, some 5, some 22))))))) : WP k LAY m_X12_scholar 19 [(0, vR (some 74)), (1, vI x1), (2, vI x2), (3, vI x3), (4, vI x4)] [] (mem (P, some 5, some 22) I J) Q := by
  refine st_iload (pc' := 21) dX12_scholar_19 rfl (j := 4) rfl ?_
  refine st_aload_n (pc' := 22) dX12_scholar_21 rfl rfl (j := 0) rfl ?_
  refine G_X12_75_74 dX12_scholar_22 (pc' := 25) rfl rfl ?_
  refine st_aload_n (pc' := 26) dX12_scholar_25 rfl rfl (j := 0) rfl ?_
  refine G_X12_51_74 dX12_scholar_26 (pc' := 29) rfl rfl ?_
  obtain ⟨e1, h⟩ := h
  refine st_iaload (pc' := 30) (v := (gi I 83 (gi I 74 13).toNat)) dX12_scholar_29 rfl L_83 (by decide) e1 (show gi I 83 (gi I 74 13).toNat = (gi I 83 (gi I 74 13).toNat) from rfl) ?_
  obtain ⟨e2, h⟩ := h
  refine st_icmp_ge (tg := 76) (pc' := 33) dX12_scholar_30 (by decide) rfl e2 (gi_in _ _ _) (fun c => ?_) (fun c => ?_)
  · replace h := h.1 c
    refine st_iload_n (pc' := 77) dX12_scholar_76 rfl rfl (j := 2) rfl ?_
    exact st_iret (ty := .int) dX12_scholar_77 rfl rfl rfl h
  · replace h := h.2 c
    refine st_aload_n (pc' := 34) dX12_scholar_33 rfl rfl (j := 0) rfl ?_
    refine st_iload (pc' := 36) dX12_scholar_34 rfl (j := 4) rfl ?_
    refine st_aload_n (pc' := 37) dX12_scholar_36 rfl rfl (j := 0) rfl ?_
    refine st_iload (pc' := 39) dX12_scholar_37 rfl (j := 4) rfl ?_
    refine st_iload_n (pc' := 40) dX12_scholar_39 rfl rfl (j := 1) rfl ?_
    refine st_iconst (pc' := 41) dX12_scholar_40 rfl ?_
    refine st_callV (pc' := 44) (kc := k - 1) (E' := LAY) (cal := m_X12_workOf) (n := 3) (as := [vI x4, vI x1, vI (-1)]) (S := [vI x4, vR (some 74)]) dX12_scholar_41 rfl l_X12_601 k_X12_workOf rfl L_74 c_X12 rfl rfl (Nat.le_of_ble_eq_true rfl) (by omega) ⟨Nat.le_refl _, Nat.le_refl _, Nat.le_refl _, Nat.le_refl _⟩ h (fun r M' q => ?_)
    obtain ⟨v3, I4, J5, rfl, rfl, h⟩ := q
    change WP _ LAY m_X12_scholar 44 [(0, vR (some 74)), (1, vI x1), (2, vI x2), (3, vI x3), (4, vI x4)] [vI v3, vI x4, vR (some 74)] (mem (P, some 5, some 22) I4 J5) Q
    refine st_callV (pc' := 47) (kc := k - 1) (E' := LAY) (cal := m_X12_nightsFor) (n := 2) (as := [vI x4, vI v3]) (S := []) dX12_scholar_44 rfl l_X12_604 k_X12_nightsFor rfl L_74 c_X12 rfl rfl (Nat.le_of_ble_eq_true rfl) (by omega) ⟨Nat.le_refl _, Nat.le_refl _, Nat.le_refl _, Nat.le_refl _⟩ h (fun r M' q => ?_)
    obtain ⟨v6, I7, J8, rfl, rfl, h⟩ := q
    change WP _ LAY m_X12_scholar 47 [(0, vR (some 74)), (1, vI x1), (2, vI x2), (3, vI x3), (4, vI x4)] [vI v6] (mem (P, some 5, some 22) I7 J8) Q
    refine st_istore (pc' := 49) (L' := [(5, vI v6), (0, vR (some 74)), (1, vI x1), (2, vI x2), (3, vI x3), (4, vI x4)]) dX12_scholar_47 rfl (by decide) rfl ?_
    refine st_iload (pc' := 51) dX12_scholar_49 rfl (j := 0) rfl ?_
    refine st_iconst (pc' := 52) dX12_scholar_51 rfl ?_
    obtain ⟨e9, h⟩ := h
    refine st_icmp_eq (tg := 70) (pc' := 55) dX12_scholar_52 (by decide) rfl e9 (by decide) (fun c => ?_) (fun c => ?_)
    · replace h := h.1 c
      refine st_iinc (pc' := 73) (L' := [(4, vI (x4 + 1)), (5, vI v6), (0, vR (some 74)), (1, vI x1), (2, vI x2), (3, vI x3)]) (j := 5) dX12_scholar_70 rfl (by decide) rfl rfl ?_
      refine st_goto (pc' := 19) dX12_scholar_73 (by decide) ?_
      refine WP_sub (L' := [(0, vR (some 74)), (1, vI x1), (2, vI x2), (3, vI x3), (4, vI (x4 + 1))]) [2, 3, 4, 5, 0] rfl ?_
      exact h
    · replace h := h.2 c
      refine st_iload (pc' := 57) dX12_scholar_55 rfl (j := 0) rfl ?_
      refine st_iload_n (pc' := 58) dX12_scholar_57 rfl rfl (j := 4) rfl ?_
      obtain ⟨e10, h⟩ := h
      refine st_icmp_lt (tg := 64) (pc' := 61) dX12_scholar_58 (by decide) rfl e9 e10 (fun c => ?_) (fun c => ?_)
      · replace h := h.1 c
        refine st_iload (pc' := 66) dX12_scholar_64 rfl (j := 5) rfl ?_
        refine st_istore_n (pc' := 67) (L' := [(2, vI x4), (5, vI v6), (0, vR (some 74)), (1, vI x1), (3, vI x3), (4, vI x4)]) dX12_scholar_66 rfl rfl (by decide) rfl ?_
        refine st_iload (pc' := 69) dX12_scholar_67 rfl (j := 1) rfl ?_
        refine st_istore_n (pc' := 70) (L' := [(3, vI v6), (2, vI x4), (5, vI v6), (0, vR (some 74)), (1, vI x1), (4, vI x4)]) dX12_scholar_69 rfl rfl (by decide) rfl ?_
        refine st_iinc (pc' := 73) (L' := [(4, vI (x4 + 1)), (3, vI v6), (2, vI x4), (5, vI v6), (0, vR (some 74)), (1, vI x1)]) (j := 5) dX12_scholar_70 rfl (by decide) rfl rfl ?_
        refine st_goto (pc' := 19) dX12_scholar_73 (by decide) ?_
        refine WP_sub (L' := [(0, vR (some 74)), (1, vI x1), (2, vI x4), (3, vI v6), (4, vI (x4 + 1))]) [4, 5, 2, 1, 0] rfl ?_
        exact h
      · replace h := h.2 c
        refine st_goto (pc' := 70) dX12_scholar_61 (by decide) ?_
        refine st_iinc (pc' := 73) (L' := [(4, vI (x4 + 1)), (5, vI v6), (0, vR (some 74)), (1, vI x1), (2, vI x2), (3, vI x3)]) (j := 5) dX12_scholar_70 rfl (by decide) rfl rfl ?_
        refine st_goto (pc' := 19) dX12_scholar_73 (by decide) ?_
        refine WP_sub (L' := [(0, vR (some 74)), (1, vI x1), (2, vI x2), (3, vI x3), (4, vI (x4 + 1))]) [2, 3, 4, 5, 0] rfl ?_
        exact h
set_option maxRecDepth 20000 in
set_option maxHeartbeats 4000000 in
theorem B_X12_seat_0 {k : Nat} {P : Option Nat} {I : Nat → Nat → Int32} {J : Nat → Nat → Int64} {x1 : Int} {x2 : Int} {Q : Option AV → Mem → Prop} (hk : 1 ≤ k) (h : (0 ≤ (gi I 74 13) ∧ (gi I 74 13) < 2) ∧ (inR x1 ∧ ((¬ (0 ≤ x1 ∧ x1 < gi I 83 (gi I 74 13).toNat) → (Q (some (vI 0)) (mem (P, some 5, some 22) (si I 107 2 ((gi I 107 2) + 1)) J))) ∧ ((0 ≤ x1 ∧ x1 < gi I 83 (gi I 74 13).toNat) → (inR x2 ∧ ((¬ (0 ≤ x2 ∧ x2 < gi I 86 (gi I 74 13).toNat) → (Q (some (vI 0)) (mem (P, some 5, some 22) (si I 107 2 ((gi I 107 2) + 1)) J))) ∧ ((0 ≤ x2 ∧ x2 < gi I 86 (gi I 74 13).toNat) → ((0 ≤ x1 ∧ x1 < 132) ∧ (((gi I 110 (x1).toNat) = x2 → (Q (some (vI 0)) (mem (P, some 5, some 22) (si I 107 2 ((gi I 107 2) + 1)) J))) ∧ (¬ (gi I 110 (x1).toNat) = x2 → (WPm (k - 1) LAY m_X12_keeps [vR (some 74)] (mem (P, some 5, some 22) I J) (retV (fun I6 J7 => Q (some (vI 1)) (mem (P, some 5, some 22) (si I6 110 (x1).toNat x2) J7)) (P, some 5, some 22))))))))))))) : WP k LAY m_X12_seat 0 [(0, vR (some 74)), (1, vI x1), (2, vI x2)] [] (mem (P, some 5, some 22) I J) Q := by
  refine st_aload_n (pc' := 1) dX12_seat_0 rfl rfl (j := 0) rfl ?_
  refine st_iload_n (pc' := 2) dX12_seat_1 rfl rfl (j := 1) rfl ?_
  obtain ⟨e1, h⟩ := h
  obtain ⟨e2, h⟩ := h
  refine st_callV (pc' := 5) (kc := k - 1) (E' := LAY) (cal := m_X12_isReader) (n := 1) (as := [vI x1]) (S := []) dX12_seat_2 rfl l_X12_562 k_X12_isReader rfl L_74 c_X12 rfl rfl (Nat.le_of_ble_eq_true rfl) (by omega) ⟨Nat.le_refl _, Nat.le_refl _, Nat.le_refl _, Nat.le_refl _⟩ (Q1 := fun r M' => WP k LAY m_X12_seat 5 [(0, vR (some 74)), (1, vI x1), (2, vI x2)] (r.toList ++ []) M' Q) (S_X12_isReader (by omega) e1 e2 ?_) (fun r M' q => q)
  change WP _ LAY m_X12_seat 5 [(0, vR (some 74)), (1, vI x1), (2, vI x2)] [vI (b2i (0 ≤ x1 ∧ x1 < gi I 83 (gi I 74 13).toNat))] (mem (P, some 5, some 22) I J) Q
  refine st_if_eq (tg := 30) (pc' := 8) dX12_seat_5 (by decide) rfl (b2i_in _) (fun c => ?_) (fun c => ?_)
  · replace h := h.1 (b2i_f.mp c)
    refine st_iconst (pc' := 31) dX12_seat_30 rfl ?_
    refine st_istore_n (pc' := 32) (L' := [(3, vI 0), (0, vR (some 74)), (1, vI x1), (2, vI x2)]) dX12_seat_31 rfl rfl (by decide) rfl ?_
    refine st_iload_n (pc' := 33) dX12_seat_32 rfl rfl (j := 0) rfl ?_
    refine st_if_ne (tg := 50) (pc' := 36) dX12_seat_33 (by decide) rfl (by decide) (fun c => ?_) (fun c => ?_)
    · exact absurd c (by decide)
    · refine st_aload_n (pc' := 37) dX12_seat_36 rfl rfl (j := 1) rfl ?_
      refine st_iconst (pc' := 38) dX12_seat_37 rfl ?_
      refine st_callV (pc' := 41) (kc := k - 1) (E' := LAY) (cal := m_X12_refuses) (n := 1) (as := [vI 2]) (S := []) dX12_seat_38 rfl l_X12_279 k_X12_refuses rfl L_74 c_X12 rfl rfl (Nat.le_of_ble_eq_true rfl) (by omega) ⟨Nat.le_refl _, Nat.le_refl _, Nat.le_refl _, Nat.le_refl _⟩ (Q1 := fun r M' => WP k LAY m_X12_seat 41 [(3, vI 0), (0, vR (some 74)), (1, vI x1), (2, vI x2)] (r.toList ++ []) M' Q) (WPm.of k_X12_refuses.1 (Nat.le_of_ble_eq_true rfl) (B_X12_refuses_0 (by omega) ?_)) (fun r M' q => q)
      refine ⟨by decide, ?_⟩
      change WP _ LAY m_X12_seat 41 [(3, vI 0), (0, vR (some 74)), (1, vI x1), (2, vI x2)] [vI (-1)] (mem (P, some 5, some 22) (si I 107 2 ((gi I 107 2) + 1)) J) Q
      refine st_if_lt (tg := 48) (pc' := 44) dX12_seat_41 (by decide) rfl (by decide) (fun c => ?_) (fun c => ?_)
      · refine st_iconst (pc' := 49) dX12_seat_48 rfl ?_
        exact st_iret (ty := .boolean) dX12_seat_49 rfl (by decide) rfl h
      · exact absurd c (by decide)
  · replace h := h.2 (b2i_t.mp c)
    refine st_aload_n (pc' := 9) dX12_seat_8 rfl rfl (j := 0) rfl ?_
    refine st_iload_n (pc' := 10) dX12_seat_9 rfl rfl (j := 2) rfl ?_
    obtain ⟨e3, h⟩ := h
    refine st_callV (pc' := 13) (kc := k - 1) (E' := LAY) (cal := m_X12_isTable) (n := 1) (as := [vI x2]) (S := []) dX12_seat_10 rfl l_X12_565 k_X12_isTable rfl L_74 c_X12 rfl rfl (Nat.le_of_ble_eq_true rfl) (by omega) ⟨Nat.le_refl _, Nat.le_refl _, Nat.le_refl _, Nat.le_refl _⟩ (Q1 := fun r M' => WP k LAY m_X12_seat 13 [(0, vR (some 74)), (1, vI x1), (2, vI x2)] (r.toList ++ []) M' Q) (S_X12_isTable (by omega) e1 e3 ?_) (fun r M' q => q)
    change WP _ LAY m_X12_seat 13 [(0, vR (some 74)), (1, vI x1), (2, vI x2)] [vI (b2i (0 ≤ x2 ∧ x2 < gi I 86 (gi I 74 13).toNat))] (mem (P, some 5, some 22) I J) Q
    refine st_if_eq (tg := 30) (pc' := 16) dX12_seat_13 (by decide) rfl (b2i_in _) (fun c => ?_) (fun c => ?_)
    · replace h := h.1 (b2i_f.mp c)
      refine st_iconst (pc' := 31) dX12_seat_30 rfl ?_
      refine st_istore_n (pc' := 32) (L' := [(3, vI 0), (0, vR (some 74)), (1, vI x1), (2, vI x2)]) dX12_seat_31 rfl rfl (by decide) rfl ?_
      refine st_iload_n (pc' := 33) dX12_seat_32 rfl rfl (j := 0) rfl ?_
      refine st_if_ne (tg := 50) (pc' := 36) dX12_seat_33 (by decide) rfl (by decide) (fun c => ?_) (fun c => ?_)
      · exact absurd c (by decide)
      · refine st_aload_n (pc' := 37) dX12_seat_36 rfl rfl (j := 1) rfl ?_
        refine st_iconst (pc' := 38) dX12_seat_37 rfl ?_
        refine st_callV (pc' := 41) (kc := k - 1) (E' := LAY) (cal := m_X12_refuses) (n := 1) (as := [vI 2]) (S := []) dX12_seat_38 rfl l_X12_279 k_X12_refuses rfl L_74 c_X12 rfl rfl (Nat.le_of_ble_eq_true rfl) (by omega) ⟨Nat.le_refl _, Nat.le_refl _, Nat.le_refl _, Nat.le_refl _⟩ (Q1 := fun r M' => WP k LAY m_X12_seat 41 [(3, vI 0), (0, vR (some 74)), (1, vI x1), (2, vI x2)] (r.toList ++ []) M' Q) (WPm.of k_X12_refuses.1 (Nat.le_of_ble_eq_true rfl) (B_X12_refuses_0 (by omega) ?_)) (fun r M' q => q)
        refine ⟨by decide, ?_⟩
        change WP _ LAY m_X12_seat 41 [(3, vI 0), (0, vR (some 74)), (1, vI x1), (2, vI x2)] [vI (-1)] (mem (P, some 5, some 22) (si I 107 2 ((gi I 107 2) + 1)) J) Q
        refine st_if_lt (tg := 48) (pc' := 44) dX12_seat_41 (by decide) rfl (by decide) (fun c => ?_) (fun c => ?_)
        · refine st_iconst (pc' := 49) dX12_seat_48 rfl ?_
          exact st_iret (ty := .boolean) dX12_seat_49 rfl (by decide) rfl h
        · exact absurd c (by decide)
    · replace h := h.2 (b2i_t.mp c)
      refine st_aload_n (pc' := 17) dX12_seat_16 rfl rfl (j := 0) rfl ?_
      refine G_X12_177_74 dX12_seat_17 (pc' := 20) rfl rfl ?_
      refine st_iload_n (pc' := 21) dX12_seat_20 rfl rfl (j := 1) rfl ?_
      obtain ⟨e4, h⟩ := h
      refine st_iaload (pc' := 22) (v := (gi I 110 (x1).toNat)) dX12_seat_21 rfl L_110 (by decide) e4 (show gi I 110 (x1).toNat = (gi I 110 (x1).toNat) from rfl) ?_
      refine st_iload_n (pc' := 23) dX12_seat_22 rfl rfl (j := 2) rfl ?_
      refine st_icmp_eq (tg := 30) (pc' := 26) dX12_seat_23 (by decide) rfl (gi_in _ _ _) e3 (fun c => ?_) (fun c => ?_)
      · replace h := h.1 c
        refine st_iconst (pc' := 31) dX12_seat_30 rfl ?_
        refine st_istore_n (pc' := 32) (L' := [(3, vI 0), (0, vR (some 74)), (1, vI x1), (2, vI x2)]) dX12_seat_31 rfl rfl (by decide) rfl ?_
        refine st_iload_n (pc' := 33) dX12_seat_32 rfl rfl (j := 0) rfl ?_
        refine st_if_ne (tg := 50) (pc' := 36) dX12_seat_33 (by decide) rfl (by decide) (fun c => ?_) (fun c => ?_)
        · exact absurd c (by decide)
        · refine st_aload_n (pc' := 37) dX12_seat_36 rfl rfl (j := 1) rfl ?_
          refine st_iconst (pc' := 38) dX12_seat_37 rfl ?_
          refine st_callV (pc' := 41) (kc := k - 1) (E' := LAY) (cal := m_X12_refuses) (n := 1) (as := [vI 2]) (S := []) dX12_seat_38 rfl l_X12_279 k_X12_refuses rfl L_74 c_X12 rfl rfl (Nat.le_of_ble_eq_true rfl) (by omega) ⟨Nat.le_refl _, Nat.le_refl _, Nat.le_refl _, Nat.le_refl _⟩ (Q1 := fun r M' => WP k LAY m_X12_seat 41 [(3, vI 0), (0, vR (some 74)), (1, vI x1), (2, vI x2)] (r.toList ++ []) M' Q) (WPm.of k_X12_refuses.1 (Nat.le_of_ble_eq_true rfl) (B_X12_refuses_0 (by omega) ?_)) (fun r M' q => q)
          refine ⟨by decide, ?_⟩
          change WP _ LAY m_X12_seat 41 [(3, vI 0), (0, vR (some 74)), (1, vI x1), (2, vI x2)] [vI (-1)] (mem (P, some 5, some 22) (si I 107 2 ((gi I 107 2) + 1)) J) Q
          refine st_if_lt (tg := 48) (pc' := 44) dX12_seat_41 (by decide) rfl (by decide) (fun c => ?_) (fun c => ?_)
          · refine st_iconst (pc' := 49) dX12_seat_48 rfl ?_
            exact st_iret (ty := .boolean) dX12_seat_49 rfl (by decide) rfl h
          · exact absurd c (by decide)
      · replace h := h.2 c
        refine st_iconst (pc' := 27) dX12_seat_26 rfl ?_
        refine st_goto (pc' := 31) dX12_seat_27 (by decide) ?_
        refine st_istore_n (pc' := 32) (L' := [(3, vI 1), (0, vR (some 74)), (1, vI x1), (2, vI x2)]) dX12_seat_31 rfl rfl (by decide) rfl ?_
        refine st_iload_n (pc' := 33) dX12_seat_32 rfl rfl (j := 0) rfl ?_
        refine st_if_ne (tg := 50) (pc' := 36) dX12_seat_33 (by decide) rfl (by decide) (fun c => ?_) (fun c => ?_)
        · refine st_aload_n (pc' := 51) dX12_seat_50 rfl rfl (j := 1) rfl ?_
          refine st_callV (pc' := 54) (kc := k - 1) (E' := LAY) (cal := m_X12_keeps) (n := 0) (as := []) (S := []) dX12_seat_51 rfl l_X12_572 k_X12_keeps rfl L_74 c_X12 rfl rfl (Nat.le_of_ble_eq_true rfl) (by omega) ⟨Nat.le_refl _, Nat.le_refl _, Nat.le_refl _, Nat.le_refl _⟩ h (fun r M' q => ?_)
          obtain ⟨I6, J7, rfl, rfl, h⟩ := q
          change WP _ LAY m_X12_seat 54 [(3, vI 1), (0, vR (some 74)), (1, vI x1), (2, vI x2)] [] (mem (P, some 5, some 22) I6 J7) Q
          refine st_aload_n (pc' := 55) dX12_seat_54 rfl rfl (j := 1) rfl ?_
          refine G_X12_177_74 dX12_seat_55 (pc' := 58) rfl rfl ?_
          refine st_iload_n (pc' := 59) dX12_seat_58 rfl rfl (j := 2) rfl ?_
          refine st_iload_n (pc' := 60) dX12_seat_59 rfl rfl (j := 3) rfl ?_
          refine st_iastore (pc' := 61) (M' := (mem (P, some 5, some 22) (si I6 110 (x1).toNat x2) J7)) dX12_seat_60 rfl L_110 (by decide) e4 rfl ?_
          refine st_iconst (pc' := 62) dX12_seat_61 rfl ?_
          exact st_iret (ty := .boolean) dX12_seat_62 rfl (by decide) rfl h
        · exact absurd c (by decide)
set_option maxRecDepth 20000 in
set_option maxHeartbeats 4000000 in
theorem B_X12_seated_0 {k : Nat} {P : Option Nat} {I : Nat → Nat → Int32} {J : Nat → Nat → Int64} {x1 : Int} {Q : Option AV → Mem → Prop} (hk : 1 ≤ k) (h : (0 ≤ (gi I 74 13) ∧ (gi I 74 13) < 2) ∧ (((gi I 83 (gi I 74 13).toNat) = 0 → (Q (some (vI (-1))) (mem (P, some 5, some 22) I J))) ∧ (¬ (gi I 83 (gi I 74 13).toNat) = 0 → (inR x1 ∧ ((x1 = (-1) → (WP k LAY m_X12_seated 37 [(0, vR (some 74)), (1, vI x1), (2, vI 1), (3, vI 0)] [] (mem (P, some 5, some 22) I J) Q)) ∧ (¬ x1 = (-1) → ((x1 = 20 → (WP k LAY m_X12_seated 37 [(0, vR (some 74)), (1, vI x1), (2, vI 1), (3, vI 0)] [] (mem (P, some 5, some 22) I J) Q)) ∧ (¬ x1 = 20 → (((0 ≤ x1 ∧ x1 < gi I 83 (gi I 74 13).toNat) → (WP k LAY m_X12_seated 37 [(0, vR (some 74)), (1, vI x1), (2, vI 1), (3, vI 0)] [] (mem (P, some 5, some 22) I J) Q)) ∧ (¬ (0 ≤ x1 ∧ x1 < gi I 83 (gi I 74 13).toNat) → (Q (some (vI (-1))) (mem (P, some 5, some 22) I J)))))))))))) : WP k LAY m_X12_seated 0 [(0, vR (some 74)), (1, vI x1)] [] (mem (P, some 5, some 22) I J) Q := by
  refine st_aload_n (pc' := 1) dX12_seated_0 rfl rfl (j := 0) rfl ?_
  refine G_X12_75_74 dX12_seated_1 (pc' := 4) rfl rfl ?_
  refine st_aload_n (pc' := 5) dX12_seated_4 rfl rfl (j := 0) rfl ?_
  refine G_X12_51_74 dX12_seated_5 (pc' := 8) rfl rfl ?_
  obtain ⟨e1, h⟩ := h
  refine st_iaload (pc' := 9) (v := (gi I 83 (gi I 74 13).toNat)) dX12_seated_8 rfl L_83 (by decide) e1 (show gi I 83 (gi I 74 13).toNat = (gi I 83 (gi I 74 13).toNat) from rfl) ?_
  refine st_if_eq (tg := 31) (pc' := 12) dX12_seated_9 (by decide) rfl (gi_in _ _ _) (fun c => ?_) (fun c => ?_)
  · replace h := h.1 c
    refine st_iconst (pc' := 32) dX12_seated_31 rfl ?_
    exact st_iret (ty := .int) dX12_seated_32 rfl rfl rfl h
  · replace h := h.2 c
    refine st_iload_n (pc' := 13) dX12_seated_12 rfl rfl (j := 1) rfl ?_
    refine st_iconst (pc' := 14) dX12_seated_13 rfl ?_
    obtain ⟨e2, h⟩ := h
    refine st_icmp_eq (tg := 33) (pc' := 17) dX12_seated_14 (by decide) rfl e2 (by decide) (fun c => ?_) (fun c => ?_)
    · replace h := h.1 c
      refine st_iconst (pc' := 34) dX12_seated_33 rfl ?_
      refine st_istore_n (pc' := 35) (L' := [(2, vI 1), (0, vR (some 74)), (1, vI x1)]) dX12_seated_34 rfl rfl (by decide) rfl ?_
      refine st_iconst (pc' := 36) dX12_seated_35 rfl ?_
      refine st_istore_n (pc' := 37) (L' := [(3, vI 0), (2, vI 1), (0, vR (some 74)), (1, vI x1)]) dX12_seated_36 rfl rfl (by decide) rfl ?_
      refine WP_sub (L' := [(0, vR (some 74)), (1, vI x1), (2, vI 1), (3, vI 0)]) [2, 3, 1, 0] rfl ?_
      exact h
    · replace h := h.2 c
      refine st_iload_n (pc' := 18) dX12_seated_17 rfl rfl (j := 1) rfl ?_
      refine st_bipush (pc' := 20) dX12_seated_18 rfl (by decide) ?_
      refine st_icmp_eq (tg := 33) (pc' := 23) dX12_seated_20 (by decide) rfl e2 (by decide) (fun c => ?_) (fun c => ?_)
      · replace h := h.1 c
        refine st_iconst (pc' := 34) dX12_seated_33 rfl ?_
        refine st_istore_n (pc' := 35) (L' := [(2, vI 1), (0, vR (some 74)), (1, vI x1)]) dX12_seated_34 rfl rfl (by decide) rfl ?_
        refine st_iconst (pc' := 36) dX12_seated_35 rfl ?_
        refine st_istore_n (pc' := 37) (L' := [(3, vI 0), (2, vI 1), (0, vR (some 74)), (1, vI x1)]) dX12_seated_36 rfl rfl (by decide) rfl ?_
        refine WP_sub (L' := [(0, vR (some 74)), (1, vI x1), (2, vI 1), (3, vI 0)]) [2, 3, 1, 0] rfl ?_
        exact h
      · replace h := h.2 c
        refine st_aload_n (pc' := 24) dX12_seated_23 rfl rfl (j := 0) rfl ?_
        refine st_iload_n (pc' := 25) dX12_seated_24 rfl rfl (j := 1) rfl ?_
        refine st_callV (pc' := 28) (kc := k - 1) (E' := LAY) (cal := m_X12_isReader) (n := 1) (as := [vI x1]) (S := []) dX12_seated_25 rfl l_X12_562 k_X12_isReader rfl L_74 c_X12 rfl rfl (Nat.le_of_ble_eq_true rfl) (by omega) ⟨Nat.le_refl _, Nat.le_refl _, Nat.le_refl _, Nat.le_refl _⟩ (Q1 := fun r M' => WP k LAY m_X12_seated 28 [(0, vR (some 74)), (1, vI x1)] (r.toList ++ []) M' Q) (S_X12_isReader (by omega) e1 e2 ?_) (fun r M' q => q)
        change WP _ LAY m_X12_seated 28 [(0, vR (some 74)), (1, vI x1)] [vI (b2i (0 ≤ x1 ∧ x1 < gi I 83 (gi I 74 13).toNat))] (mem (P, some 5, some 22) I J) Q
        refine st_if_ne (tg := 33) (pc' := 31) dX12_seated_28 (by decide) rfl (b2i_in _) (fun c => ?_) (fun c => ?_)
        · replace h := h.1 (b2i_t.mp c)
          refine st_iconst (pc' := 34) dX12_seated_33 rfl ?_
          refine st_istore_n (pc' := 35) (L' := [(2, vI 1), (0, vR (some 74)), (1, vI x1)]) dX12_seated_34 rfl rfl (by decide) rfl ?_
          refine st_iconst (pc' := 36) dX12_seated_35 rfl ?_
          refine st_istore_n (pc' := 37) (L' := [(3, vI 0), (2, vI 1), (0, vR (some 74)), (1, vI x1)]) dX12_seated_36 rfl rfl (by decide) rfl ?_
          refine WP_sub (L' := [(0, vR (some 74)), (1, vI x1), (2, vI 1), (3, vI 0)]) [2, 3, 1, 0] rfl ?_
          exact h
        · replace h := h.2 (b2i_f.mp c)
          refine st_iconst (pc' := 32) dX12_seated_31 rfl ?_
          exact st_iret (ty := .int) dX12_seated_32 rfl rfl rfl h
set_option maxRecDepth 20000 in
set_option maxHeartbeats 4000000 in
theorem B_X12_seated_37 {k : Nat} {P : Option Nat} {I : Nat → Nat → Int32} {J : Nat → Nat → Int64} {x1 : Int} {x2 : Int} {x3 : Int} {Q : Option AV → Mem → Prop} (hk : 0 ≤ k) (h : (0 ≤ (gi I 74 13) ∧ (gi I 74 13) < 2) ∧ (inR x3 ∧ (((gi I 83 (gi I 74 13).toNat) ≤ x3 → (WP k LAY m_X12_seated 76 [(0, vR (some 74)), (1, vI x1), (2, vI x2), (3, vI (-1)), (4, vI 0), (5, vI 0)] [] (mem (P, some 5, some 22) I J) Q)) ∧ (¬ (gi I 83 (gi I 74 13).toNat) ≤ x3 → (WP k LAY m_X12_seated 37 [(0, vR (some 74)), (1, vI x1), (2, vI (x2 * (gi I 86 (gi I 74 13).toNat))), (3, vI (x3 + 1))] [] (mem (P, some 5, some 22) I J) Q))))) : WP k LAY m_X12_seated 37 [(0, vR (some 74)), (1, vI x1), (2, vI x2), (3, vI x3)] [] (mem (P, some 5, some 22) I J) Q := by
  refine st_iload_n (pc' := 38) dX12_seated_37 rfl rfl (j := 3) rfl ?_
  refine st_aload_n (pc' := 39) dX12_seated_38 rfl rfl (j := 0) rfl ?_
  refine G_X12_75_74 dX12_seated_39 (pc' := 42) rfl rfl ?_
  refine st_aload_n (pc' := 43) dX12_seated_42 rfl rfl (j := 0) rfl ?_
  refine G_X12_51_74 dX12_seated_43 (pc' := 46) rfl rfl ?_
  obtain ⟨e1, h⟩ := h
  refine st_iaload (pc' := 47) (v := (gi I 83 (gi I 74 13).toNat)) dX12_seated_46 rfl L_83 (by decide) e1 (show gi I 83 (gi I 74 13).toNat = (gi I 83 (gi I 74 13).toNat) from rfl) ?_
  obtain ⟨e2, h⟩ := h
  refine st_icmp_ge (tg := 68) (pc' := 50) dX12_seated_47 (by decide) rfl e2 (gi_in _ _ _) (fun c => ?_) (fun c => ?_)
  · replace h := h.1 c
    refine st_iconst (pc' := 69) dX12_seated_68 rfl ?_
    refine st_istore_n (pc' := 70) (L' := [(3, vI (-1)), (0, vR (some 74)), (1, vI x1), (2, vI x2)]) dX12_seated_69 rfl rfl (by decide) rfl ?_
    refine st_iconst (pc' := 71) dX12_seated_70 rfl ?_
    refine st_istore (pc' := 73) (L' := [(4, vI 0), (3, vI (-1)), (0, vR (some 74)), (1, vI x1), (2, vI x2)]) dX12_seated_71 rfl (by decide) rfl ?_
    refine st_iconst (pc' := 74) dX12_seated_73 rfl ?_
    refine st_istore (pc' := 76) (L' := [(5, vI 0), (4, vI 0), (3, vI (-1)), (0, vR (some 74)), (1, vI x1), (2, vI x2)]) dX12_seated_74 rfl (by decide) rfl ?_
    refine WP_sub (L' := [(0, vR (some 74)), (1, vI x1), (2, vI x2), (3, vI (-1)), (4, vI 0), (5, vI 0)]) [3, 4, 5, 2, 1, 0] rfl ?_
    exact h
  · replace h := h.2 c
    refine st_iload_n (pc' := 51) dX12_seated_50 rfl rfl (j := 2) rfl ?_
    refine st_aload_n (pc' := 52) dX12_seated_51 rfl rfl (j := 0) rfl ?_
    refine G_X12_84_74 dX12_seated_52 (pc' := 55) rfl rfl ?_
    refine st_aload_n (pc' := 56) dX12_seated_55 rfl rfl (j := 0) rfl ?_
    refine G_X12_51_74 dX12_seated_56 (pc' := 59) rfl rfl ?_
    refine st_iaload (pc' := 60) (v := (gi I 86 (gi I 74 13).toNat)) dX12_seated_59 rfl L_86 (by decide) e1 (show gi I 86 (gi I 74 13).toNat = (gi I 86 (gi I 74 13).toNat) from rfl) ?_
    refine st_imul (pc' := 61) dX12_seated_60 rfl ?_
    refine st_istore_n (pc' := 62) (L' := [(2, vI (x2 * (gi I 86 (gi I 74 13).toNat))), (0, vR (some 74)), (1, vI x1), (3, vI x3)]) dX12_seated_61 rfl rfl (by decide) rfl ?_
    refine st_iinc (pc' := 65) (L' := [(3, vI (x3 + 1)), (2, vI (x2 * (gi I 86 (gi I 74 13).toNat))), (0, vR (some 74)), (1, vI x1)]) (j := 3) dX12_seated_62 rfl (by decide) rfl rfl ?_
    refine st_goto (pc' := 37) dX12_seated_65 (by decide) ?_
    refine WP_sub (L' := [(0, vR (some 74)), (1, vI x1), (2, vI (x2 * (gi I 86 (gi I 74 13).toNat))), (3, vI (x3 + 1))]) [2, 3, 1, 0] rfl ?_
    exact h
set_option maxRecDepth 20000 in
set_option maxHeartbeats 4000000 in
theorem B_X12_seated_76 {k : Nat} {P : Option Nat} {I : Nat → Nat → Int32} {J : Nat → Nat → Int64} {x1 : Int} {x2 : Int} {x3 : Int} {x4 : Int} {x5 : Int} {Q : Option AV → Mem → Prop} (hk : 1 ≤ k) (h : inR x5 ∧ (inR x2 ∧ ((x2 ≤ x5 → (inR x1 ∧ ((¬ x1 = (-1) → ((¬ x1 = 20 → ((0 ≤ x1 ∧ x1 < 6) ∧ (Q (some (vI (gi I 129 (x1).toNat))) (mem (P, some 5, some 22) I J)))) ∧ (x1 = 20 → (Q (some (vI x4)) (mem (P, some 5, some 22) I J))))) ∧ (x1 = (-1) → (Q (some (vI x3)) (mem (P, some 5, some 22) I J)))))) ∧ (¬ x2 ≤ x5 → (WPm (k - 1) LAY m_X12_copies [vR (some 74), vI 1, vI 0] (mem (P, some 5, some 22) I J) (retV (fun I6 J7 => (0 ≤ (gi I6 74 13) ∧ (gi I6 74 13) < 2) ∧ (WP k LAY m_X12_seated 105 [(0, vR (some 74)), (1, vI x1), (2, vI x2), (3, vI x3), (4, vI x4), (5, vI x5), (6, vI x5), (7, vI ((gi I6 83 (gi I6 74 13).toNat) - 1))] [] (mem (P, some 5, some 22) I6 J7) Q)) (P, some 5, some 22))))))) : WP k LAY m_X12_seated 76 [(0, vR (some 74)), (1, vI x1), (2, vI x2), (3, vI x3), (4, vI x4), (5, vI x5)] [] (mem (P, some 5, some 22) I J) Q := by
  refine st_iload (pc' := 78) dX12_seated_76 rfl (j := 5) rfl ?_
  refine st_iload_n (pc' := 79) dX12_seated_78 rfl rfl (j := 2) rfl ?_
  obtain ⟨e1, h⟩ := h
  obtain ⟨e2, h⟩ := h
  refine st_icmp_ge (tg := 283) (pc' := 82) dX12_seated_79 (by decide) rfl e1 e2 (fun c => ?_) (fun c => ?_)
  · replace h := h.1 c
    refine st_iload_n (pc' := 284) dX12_seated_283 rfl rfl (j := 1) rfl ?_
    refine st_iconst (pc' := 285) dX12_seated_284 rfl ?_
    obtain ⟨e3, h⟩ := h
    refine st_icmp_ne (tg := 292) (pc' := 288) dX12_seated_285 (by decide) rfl e3 (by decide) (fun c => ?_) (fun c => ?_)
    · replace h := h.1 c
      refine st_iload_n (pc' := 293) dX12_seated_292 rfl rfl (j := 1) rfl ?_
      refine st_bipush (pc' := 295) dX12_seated_293 rfl (by decide) ?_
      refine st_icmp_ne (tg := 303) (pc' := 298) dX12_seated_295 (by decide) rfl e3 (by decide) (fun c => ?_) (fun c => ?_)
      · replace h := h.1 c
        refine st_aload_n (pc' := 304) dX12_seated_303 rfl rfl (j := 0) rfl ?_
        refine G_X12_267_74 dX12_seated_304 (pc' := 307) rfl rfl ?_
        refine st_iload_n (pc' := 308) dX12_seated_307 rfl rfl (j := 1) rfl ?_
        obtain ⟨e4, h⟩ := h
        refine st_iaload (pc' := 309) (v := (gi I 129 (x1).toNat)) dX12_seated_308 rfl L_129 (by decide) e4 (show gi I 129 (x1).toNat = (gi I 129 (x1).toNat) from rfl) ?_
        exact st_iret (ty := .int) dX12_seated_309 rfl rfl rfl h
      · replace h := h.2 c
        refine st_iload (pc' := 300) dX12_seated_298 rfl (j := 4) rfl ?_
        refine st_goto (pc' := 309) dX12_seated_300 (by decide) ?_
        exact st_iret (ty := .int) dX12_seated_309 rfl rfl rfl h
    · replace h := h.2 c
      refine st_iload_n (pc' := 289) dX12_seated_288 rfl rfl (j := 3) rfl ?_
      refine st_goto (pc' := 309) dX12_seated_289 (by decide) ?_
      exact st_iret (ty := .int) dX12_seated_309 rfl rfl rfl h
  · replace h := h.2 c
    refine st_aload_n (pc' := 83) dX12_seated_82 rfl rfl (j := 0) rfl ?_
    refine st_iconst (pc' := 84) dX12_seated_83 rfl ?_
    refine st_iconst (pc' := 85) dX12_seated_84 rfl ?_
    refine st_callV (pc' := 88) (kc := k - 1) (E' := LAY) (cal := m_X12_copies) (n := 2) (as := [vI 1, vI 0]) (S := []) dX12_seated_85 rfl l_X12_479 k_X12_copies rfl L_74 c_X12 rfl rfl (Nat.le_of_ble_eq_true rfl) (by omega) ⟨Nat.le_refl _, Nat.le_refl _, Nat.le_refl _, Nat.le_refl _⟩ h (fun r M' q => ?_)
    obtain ⟨I6, J7, rfl, rfl, h⟩ := q
    change WP _ LAY m_X12_seated 88 [(0, vR (some 74)), (1, vI x1), (2, vI x2), (3, vI x3), (4, vI x4), (5, vI x5)] [] (mem (P, some 5, some 22) I6 J7) Q
    refine st_iload (pc' := 90) dX12_seated_88 rfl (j := 5) rfl ?_
    refine st_istore (pc' := 92) (L' := [(6, vI x5), (0, vR (some 74)), (1, vI x1), (2, vI x2), (3, vI x3), (4, vI x4), (5, vI x5)]) dX12_seated_90 rfl (by decide) rfl ?_
    refine st_aload_n (pc' := 93) dX12_seated_92 rfl rfl (j := 1) rfl ?_
    refine G_X12_75_74 dX12_seated_93 (pc' := 96) rfl rfl ?_
    refine st_aload_n (pc' := 97) dX12_seated_96 rfl rfl (j := 1) rfl ?_
    refine G_X12_51_74 dX12_seated_97 (pc' := 100) rfl rfl ?_
    obtain ⟨e8, h⟩ := h
    refine st_iaload (pc' := 101) (v := (gi I6 83 (gi I6 74 13).toNat)) dX12_seated_100 rfl L_83 (by decide) e8 (show gi I6 83 (gi I6 74 13).toNat = (gi I6 83 (gi I6 74 13).toNat) from rfl) ?_
    refine st_iconst (pc' := 102) dX12_seated_101 rfl ?_
    refine st_isub (pc' := 103) dX12_seated_102 rfl ?_
    refine st_istore (pc' := 105) (L' := [(7, vI ((gi I6 83 (gi I6 74 13).toNat) - 1)), (6, vI x5), (0, vR (some 74)), (1, vI x1), (2, vI x2), (3, vI x3), (4, vI x4), (5, vI x5)]) dX12_seated_103 rfl (by decide) rfl ?_
    refine WP_sub (L' := [(0, vR (some 74)), (1, vI x1), (2, vI x2), (3, vI x3), (4, vI x4), (5, vI x5), (6, vI x5), (7, vI ((gi I6 83 (gi I6 74 13).toNat) - 1))]) [2, 3, 4, 5, 6, 7, 1, 0] rfl ?_
    exact h
set_option maxRecDepth 20000 in
set_option maxHeartbeats 4000000 in
theorem B_X12_seated_105 {k : Nat} {P : Option Nat} {I : Nat → Nat → Int32} {J : Nat → Nat → Int64} {x1 : Int} {x2 : Int} {x3 : Int} {x4 : Int} {x5 : Int} {x6 : Int} {x7 : Int} {Q : Option AV → Mem → Prop} (hk : 1 ≤ k) (h : inR x7 ∧ ((x7 < 0 → (WPm (k - 1) LAY m_X12_goesNight [vR (some 74), vI 1] (mem (P, some 5, some 22) I J) (retI (fun v2 I3 J4 => inR x3 ∧ (((gi I3 74 77) < x3 → (WP k LAY m_X12_seated 277 [(0, vR (some 74)), (1, vI x1), (2, vI x2), (3, vI x3), (4, vI x4), (5, vI x5)] [] (mem (P, some 5, some 22) I3 J4) Q)) ∧ (¬ (gi I3 74 77) < x3 → ((¬ (gi I3 74 77) = x3 → ((0 ≤ (gi I3 74 13) ∧ (gi I3 74 13) < 2) ∧ (WP k LAY m_X12_seated 233 [(0, vR (some 74)), (1, vI x1), (2, vI x2), (3, vI (gi I3 74 77)), (4, vI v2), (5, vI x5), (6, vI x5), (8, vI ((gi I3 83 (gi I3 74 13).toNat) - 1))] [] (mem (P, some 5, some 22) I3 J4) Q))) ∧ ((gi I3 74 77) = x3 → (inR v2 ∧ (inR x4 ∧ ((x4 < v2 → ((0 ≤ (gi I3 74 13) ∧ (gi I3 74 13) < 2) ∧ (WP k LAY m_X12_seated 233 [(0, vR (some 74)), (1, vI x1), (2, vI x2), (3, vI (gi I3 74 77)), (4, vI v2), (5, vI x5), (6, vI x5), (8, vI ((gi I3 83 (gi I3 74 13).toNat) - 1))] [] (mem (P, some 5, some 22) I3 J4) Q))) ∧ (¬ x4 < v2 → (WP k LAY m_X12_seated 277 [(0, vR (some 74)), (1, vI x1), (2, vI x2), (3, vI x3), (4, vI x4), (5, vI x5)] [] (mem (P, some 5, some 22) I3 J4) Q)))))))))) (P, some 5, some 22)))) ∧ (¬ x7 < 0 → ((0 ≤ (gi I 74 13) ∧ (gi I 74 13) < 2) ∧ (¬ (gi I 86 (gi I 74 13).toNat) = 0 ∧ ((0 ≤ (6 + x7) ∧ (6 + x7) < 132) ∧ (¬ (gi I 86 (gi I 74 13).toNat) = 0 ∧ (WP k LAY m_X12_seated 105 [(0, vR (some 74)), (1, vI x1), (2, vI x2), (3, vI x3), (4, vI x4), (5, vI x5), (6, vI (div32 x6 (gi I 86 (gi I 74 13).toNat))), (7, vI (x7 + (-1)))] [] (mem (P, some 5, some 22) (si (si (si I 110 ((6 + x7) : Int).toNat (rem32 x6 (gi I 86 (gi I 74 13).toNat))) 113 ((6 + x7) : Int).toNat (-1)) 114 ((6 + x7) : Int).toNat 0) J) Q)))))))) : WP k LAY m_X12_seated 105 [(0, vR (some 74)), (1, vI x1), (2, vI x2), (3, vI x3), (4, vI x4), (5, vI x5), (6, vI x6), (7, vI x7)] [] (mem (P, some 5, some 22) I J) Q := by
  refine st_iload (pc' := 107) dX12_seated_105 rfl (j := 7) rfl ?_
  obtain ⟨e1, h⟩ := h
  refine st_if_lt (tg := 174) (pc' := 110) dX12_seated_107 (by decide) rfl e1 (fun c => ?_) (fun c => ?_)
  · replace h := h.1 c
    refine st_aload_n (pc' := 175) dX12_seated_174 rfl rfl (j := 0) rfl ?_
    refine st_iconst (pc' := 176) dX12_seated_175 rfl ?_
    refine st_callV (pc' := 179) (kc := k - 1) (E' := LAY) (cal := m_X12_goesNight) (n := 1) (as := [vI 1]) (S := []) dX12_seated_176 rfl l_X12_547 k_X12_goesNight rfl L_74 c_X12 rfl rfl (Nat.le_of_ble_eq_true rfl) (by omega) ⟨Nat.le_refl _, Nat.le_refl _, Nat.le_refl _, Nat.le_refl _⟩ h (fun r M' q => ?_)
    obtain ⟨v2, I3, J4, rfl, rfl, h⟩ := q
    change WP _ LAY m_X12_seated 179 [(0, vR (some 74)), (1, vI x1), (2, vI x2), (3, vI x3), (4, vI x4), (5, vI x5), (6, vI x6), (7, vI x7)] [vI v2] (mem (P, some 5, some 22) I3 J4) Q
    refine st_istore (pc' := 181) (L' := [(7, vI v2), (0, vR (some 74)), (1, vI x1), (2, vI x2), (3, vI x3), (4, vI x4), (5, vI x5), (6, vI x6)]) dX12_seated_179 rfl (by decide) rfl ?_
    refine st_aload_n (pc' := 182) dX12_seated_181 rfl rfl (j := 1) rfl ?_
    refine G_X12_246_74 dX12_seated_182 (pc' := 185) rfl rfl ?_
    refine st_iload_n (pc' := 186) dX12_seated_185 rfl rfl (j := 4) rfl ?_
    obtain ⟨e5, h⟩ := h
    refine st_icmp_lt (tg := 277) (pc' := 189) dX12_seated_186 (by decide) rfl (gi_in _ _ _) e5 (fun c => ?_) (fun c => ?_)
    · replace h := h.1 c
      refine WP_sub (L' := [(0, vR (some 74)), (1, vI x1), (2, vI x2), (3, vI x3), (4, vI x4), (5, vI x5)]) [1, 2, 3, 4, 5, 6] rfl ?_
      exact h
    · replace h := h.2 c
      refine st_aload_n (pc' := 190) dX12_seated_189 rfl rfl (j := 1) rfl ?_
      refine G_X12_246_74 dX12_seated_190 (pc' := 193) rfl rfl ?_
      refine st_iload_n (pc' := 194) dX12_seated_193 rfl rfl (j := 4) rfl ?_
      refine st_icmp_ne (tg := 207) (pc' := 197) dX12_seated_194 (by decide) rfl (gi_in _ _ _) e5 (fun c => ?_) (fun c => ?_)
      · replace h := h.1 c
        refine st_aload_n (pc' := 208) dX12_seated_207 rfl rfl (j := 1) rfl ?_
        refine G_X12_246_74 dX12_seated_208 (pc' := 211) rfl rfl ?_
        refine st_istore_n (pc' := 212) (L' := [(3, vI (gi I3 74 77)), (7, vI v2), (0, vR (some 74)), (1, vI x1), (2, vI x2), (4, vI x4), (5, vI x5), (6, vI x6)]) dX12_seated_211 rfl rfl (by decide) rfl ?_
        refine st_iload (pc' := 214) dX12_seated_212 rfl (j := 1) rfl ?_
        refine st_istore (pc' := 216) (L' := [(4, vI v2), (3, vI (gi I3 74 77)), (7, vI v2), (0, vR (some 74)), (1, vI x1), (2, vI x2), (5, vI x5), (6, vI x6)]) dX12_seated_214 rfl (by decide) rfl ?_
        refine st_iload (pc' := 218) dX12_seated_216 rfl (j := 6) rfl ?_
        refine st_istore (pc' := 220) (L' := [(6, vI x5), (4, vI v2), (3, vI (gi I3 74 77)), (7, vI v2), (0, vR (some 74)), (1, vI x1), (2, vI x2), (5, vI x5)]) dX12_seated_218 rfl (by decide) rfl ?_
        refine st_aload_n (pc' := 221) dX12_seated_220 rfl rfl (j := 4) rfl ?_
        refine G_X12_75_74 dX12_seated_221 (pc' := 224) rfl rfl ?_
        refine st_aload_n (pc' := 225) dX12_seated_224 rfl rfl (j := 4) rfl ?_
        refine G_X12_51_74 dX12_seated_225 (pc' := 228) rfl rfl ?_
        obtain ⟨e6, h⟩ := h
        refine st_iaload (pc' := 229) (v := (gi I3 83 (gi I3 74 13).toNat)) dX12_seated_228 rfl L_83 (by decide) e6 (show gi I3 83 (gi I3 74 13).toNat = (gi I3 83 (gi I3 74 13).toNat) from rfl) ?_
        refine st_iconst (pc' := 230) dX12_seated_229 rfl ?_
        refine st_isub (pc' := 231) dX12_seated_230 rfl ?_
        refine st_istore (pc' := 233) (L' := [(8, vI ((gi I3 83 (gi I3 74 13).toNat) - 1)), (6, vI x5), (4, vI v2), (3, vI (gi I3 74 77)), (7, vI v2), (0, vR (some 74)), (1, vI x1), (2, vI x2), (5, vI x5)]) dX12_seated_231 rfl (by decide) rfl ?_
        refine WP_sub (L' := [(0, vR (some 74)), (1, vI x1), (2, vI x2), (3, vI (gi I3 74 77)), (4, vI v2), (5, vI x5), (6, vI x5), (8, vI ((gi I3 83 (gi I3 74 13).toNat) - 1))]) [5, 6, 7, 3, 2, 8, 1, 0] rfl ?_
        exact h
      · replace h := h.2 c
        refine st_iload (pc' := 199) dX12_seated_197 rfl (j := 0) rfl ?_
        refine st_iload (pc' := 201) dX12_seated_199 rfl (j := 5) rfl ?_
        obtain ⟨e7, h⟩ := h
        obtain ⟨e8, h⟩ := h
        refine st_icmp_gt (tg := 207) (pc' := 204) dX12_seated_201 (by decide) rfl e7 e8 (fun c => ?_) (fun c => ?_)
        · replace h := h.1 c
          refine st_aload_n (pc' := 208) dX12_seated_207 rfl rfl (j := 1) rfl ?_
          refine G_X12_246_74 dX12_seated_208 (pc' := 211) rfl rfl ?_
          refine st_istore_n (pc' := 212) (L' := [(3, vI (gi I3 74 77)), (7, vI v2), (0, vR (some 74)), (1, vI x1), (2, vI x2), (4, vI x4), (5, vI x5), (6, vI x6)]) dX12_seated_211 rfl rfl (by decide) rfl ?_
          refine st_iload (pc' := 214) dX12_seated_212 rfl (j := 1) rfl ?_
          refine st_istore (pc' := 216) (L' := [(4, vI v2), (3, vI (gi I3 74 77)), (7, vI v2), (0, vR (some 74)), (1, vI x1), (2, vI x2), (5, vI x5), (6, vI x6)]) dX12_seated_214 rfl (by decide) rfl ?_
          refine st_iload (pc' := 218) dX12_seated_216 rfl (j := 6) rfl ?_
          refine st_istore (pc' := 220) (L' := [(6, vI x5), (4, vI v2), (3, vI (gi I3 74 77)), (7, vI v2), (0, vR (some 74)), (1, vI x1), (2, vI x2), (5, vI x5)]) dX12_seated_218 rfl (by decide) rfl ?_
          refine st_aload_n (pc' := 221) dX12_seated_220 rfl rfl (j := 4) rfl ?_
          refine G_X12_75_74 dX12_seated_221 (pc' := 224) rfl rfl ?_
          refine st_aload_n (pc' := 225) dX12_seated_224 rfl rfl (j := 4) rfl ?_
          refine G_X12_51_74 dX12_seated_225 (pc' := 228) rfl rfl ?_
          obtain ⟨e9, h⟩ := h
          refine st_iaload (pc' := 229) (v := (gi I3 83 (gi I3 74 13).toNat)) dX12_seated_228 rfl L_83 (by decide) e9 (show gi I3 83 (gi I3 74 13).toNat = (gi I3 83 (gi I3 74 13).toNat) from rfl) ?_
          refine st_iconst (pc' := 230) dX12_seated_229 rfl ?_
          refine st_isub (pc' := 231) dX12_seated_230 rfl ?_
          refine st_istore (pc' := 233) (L' := [(8, vI ((gi I3 83 (gi I3 74 13).toNat) - 1)), (6, vI x5), (4, vI v2), (3, vI (gi I3 74 77)), (7, vI v2), (0, vR (some 74)), (1, vI x1), (2, vI x2), (5, vI x5)]) dX12_seated_231 rfl (by decide) rfl ?_
          refine WP_sub (L' := [(0, vR (some 74)), (1, vI x1), (2, vI x2), (3, vI (gi I3 74 77)), (4, vI v2), (5, vI x5), (6, vI x5), (8, vI ((gi I3 83 (gi I3 74 13).toNat) - 1))]) [5, 6, 7, 3, 2, 8, 1, 0] rfl ?_
          exact h
        · replace h := h.2 c
          refine st_goto (pc' := 277) dX12_seated_204 (by decide) ?_
          refine WP_sub (L' := [(0, vR (some 74)), (1, vI x1), (2, vI x2), (3, vI x3), (4, vI x4), (5, vI x5)]) [1, 2, 3, 4, 5, 6] rfl ?_
          exact h
  · replace h := h.2 c
    refine st_aload_n (pc' := 111) dX12_seated_110 rfl rfl (j := 0) rfl ?_
    refine G_X12_177_74 dX12_seated_111 (pc' := 114) rfl rfl ?_
    refine st_bipush (pc' := 116) dX12_seated_114 rfl (by decide) ?_
    refine st_iload (pc' := 118) dX12_seated_116 rfl (j := 7) rfl ?_
    refine st_iadd (pc' := 119) dX12_seated_118 rfl ?_
    refine st_iload (pc' := 121) dX12_seated_119 rfl (j := 6) rfl ?_
    refine st_aload_n (pc' := 122) dX12_seated_121 rfl rfl (j := 0) rfl ?_
    refine G_X12_84_74 dX12_seated_122 (pc' := 125) rfl rfl ?_
    refine st_aload_n (pc' := 126) dX12_seated_125 rfl rfl (j := 0) rfl ?_
    refine G_X12_51_74 dX12_seated_126 (pc' := 129) rfl rfl ?_
    obtain ⟨e10, h⟩ := h
    refine st_iaload (pc' := 130) (v := (gi I 86 (gi I 74 13).toNat)) dX12_seated_129 rfl L_86 (by decide) e10 (show gi I 86 (gi I 74 13).toNat = (gi I 86 (gi I 74 13).toNat) from rfl) ?_
    obtain ⟨e11, h⟩ := h
    refine st_irem (pc' := 131) (z := (rem32 x6 (gi I 86 (gi I 74 13).toNat))) dX12_seated_130 rfl (fun q => e11 ((z_eq (gi_in _ _ _)).mp q)) rfl ?_
    obtain ⟨e12, h⟩ := h
    refine st_iastore (pc' := 132) (M' := (mem (P, some 5, some 22) (si I 110 ((6 + x7) : Int).toNat (rem32 x6 (gi I 86 (gi I 74 13).toNat))) J)) dX12_seated_131 rfl L_110 (by decide) e12 rfl ?_
    refine st_aload_n (pc' := 133) dX12_seated_132 rfl rfl (j := 0) rfl ?_
    refine G_X12_186_74 dX12_seated_133 (pc' := 136) rfl rfl ?_
    refine st_bipush (pc' := 138) dX12_seated_136 rfl (by decide) ?_
    refine st_iload (pc' := 140) dX12_seated_138 rfl (j := 7) rfl ?_
    refine st_iadd (pc' := 141) dX12_seated_140 rfl ?_
    refine st_iconst (pc' := 142) dX12_seated_141 rfl ?_
    refine st_iastore (pc' := 143) (M' := (mem (P, some 5, some 22) (si (si I 110 ((6 + x7) : Int).toNat (rem32 x6 (gi I 86 (gi I 74 13).toNat))) 113 ((6 + x7) : Int).toNat (-1)) J)) dX12_seated_142 rfl L_113 (by decide) e12 rfl ?_
    refine st_aload_n (pc' := 144) dX12_seated_143 rfl rfl (j := 0) rfl ?_
    refine G_X12_189_74 dX12_seated_144 (pc' := 147) rfl rfl ?_
    refine st_bipush (pc' := 149) dX12_seated_147 rfl (by decide) ?_
    refine st_iload (pc' := 151) dX12_seated_149 rfl (j := 7) rfl ?_
    refine st_iadd (pc' := 152) dX12_seated_151 rfl ?_
    refine st_iconst (pc' := 153) dX12_seated_152 rfl ?_
    refine st_iastore (pc' := 154) (M' := (mem (P, some 5, some 22) (si (si (si I 110 ((6 + x7) : Int).toNat (rem32 x6 (gi I 86 (gi I 74 13).toNat))) 113 ((6 + x7) : Int).toNat (-1)) 114 ((6 + x7) : Int).toNat 0) J)) dX12_seated_153 rfl L_114 (by decide) e12 rfl ?_
    refine st_iload (pc' := 156) dX12_seated_154 rfl (j := 6) rfl ?_
    refine st_aload_n (pc' := 157) dX12_seated_156 rfl rfl (j := 0) rfl ?_
    refine G_X12_84_74 dX12_seated_157 (pc' := 160) rfl rfl ?_
    refine st_aload_n (pc' := 161) dX12_seated_160 rfl rfl (j := 0) rfl ?_
    refine G_X12_51_74 dX12_seated_161 (pc' := 164) rfl rfl ?_
    rw [show gi (si (si (si I 110 ((6 + x7) : Int).toNat (rem32 x6 (gi I 86 (gi I 74 13).toNat))) 113 ((6 + x7) : Int).toNat (-1)) 114 ((6 + x7) : Int).toNat 0) 74 13 = (gi I 74 13) from ((gi_cell _ _ _ _ (by decide)).trans ((gi_cell _ _ _ _ (by decide)).trans (gi_cell _ _ _ _ (by decide))))]
    refine st_iaload (pc' := 165) (v := (gi I 86 (gi I 74 13).toNat)) dX12_seated_164 rfl L_86 (by decide) e10 (show gi (si (si (si I 110 ((6 + x7) : Int).toNat (rem32 x6 (gi I 86 (gi I 74 13).toNat))) 113 ((6 + x7) : Int).toNat (-1)) 114 ((6 + x7) : Int).toNat 0) 86 (gi I 74 13).toNat = (gi I 86 (gi I 74 13).toNat) from ((gi_cell _ _ _ _ (by decide)).trans ((gi_cell _ _ _ _ (by decide)).trans (gi_cell _ _ _ _ (by decide))))) ?_
    obtain ⟨e13, h⟩ := h
    refine st_idiv (pc' := 166) (z := (div32 x6 (gi I 86 (gi I 74 13).toNat))) dX12_seated_165 rfl (fun q => e13 ((z_eq (gi_in _ _ _)).mp q)) rfl ?_
    refine st_istore (pc' := 168) (L' := [(6, vI (div32 x6 (gi I 86 (gi I 74 13).toNat))), (0, vR (some 74)), (1, vI x1), (2, vI x2), (3, vI x3), (4, vI x4), (5, vI x5), (7, vI x7)]) dX12_seated_166 rfl (by decide) rfl ?_
    refine st_iinc (pc' := 171) (L' := [(7, vI (x7 + (-1))), (6, vI (div32 x6 (gi I 86 (gi I 74 13).toNat))), (0, vR (some 74)), (1, vI x1), (2, vI x2), (3, vI x3), (4, vI x4), (5, vI x5)]) (j := 7) dX12_seated_168 rfl (by decide) rfl rfl ?_
    refine st_goto (pc' := 105) dX12_seated_171 (by decide) ?_
    refine WP_sub (L' := [(0, vR (some 74)), (1, vI x1), (2, vI x2), (3, vI x3), (4, vI x4), (5, vI x5), (6, vI (div32 x6 (gi I 86 (gi I 74 13).toNat))), (7, vI (x7 + (-1)))]) [2, 3, 4, 5, 6, 7, 1, 0] rfl ?_
    exact h
set_option maxRecDepth 20000 in
set_option maxHeartbeats 4000000 in
theorem B_X12_seated_277 {k : Nat} {P : Option Nat} {I : Nat → Nat → Int32} {J : Nat → Nat → Int64} {x1 : Int} {x2 : Int} {x3 : Int} {x4 : Int} {x5 : Int} {Q : Option AV → Mem → Prop} (hk : 0 ≤ k) (h : WP k LAY m_X12_seated 76 [(0, vR (some 74)), (1, vI x1), (2, vI x2), (3, vI x3), (4, vI x4), (5, vI (x5 + 1))] [] (mem (P, some 5, some 22) I J) Q) : WP k LAY m_X12_seated 277 [(0, vR (some 74)), (1, vI x1), (2, vI x2), (3, vI x3), (4, vI x4), (5, vI x5)] [] (mem (P, some 5, some 22) I J) Q := by
  refine st_iinc (pc' := 280) (L' := [(5, vI (x5 + 1)), (0, vR (some 74)), (1, vI x1), (2, vI x2), (3, vI x3), (4, vI x4)]) (j := 5) dX12_seated_277 rfl (by decide) rfl rfl ?_
  refine st_goto (pc' := 76) dX12_seated_280 (by decide) ?_
  refine WP_sub (L' := [(0, vR (some 74)), (1, vI x1), (2, vI x2), (3, vI x3), (4, vI x4), (5, vI (x5 + 1))]) [1, 2, 3, 4, 5, 0] rfl ?_
  exact h
set_option maxRecDepth 20000 in
set_option maxHeartbeats 4000000 in
theorem B_X12_seated_233 {k : Nat} {P : Option Nat} {I : Nat → Nat → Int32} {J : Nat → Nat → Int64} {x1 : Int} {x2 : Int} {x3 : Int} {x4 : Int} {x5 : Int} {x6 : Int} {x8 : Int} {Q : Option AV → Mem → Prop} (hk : 0 ≤ k) (h : inR x8 ∧ ((x8 < 0 → (WP k LAY m_X12_seated 277 [(0, vR (some 74)), (1, vI x1), (2, vI x2), (3, vI x3), (4, vI x4), (5, vI x5)] [] (mem (P, some 5, some 22) I J) Q)) ∧ (¬ x8 < 0 → ((0 ≤ (gi I 74 13) ∧ (gi I 74 13) < 2) ∧ (¬ (gi I 86 (gi I 74 13).toNat) = 0 ∧ ((0 ≤ x8 ∧ x8 < 6) ∧ (¬ (gi I 86 (gi I 74 13).toNat) = 0 ∧ (WP k LAY m_X12_seated 233 [(0, vR (some 74)), (1, vI x1), (2, vI x2), (3, vI x3), (4, vI x4), (5, vI x5), (6, vI (div32 x6 (gi I 86 (gi I 74 13).toNat))), (8, vI (x8 + (-1)))] [] (mem (P, some 5, some 22) (si I 129 (x8).toNat (rem32 x6 (gi I 86 (gi I 74 13).toNat))) J) Q)))))))) : WP k LAY m_X12_seated 233 [(0, vR (some 74)), (1, vI x1), (2, vI x2), (3, vI x3), (4, vI x4), (5, vI x5), (6, vI x6), (8, vI x8)] [] (mem (P, some 5, some 22) I J) Q := by
  refine st_iload (pc' := 235) dX12_seated_233 rfl (j := 7) rfl ?_
  obtain ⟨e1, h⟩ := h
  refine st_if_lt (tg := 277) (pc' := 238) dX12_seated_235 (by decide) rfl e1 (fun c => ?_) (fun c => ?_)
  · replace h := h.1 c
    refine WP_sub (L' := [(0, vR (some 74)), (1, vI x1), (2, vI x2), (3, vI x3), (4, vI x4), (5, vI x5)]) [0, 1, 2, 3, 4, 5] rfl ?_
    exact h
  · replace h := h.2 c
    refine st_aload_n (pc' := 239) dX12_seated_238 rfl rfl (j := 0) rfl ?_
    refine G_X12_267_74 dX12_seated_239 (pc' := 242) rfl rfl ?_
    refine st_iload (pc' := 244) dX12_seated_242 rfl (j := 7) rfl ?_
    refine st_iload (pc' := 246) dX12_seated_244 rfl (j := 6) rfl ?_
    refine st_aload_n (pc' := 247) dX12_seated_246 rfl rfl (j := 0) rfl ?_
    refine G_X12_84_74 dX12_seated_247 (pc' := 250) rfl rfl ?_
    refine st_aload_n (pc' := 251) dX12_seated_250 rfl rfl (j := 0) rfl ?_
    refine G_X12_51_74 dX12_seated_251 (pc' := 254) rfl rfl ?_
    obtain ⟨e2, h⟩ := h
    refine st_iaload (pc' := 255) (v := (gi I 86 (gi I 74 13).toNat)) dX12_seated_254 rfl L_86 (by decide) e2 (show gi I 86 (gi I 74 13).toNat = (gi I 86 (gi I 74 13).toNat) from rfl) ?_
    obtain ⟨e3, h⟩ := h
    refine st_irem (pc' := 256) (z := (rem32 x6 (gi I 86 (gi I 74 13).toNat))) dX12_seated_255 rfl (fun q => e3 ((z_eq (gi_in _ _ _)).mp q)) rfl ?_
    obtain ⟨e4, h⟩ := h
    refine st_iastore (pc' := 257) (M' := (mem (P, some 5, some 22) (si I 129 (x8).toNat (rem32 x6 (gi I 86 (gi I 74 13).toNat))) J)) dX12_seated_256 rfl L_129 (by decide) e4 rfl ?_
    refine st_iload (pc' := 259) dX12_seated_257 rfl (j := 6) rfl ?_
    refine st_aload_n (pc' := 260) dX12_seated_259 rfl rfl (j := 0) rfl ?_
    refine G_X12_84_74 dX12_seated_260 (pc' := 263) rfl rfl ?_
    refine st_aload_n (pc' := 264) dX12_seated_263 rfl rfl (j := 0) rfl ?_
    refine G_X12_51_74 dX12_seated_264 (pc' := 267) rfl rfl ?_
    rw [show gi (si I 129 (x8).toNat (rem32 x6 (gi I 86 (gi I 74 13).toNat))) 74 13 = (gi I 74 13) from (gi_cell _ _ _ _ (by decide))]
    refine st_iaload (pc' := 268) (v := (gi I 86 (gi I 74 13).toNat)) dX12_seated_267 rfl L_86 (by decide) e2 (show gi (si I 129 (x8).toNat (rem32 x6 (gi I 86 (gi I 74 13).toNat))) 86 (gi I 74 13).toNat = (gi I 86 (gi I 74 13).toNat) from (gi_cell _ _ _ _ (by decide))) ?_
    obtain ⟨e5, h⟩ := h
    refine st_idiv (pc' := 269) (z := (div32 x6 (gi I 86 (gi I 74 13).toNat))) dX12_seated_268 rfl (fun q => e5 ((z_eq (gi_in _ _ _)).mp q)) rfl ?_
    refine st_istore (pc' := 271) (L' := [(6, vI (div32 x6 (gi I 86 (gi I 74 13).toNat))), (0, vR (some 74)), (1, vI x1), (2, vI x2), (3, vI x3), (4, vI x4), (5, vI x5), (8, vI x8)]) dX12_seated_269 rfl (by decide) rfl ?_
    refine st_iinc (pc' := 274) (L' := [(8, vI (x8 + (-1))), (6, vI (div32 x6 (gi I 86 (gi I 74 13).toNat))), (0, vR (some 74)), (1, vI x1), (2, vI x2), (3, vI x3), (4, vI x4), (5, vI x5)]) (j := 7) dX12_seated_271 rfl (by decide) rfl rfl ?_
    refine st_goto (pc' := 233) dX12_seated_274 (by decide) ?_
    refine WP_sub (L' := [(0, vR (some 74)), (1, vI x1), (2, vI x2), (3, vI x3), (4, vI x4), (5, vI x5), (6, vI (div32 x6 (gi I 86 (gi I 74 13).toNat))), (8, vI (x8 + (-1)))]) [2, 3, 4, 5, 6, 7, 1, 0] rfl ?_
    exact h
set_option maxRecDepth 20000 in
set_option maxHeartbeats 4000000 in
theorem B_X12_seed_0 {k : Nat} {P : Option Nat} {I : Nat → Nat → Int32} {J : Nat → Nat → Int64} {x1 : Int} {Q : Option AV → Mem → Prop} (hk : 1 ≤ k) (h : inR x1 ∧ ((0 ≤ x1 → (Q (some (vI 1)) (mem (P, some 5, some 22) I (sl J 74 67 x1)))) ∧ (¬ 0 ≤ x1 → (Q (some (vI 0)) (mem (P, some 5, some 22) (si I 107 5 ((gi I 107 5) + 1)) J))))) : WP k LAY m_X12_seed 0 [(0, vR (some 74)), (1, vI x1)] [] (mem (P, some 5, some 22) I J) Q := by
  refine st_iload_n (pc' := 1) dX12_seed_0 rfl rfl (j := 1) rfl ?_
  obtain ⟨e1, h⟩ := h
  refine st_if_ge (tg := 18) (pc' := 4) dX12_seed_1 (by decide) rfl e1 (fun c => ?_) (fun c => ?_)
  · replace h := h.1 c
    refine st_aload_n (pc' := 19) dX12_seed_18 rfl rfl (j := 0) rfl ?_
    refine st_iload_n (pc' := 20) dX12_seed_19 rfl rfl (j := 1) rfl ?_
    refine st_i2l (pc' := 21) dX12_seed_20 rfl e1 ?_
    refine P_X12_216_74 dX12_seed_21 (pc' := 24) rfl rfl ?_
    refine st_iconst (pc' := 25) dX12_seed_24 rfl ?_
    exact st_iret (ty := .boolean) dX12_seed_25 rfl (by decide) rfl h
  · replace h := h.2 c
    refine st_aload_n (pc' := 5) dX12_seed_4 rfl rfl (j := 0) rfl ?_
    refine st_iconst (pc' := 6) dX12_seed_5 rfl ?_
    refine st_callV (pc' := 9) (kc := k - 1) (E' := LAY) (cal := m_X12_refuses) (n := 1) (as := [vI 5]) (S := []) dX12_seed_6 rfl l_X12_279 k_X12_refuses rfl L_74 c_X12 rfl rfl (Nat.le_of_ble_eq_true rfl) (by omega) ⟨Nat.le_refl _, Nat.le_refl _, Nat.le_refl _, Nat.le_refl _⟩ (Q1 := fun r M' => WP k LAY m_X12_seed 9 [(0, vR (some 74)), (1, vI x1)] (r.toList ++ []) M' Q) (WPm.of k_X12_refuses.1 (Nat.le_of_ble_eq_true rfl) (B_X12_refuses_0 (by omega) ?_)) (fun r M' q => q)
    refine ⟨by decide, ?_⟩
    change WP _ LAY m_X12_seed 9 [(0, vR (some 74)), (1, vI x1)] [vI (-1)] (mem (P, some 5, some 22) (si I 107 5 ((gi I 107 5) + 1)) J) Q
    refine st_if_lt (tg := 16) (pc' := 12) dX12_seed_9 (by decide) rfl (by decide) (fun c => ?_) (fun c => ?_)
    · refine st_iconst (pc' := 17) dX12_seed_16 rfl ?_
      exact st_iret (ty := .boolean) dX12_seed_17 rfl (by decide) rfl h
    · exact absurd c (by decide)
set_option maxRecDepth 20000 in
set_option maxHeartbeats 4000000 in
theorem B_X12_sharesOut_0 {k : Nat} {P : Option Nat} {I : Nat → Nat → Int32} {J : Nat → Nat → Int64} {x1 : Int} {x2 : Int} {Q : Option AV → Mem → Prop} (hk : 0 ≤ k) (h : WP k LAY m_X12_sharesOut 2 [(0, vR (some 74)), (1, vI x1), (2, vI x2), (3, vI 0)] [] (mem (P, some 5, some 22) I J) Q) : WP k LAY m_X12_sharesOut 0 [(0, vR (some 74)), (1, vI x1), (2, vI x2)] [] (mem (P, some 5, some 22) I J) Q := by
  refine st_iconst (pc' := 1) dX12_sharesOut_0 rfl ?_
  refine st_istore_n (pc' := 2) (L' := [(3, vI 0), (0, vR (some 74)), (1, vI x1), (2, vI x2)]) dX12_sharesOut_1 rfl rfl (by decide) rfl ?_
  refine WP_sub (L' := [(0, vR (some 74)), (1, vI x1), (2, vI x2), (3, vI 0)]) [1, 2, 3, 0] rfl ?_
  exact h
set_option maxRecDepth 20000 in
set_option maxHeartbeats 4000000 in
theorem B_X12_sharesOut_2 {k : Nat} {P : Option Nat} {I : Nat → Nat → Int32} {J : Nat → Nat → Int64} {x1 : Int} {x2 : Int} {x3 : Int} {Q : Option AV → Mem → Prop} (hk : 0 ≤ k) (h : inR x3 ∧ (inR x2 ∧ ((x2 ≤ x3 → (Q none (mem (P, some 5, some 22) I J))) ∧ (¬ x2 ≤ x3 → (WP k LAY m_X12_sharesOut 10 [(0, vR (some 74)), (1, vI x1), (2, vI x2), (3, vI x3), (4, vI 0)] [] (mem (P, some 5, some 22) I J) Q))))) : WP k LAY m_X12_sharesOut 2 [(0, vR (some 74)), (1, vI x1), (2, vI x2), (3, vI x3)] [] (mem (P, some 5, some 22) I J) Q := by
  refine st_iload_n (pc' := 3) dX12_sharesOut_2 rfl rfl (j := 3) rfl ?_
  refine st_iload_n (pc' := 4) dX12_sharesOut_3 rfl rfl (j := 2) rfl ?_
  obtain ⟨e1, h⟩ := h
  obtain ⟨e2, h⟩ := h
  refine st_icmp_ge (tg := 128) (pc' := 7) dX12_sharesOut_4 (by decide) rfl e1 e2 (fun c => ?_) (fun c => ?_)
  · replace h := h.1 c
    exact st_vret dX12_sharesOut_128 rfl rfl h
  · replace h := h.2 c
    refine st_iconst (pc' := 8) dX12_sharesOut_7 rfl ?_
    refine st_istore (pc' := 10) (L' := [(4, vI 0), (0, vR (some 74)), (1, vI x1), (2, vI x2), (3, vI x3)]) dX12_sharesOut_8 rfl (by decide) rfl ?_
    refine WP_sub (L' := [(0, vR (some 74)), (1, vI x1), (2, vI x2), (3, vI x3), (4, vI 0)]) [1, 2, 3, 4, 0] rfl ?_
    exact h
set_option maxRecDepth 20000 in
set_option maxHeartbeats 4000000 in
theorem B_X12_sharesOut_10 {k : Nat} {P : Option Nat} {I : Nat → Nat → Int32} {J : Nat → Nat → Int64} {x1 : Int} {x2 : Int} {x3 : Int} {x4 : Int} {Q : Option AV → Mem → Prop} (hk : 0 ≤ k) (h : inR x4 ∧ (((shl32 1 x1) ≤ x4 → (WP k LAY m_X12_sharesOut 2 [(0, vR (some 74)), (1, vI x1), (2, vI x2), (3, vI (x3 + 1))] [] (mem (P, some 5, some 22) I J) Q)) ∧ (¬ (shl32 1 x1) ≤ x4 → (WP k LAY m_X12_sharesOut 24 [(0, vR (some 74)), (1, vI x1), (2, vI x2), (3, vI x3), (4, vI x4), (5, vI 0), (6, vI 0)] [] (mem (P, some 5, some 22) I J) Q)))) : WP k LAY m_X12_sharesOut 10 [(0, vR (some 74)), (1, vI x1), (2, vI x2), (3, vI x3), (4, vI x4)] [] (mem (P, some 5, some 22) I J) Q := by
  refine st_iload (pc' := 12) dX12_sharesOut_10 rfl (j := 4) rfl ?_
  refine st_iconst (pc' := 13) dX12_sharesOut_12 rfl ?_
  refine st_iload_n (pc' := 14) dX12_sharesOut_13 rfl rfl (j := 1) rfl ?_
  refine st_ishl (pc' := 15) (z := (shl32 1 x1)) dX12_sharesOut_14 rfl rfl ?_
  obtain ⟨e1, h⟩ := h
  refine st_icmp_ge (tg := 122) (pc' := 18) dX12_sharesOut_15 (by decide) rfl e1 (shl32_in _ _) (fun c => ?_) (fun c => ?_)
  · replace h := h.1 c
    refine st_iinc (pc' := 125) (L' := [(3, vI (x3 + 1)), (0, vR (some 74)), (1, vI x1), (2, vI x2), (4, vI x4)]) (j := 3) dX12_sharesOut_122 rfl (by decide) rfl rfl ?_
    refine st_goto (pc' := 2) dX12_sharesOut_125 (by decide) ?_
    refine WP_sub (L' := [(0, vR (some 74)), (1, vI x1), (2, vI x2), (3, vI (x3 + 1))]) [1, 2, 3, 0] rfl ?_
    exact h
  · replace h := h.2 c
    refine st_iconst (pc' := 19) dX12_sharesOut_18 rfl ?_
    refine st_istore (pc' := 21) (L' := [(5, vI 0), (0, vR (some 74)), (1, vI x1), (2, vI x2), (3, vI x3), (4, vI x4)]) dX12_sharesOut_19 rfl (by decide) rfl ?_
    refine st_iconst (pc' := 22) dX12_sharesOut_21 rfl ?_
    refine st_istore (pc' := 24) (L' := [(6, vI 0), (5, vI 0), (0, vR (some 74)), (1, vI x1), (2, vI x2), (3, vI x3), (4, vI x4)]) dX12_sharesOut_22 rfl (by decide) rfl ?_
    refine WP_sub (L' := [(0, vR (some 74)), (1, vI x1), (2, vI x2), (3, vI x3), (4, vI x4), (5, vI 0), (6, vI 0)]) [2, 3, 4, 5, 6, 1, 0] rfl ?_
    exact h
set_option maxRecDepth 20000 in
set_option maxHeartbeats 4000000 in
theorem B_X12_sharesOut_24 {k : Nat} {P : Option Nat} {I : Nat → Nat → Int32} {J : Nat → Nat → Int64} {x1 : Int} {x2 : Int} {x3 : Int} {x4 : Int} {x5 : Int} {x6 : Int} {Q : Option AV → Mem → Prop} (hk : 1 ≤ k) (h : inR x6 ∧ (inR x1 ∧ ((x1 ≤ x6 → (WPm (k - 1) LAY m_X12_workOf [vR (some 74), vI x3, vI x5, vI (-1)] (mem (P, some 5, some 22) I J) (retI (fun v3 I4 J5 => (0 ≤ ((256 * x3) + x4) ∧ ((256 * x3) + x4) < 768) ∧ (WPm (k - 1) LAY m_X12_nightsFor [vR (some 74), vI x3, vI (gi (si I4 126 (((256 * x3) + x4) : Int).toNat v3) 126 (((256 * x3) + x4) : Int).toNat)] (mem (P, some 5, some 22) (si I4 126 (((256 * x3) + x4) : Int).toNat v3) J5) (retI (fun v7 I8 J9 => WP k LAY m_X12_sharesOut 10 [(0, vR (some 74)), (1, vI x1), (2, vI x2), (3, vI x3), (4, vI (x4 + 1))] [] (mem (P, some 5, some 22) (si I8 127 (((256 * x3) + x4) : Int).toNat v7) J9) Q) (P, some 5, some 22)))) (P, some 5, some 22)))) ∧ (¬ x1 ≤ x6 → ((¬ (and32 (shr32 x4 x6) 1 = 1) → (WP k LAY m_X12_sharesOut 24 [(0, vR (some 74)), (1, vI x1), (2, vI x2), (3, vI x3), (4, vI x4), (5, vI (or32 x5 0)), (6, vI (x6 + 1))] [] (mem (P, some 5, some 22) I J) Q)) ∧ ((and32 (shr32 x4 x6) 1 = 1) → ((0 ≤ x6 ∧ x6 < 8) ∧ (WP k LAY m_X12_sharesOut 24 [(0, vR (some 74)), (1, vI x1), (2, vI x2), (3, vI x3), (4, vI x4), (5, vI (or32 x5 (shl32 1 (gi I 125 (x6).toNat)))), (6, vI (x6 + 1))] [] (mem (P, some 5, some 22) I J) Q)))))))) : WP k LAY m_X12_sharesOut 24 [(0, vR (some 74)), (1, vI x1), (2, vI x2), (3, vI x3), (4, vI x4), (5, vI x5), (6, vI x6)] [] (mem (P, some 5, some 22) I J) Q := by
  refine st_iload (pc' := 26) dX12_sharesOut_24 rfl (j := 6) rfl ?_
  refine st_iload_n (pc' := 27) dX12_sharesOut_26 rfl rfl (j := 1) rfl ?_
  obtain ⟨e1, h⟩ := h
  obtain ⟨e2, h⟩ := h
  refine st_icmp_ge (tg := 64) (pc' := 30) dX12_sharesOut_27 (by decide) rfl e1 e2 (fun c => ?_) (fun c => ?_)
  · replace h := h.1 c
    refine st_aload_n (pc' := 65) dX12_sharesOut_64 rfl rfl (j := 0) rfl ?_
    refine G_X12_252_74 dX12_sharesOut_65 (pc' := 68) rfl rfl ?_
    refine st_sipush (pc' := 71) dX12_sharesOut_68 rfl (by decide) ?_
    refine st_iload_n (pc' := 72) dX12_sharesOut_71 rfl rfl (j := 3) rfl ?_
    refine st_imul (pc' := 73) dX12_sharesOut_72 rfl ?_
    refine st_iload (pc' := 75) dX12_sharesOut_73 rfl (j := 4) rfl ?_
    refine st_iadd (pc' := 76) dX12_sharesOut_75 rfl ?_
    refine st_aload_n (pc' := 77) dX12_sharesOut_76 rfl rfl (j := 0) rfl ?_
    refine st_iload_n (pc' := 78) dX12_sharesOut_77 rfl rfl (j := 3) rfl ?_
    refine st_iload (pc' := 80) dX12_sharesOut_78 rfl (j := 5) rfl ?_
    refine st_iconst (pc' := 81) dX12_sharesOut_80 rfl ?_
    refine st_callV (pc' := 84) (kc := k - 1) (E' := LAY) (cal := m_X12_workOf) (n := 3) (as := [vI x3, vI x5, vI (-1)]) (S := [vI ((256 * x3) + x4), vR (some 126)]) dX12_sharesOut_81 rfl l_X12_601 k_X12_workOf rfl L_74 c_X12 rfl rfl (Nat.le_of_ble_eq_true rfl) (by omega) ⟨Nat.le_refl _, Nat.le_refl _, Nat.le_refl _, Nat.le_refl _⟩ h (fun r M' q => ?_)
    obtain ⟨v3, I4, J5, rfl, rfl, h⟩ := q
    change WP _ LAY m_X12_sharesOut 84 [(0, vR (some 74)), (1, vI x1), (2, vI x2), (3, vI x3), (4, vI x4), (5, vI x5), (6, vI x6)] [vI v3, vI ((256 * x3) + x4), vR (some 126)] (mem (P, some 5, some 22) I4 J5) Q
    obtain ⟨e6, h⟩ := h
    refine st_iastore (pc' := 85) (M' := (mem (P, some 5, some 22) (si I4 126 (((256 * x3) + x4) : Int).toNat v3) J5)) dX12_sharesOut_84 rfl L_126 (by decide) e6 rfl ?_
    refine st_aload_n (pc' := 86) dX12_sharesOut_85 rfl rfl (j := 0) rfl ?_
    refine G_X12_255_74 dX12_sharesOut_86 (pc' := 89) rfl rfl ?_
    refine st_sipush (pc' := 92) dX12_sharesOut_89 rfl (by decide) ?_
    refine st_iload_n (pc' := 93) dX12_sharesOut_92 rfl rfl (j := 3) rfl ?_
    refine st_imul (pc' := 94) dX12_sharesOut_93 rfl ?_
    refine st_iload (pc' := 96) dX12_sharesOut_94 rfl (j := 4) rfl ?_
    refine st_iadd (pc' := 97) dX12_sharesOut_96 rfl ?_
    refine st_aload_n (pc' := 98) dX12_sharesOut_97 rfl rfl (j := 0) rfl ?_
    refine st_iload_n (pc' := 99) dX12_sharesOut_98 rfl rfl (j := 3) rfl ?_
    refine st_aload_n (pc' := 100) dX12_sharesOut_99 rfl rfl (j := 0) rfl ?_
    refine G_X12_252_74 dX12_sharesOut_100 (pc' := 103) rfl rfl ?_
    refine st_sipush (pc' := 106) dX12_sharesOut_103 rfl (by decide) ?_
    refine st_iload_n (pc' := 107) dX12_sharesOut_106 rfl rfl (j := 3) rfl ?_
    refine st_imul (pc' := 108) dX12_sharesOut_107 rfl ?_
    refine st_iload (pc' := 110) dX12_sharesOut_108 rfl (j := 4) rfl ?_
    refine st_iadd (pc' := 111) dX12_sharesOut_110 rfl ?_
    refine st_iaload (pc' := 112) (v := (gi (si I4 126 (((256 * x3) + x4) : Int).toNat v3) 126 (((256 * x3) + x4) : Int).toNat)) dX12_sharesOut_111 rfl L_126 (by decide) e6 (show gi (si I4 126 (((256 * x3) + x4) : Int).toNat v3) 126 (((256 * x3) + x4) : Int).toNat = (gi (si I4 126 (((256 * x3) + x4) : Int).toNat v3) 126 (((256 * x3) + x4) : Int).toNat) from rfl) ?_
    refine st_callV (pc' := 115) (kc := k - 1) (E' := LAY) (cal := m_X12_nightsFor) (n := 2) (as := [vI x3, vI (gi (si I4 126 (((256 * x3) + x4) : Int).toNat v3) 126 (((256 * x3) + x4) : Int).toNat)]) (S := [vI ((256 * x3) + x4), vR (some 127)]) dX12_sharesOut_112 rfl l_X12_604 k_X12_nightsFor rfl L_74 c_X12 rfl rfl (Nat.le_of_ble_eq_true rfl) (by omega) ⟨Nat.le_refl _, Nat.le_refl _, Nat.le_refl _, Nat.le_refl _⟩ h (fun r M' q => ?_)
    obtain ⟨v7, I8, J9, rfl, rfl, h⟩ := q
    change WP _ LAY m_X12_sharesOut 115 [(0, vR (some 74)), (1, vI x1), (2, vI x2), (3, vI x3), (4, vI x4), (5, vI x5), (6, vI x6)] [vI v7, vI ((256 * x3) + x4), vR (some 127)] (mem (P, some 5, some 22) I8 J9) Q
    refine st_iastore (pc' := 116) (M' := (mem (P, some 5, some 22) (si I8 127 (((256 * x3) + x4) : Int).toNat v7) J9)) dX12_sharesOut_115 rfl L_127 (by decide) e6 rfl ?_
    refine st_iinc (pc' := 119) (L' := [(4, vI (x4 + 1)), (0, vR (some 74)), (1, vI x1), (2, vI x2), (3, vI x3), (5, vI x5), (6, vI x6)]) (j := 4) dX12_sharesOut_116 rfl (by decide) rfl rfl ?_
    refine st_goto (pc' := 10) dX12_sharesOut_119 (by decide) ?_
    refine WP_sub (L' := [(0, vR (some 74)), (1, vI x1), (2, vI x2), (3, vI x3), (4, vI (x4 + 1))]) [1, 2, 3, 4, 0] rfl ?_
    exact h
  · replace h := h.2 c
    refine st_iload (pc' := 32) dX12_sharesOut_30 rfl (j := 5) rfl ?_
    refine st_iload (pc' := 34) dX12_sharesOut_32 rfl (j := 4) rfl ?_
    refine st_iload (pc' := 36) dX12_sharesOut_34 rfl (j := 6) rfl ?_
    refine st_callS (pc' := 39) (kc := k - 1) (E' := LAY) (cal := m_X12_has) (n := 2) (as := [vI x4, vI x6]) (S := [vI x5]) dX12_sharesOut_36 rfl l_X12_552 k_X12_has rfl rfl (Nat.le_of_ble_eq_true rfl) (by omega) ⟨Nat.le_refl _, Nat.le_refl _, Nat.le_refl _, Nat.le_refl _⟩ (Q1 := fun r M' => WP k LAY m_X12_sharesOut 39 [(0, vR (some 74)), (1, vI x1), (2, vI x2), (3, vI x3), (4, vI x4), (5, vI x5), (6, vI x6)] (r.toList ++ [vI x5]) M' Q) (S_X12_has (by omega)  ?_) (fun r M' q => q)
    change WP _ LAY m_X12_sharesOut 39 [(0, vR (some 74)), (1, vI x1), (2, vI x2), (3, vI x3), (4, vI x4), (5, vI x5), (6, vI x6)] [vI (b2i (and32 (shr32 x4 x6) 1 = 1)), vI x5] (mem (P, some 5, some 22) I J) Q
    refine st_if_eq (tg := 54) (pc' := 42) dX12_sharesOut_39 (by decide) rfl (b2i_in _) (fun c => ?_) (fun c => ?_)
    · replace h := h.1 (b2i_f.mp c)
      refine st_iconst (pc' := 55) dX12_sharesOut_54 rfl ?_
      refine st_ior (pc' := 56) (z := (or32 x5 0)) dX12_sharesOut_55 rfl rfl ?_
      refine st_istore (pc' := 58) (L' := [(5, vI (or32 x5 0)), (0, vR (some 74)), (1, vI x1), (2, vI x2), (3, vI x3), (4, vI x4), (6, vI x6)]) dX12_sharesOut_56 rfl (by decide) rfl ?_
      refine st_iinc (pc' := 61) (L' := [(6, vI (x6 + 1)), (5, vI (or32 x5 0)), (0, vR (some 74)), (1, vI x1), (2, vI x2), (3, vI x3), (4, vI x4)]) (j := 6) dX12_sharesOut_58 rfl (by decide) rfl rfl ?_
      refine st_goto (pc' := 24) dX12_sharesOut_61 (by decide) ?_
      refine WP_sub (L' := [(0, vR (some 74)), (1, vI x1), (2, vI x2), (3, vI x3), (4, vI x4), (5, vI (or32 x5 0)), (6, vI (x6 + 1))]) [2, 3, 4, 5, 6, 1, 0] rfl ?_
      exact h
    · replace h := h.2 (b2i_t.mp c)
      refine st_iconst (pc' := 43) dX12_sharesOut_42 rfl ?_
      refine st_aload_n (pc' := 44) dX12_sharesOut_43 rfl rfl (j := 0) rfl ?_
      refine G_X12_249_74 dX12_sharesOut_44 (pc' := 47) rfl rfl ?_
      refine st_iload (pc' := 49) dX12_sharesOut_47 rfl (j := 6) rfl ?_
      obtain ⟨e10, h⟩ := h
      refine st_iaload (pc' := 50) (v := (gi I 125 (x6).toNat)) dX12_sharesOut_49 rfl L_125 (by decide) e10 (show gi I 125 (x6).toNat = (gi I 125 (x6).toNat) from rfl) ?_
      refine st_ishl (pc' := 51) (z := (shl32 1 (gi I 125 (x6).toNat))) dX12_sharesOut_50 rfl rfl ?_
      refine st_goto (pc' := 55) dX12_sharesOut_51 (by decide) ?_
      refine st_ior (pc' := 56) (z := (or32 x5 (shl32 1 (gi I 125 (x6).toNat)))) dX12_sharesOut_55 rfl rfl ?_
      refine st_istore (pc' := 58) (L' := [(5, vI (or32 x5 (shl32 1 (gi I 125 (x6).toNat)))), (0, vR (some 74)), (1, vI x1), (2, vI x2), (3, vI x3), (4, vI x4), (6, vI x6)]) dX12_sharesOut_56 rfl (by decide) rfl ?_
      refine st_iinc (pc' := 61) (L' := [(6, vI (x6 + 1)), (5, vI (or32 x5 (shl32 1 (gi I 125 (x6).toNat)))), (0, vR (some 74)), (1, vI x1), (2, vI x2), (3, vI x3), (4, vI x4)]) (j := 6) dX12_sharesOut_58 rfl (by decide) rfl rfl ?_
      refine st_goto (pc' := 24) dX12_sharesOut_61 (by decide) ?_
      refine WP_sub (L' := [(0, vR (some 74)), (1, vI x1), (2, vI x2), (3, vI x3), (4, vI x4), (5, vI (or32 x5 (shl32 1 (gi I 125 (x6).toNat)))), (6, vI (x6 + 1))]) [2, 3, 4, 5, 6, 1, 0] rfl ?_
      exact h
set_option maxRecDepth 20000 in
set_option maxHeartbeats 4000000 in
theorem B_X12_shares_0 {k : Nat} {P : Option Nat} {I : Nat → Nat → Int32} {J : Nat → Nat → Int64} {x1 : Int} {x2 : Int} {Q : Option AV → Mem → Prop} (hk : 1 ≤ k) (h : WPm (k - 1) LAY m_X12_sharesOut [vR (some 74), vI x1, vI x2] (mem (P, some 5, some 22) I J) (retV (fun I2 J3 => WP k LAY m_X12_shares 11 [(0, vR (some 74)), (1, vI x1), (2, vI x2), (3, vI 1), (4, vI 0)] [] (mem (P, some 5, some 22) I2 J3) Q) (P, some 5, some 22))) : WP k LAY m_X12_shares 0 [(0, vR (some 74)), (1, vI x1), (2, vI x2)] [] (mem (P, some 5, some 22) I J) Q := by
  refine st_aload_n (pc' := 1) dX12_shares_0 rfl rfl (j := 0) rfl ?_
  refine st_iload_n (pc' := 2) dX12_shares_1 rfl rfl (j := 1) rfl ?_
  refine st_iload_n (pc' := 3) dX12_shares_2 rfl rfl (j := 2) rfl ?_
  refine st_callV (pc' := 6) (kc := k - 1) (E' := LAY) (cal := m_X12_sharesOut) (n := 2) (as := [vI x1, vI x2]) (S := []) dX12_shares_3 rfl l_X12_608 k_X12_sharesOut rfl L_74 c_X12 rfl rfl (Nat.le_of_ble_eq_true rfl) (by omega) ⟨Nat.le_refl _, Nat.le_refl _, Nat.le_refl _, Nat.le_refl _⟩ h (fun r M' q => ?_)
  obtain ⟨I2, J3, rfl, rfl, h⟩ := q
  change WP _ LAY m_X12_shares 6 [(0, vR (some 74)), (1, vI x1), (2, vI x2)] [] (mem (P, some 5, some 22) I2 J3) Q
  refine st_iconst (pc' := 7) dX12_shares_6 rfl ?_
  refine st_istore_n (pc' := 8) (L' := [(3, vI 1), (0, vR (some 74)), (1, vI x1), (2, vI x2)]) dX12_shares_7 rfl rfl (by decide) rfl ?_
  refine st_iconst (pc' := 9) dX12_shares_8 rfl ?_
  refine st_istore (pc' := 11) (L' := [(4, vI 0), (3, vI 1), (0, vR (some 74)), (1, vI x1), (2, vI x2)]) dX12_shares_9 rfl (by decide) rfl ?_
  refine WP_sub (L' := [(0, vR (some 74)), (1, vI x1), (2, vI x2), (3, vI 1), (4, vI 0)]) [2, 3, 4, 1, 0] rfl ?_
  exact h
set_option maxRecDepth 20000 in
set_option maxHeartbeats 4000000 in
theorem B_X12_shares_11 {k : Nat} {P : Option Nat} {I : Nat → Nat → Int32} {J : Nat → Nat → Int64} {x1 : Int} {x2 : Int} {x3 : Int} {x4 : Int} {Q : Option AV → Mem → Prop} (hk : 0 ≤ k) (h : inR x4 ∧ (inR x1 ∧ ((x1 ≤ x4 → (WP k LAY m_X12_shares 35 [(0, vR (some 74)), (1, vI x1), (2, vI x2), (3, vI x3), (4, vI 0)] [] (mem (P, some 5, some 22) (si I 74 82 (-1)) J) Q)) ∧ (¬ x1 ≤ x4 → (WP k LAY m_X12_shares 11 [(0, vR (some 74)), (1, vI x1), (2, vI x2), (3, vI (x3 * x2)), (4, vI (x4 + 1))] [] (mem (P, some 5, some 22) I J) Q))))) : WP k LAY m_X12_shares 11 [(0, vR (some 74)), (1, vI x1), (2, vI x2), (3, vI x3), (4, vI x4)] [] (mem (P, some 5, some 22) I J) Q := by
  refine st_iload (pc' := 13) dX12_shares_11 rfl (j := 4) rfl ?_
  refine st_iload_n (pc' := 14) dX12_shares_13 rfl rfl (j := 1) rfl ?_
  obtain ⟨e1, h⟩ := h
  obtain ⟨e2, h⟩ := h
  refine st_icmp_ge (tg := 27) (pc' := 17) dX12_shares_14 (by decide) rfl e1 e2 (fun c => ?_) (fun c => ?_)
  · replace h := h.1 c
    refine st_aload_n (pc' := 28) dX12_shares_27 rfl rfl (j := 0) rfl ?_
    refine st_iconst (pc' := 29) dX12_shares_28 rfl ?_
    refine P_X12_261_74 dX12_shares_29 (pc' := 32) rfl rfl ?_
    refine st_iconst (pc' := 33) dX12_shares_32 rfl ?_
    refine st_istore (pc' := 35) (L' := [(4, vI 0), (0, vR (some 74)), (1, vI x1), (2, vI x2), (3, vI x3)]) dX12_shares_33 rfl (by decide) rfl ?_
    refine WP_sub (L' := [(0, vR (some 74)), (1, vI x1), (2, vI x2), (3, vI x3), (4, vI 0)]) [1, 2, 3, 4, 0] rfl ?_
    exact h
  · replace h := h.2 c
    refine st_iload_n (pc' := 18) dX12_shares_17 rfl rfl (j := 3) rfl ?_
    refine st_iload_n (pc' := 19) dX12_shares_18 rfl rfl (j := 2) rfl ?_
    refine st_imul (pc' := 20) dX12_shares_19 rfl ?_
    refine st_istore_n (pc' := 21) (L' := [(3, vI (x3 * x2)), (0, vR (some 74)), (1, vI x1), (2, vI x2), (4, vI x4)]) dX12_shares_20 rfl rfl (by decide) rfl ?_
    refine st_iinc (pc' := 24) (L' := [(4, vI (x4 + 1)), (3, vI (x3 * x2)), (0, vR (some 74)), (1, vI x1), (2, vI x2)]) (j := 4) dX12_shares_21 rfl (by decide) rfl rfl ?_
    refine st_goto (pc' := 11) dX12_shares_24 (by decide) ?_
    refine WP_sub (L' := [(0, vR (some 74)), (1, vI x1), (2, vI x2), (3, vI (x3 * x2)), (4, vI (x4 + 1))]) [2, 3, 4, 1, 0] rfl ?_
    exact h
set_option maxRecDepth 20000 in
set_option maxHeartbeats 4000000 in
theorem B_X12_shares_35 {k : Nat} {P : Option Nat} {I : Nat → Nat → Int32} {J : Nat → Nat → Int64} {x1 : Int} {x2 : Int} {x3 : Int} {x4 : Int} {Q : Option AV → Mem → Prop} (hk : 0 ≤ k) (h : inR x4 ∧ (inR x3 ∧ ((x3 ≤ x4 → (((gi I 74 82) = (-1) → (Q (some (vI 0)) (mem (P, some 5, some 22) I J))) ∧ (¬ (gi I 74 82) = (-1) → (Q (some (vI 1)) (mem (P, some 5, some 22) I J))))) ∧ (¬ x3 ≤ x4 → (WP k LAY m_X12_shares 53 [(0, vR (some 74)), (1, vI x1), (2, vI x2), (3, vI x3), (4, vI x4), (5, vI 0), (6, vI 0), (7, vI 1), (8, vI 0)] [] (mem (P, some 5, some 22) I J) Q))))) : WP k LAY m_X12_shares 35 [(0, vR (some 74)), (1, vI x1), (2, vI x2), (3, vI x3), (4, vI x4)] [] (mem (P, some 5, some 22) I J) Q := by
  refine st_iload (pc' := 37) dX12_shares_35 rfl (j := 4) rfl ?_
  refine st_iload_n (pc' := 38) dX12_shares_37 rfl rfl (j := 3) rfl ?_
  obtain ⟨e1, h⟩ := h
  obtain ⟨e2, h⟩ := h
  refine st_icmp_ge (tg := 283) (pc' := 41) dX12_shares_38 (by decide) rfl e1 e2 (fun c => ?_) (fun c => ?_)
  · replace h := h.1 c
    refine st_aload_n (pc' := 284) dX12_shares_283 rfl rfl (j := 0) rfl ?_
    refine G_X12_261_74 dX12_shares_284 (pc' := 287) rfl rfl ?_
    refine st_iconst (pc' := 288) dX12_shares_287 rfl ?_
    refine st_icmp_eq (tg := 295) (pc' := 291) dX12_shares_288 (by decide) rfl (gi_in _ _ _) (by decide) (fun c => ?_) (fun c => ?_)
    · replace h := h.1 c
      refine st_iconst (pc' := 296) dX12_shares_295 rfl ?_
      exact st_iret (ty := .boolean) dX12_shares_296 rfl (by decide) rfl h
    · replace h := h.2 c
      refine st_iconst (pc' := 292) dX12_shares_291 rfl ?_
      refine st_goto (pc' := 296) dX12_shares_292 (by decide) ?_
      exact st_iret (ty := .boolean) dX12_shares_296 rfl (by decide) rfl h
  · replace h := h.2 c
    refine st_iconst (pc' := 42) dX12_shares_41 rfl ?_
    refine st_istore (pc' := 44) (L' := [(5, vI 0), (0, vR (some 74)), (1, vI x1), (2, vI x2), (3, vI x3), (4, vI x4)]) dX12_shares_42 rfl (by decide) rfl ?_
    refine st_iconst (pc' := 45) dX12_shares_44 rfl ?_
    refine st_istore (pc' := 47) (L' := [(6, vI 0), (5, vI 0), (0, vR (some 74)), (1, vI x1), (2, vI x2), (3, vI x3), (4, vI x4)]) dX12_shares_45 rfl (by decide) rfl ?_
    refine st_iconst (pc' := 48) dX12_shares_47 rfl ?_
    refine st_istore (pc' := 50) (L' := [(7, vI 1), (6, vI 0), (5, vI 0), (0, vR (some 74)), (1, vI x1), (2, vI x2), (3, vI x3), (4, vI x4)]) dX12_shares_48 rfl (by decide) rfl ?_
    refine st_iconst (pc' := 51) dX12_shares_50 rfl ?_
    refine st_istore (pc' := 53) (L' := [(8, vI 0), (7, vI 1), (6, vI 0), (5, vI 0), (0, vR (some 74)), (1, vI x1), (2, vI x2), (3, vI x3), (4, vI x4)]) dX12_shares_51 rfl (by decide) rfl ?_
    refine WP_sub (L' := [(0, vR (some 74)), (1, vI x1), (2, vI x2), (3, vI x3), (4, vI x4), (5, vI 0), (6, vI 0), (7, vI 1), (8, vI 0)]) [4, 5, 6, 7, 8, 3, 2, 1, 0] rfl ?_
    exact h
set_option maxRecDepth 20000 in
set_option maxHeartbeats 4000000 in
theorem B_X12_shares_53 {k : Nat} {P : Option Nat} {I : Nat → Nat → Int32} {J : Nat → Nat → Int64} {x1 : Int} {x2 : Int} {x3 : Int} {x4 : Int} {x5 : Int} {x6 : Int} {x7 : Int} {x8 : Int} {Q : Option AV → Mem → Prop} (hk : 0 ≤ k) (h : inR x8 ∧ (inR x2 ∧ ((x2 ≤ x8 → (inR x7 ∧ ((x7 = 0 → (WP k LAY m_X12_shares 277 [(0, vR (some 74)), (1, vI x1), (2, vI x2), (3, vI x3), (4, vI x4)] [] (mem (P, some 5, some 22) I J) Q)) ∧ (¬ x7 = 0 → (((gi I 74 82) = (-1) → (WP k LAY m_X12_shares 249 [(0, vR (some 74)), (1, vI x1), (2, vI x2), (3, vI x3), (4, vI x4), (8, vI x4), (9, vI (x1 - 1))] [] (mem (P, some 5, some 22) (si (si I 74 82 x5) 74 83 x6) J) Q)) ∧ (¬ (gi I 74 82) = (-1) → (inR x5 ∧ (((gi I 74 82) < x5 → (WP k LAY m_X12_shares 277 [(0, vR (some 74)), (1, vI x1), (2, vI x2), (3, vI x3), (4, vI x4)] [] (mem (P, some 5, some 22) I J) Q)) ∧ (¬ (gi I 74 82) < x5 → ((¬ x5 = (gi I 74 82) → (WP k LAY m_X12_shares 249 [(0, vR (some 74)), (1, vI x1), (2, vI x2), (3, vI x3), (4, vI x4), (8, vI x4), (9, vI (x1 - 1))] [] (mem (P, some 5, some 22) (si (si I 74 82 x5) 74 83 x6) J) Q)) ∧ (x5 = (gi I 74 82) → (inR x6 ∧ ((x6 < (gi I 74 83) → (WP k LAY m_X12_shares 249 [(0, vR (some 74)), (1, vI x1), (2, vI x2), (3, vI x3), (4, vI x4), (8, vI x4), (9, vI (x1 - 1))] [] (mem (P, some 5, some 22) (si (si I 74 82 x5) 74 83 x6) J) Q)) ∧ (¬ x6 < (gi I 74 83) → (WP k LAY m_X12_shares 277 [(0, vR (some 74)), (1, vI x1), (2, vI x2), (3, vI x3), (4, vI x4)] [] (mem (P, some 5, some 22) I J) Q))))))))))))))) ∧ (¬ x2 ≤ x8 → (WP k LAY m_X12_shares 71 [(0, vR (some 74)), (1, vI x1), (2, vI x2), (3, vI x3), (4, vI x4), (5, vI x5), (6, vI x6), (7, vI x7), (8, vI x8), (9, vI 0), (10, vI x4), (11, vI (x1 - 1))] [] (mem (P, some 5, some 22) I J) Q))))) : WP k LAY m_X12_shares 53 [(0, vR (some 74)), (1, vI x1), (2, vI x2), (3, vI x3), (4, vI x4), (5, vI x5), (6, vI x6), (7, vI x7), (8, vI x8)] [] (mem (P, some 5, some 22) I J) Q := by
  refine st_iload (pc' := 55) dX12_shares_53 rfl (j := 8) rfl ?_
  refine st_iload_n (pc' := 56) dX12_shares_55 rfl rfl (j := 2) rfl ?_
  obtain ⟨e1, h⟩ := h
  obtain ⟨e2, h⟩ := h
  refine st_icmp_ge (tg := 185) (pc' := 59) dX12_shares_56 (by decide) rfl e1 e2 (fun c => ?_) (fun c => ?_)
  · replace h := h.1 c
    refine st_iload (pc' := 187) dX12_shares_185 rfl (j := 7) rfl ?_
    obtain ⟨e3, h⟩ := h
    refine st_if_eq (tg := 277) (pc' := 190) dX12_shares_187 (by decide) rfl e3 (fun c => ?_) (fun c => ?_)
    · replace h := h.1 c
      refine WP_sub (L' := [(0, vR (some 74)), (1, vI x1), (2, vI x2), (3, vI x3), (4, vI x4)]) [0, 1, 2, 3, 4] rfl ?_
      exact h
    · replace h := h.2 c
      refine st_aload_n (pc' := 191) dX12_shares_190 rfl rfl (j := 0) rfl ?_
      refine G_X12_261_74 dX12_shares_191 (pc' := 194) rfl rfl ?_
      refine st_iconst (pc' := 195) dX12_shares_194 rfl ?_
      refine st_icmp_eq (tg := 228) (pc' := 198) dX12_shares_195 (by decide) rfl (gi_in _ _ _) (by decide) (fun c => ?_) (fun c => ?_)
      · replace h := h.1 c
        refine st_aload_n (pc' := 229) dX12_shares_228 rfl rfl (j := 0) rfl ?_
        refine st_iload (pc' := 231) dX12_shares_229 rfl (j := 5) rfl ?_
        refine P_X12_261_74 dX12_shares_231 (pc' := 234) rfl rfl ?_
        refine st_aload_n (pc' := 235) dX12_shares_234 rfl rfl (j := 0) rfl ?_
        refine st_iload (pc' := 237) dX12_shares_235 rfl (j := 6) rfl ?_
        refine P_X12_264_74 dX12_shares_237 (pc' := 240) rfl rfl ?_
        refine st_iload (pc' := 242) dX12_shares_240 rfl (j := 4) rfl ?_
        refine st_istore (pc' := 244) (L' := [(8, vI x4), (0, vR (some 74)), (1, vI x1), (2, vI x2), (3, vI x3), (4, vI x4), (5, vI x5), (6, vI x6), (7, vI x7)]) dX12_shares_242 rfl (by decide) rfl ?_
        refine st_iload_n (pc' := 245) dX12_shares_244 rfl rfl (j := 2) rfl ?_
        refine st_iconst (pc' := 246) dX12_shares_245 rfl ?_
        refine st_isub (pc' := 247) dX12_shares_246 rfl ?_
        refine st_istore (pc' := 249) (L' := [(9, vI (x1 - 1)), (8, vI x4), (0, vR (some 74)), (1, vI x1), (2, vI x2), (3, vI x3), (4, vI x4), (5, vI x5), (6, vI x6), (7, vI x7)]) dX12_shares_247 rfl (by decide) rfl ?_
        refine WP_sub (L' := [(0, vR (some 74)), (1, vI x1), (2, vI x2), (3, vI x3), (4, vI x4), (8, vI x4), (9, vI (x1 - 1))]) [2, 3, 4, 5, 6, 1, 0] rfl ?_
        exact h
      · replace h := h.2 c
        refine st_iload (pc' := 200) dX12_shares_198 rfl (j := 5) rfl ?_
        refine st_aload_n (pc' := 201) dX12_shares_200 rfl rfl (j := 0) rfl ?_
        refine G_X12_261_74 dX12_shares_201 (pc' := 204) rfl rfl ?_
        obtain ⟨e4, h⟩ := h
        refine st_icmp_gt (tg := 277) (pc' := 207) dX12_shares_204 (by decide) rfl e4 (gi_in _ _ _) (fun c => ?_) (fun c => ?_)
        · replace h := h.1 c
          refine WP_sub (L' := [(0, vR (some 74)), (1, vI x1), (2, vI x2), (3, vI x3), (4, vI x4)]) [0, 1, 2, 3, 4] rfl ?_
          exact h
        · replace h := h.2 c
          refine st_iload (pc' := 209) dX12_shares_207 rfl (j := 5) rfl ?_
          refine st_aload_n (pc' := 210) dX12_shares_209 rfl rfl (j := 0) rfl ?_
          refine G_X12_261_74 dX12_shares_210 (pc' := 213) rfl rfl ?_
          refine st_icmp_ne (tg := 228) (pc' := 216) dX12_shares_213 (by decide) rfl e4 (gi_in _ _ _) (fun c => ?_) (fun c => ?_)
          · replace h := h.1 c
            refine st_aload_n (pc' := 229) dX12_shares_228 rfl rfl (j := 0) rfl ?_
            refine st_iload (pc' := 231) dX12_shares_229 rfl (j := 5) rfl ?_
            refine P_X12_261_74 dX12_shares_231 (pc' := 234) rfl rfl ?_
            refine st_aload_n (pc' := 235) dX12_shares_234 rfl rfl (j := 0) rfl ?_
            refine st_iload (pc' := 237) dX12_shares_235 rfl (j := 6) rfl ?_
            refine P_X12_264_74 dX12_shares_237 (pc' := 240) rfl rfl ?_
            refine st_iload (pc' := 242) dX12_shares_240 rfl (j := 4) rfl ?_
            refine st_istore (pc' := 244) (L' := [(8, vI x4), (0, vR (some 74)), (1, vI x1), (2, vI x2), (3, vI x3), (4, vI x4), (5, vI x5), (6, vI x6), (7, vI x7)]) dX12_shares_242 rfl (by decide) rfl ?_
            refine st_iload_n (pc' := 245) dX12_shares_244 rfl rfl (j := 2) rfl ?_
            refine st_iconst (pc' := 246) dX12_shares_245 rfl ?_
            refine st_isub (pc' := 247) dX12_shares_246 rfl ?_
            refine st_istore (pc' := 249) (L' := [(9, vI (x1 - 1)), (8, vI x4), (0, vR (some 74)), (1, vI x1), (2, vI x2), (3, vI x3), (4, vI x4), (5, vI x5), (6, vI x6), (7, vI x7)]) dX12_shares_247 rfl (by decide) rfl ?_
            refine WP_sub (L' := [(0, vR (some 74)), (1, vI x1), (2, vI x2), (3, vI x3), (4, vI x4), (8, vI x4), (9, vI (x1 - 1))]) [2, 3, 4, 5, 6, 1, 0] rfl ?_
            exact h
          · replace h := h.2 c
            refine st_iload (pc' := 218) dX12_shares_216 rfl (j := 6) rfl ?_
            refine st_aload_n (pc' := 219) dX12_shares_218 rfl rfl (j := 0) rfl ?_
            refine G_X12_264_74 dX12_shares_219 (pc' := 222) rfl rfl ?_
            obtain ⟨e5, h⟩ := h
            refine st_icmp_lt (tg := 228) (pc' := 225) dX12_shares_222 (by decide) rfl e5 (gi_in _ _ _) (fun c => ?_) (fun c => ?_)
            · replace h := h.1 c
              refine st_aload_n (pc' := 229) dX12_shares_228 rfl rfl (j := 0) rfl ?_
              refine st_iload (pc' := 231) dX12_shares_229 rfl (j := 5) rfl ?_
              refine P_X12_261_74 dX12_shares_231 (pc' := 234) rfl rfl ?_
              refine st_aload_n (pc' := 235) dX12_shares_234 rfl rfl (j := 0) rfl ?_
              refine st_iload (pc' := 237) dX12_shares_235 rfl (j := 6) rfl ?_
              refine P_X12_264_74 dX12_shares_237 (pc' := 240) rfl rfl ?_
              refine st_iload (pc' := 242) dX12_shares_240 rfl (j := 4) rfl ?_
              refine st_istore (pc' := 244) (L' := [(8, vI x4), (0, vR (some 74)), (1, vI x1), (2, vI x2), (3, vI x3), (4, vI x4), (5, vI x5), (6, vI x6), (7, vI x7)]) dX12_shares_242 rfl (by decide) rfl ?_
              refine st_iload_n (pc' := 245) dX12_shares_244 rfl rfl (j := 2) rfl ?_
              refine st_iconst (pc' := 246) dX12_shares_245 rfl ?_
              refine st_isub (pc' := 247) dX12_shares_246 rfl ?_
              refine st_istore (pc' := 249) (L' := [(9, vI (x1 - 1)), (8, vI x4), (0, vR (some 74)), (1, vI x1), (2, vI x2), (3, vI x3), (4, vI x4), (5, vI x5), (6, vI x6), (7, vI x7)]) dX12_shares_247 rfl (by decide) rfl ?_
              refine WP_sub (L' := [(0, vR (some 74)), (1, vI x1), (2, vI x2), (3, vI x3), (4, vI x4), (8, vI x4), (9, vI (x1 - 1))]) [2, 3, 4, 5, 6, 1, 0] rfl ?_
              exact h
            · replace h := h.2 c
              refine st_goto (pc' := 277) dX12_shares_225 (by decide) ?_
              refine WP_sub (L' := [(0, vR (some 74)), (1, vI x1), (2, vI x2), (3, vI x3), (4, vI x4)]) [0, 1, 2, 3, 4] rfl ?_
              exact h
  · replace h := h.2 c
    refine st_iconst (pc' := 60) dX12_shares_59 rfl ?_
    refine st_istore (pc' := 62) (L' := [(9, vI 0), (0, vR (some 74)), (1, vI x1), (2, vI x2), (3, vI x3), (4, vI x4), (5, vI x5), (6, vI x6), (7, vI x7), (8, vI x8)]) dX12_shares_60 rfl (by decide) rfl ?_
    refine st_iload (pc' := 64) dX12_shares_62 rfl (j := 5) rfl ?_
    refine st_istore (pc' := 66) (L' := [(10, vI x4), (9, vI 0), (0, vR (some 74)), (1, vI x1), (2, vI x2), (3, vI x3), (4, vI x4), (5, vI x5), (6, vI x6), (7, vI x7), (8, vI x8)]) dX12_shares_64 rfl (by decide) rfl ?_
    refine st_iload_n (pc' := 67) dX12_shares_66 rfl rfl (j := 3) rfl ?_
    refine st_iconst (pc' := 68) dX12_shares_67 rfl ?_
    refine st_isub (pc' := 69) dX12_shares_68 rfl ?_
    refine st_istore (pc' := 71) (L' := [(11, vI (x1 - 1)), (10, vI x4), (9, vI 0), (0, vR (some 74)), (1, vI x1), (2, vI x2), (3, vI x3), (4, vI x4), (5, vI x5), (6, vI x6), (7, vI x7), (8, vI x8)]) dX12_shares_69 rfl (by decide) rfl ?_
    refine WP_sub (L' := [(0, vR (some 74)), (1, vI x1), (2, vI x2), (3, vI x3), (4, vI x4), (5, vI x5), (6, vI x6), (7, vI x7), (8, vI x8), (9, vI 0), (10, vI x4), (11, vI (x1 - 1))]) [3, 4, 5, 6, 7, 8, 9, 10, 11, 2, 1, 0] rfl ?_
    exact h
set_option maxRecDepth 20000 in
set_option maxHeartbeats 4000000 in
theorem B_X12_shares_277 {k : Nat} {P : Option Nat} {I : Nat → Nat → Int32} {J : Nat → Nat → Int64} {x1 : Int} {x2 : Int} {x3 : Int} {x4 : Int} {Q : Option AV → Mem → Prop} (hk : 0 ≤ k) (h : WP k LAY m_X12_shares 35 [(0, vR (some 74)), (1, vI x1), (2, vI x2), (3, vI x3), (4, vI (x4 + 1))] [] (mem (P, some 5, some 22) I J) Q) : WP k LAY m_X12_shares 277 [(0, vR (some 74)), (1, vI x1), (2, vI x2), (3, vI x3), (4, vI x4)] [] (mem (P, some 5, some 22) I J) Q := by
  refine st_iinc (pc' := 280) (L' := [(4, vI (x4 + 1)), (0, vR (some 74)), (1, vI x1), (2, vI x2), (3, vI x3)]) (j := 4) dX12_shares_277 rfl (by decide) rfl rfl ?_
  refine st_goto (pc' := 35) dX12_shares_280 (by decide) ?_
  refine WP_sub (L' := [(0, vR (some 74)), (1, vI x1), (2, vI x2), (3, vI x3), (4, vI (x4 + 1))]) [1, 2, 3, 4, 0] rfl ?_
  exact h
set_option maxRecDepth 20000 in
set_option maxHeartbeats 4000000 in
theorem B_X12_shares_249 {k : Nat} {P : Option Nat} {I : Nat → Nat → Int32} {J : Nat → Nat → Int64} {x1 : Int} {x2 : Int} {x3 : Int} {x4 : Int} {x8 : Int} {x9 : Int} {Q : Option AV → Mem → Prop} (hk : 0 ≤ k) (h : inR x9 ∧ ((x9 < 0 → (WP k LAY m_X12_shares 277 [(0, vR (some 74)), (1, vI x1), (2, vI x2), (3, vI x3), (4, vI x4)] [] (mem (P, some 5, some 22) I J) Q)) ∧ (¬ x9 < 0 → (inR x2 ∧ (¬ x2 = 0 ∧ ((0 ≤ x9 ∧ x9 < 8) ∧ (¬ x2 = 0 ∧ (WP k LAY m_X12_shares 249 [(0, vR (some 74)), (1, vI x1), (2, vI x2), (3, vI x3), (4, vI x4), (8, vI (div32 x8 x2)), (9, vI (x9 + (-1)))] [] (mem (P, some 5, some 22) (si I 128 (x9).toNat (rem32 x8 x2)) J) Q)))))))) : WP k LAY m_X12_shares 249 [(0, vR (some 74)), (1, vI x1), (2, vI x2), (3, vI x3), (4, vI x4), (8, vI x8), (9, vI x9)] [] (mem (P, some 5, some 22) I J) Q := by
  refine st_iload (pc' := 251) dX12_shares_249 rfl (j := 6) rfl ?_
  obtain ⟨e1, h⟩ := h
  refine st_if_lt (tg := 277) (pc' := 254) dX12_shares_251 (by decide) rfl e1 (fun c => ?_) (fun c => ?_)
  · replace h := h.1 c
    refine WP_sub (L' := [(0, vR (some 74)), (1, vI x1), (2, vI x2), (3, vI x3), (4, vI x4)]) [0, 1, 2, 3, 4] rfl ?_
    exact h
  · replace h := h.2 c
    refine st_aload_n (pc' := 255) dX12_shares_254 rfl rfl (j := 0) rfl ?_
    refine G_X12_258_74 dX12_shares_255 (pc' := 258) rfl rfl ?_
    refine st_iload (pc' := 260) dX12_shares_258 rfl (j := 6) rfl ?_
    refine st_iload (pc' := 262) dX12_shares_260 rfl (j := 5) rfl ?_
    refine st_iload_n (pc' := 263) dX12_shares_262 rfl rfl (j := 2) rfl ?_
    obtain ⟨e2, h⟩ := h
    obtain ⟨e3, h⟩ := h
    refine st_irem (pc' := 264) (z := (rem32 x8 x2)) dX12_shares_263 rfl (fun q => e3 ((z_eq e2).mp q)) rfl ?_
    obtain ⟨e4, h⟩ := h
    refine st_iastore (pc' := 265) (M' := (mem (P, some 5, some 22) (si I 128 (x9).toNat (rem32 x8 x2)) J)) dX12_shares_264 rfl L_128 (by decide) e4 rfl ?_
    refine st_iload (pc' := 267) dX12_shares_265 rfl (j := 5) rfl ?_
    refine st_iload_n (pc' := 268) dX12_shares_267 rfl rfl (j := 2) rfl ?_
    obtain ⟨e5, h⟩ := h
    refine st_idiv (pc' := 269) (z := (div32 x8 x2)) dX12_shares_268 rfl (fun q => e5 ((z_eq e2).mp q)) rfl ?_
    refine st_istore (pc' := 271) (L' := [(8, vI (div32 x8 x2)), (0, vR (some 74)), (1, vI x1), (2, vI x2), (3, vI x3), (4, vI x4), (9, vI x9)]) dX12_shares_269 rfl (by decide) rfl ?_
    refine st_iinc (pc' := 274) (L' := [(9, vI (x9 + (-1))), (8, vI (div32 x8 x2)), (0, vR (some 74)), (1, vI x1), (2, vI x2), (3, vI x3), (4, vI x4)]) (j := 6) dX12_shares_271 rfl (by decide) rfl rfl ?_
    refine st_goto (pc' := 249) dX12_shares_274 (by decide) ?_
    refine WP_sub (L' := [(0, vR (some 74)), (1, vI x1), (2, vI x2), (3, vI x3), (4, vI x4), (8, vI (div32 x8 x2)), (9, vI (x9 + (-1)))]) [2, 3, 4, 5, 6, 1, 0] rfl ?_
    exact h
set_option maxRecDepth 20000 in
set_option maxHeartbeats 4000000 in
theorem B_X12_shares_71 {k : Nat} {P : Option Nat} {I : Nat → Nat → Int32} {J : Nat → Nat → Int64} {x1 : Int} {x2 : Int} {x3 : Int} {x4 : Int} {x5 : Int} {x6 : Int} {x7 : Int} {x8 : Int} {x9 : Int} {x10 : Int} {x11 : Int} {Q : Option AV → Mem → Prop} (hk : 0 ≤ k) (h : inR x11 ∧ ((x11 < 0 → ((0 ≤ ((256 * x8) + x9) ∧ ((256 * x8) + x9) < 768) ∧ (inR x7 ∧ ((x7 = 0 → (WP k LAY m_X12_shares 142 [(0, vR (some 74)), (1, vI x1), (2, vI x2), (3, vI x3), (4, vI x4), (5, vI x5), (6, vI x6), (8, vI x8), (9, vI x9), (11, vI (gi I 127 (((256 * x8) + x9) : Int).toNat))] [vI 0] (mem (P, some 5, some 22) I J) Q)) ∧ (¬ x7 = 0 → (((gi I 127 (((256 * x8) + x9) : Int).toNat) = (-1) → (WP k LAY m_X12_shares 142 [(0, vR (some 74)), (1, vI x1), (2, vI x2), (3, vI x3), (4, vI x4), (5, vI x5), (6, vI x6), (8, vI x8), (9, vI x9), (11, vI (gi I 127 (((256 * x8) + x9) : Int).toNat))] [vI 0] (mem (P, some 5, some 22) I J) Q)) ∧ (¬ (gi I 127 (((256 * x8) + x9) : Int).toNat) = (-1) → (WP k LAY m_X12_shares 142 [(0, vR (some 74)), (1, vI x1), (2, vI x2), (3, vI x3), (4, vI x4), (5, vI x5), (6, vI x6), (8, vI x8), (9, vI x9), (11, vI (gi I 127 (((256 * x8) + x9) : Int).toNat))] [vI 1] (mem (P, some 5, some 22) I J) Q)))))))) ∧ (¬ x11 < 0 → (inR x2 ∧ (¬ x2 = 0 ∧ (inR x8 ∧ ((¬ (rem32 x10 x2) = x8 → (¬ x2 = 0 ∧ (WP k LAY m_X12_shares 71 [(0, vR (some 74)), (1, vI x1), (2, vI x2), (3, vI x3), (4, vI x4), (5, vI x5), (6, vI x6), (7, vI x7), (8, vI x8), (9, vI (or32 x9 0)), (10, vI (div32 x10 x2)), (11, vI (x11 + (-1)))] [] (mem (P, some 5, some 22) I J) Q))) ∧ ((rem32 x10 x2) = x8 → (¬ x2 = 0 ∧ (WP k LAY m_X12_shares 71 [(0, vR (some 74)), (1, vI x1), (2, vI x2), (3, vI x3), (4, vI x4), (5, vI x5), (6, vI x6), (7, vI x7), (8, vI x8), (9, vI (or32 x9 (shl32 1 x11))), (10, vI (div32 x10 x2)), (11, vI (x11 + (-1)))] [] (mem (P, some 5, some 22) I J) Q)))))))))) : WP k LAY m_X12_shares 71 [(0, vR (some 74)), (1, vI x1), (2, vI x2), (3, vI x3), (4, vI x4), (5, vI x5), (6, vI x6), (7, vI x7), (8, vI x8), (9, vI x9), (10, vI x10), (11, vI x11)] [] (mem (P, some 5, some 22) I J) Q := by
  refine st_iload (pc' := 73) dX12_shares_71 rfl (j := 11) rfl ?_
  obtain ⟨e1, h⟩ := h
  refine st_if_lt (tg := 110) (pc' := 76) dX12_shares_73 (by decide) rfl e1 (fun c => ?_) (fun c => ?_)
  · replace h := h.1 c
    refine st_aload_n (pc' := 111) dX12_shares_110 rfl rfl (j := 0) rfl ?_
    refine G_X12_255_74 dX12_shares_111 (pc' := 114) rfl rfl ?_
    refine st_sipush (pc' := 117) dX12_shares_114 rfl (by decide) ?_
    refine st_iload (pc' := 119) dX12_shares_117 rfl (j := 8) rfl ?_
    refine st_imul (pc' := 120) dX12_shares_119 rfl ?_
    refine st_iload (pc' := 122) dX12_shares_120 rfl (j := 9) rfl ?_
    refine st_iadd (pc' := 123) dX12_shares_122 rfl ?_
    obtain ⟨e2, h⟩ := h
    refine st_iaload (pc' := 124) (v := (gi I 127 (((256 * x8) + x9) : Int).toNat)) dX12_shares_123 rfl L_127 (by decide) e2 (show gi I 127 (((256 * x8) + x9) : Int).toNat = (gi I 127 (((256 * x8) + x9) : Int).toNat) from rfl) ?_
    refine st_istore (pc' := 126) (L' := [(11, vI (gi I 127 (((256 * x8) + x9) : Int).toNat)), (0, vR (some 74)), (1, vI x1), (2, vI x2), (3, vI x3), (4, vI x4), (5, vI x5), (6, vI x6), (7, vI x7), (8, vI x8), (9, vI x9), (10, vI x10)]) dX12_shares_124 rfl (by decide) rfl ?_
    refine st_iload (pc' := 128) dX12_shares_126 rfl (j := 8) rfl ?_
    obtain ⟨e3, h⟩ := h
    refine st_if_eq (tg := 141) (pc' := 131) dX12_shares_128 (by decide) rfl e3 (fun c => ?_) (fun c => ?_)
    · replace h := h.1 c
      refine st_iconst (pc' := 142) dX12_shares_141 rfl ?_
      refine WP_sub (L' := [(0, vR (some 74)), (1, vI x1), (2, vI x2), (3, vI x3), (4, vI x4), (5, vI x5), (6, vI x6), (8, vI x8), (9, vI x9), (11, vI (gi I 127 (((256 * x8) + x9) : Int).toNat))]) [1, 2, 3, 4, 5, 6, 7, 9, 10, 0] rfl ?_
      exact h
    · replace h := h.2 c
      refine st_iload (pc' := 133) dX12_shares_131 rfl (j := 0) rfl ?_
      refine st_iconst (pc' := 134) dX12_shares_133 rfl ?_
      refine st_icmp_eq (tg := 141) (pc' := 137) dX12_shares_134 (by decide) rfl (gi_in _ _ _) (by decide) (fun c => ?_) (fun c => ?_)
      · replace h := h.1 c
        refine st_iconst (pc' := 142) dX12_shares_141 rfl ?_
        refine WP_sub (L' := [(0, vR (some 74)), (1, vI x1), (2, vI x2), (3, vI x3), (4, vI x4), (5, vI x5), (6, vI x6), (8, vI x8), (9, vI x9), (11, vI (gi I 127 (((256 * x8) + x9) : Int).toNat))]) [1, 2, 3, 4, 5, 6, 7, 9, 10, 0] rfl ?_
        exact h
      · replace h := h.2 c
        refine st_iconst (pc' := 138) dX12_shares_137 rfl ?_
        refine st_goto (pc' := 142) dX12_shares_138 (by decide) ?_
        refine WP_sub (L' := [(0, vR (some 74)), (1, vI x1), (2, vI x2), (3, vI x3), (4, vI x4), (5, vI x5), (6, vI x6), (8, vI x8), (9, vI x9), (11, vI (gi I 127 (((256 * x8) + x9) : Int).toNat))]) [1, 2, 3, 4, 5, 6, 7, 9, 10, 0] rfl ?_
        exact h
  · replace h := h.2 c
    refine st_iload (pc' := 78) dX12_shares_76 rfl (j := 9) rfl ?_
    refine st_iload (pc' := 80) dX12_shares_78 rfl (j := 10) rfl ?_
    refine st_iload_n (pc' := 81) dX12_shares_80 rfl rfl (j := 2) rfl ?_
    obtain ⟨e4, h⟩ := h
    obtain ⟨e5, h⟩ := h
    refine st_irem (pc' := 82) (z := (rem32 x10 x2)) dX12_shares_81 rfl (fun q => e5 ((z_eq e4).mp q)) rfl ?_
    refine st_iload (pc' := 84) dX12_shares_82 rfl (j := 8) rfl ?_
    obtain ⟨e6, h⟩ := h
    refine st_icmp_ne (tg := 94) (pc' := 87) dX12_shares_84 (by decide) rfl (rem32_in _ _) e6 (fun c => ?_) (fun c => ?_)
    · replace h := h.1 c
      refine st_iconst (pc' := 95) dX12_shares_94 rfl ?_
      refine st_ior (pc' := 96) (z := (or32 x9 0)) dX12_shares_95 rfl rfl ?_
      refine st_istore (pc' := 98) (L' := [(9, vI (or32 x9 0)), (0, vR (some 74)), (1, vI x1), (2, vI x2), (3, vI x3), (4, vI x4), (5, vI x5), (6, vI x6), (7, vI x7), (8, vI x8), (10, vI x10), (11, vI x11)]) dX12_shares_96 rfl (by decide) rfl ?_
      refine st_iload (pc' := 100) dX12_shares_98 rfl (j := 10) rfl ?_
      refine st_iload_n (pc' := 101) dX12_shares_100 rfl rfl (j := 3) rfl ?_
      obtain ⟨e7, h⟩ := h
      refine st_idiv (pc' := 102) (z := (div32 x10 x2)) dX12_shares_101 rfl (fun q => e7 ((z_eq e4).mp q)) rfl ?_
      refine st_istore (pc' := 104) (L' := [(10, vI (div32 x10 x2)), (9, vI (or32 x9 0)), (0, vR (some 74)), (1, vI x1), (2, vI x2), (3, vI x3), (4, vI x4), (5, vI x5), (6, vI x6), (7, vI x7), (8, vI x8), (11, vI x11)]) dX12_shares_102 rfl (by decide) rfl ?_
      refine st_iinc (pc' := 107) (L' := [(11, vI (x11 + (-1))), (10, vI (div32 x10 x2)), (9, vI (or32 x9 0)), (0, vR (some 74)), (1, vI x1), (2, vI x2), (3, vI x3), (4, vI x4), (5, vI x5), (6, vI x6), (7, vI x7), (8, vI x8)]) (j := 11) dX12_shares_104 rfl (by decide) rfl rfl ?_
      refine st_goto (pc' := 71) dX12_shares_107 (by decide) ?_
      refine WP_sub (L' := [(0, vR (some 74)), (1, vI x1), (2, vI x2), (3, vI x3), (4, vI x4), (5, vI x5), (6, vI x6), (7, vI x7), (8, vI x8), (9, vI (or32 x9 0)), (10, vI (div32 x10 x2)), (11, vI (x11 + (-1)))]) [3, 4, 5, 6, 7, 8, 9, 10, 11, 2, 1, 0] rfl ?_
      exact h
    · replace h := h.2 c
      refine st_iconst (pc' := 88) dX12_shares_87 rfl ?_
      refine st_iload (pc' := 90) dX12_shares_88 rfl (j := 11) rfl ?_
      refine st_ishl (pc' := 91) (z := (shl32 1 x11)) dX12_shares_90 rfl rfl ?_
      refine st_goto (pc' := 95) dX12_shares_91 (by decide) ?_
      refine st_ior (pc' := 96) (z := (or32 x9 (shl32 1 x11))) dX12_shares_95 rfl rfl ?_
      refine st_istore (pc' := 98) (L' := [(9, vI (or32 x9 (shl32 1 x11))), (0, vR (some 74)), (1, vI x1), (2, vI x2), (3, vI x3), (4, vI x4), (5, vI x5), (6, vI x6), (7, vI x7), (8, vI x8), (10, vI x10), (11, vI x11)]) dX12_shares_96 rfl (by decide) rfl ?_
      refine st_iload (pc' := 100) dX12_shares_98 rfl (j := 10) rfl ?_
      refine st_iload_n (pc' := 101) dX12_shares_100 rfl rfl (j := 3) rfl ?_
      obtain ⟨e8, h⟩ := h
      refine st_idiv (pc' := 102) (z := (div32 x10 x2)) dX12_shares_101 rfl (fun q => e8 ((z_eq e4).mp q)) rfl ?_
      refine st_istore (pc' := 104) (L' := [(10, vI (div32 x10 x2)), (9, vI (or32 x9 (shl32 1 x11))), (0, vR (some 74)), (1, vI x1), (2, vI x2), (3, vI x3), (4, vI x4), (5, vI x5), (6, vI x6), (7, vI x7), (8, vI x8), (11, vI x11)]) dX12_shares_102 rfl (by decide) rfl ?_
      refine st_iinc (pc' := 107) (L' := [(11, vI (x11 + (-1))), (10, vI (div32 x10 x2)), (9, vI (or32 x9 (shl32 1 x11))), (0, vR (some 74)), (1, vI x1), (2, vI x2), (3, vI x3), (4, vI x4), (5, vI x5), (6, vI x6), (7, vI x7), (8, vI x8)]) (j := 11) dX12_shares_104 rfl (by decide) rfl rfl ?_
      refine st_goto (pc' := 71) dX12_shares_107 (by decide) ?_
      refine WP_sub (L' := [(0, vR (some 74)), (1, vI x1), (2, vI x2), (3, vI x3), (4, vI x4), (5, vI x5), (6, vI x6), (7, vI x7), (8, vI x8), (9, vI (or32 x9 (shl32 1 x11))), (10, vI (div32 x10 x2)), (11, vI (x11 + (-1)))]) [3, 4, 5, 6, 7, 8, 9, 10, 11, 2, 1, 0] rfl ?_
      exact h
set_option maxRecDepth 20000 in
set_option maxHeartbeats 4000000 in
theorem B_X12_shares_142 {k : Nat} {P : Option Nat} {I : Nat → Nat → Int32} {J : Nat → Nat → Int64} {x1 : Int} {x2 : Int} {x3 : Int} {x4 : Int} {x5 : Int} {x6 : Int} {x8 : Int} {x9 : Int} {x11 : Int} {s0 : Int} {Q : Option AV → Mem → Prop} (hk : 0 ≤ k) (h : inR x11 ∧ (inR x5 ∧ ((x11 ≤ x5 → (WP k LAY m_X12_shares 158 [(0, vR (some 74)), (1, vI x1), (2, vI x2), (3, vI x3), (4, vI x4), (6, vI x6), (7, vI s0), (8, vI x8), (9, vI x9)] [vI x5] (mem (P, some 5, some 22) I J) Q)) ∧ (¬ x11 ≤ x5 → (WP k LAY m_X12_shares 158 [(0, vR (some 74)), (1, vI x1), (2, vI x2), (3, vI x3), (4, vI x4), (6, vI x6), (7, vI s0), (8, vI x8), (9, vI x9)] [vI x11] (mem (P, some 5, some 22) I J) Q))))) : WP k LAY m_X12_shares 142 [(0, vR (some 74)), (1, vI x1), (2, vI x2), (3, vI x3), (4, vI x4), (5, vI x5), (6, vI x6), (8, vI x8), (9, vI x9), (11, vI x11)] [vI s0] (mem (P, some 5, some 22) I J) Q := by
  refine st_istore (pc' := 144) (L' := [(7, vI s0), (0, vR (some 74)), (1, vI x1), (2, vI x2), (3, vI x3), (4, vI x4), (5, vI x5), (6, vI x6), (8, vI x8), (9, vI x9), (11, vI x11)]) dX12_shares_142 rfl (by decide) rfl ?_
  refine st_iload (pc' := 146) dX12_shares_144 rfl (j := 10) rfl ?_
  refine st_iload (pc' := 148) dX12_shares_146 rfl (j := 6) rfl ?_
  obtain ⟨e1, h⟩ := h
  obtain ⟨e2, h⟩ := h
  refine st_icmp_le (tg := 156) (pc' := 151) dX12_shares_148 (by decide) rfl e1 e2 (fun c => ?_) (fun c => ?_)
  · replace h := h.1 c
    refine st_iload (pc' := 158) dX12_shares_156 rfl (j := 6) rfl ?_
    refine WP_sub (L' := [(0, vR (some 74)), (1, vI x1), (2, vI x2), (3, vI x3), (4, vI x4), (6, vI x6), (7, vI s0), (8, vI x8), (9, vI x9)]) [1, 2, 3, 4, 5, 7, 0, 8, 9] rfl ?_
    exact h
  · replace h := h.2 c
    refine st_iload (pc' := 153) dX12_shares_151 rfl (j := 10) rfl ?_
    refine st_goto (pc' := 158) dX12_shares_153 (by decide) ?_
    refine WP_sub (L' := [(0, vR (some 74)), (1, vI x1), (2, vI x2), (3, vI x3), (4, vI x4), (6, vI x6), (7, vI s0), (8, vI x8), (9, vI x9)]) [1, 2, 3, 4, 5, 7, 0, 8, 9] rfl ?_
    exact h
set_option maxRecDepth 20000 in
set_option maxHeartbeats 4000000 in
theorem B_X12_shares_158 {k : Nat} {P : Option Nat} {I : Nat → Nat → Int32} {J : Nat → Nat → Int64} {x1 : Int} {x2 : Int} {x3 : Int} {x4 : Int} {x6 : Int} {x7 : Int} {x8 : Int} {x9 : Int} {s0 : Int} {Q : Option AV → Mem → Prop} (hk : 0 ≤ k) (h : (0 ≤ ((256 * x8) + x9) ∧ ((256 * x8) + x9) < 768) ∧ (WP k LAY m_X12_shares 53 [(0, vR (some 74)), (1, vI x1), (2, vI x2), (3, vI x3), (4, vI x4), (5, vI s0), (6, vI (x6 + (gi I 126 (((256 * x8) + x9) : Int).toNat))), (7, vI x7), (8, vI (x8 + 1))] [] (mem (P, some 5, some 22) I J) Q)) : WP k LAY m_X12_shares 158 [(0, vR (some 74)), (1, vI x1), (2, vI x2), (3, vI x3), (4, vI x4), (6, vI x6), (7, vI x7), (8, vI x8), (9, vI x9)] [vI s0] (mem (P, some 5, some 22) I J) Q := by
  refine st_istore (pc' := 160) (L' := [(5, vI s0), (0, vR (some 74)), (1, vI x1), (2, vI x2), (3, vI x3), (4, vI x4), (6, vI x6), (7, vI x7), (8, vI x8), (9, vI x9)]) dX12_shares_158 rfl (by decide) rfl ?_
  refine st_iload (pc' := 162) dX12_shares_160 rfl (j := 6) rfl ?_
  refine st_aload_n (pc' := 163) dX12_shares_162 rfl rfl (j := 1) rfl ?_
  refine G_X12_252_74 dX12_shares_163 (pc' := 166) rfl rfl ?_
  refine st_sipush (pc' := 169) dX12_shares_166 rfl (by decide) ?_
  refine st_iload (pc' := 171) dX12_shares_169 rfl (j := 8) rfl ?_
  refine st_imul (pc' := 172) dX12_shares_171 rfl ?_
  refine st_iload (pc' := 174) dX12_shares_172 rfl (j := 9) rfl ?_
  refine st_iadd (pc' := 175) dX12_shares_174 rfl ?_
  obtain ⟨e1, h⟩ := h
  refine st_iaload (pc' := 176) (v := (gi I 126 (((256 * x8) + x9) : Int).toNat)) dX12_shares_175 rfl L_126 (by decide) e1 (show gi I 126 (((256 * x8) + x9) : Int).toNat = (gi I 126 (((256 * x8) + x9) : Int).toNat) from rfl) ?_
  refine st_iadd (pc' := 177) dX12_shares_176 rfl ?_
  refine st_istore (pc' := 179) (L' := [(6, vI (x6 + (gi I 126 (((256 * x8) + x9) : Int).toNat))), (5, vI s0), (0, vR (some 74)), (1, vI x1), (2, vI x2), (3, vI x3), (4, vI x4), (7, vI x7), (8, vI x8), (9, vI x9)]) dX12_shares_177 rfl (by decide) rfl ?_
  refine st_iinc (pc' := 182) (L' := [(8, vI (x8 + 1)), (6, vI (x6 + (gi I 126 (((256 * x8) + x9) : Int).toNat))), (5, vI s0), (0, vR (some 74)), (1, vI x1), (2, vI x2), (3, vI x3), (4, vI x4), (7, vI x7), (9, vI x9)]) (j := 8) dX12_shares_179 rfl (by decide) rfl rfl ?_
  refine st_goto (pc' := 53) dX12_shares_182 (by decide) ?_
  refine WP_sub (L' := [(0, vR (some 74)), (1, vI x1), (2, vI x2), (3, vI x3), (4, vI x4), (5, vI s0), (6, vI (x6 + (gi I 126 (((256 * x8) + x9) : Int).toNat))), (7, vI x7), (8, vI (x8 + 1))]) [3, 4, 5, 6, 7, 2, 1, 8, 0] rfl ?_
  exact h
set_option maxRecDepth 20000 in
set_option maxHeartbeats 4000000 in
theorem B_X12_shared_0 {k : Nat} {P : Option Nat} {I : Nat → Nat → Int32} {J : Nat → Nat → Int64} {x1 : Int} {x2 : Int} {Q : Option AV → Mem → Prop} (hk : 2 ≤ k) (h : (0 ≤ (gi I 74 13) ∧ (gi I 74 13) < 2) ∧ (inR x1 ∧ (inR ((shl32 1 (gi I 77 (gi I 74 13).toNat)) - 1) ∧ ((¬ (0 ≤ x1 ∧ x1 ≤ ((shl32 1 (gi I 77 (gi I 74 13).toNat)) - 1)) → ((3 ≤ (gi I 83 (gi I 74 13).toNat) → (WP k LAY m_X12_shared 43 [(0, vR (some 74)), (1, vI x1), (2, vI x2), (3, vI 0)] [vI 3] (mem (P, some 5, some 22) I J) Q)) ∧ (¬ 3 ≤ (gi I 83 (gi I 74 13).toNat) → (WP k LAY m_X12_shared 43 [(0, vR (some 74)), (1, vI x1), (2, vI x2), (3, vI 0)] [vI (gi I 83 (gi I 74 13).toNat)] (mem (P, some 5, some 22) I J) Q)))) ∧ ((0 ≤ x1 ∧ x1 ≤ ((shl32 1 (gi I 77 (gi I 74 13).toNat)) - 1)) → (WPm (k - 1) LAY m_X12_bits [vI x1] (mem (P, some 5, some 22) I J) (retI (fun v4 I5 J6 => (0 ≤ (gi I5 74 13) ∧ (gi I5 74 13) < 2) ∧ ((3 ≤ (gi I5 83 (gi I5 74 13).toNat) → (WP k LAY m_X12_shared 43 [(0, vR (some 74)), (1, vI x1), (2, vI x2), (3, vI v4)] [vI 3] (mem (P, some 5, some 22) I5 J6) Q)) ∧ (¬ 3 ≤ (gi I5 83 (gi I5 74 13).toNat) → (WP k LAY m_X12_shared 43 [(0, vR (some 74)), (1, vI x1), (2, vI x2), (3, vI v4)] [vI (gi I5 83 (gi I5 74 13).toNat)] (mem (P, some 5, some 22) I5 J6) Q)))) (P, some 5, some 22)))))))) : WP k LAY m_X12_shared 0 [(0, vR (some 74)), (1, vI x1), (2, vI x2)] [] (mem (P, some 5, some 22) I J) Q := by
  refine st_aload_n (pc' := 1) dX12_shared_0 rfl rfl (j := 0) rfl ?_
  refine st_iload_n (pc' := 2) dX12_shared_1 rfl rfl (j := 1) rfl ?_
  refine st_callV (pc' := 5) (kc := k - 1) (E' := LAY) (cal := m_X12_isQuestion) (n := 1) (as := [vI x1]) (S := []) dX12_shared_2 rfl l_X12_598 k_X12_isQuestion rfl L_74 c_X12 rfl rfl (Nat.le_of_ble_eq_true rfl) (by omega) ⟨Nat.le_refl _, Nat.le_refl _, Nat.le_refl _, Nat.le_refl _⟩ (Q1 := fun r M' => WP k LAY m_X12_shared 5 [(0, vR (some 74)), (1, vI x1), (2, vI x2)] (r.toList ++ []) M' Q) (WPm.of k_X12_isQuestion.1 (Nat.le_of_ble_eq_true rfl) (B_X12_isQuestion_0 (by omega) ?_)) (fun r M' q => q)
  obtain ⟨e1, h⟩ := h
  refine ⟨e1, ?_⟩
  obtain ⟨e2, h⟩ := h
  refine ⟨e2, ?_⟩
  obtain ⟨e3, h⟩ := h
  refine ⟨e3, ?_⟩
  change WP _ LAY m_X12_shared 5 [(0, vR (some 74)), (1, vI x1), (2, vI x2)] [vI (b2i (0 ≤ x1 ∧ x1 ≤ ((shl32 1 (gi I 77 (gi I 74 13).toNat)) - 1)))] (mem (P, some 5, some 22) I J) Q
  refine st_if_eq (tg := 15) (pc' := 8) dX12_shared_5 (by decide) rfl (b2i_in _) (fun c => ?_) (fun c => ?_)
  · replace h := h.1 (b2i_f.mp c)
    refine st_iconst (pc' := 16) dX12_shared_15 rfl ?_
    refine st_istore_n (pc' := 17) (L' := [(3, vI 0), (0, vR (some 74)), (1, vI x1), (2, vI x2)]) dX12_shared_16 rfl rfl (by decide) rfl ?_
    refine st_aload_n (pc' := 18) dX12_shared_17 rfl rfl (j := 1) rfl ?_
    refine G_X12_75_74 dX12_shared_18 (pc' := 21) rfl rfl ?_
    refine st_aload_n (pc' := 22) dX12_shared_21 rfl rfl (j := 1) rfl ?_
    refine G_X12_51_74 dX12_shared_22 (pc' := 25) rfl rfl ?_
    refine st_iaload (pc' := 26) (v := (gi I 83 (gi I 74 13).toNat)) dX12_shared_25 rfl L_83 (by decide) e1 (show gi I 83 (gi I 74 13).toNat = (gi I 83 (gi I 74 13).toNat) from rfl) ?_
    refine st_iconst (pc' := 27) dX12_shared_26 rfl ?_
    refine st_icmp_ge (tg := 42) (pc' := 30) dX12_shared_27 (by decide) rfl (gi_in _ _ _) (by decide) (fun c => ?_) (fun c => ?_)
    · replace h := h.1 c
      refine st_iconst (pc' := 43) dX12_shared_42 rfl ?_
      refine WP_sub (L' := [(0, vR (some 74)), (1, vI x1), (2, vI x2), (3, vI 0)]) [1, 2, 3, 0] rfl ?_
      exact h
    · replace h := h.2 c
      refine st_aload_n (pc' := 31) dX12_shared_30 rfl rfl (j := 1) rfl ?_
      refine G_X12_75_74 dX12_shared_31 (pc' := 34) rfl rfl ?_
      refine st_aload_n (pc' := 35) dX12_shared_34 rfl rfl (j := 1) rfl ?_
      refine G_X12_51_74 dX12_shared_35 (pc' := 38) rfl rfl ?_
      refine st_iaload (pc' := 39) (v := (gi I 83 (gi I 74 13).toNat)) dX12_shared_38 rfl L_83 (by decide) e1 (show gi I 83 (gi I 74 13).toNat = (gi I 83 (gi I 74 13).toNat) from rfl) ?_
      refine st_goto (pc' := 43) dX12_shared_39 (by decide) ?_
      refine WP_sub (L' := [(0, vR (some 74)), (1, vI x1), (2, vI x2), (3, vI 0)]) [1, 2, 3, 0] rfl ?_
      exact h
  · replace h := h.2 (b2i_t.mp c)
    refine st_iload_n (pc' := 9) dX12_shared_8 rfl rfl (j := 1) rfl ?_
    refine st_callS (pc' := 12) (kc := k - 1) (E' := LAY) (cal := m_X12_bits) (n := 1) (as := [vI x1]) (S := []) dX12_shared_9 rfl l_X12_482 k_X12_bits rfl rfl (Nat.le_of_ble_eq_true rfl) (by omega) ⟨Nat.le_refl _, Nat.le_refl _, Nat.le_refl _, Nat.le_refl _⟩ h (fun r M' q => ?_)
    obtain ⟨v4, I5, J6, rfl, rfl, h⟩ := q
    change WP _ LAY m_X12_shared 12 [(0, vR (some 74)), (1, vI x1), (2, vI x2)] [vI v4] (mem (P, some 5, some 22) I5 J6) Q
    refine st_goto (pc' := 16) dX12_shared_12 (by decide) ?_
    refine st_istore_n (pc' := 17) (L' := [(3, vI v4), (0, vR (some 74)), (1, vI x1), (2, vI x2)]) dX12_shared_16 rfl rfl (by decide) rfl ?_
    refine st_aload_n (pc' := 18) dX12_shared_17 rfl rfl (j := 1) rfl ?_
    refine G_X12_75_74 dX12_shared_18 (pc' := 21) rfl rfl ?_
    refine st_aload_n (pc' := 22) dX12_shared_21 rfl rfl (j := 1) rfl ?_
    refine G_X12_51_74 dX12_shared_22 (pc' := 25) rfl rfl ?_
    obtain ⟨e7, h⟩ := h
    refine st_iaload (pc' := 26) (v := (gi I5 83 (gi I5 74 13).toNat)) dX12_shared_25 rfl L_83 (by decide) e7 (show gi I5 83 (gi I5 74 13).toNat = (gi I5 83 (gi I5 74 13).toNat) from rfl) ?_
    refine st_iconst (pc' := 27) dX12_shared_26 rfl ?_
    refine st_icmp_ge (tg := 42) (pc' := 30) dX12_shared_27 (by decide) rfl (gi_in _ _ _) (by decide) (fun c => ?_) (fun c => ?_)
    · replace h := h.1 c
      refine st_iconst (pc' := 43) dX12_shared_42 rfl ?_
      refine WP_sub (L' := [(0, vR (some 74)), (1, vI x1), (2, vI x2), (3, vI v4)]) [1, 2, 3, 0] rfl ?_
      exact h
    · replace h := h.2 c
      refine st_aload_n (pc' := 31) dX12_shared_30 rfl rfl (j := 1) rfl ?_
      refine G_X12_75_74 dX12_shared_31 (pc' := 34) rfl rfl ?_
      refine st_aload_n (pc' := 35) dX12_shared_34 rfl rfl (j := 1) rfl ?_
      refine G_X12_51_74 dX12_shared_35 (pc' := 38) rfl rfl ?_
      refine st_iaload (pc' := 39) (v := (gi I5 83 (gi I5 74 13).toNat)) dX12_shared_38 rfl L_83 (by decide) e7 (show gi I5 83 (gi I5 74 13).toNat = (gi I5 83 (gi I5 74 13).toNat) from rfl) ?_
      refine st_goto (pc' := 43) dX12_shared_39 (by decide) ?_
      refine WP_sub (L' := [(0, vR (some 74)), (1, vI x1), (2, vI x2), (3, vI v4)]) [1, 2, 3, 0] rfl ?_
      exact h
set_option maxRecDepth 20000 in
set_option maxHeartbeats 4000000 in
theorem B_X12_shared_43 {k : Nat} {P : Option Nat} {I : Nat → Nat → Int32} {J : Nat → Nat → Int64} {x1 : Int} {x2 : Int} {x3 : Int} {s0 : Int} {Q : Option AV → Mem → Prop} (hk : 1 ≤ k) (h : inR x3 ∧ ((¬ (1 ≤ x3 ∧ x3 ≤ 8) → (Q (some (vI (-1))) (mem (P, some 5, some 22) I J))) ∧ ((1 ≤ x3 ∧ x3 ≤ 8) → (inR s0 ∧ ((s0 = 0 → (Q (some (vI (-1))) (mem (P, some 5, some 22) I J))) ∧ (¬ s0 = 0 → (inR x2 ∧ ((x2 = (-1) → (WP k LAY m_X12_shared 89 [(0, vR (some 74)), (1, vI x1), (2, vI x2), (3, vI x3), (4, vI s0)] [] (mem (P, some 5, some 22) I J) Q)) ∧ (¬ x2 = (-1) → ((x2 = 20 → (WP k LAY m_X12_shared 89 [(0, vR (some 74)), (1, vI x1), (2, vI x2), (3, vI x3), (4, vI s0)] [] (mem (P, some 5, some 22) I J) Q)) ∧ (¬ x2 = 20 → ((0 ≤ (gi I 74 13) ∧ (gi I 74 13) < 2) ∧ ((¬ (0 ≤ x2 ∧ x2 < gi I 77 (gi I 74 13).toNat) → (Q (some (vI (-1))) (mem (P, some 5, some 22) I J))) ∧ ((0 ≤ x2 ∧ x2 < gi I 77 (gi I 74 13).toNat) → (((and32 (shr32 x1 x2) 1 = 1) → (WP k LAY m_X12_shared 89 [(0, vR (some 74)), (1, vI x1), (2, vI x2), (3, vI x3), (4, vI s0)] [] (mem (P, some 5, some 22) I J) Q)) ∧ (¬ (and32 (shr32 x1 x2) 1 = 1) → (Q (some (vI (-1))) (mem (P, some 5, some 22) I J)))))))))))))))))) : WP k LAY m_X12_shared 43 [(0, vR (some 74)), (1, vI x1), (2, vI x2), (3, vI x3)] [vI s0] (mem (P, some 5, some 22) I J) Q := by
  refine st_istore (pc' := 45) (L' := [(4, vI s0), (0, vR (some 74)), (1, vI x1), (2, vI x2), (3, vI x3)]) dX12_shared_43 rfl (by decide) rfl ?_
  refine st_iload_n (pc' := 46) dX12_shared_45 rfl rfl (j := 4) rfl ?_
  refine st_iconst (pc' := 47) dX12_shared_46 rfl ?_
  refine st_bipush (pc' := 49) dX12_shared_47 rfl (by decide) ?_
  obtain ⟨e1, h⟩ := h
  refine st_callS (pc' := 52) (kc := k - 1) (E' := LAY) (cal := m_X12_is) (n := 3) (as := [vI x3, vI 1, vI 8]) (S := []) dX12_shared_49 rfl l_X12_369 k_X12_is rfl rfl (Nat.le_of_ble_eq_true rfl) (by omega) ⟨Nat.le_refl _, Nat.le_refl _, Nat.le_refl _, Nat.le_refl _⟩ (Q1 := fun r M' => WP k LAY m_X12_shared 52 [(4, vI s0), (0, vR (some 74)), (1, vI x1), (2, vI x2), (3, vI x3)] (r.toList ++ []) M' Q) (S_X12_is (by omega) e1 (by decide) (by decide) ?_) (fun r M' q => q)
  change WP _ LAY m_X12_shared 52 [(4, vI s0), (0, vR (some 74)), (1, vI x1), (2, vI x2), (3, vI x3)] [vI (b2i (1 ≤ x3 ∧ x3 ≤ 8))] (mem (P, some 5, some 22) I J) Q
  refine st_if_eq (tg := 87) (pc' := 55) dX12_shared_52 (by decide) rfl (b2i_in _) (fun c => ?_) (fun c => ?_)
  · replace h := h.1 (b2i_f.mp c)
    refine st_iconst (pc' := 88) dX12_shared_87 rfl ?_
    exact st_iret (ty := .int) dX12_shared_88 rfl rfl rfl h
  · replace h := h.2 (b2i_t.mp c)
    refine st_iload (pc' := 57) dX12_shared_55 rfl (j := 0) rfl ?_
    obtain ⟨e2, h⟩ := h
    refine st_if_eq (tg := 87) (pc' := 60) dX12_shared_57 (by decide) rfl e2 (fun c => ?_) (fun c => ?_)
    · replace h := h.1 c
      refine st_iconst (pc' := 88) dX12_shared_87 rfl ?_
      exact st_iret (ty := .int) dX12_shared_88 rfl rfl rfl h
    · replace h := h.2 c
      refine st_iload_n (pc' := 61) dX12_shared_60 rfl rfl (j := 3) rfl ?_
      refine st_iconst (pc' := 62) dX12_shared_61 rfl ?_
      obtain ⟨e3, h⟩ := h
      refine st_icmp_eq (tg := 89) (pc' := 65) dX12_shared_62 (by decide) rfl e3 (by decide) (fun c => ?_) (fun c => ?_)
      · replace h := h.1 c
        refine WP_sub (L' := [(0, vR (some 74)), (1, vI x1), (2, vI x2), (3, vI x3), (4, vI s0)]) [1, 2, 3, 4, 0] rfl ?_
        exact h
      · replace h := h.2 c
        refine st_iload_n (pc' := 66) dX12_shared_65 rfl rfl (j := 3) rfl ?_
        refine st_bipush (pc' := 68) dX12_shared_66 rfl (by decide) ?_
        refine st_icmp_eq (tg := 89) (pc' := 71) dX12_shared_68 (by decide) rfl e3 (by decide) (fun c => ?_) (fun c => ?_)
        · replace h := h.1 c
          refine WP_sub (L' := [(0, vR (some 74)), (1, vI x1), (2, vI x2), (3, vI x3), (4, vI s0)]) [1, 2, 3, 4, 0] rfl ?_
          exact h
        · replace h := h.2 c
          refine st_aload_n (pc' := 72) dX12_shared_71 rfl rfl (j := 1) rfl ?_
          refine st_iload_n (pc' := 73) dX12_shared_72 rfl rfl (j := 3) rfl ?_
          obtain ⟨e4, h⟩ := h
          refine st_callV (pc' := 76) (kc := k - 1) (E' := LAY) (cal := m_X12_isPage) (n := 1) (as := [vI x2]) (S := []) dX12_shared_73 rfl l_X12_556 k_X12_isPage rfl L_74 c_X12 rfl rfl (Nat.le_of_ble_eq_true rfl) (by omega) ⟨Nat.le_refl _, Nat.le_refl _, Nat.le_refl _, Nat.le_refl _⟩ (Q1 := fun r M' => WP k LAY m_X12_shared 76 [(4, vI s0), (0, vR (some 74)), (1, vI x1), (2, vI x2), (3, vI x3)] (r.toList ++ []) M' Q) (S_X12_isPage (by omega) e4 e3 ?_) (fun r M' q => q)
          change WP _ LAY m_X12_shared 76 [(4, vI s0), (0, vR (some 74)), (1, vI x1), (2, vI x2), (3, vI x3)] [vI (b2i (0 ≤ x2 ∧ x2 < gi I 77 (gi I 74 13).toNat))] (mem (P, some 5, some 22) I J) Q
          refine st_if_eq (tg := 87) (pc' := 79) dX12_shared_76 (by decide) rfl (b2i_in _) (fun c => ?_) (fun c => ?_)
          · replace h := h.1 (b2i_f.mp c)
            refine st_iconst (pc' := 88) dX12_shared_87 rfl ?_
            exact st_iret (ty := .int) dX12_shared_88 rfl rfl rfl h
          · replace h := h.2 (b2i_t.mp c)
            refine st_iload_n (pc' := 80) dX12_shared_79 rfl rfl (j := 2) rfl ?_
            refine st_iload_n (pc' := 81) dX12_shared_80 rfl rfl (j := 3) rfl ?_
            refine st_callS (pc' := 84) (kc := k - 1) (E' := LAY) (cal := m_X12_has) (n := 2) (as := [vI x1, vI x2]) (S := []) dX12_shared_81 rfl l_X12_552 k_X12_has rfl rfl (Nat.le_of_ble_eq_true rfl) (by omega) ⟨Nat.le_refl _, Nat.le_refl _, Nat.le_refl _, Nat.le_refl _⟩ (Q1 := fun r M' => WP k LAY m_X12_shared 84 [(4, vI s0), (0, vR (some 74)), (1, vI x1), (2, vI x2), (3, vI x3)] (r.toList ++ []) M' Q) (S_X12_has (by omega)  ?_) (fun r M' q => q)
            change WP _ LAY m_X12_shared 84 [(4, vI s0), (0, vR (some 74)), (1, vI x1), (2, vI x2), (3, vI x3)] [vI (b2i (and32 (shr32 x1 x2) 1 = 1))] (mem (P, some 5, some 22) I J) Q
            refine st_if_ne (tg := 89) (pc' := 87) dX12_shared_84 (by decide) rfl (b2i_in _) (fun c => ?_) (fun c => ?_)
            · replace h := h.1 (b2i_t.mp c)
              refine WP_sub (L' := [(0, vR (some 74)), (1, vI x1), (2, vI x2), (3, vI x3), (4, vI s0)]) [1, 2, 3, 4, 0] rfl ?_
              exact h
            · replace h := h.2 (b2i_f.mp c)
              refine st_iconst (pc' := 88) dX12_shared_87 rfl ?_
              exact st_iret (ty := .int) dX12_shared_88 rfl rfl rfl h
set_option maxRecDepth 20000 in
set_option maxHeartbeats 4000000 in
theorem B_X12_shared_89 {k : Nat} {P : Option Nat} {I : Nat → Nat → Int32} {J : Nat → Nat → Int64} {x1 : Int} {x2 : Int} {x3 : Int} {x4 : Int} {Q : Option AV → Mem → Prop} (hk : 0 ≤ k) (h : WP k LAY m_X12_shared 95 [(0, vR (some 74)), (1, vI x1), (2, vI x2), (3, vI x3), (4, vI x4), (5, vI 0), (6, vI 0)] [] (mem (P, some 5, some 22) I J) Q) : WP k LAY m_X12_shared 89 [(0, vR (some 74)), (1, vI x1), (2, vI x2), (3, vI x3), (4, vI x4)] [] (mem (P, some 5, some 22) I J) Q := by
  refine st_iconst (pc' := 90) dX12_shared_89 rfl ?_
  refine st_istore (pc' := 92) (L' := [(5, vI 0), (0, vR (some 74)), (1, vI x1), (2, vI x2), (3, vI x3), (4, vI x4)]) dX12_shared_90 rfl (by decide) rfl ?_
  refine st_iconst (pc' := 93) dX12_shared_92 rfl ?_
  refine st_istore (pc' := 95) (L' := [(6, vI 0), (5, vI 0), (0, vR (some 74)), (1, vI x1), (2, vI x2), (3, vI x3), (4, vI x4)]) dX12_shared_93 rfl (by decide) rfl ?_
  refine WP_sub (L' := [(0, vR (some 74)), (1, vI x1), (2, vI x2), (3, vI x3), (4, vI x4), (5, vI 0), (6, vI 0)]) [2, 3, 4, 5, 6, 1, 0] rfl ?_
  exact h
set_option maxRecDepth 20000 in
set_option maxHeartbeats 4000000 in
theorem B_X12_shared_95 {k : Nat} {P : Option Nat} {I : Nat → Nat → Int32} {J : Nat → Nat → Int64} {x1 : Int} {x2 : Int} {x3 : Int} {x4 : Int} {x5 : Int} {x6 : Int} {Q : Option AV → Mem → Prop} (hk : 1 ≤ k) (h : (0 ≤ (gi I 74 13) ∧ (gi I 74 13) < 2) ∧ (inR x6 ∧ (((gi I 77 (gi I 74 13).toNat) ≤ x6 → (WPm (k - 1) LAY m_X12_shares [vR (some 74), vI x3, vI x4] (mem (P, some 5, some 22) I J) (retI (fun v3 I4 J5 => inR v3 ∧ ((¬ v3 = 0 → (inR x2 ∧ ((¬ x2 = (-1) → ((¬ x2 = 20 → (WPm (k - 1) LAY m_X12_bits [vI (and32 x1 ((shl32 1 x2) - 1))] (mem (P, some 5, some 22) I4 J5) (retI (fun v8 I9 J10 => (0 ≤ v8 ∧ v8 < 8) ∧ (Q (some (vI (gi I9 128 (v8).toNat))) (mem (P, some 5, some 22) I9 J10))) (P, some 5, some 22)))) ∧ (x2 = 20 → (Q (some (vI (gi I4 74 83))) (mem (P, some 5, some 22) I4 J5))))) ∧ (x2 = (-1) → (Q (some (vI (gi I4 74 82))) (mem (P, some 5, some 22) I4 J5)))))) ∧ (v3 = 0 → (Q (some (vI (-1))) (mem (P, some 5, some 22) I4 J5))))) (P, some 5, some 22)))) ∧ (¬ (gi I 77 (gi I 74 13).toNat) ≤ x6 → (((and32 (shr32 x1 x6) 1 = 1) → ((0 ≤ x5 ∧ x5 < 8) ∧ (WP k LAY m_X12_shared 95 [(0, vR (some 74)), (1, vI x1), (2, vI x2), (3, vI x3), (4, vI x4), (5, vI (x5 + 1)), (6, vI (x6 + 1))] [] (mem (P, some 5, some 22) (si I 125 (x5).toNat x6) J) Q))) ∧ (¬ (and32 (shr32 x1 x6) 1 = 1) → (WP k LAY m_X12_shared 95 [(0, vR (some 74)), (1, vI x1), (2, vI x2), (3, vI x3), (4, vI x4), (5, vI x5), (6, vI (x6 + 1))] [] (mem (P, some 5, some 22) I J) Q))))))) : WP k LAY m_X12_shared 95 [(0, vR (some 74)), (1, vI x1), (2, vI x2), (3, vI x3), (4, vI x4), (5, vI x5), (6, vI x6)] [] (mem (P, some 5, some 22) I J) Q := by
  refine st_iload (pc' := 97) dX12_shared_95 rfl (j := 6) rfl ?_
  refine st_aload_n (pc' := 98) dX12_shared_97 rfl rfl (j := 0) rfl ?_
  refine G_X12_57_74 dX12_shared_98 (pc' := 101) rfl rfl ?_
  refine st_aload_n (pc' := 102) dX12_shared_101 rfl rfl (j := 0) rfl ?_
  refine G_X12_51_74 dX12_shared_102 (pc' := 105) rfl rfl ?_
  obtain ⟨e1, h⟩ := h
  refine st_iaload (pc' := 106) (v := (gi I 77 (gi I 74 13).toNat)) dX12_shared_105 rfl L_77 (by decide) e1 (show gi I 77 (gi I 74 13).toNat = (gi I 77 (gi I 74 13).toNat) from rfl) ?_
  obtain ⟨e2, h⟩ := h
  refine st_icmp_ge (tg := 139) (pc' := 109) dX12_shared_106 (by decide) rfl e2 (gi_in _ _ _) (fun c => ?_) (fun c => ?_)
  · replace h := h.1 c
    refine st_aload_n (pc' := 140) dX12_shared_139 rfl rfl (j := 0) rfl ?_
    refine st_iload_n (pc' := 141) dX12_shared_140 rfl rfl (j := 3) rfl ?_
    refine st_iload (pc' := 143) dX12_shared_141 rfl (j := 4) rfl ?_
    refine st_callV (pc' := 146) (kc := k - 1) (E' := LAY) (cal := m_X12_shares) (n := 2) (as := [vI x3, vI x4]) (S := []) dX12_shared_143 rfl l_X12_611 k_X12_shares rfl L_74 c_X12 rfl rfl (Nat.le_of_ble_eq_true rfl) (by omega) ⟨Nat.le_refl _, Nat.le_refl _, Nat.le_refl _, Nat.le_refl _⟩ h (fun r M' q => ?_)
    obtain ⟨v3, I4, J5, rfl, rfl, h⟩ := q
    change WP _ LAY m_X12_shared 146 [(0, vR (some 74)), (1, vI x1), (2, vI x2), (3, vI x3), (4, vI x4), (5, vI x5), (6, vI x6)] [vI v3] (mem (P, some 5, some 22) I4 J5) Q
    obtain ⟨e6, h⟩ := h
    refine st_if_ne (tg := 151) (pc' := 149) dX12_shared_146 (by decide) rfl e6 (fun c => ?_) (fun c => ?_)
    · replace h := h.1 c
      refine st_iload_n (pc' := 152) dX12_shared_151 rfl rfl (j := 2) rfl ?_
      refine st_iconst (pc' := 153) dX12_shared_152 rfl ?_
      obtain ⟨e7, h⟩ := h
      refine st_icmp_ne (tg := 163) (pc' := 156) dX12_shared_153 (by decide) rfl e7 (by decide) (fun c => ?_) (fun c => ?_)
      · replace h := h.1 c
        refine st_iload_n (pc' := 164) dX12_shared_163 rfl rfl (j := 2) rfl ?_
        refine st_bipush (pc' := 166) dX12_shared_164 rfl (by decide) ?_
        refine st_icmp_ne (tg := 176) (pc' := 169) dX12_shared_166 (by decide) rfl e7 (by decide) (fun c => ?_) (fun c => ?_)
        · replace h := h.1 c
          refine st_aload_n (pc' := 177) dX12_shared_176 rfl rfl (j := 0) rfl ?_
          refine G_X12_258_74 dX12_shared_177 (pc' := 180) rfl rfl ?_
          refine st_iload_n (pc' := 181) dX12_shared_180 rfl rfl (j := 1) rfl ?_
          refine st_iconst (pc' := 182) dX12_shared_181 rfl ?_
          refine st_iload_n (pc' := 183) dX12_shared_182 rfl rfl (j := 2) rfl ?_
          refine st_ishl (pc' := 184) (z := (shl32 1 x2)) dX12_shared_183 rfl rfl ?_
          refine st_iconst (pc' := 185) dX12_shared_184 rfl ?_
          refine st_isub (pc' := 186) dX12_shared_185 rfl ?_
          refine st_iand (pc' := 187) (z := (and32 x1 ((shl32 1 x2) - 1))) dX12_shared_186 rfl rfl ?_
          refine st_callS (pc' := 190) (kc := k - 1) (E' := LAY) (cal := m_X12_bits) (n := 1) (as := [vI (and32 x1 ((shl32 1 x2) - 1))]) (S := [vR (some 128)]) dX12_shared_187 rfl l_X12_482 k_X12_bits rfl rfl (Nat.le_of_ble_eq_true rfl) (by omega) ⟨Nat.le_refl _, Nat.le_refl _, Nat.le_refl _, Nat.le_refl _⟩ h (fun r M' q => ?_)
          obtain ⟨v8, I9, J10, rfl, rfl, h⟩ := q
          change WP _ LAY m_X12_shared 190 [(0, vR (some 74)), (1, vI x1), (2, vI x2), (3, vI x3), (4, vI x4), (5, vI x5), (6, vI x6)] [vI v8, vR (some 128)] (mem (P, some 5, some 22) I9 J10) Q
          obtain ⟨e11, h⟩ := h
          refine st_iaload (pc' := 191) (v := (gi I9 128 (v8).toNat)) dX12_shared_190 rfl L_128 (by decide) e11 (show gi I9 128 (v8).toNat = (gi I9 128 (v8).toNat) from rfl) ?_
          exact st_iret (ty := .int) dX12_shared_191 rfl rfl rfl h
        · replace h := h.2 c
          refine st_aload_n (pc' := 170) dX12_shared_169 rfl rfl (j := 0) rfl ?_
          refine G_X12_264_74 dX12_shared_170 (pc' := 173) rfl rfl ?_
          refine st_goto (pc' := 191) dX12_shared_173 (by decide) ?_
          exact st_iret (ty := .int) dX12_shared_191 rfl rfl rfl h
      · replace h := h.2 c
        refine st_aload_n (pc' := 157) dX12_shared_156 rfl rfl (j := 0) rfl ?_
        refine G_X12_261_74 dX12_shared_157 (pc' := 160) rfl rfl ?_
        refine st_goto (pc' := 191) dX12_shared_160 (by decide) ?_
        exact st_iret (ty := .int) dX12_shared_191 rfl rfl rfl h
    · replace h := h.2 c
      refine st_iconst (pc' := 150) dX12_shared_149 rfl ?_
      exact st_iret (ty := .int) dX12_shared_150 rfl rfl rfl h
  · replace h := h.2 c
    refine st_iload_n (pc' := 110) dX12_shared_109 rfl rfl (j := 1) rfl ?_
    refine st_iload (pc' := 112) dX12_shared_110 rfl (j := 6) rfl ?_
    refine st_callS (pc' := 115) (kc := k - 1) (E' := LAY) (cal := m_X12_has) (n := 2) (as := [vI x1, vI x6]) (S := []) dX12_shared_112 rfl l_X12_552 k_X12_has rfl rfl (Nat.le_of_ble_eq_true rfl) (by omega) ⟨Nat.le_refl _, Nat.le_refl _, Nat.le_refl _, Nat.le_refl _⟩ (Q1 := fun r M' => WP k LAY m_X12_shared 115 [(0, vR (some 74)), (1, vI x1), (2, vI x2), (3, vI x3), (4, vI x4), (5, vI x5), (6, vI x6)] (r.toList ++ []) M' Q) (S_X12_has (by omega)  ?_) (fun r M' q => q)
    change WP _ LAY m_X12_shared 115 [(0, vR (some 74)), (1, vI x1), (2, vI x2), (3, vI x3), (4, vI x4), (5, vI x5), (6, vI x6)] [vI (b2i (and32 (shr32 x1 x6) 1 = 1))] (mem (P, some 5, some 22) I J) Q
    refine st_if_ne (tg := 121) (pc' := 118) dX12_shared_115 (by decide) rfl (b2i_in _) (fun c => ?_) (fun c => ?_)
    · replace h := h.1 (b2i_t.mp c)
      refine st_aload_n (pc' := 122) dX12_shared_121 rfl rfl (j := 0) rfl ?_
      refine G_X12_249_74 dX12_shared_122 (pc' := 125) rfl rfl ?_
      refine st_iload (pc' := 127) dX12_shared_125 rfl (j := 5) rfl ?_
      refine st_iload (pc' := 129) dX12_shared_127 rfl (j := 6) rfl ?_
      obtain ⟨e12, h⟩ := h
      refine st_iastore (pc' := 130) (M' := (mem (P, some 5, some 22) (si I 125 (x5).toNat x6) J)) dX12_shared_129 rfl L_125 (by decide) e12 rfl ?_
      refine st_iinc (pc' := 133) (L' := [(5, vI (x5 + 1)), (0, vR (some 74)), (1, vI x1), (2, vI x2), (3, vI x3), (4, vI x4), (6, vI x6)]) (j := 5) dX12_shared_130 rfl (by decide) rfl rfl ?_
      refine st_iinc (pc' := 136) (L' := [(6, vI (x6 + 1)), (5, vI (x5 + 1)), (0, vR (some 74)), (1, vI x1), (2, vI x2), (3, vI x3), (4, vI x4)]) (j := 6) dX12_shared_133 rfl (by decide) rfl rfl ?_
      refine st_goto (pc' := 95) dX12_shared_136 (by decide) ?_
      refine WP_sub (L' := [(0, vR (some 74)), (1, vI x1), (2, vI x2), (3, vI x3), (4, vI x4), (5, vI (x5 + 1)), (6, vI (x6 + 1))]) [2, 3, 4, 5, 6, 1, 0] rfl ?_
      exact h
    · replace h := h.2 (b2i_f.mp c)
      refine st_goto (pc' := 133) dX12_shared_118 (by decide) ?_
      refine st_iinc (pc' := 136) (L' := [(6, vI (x6 + 1)), (0, vR (some 74)), (1, vI x1), (2, vI x2), (3, vI x3), (4, vI x4), (5, vI x5)]) (j := 6) dX12_shared_133 rfl (by decide) rfl rfl ?_
      refine st_goto (pc' := 95) dX12_shared_136 (by decide) ?_
      refine WP_sub (L' := [(0, vR (some 74)), (1, vI x1), (2, vI x2), (3, vI x3), (4, vI x4), (5, vI x5), (6, vI (x6 + 1))]) [1, 2, 3, 4, 5, 6, 0] rfl ?_
      exact h
set_option maxRecDepth 20000 in
set_option maxHeartbeats 4000000 in
theorem B_X12_status_0 {k : Nat} {P : Option Nat} {I : Nat → Nat → Int32} {J : Nat → Nat → Int64} {x1 : Int} {Q : Option AV → Mem → Prop} (hk : 1 ≤ k) (h : inR x1 ∧ ((¬ (0 ≤ x1 ∧ x1 ≤ 5) → (Q (some (vI (-1))) (mem (P, some 5, some 22) I J))) ∧ ((0 ≤ x1 ∧ x1 ≤ 5) → ((0 ≤ x1 ∧ x1 < 6) ∧ (Q (some (vI (gi I 107 (x1).toNat))) (mem (P, some 5, some 22) I J)))))) : WP k LAY m_X12_status 0 [(0, vR (some 74)), (1, vI x1)] [] (mem (P, some 5, some 22) I J) Q := by
  refine st_iload_n (pc' := 1) dX12_status_0 rfl rfl (j := 1) rfl ?_
  refine st_iconst (pc' := 2) dX12_status_1 rfl ?_
  refine st_iconst (pc' := 3) dX12_status_2 rfl ?_
  obtain ⟨e1, h⟩ := h
  refine st_callS (pc' := 6) (kc := k - 1) (E' := LAY) (cal := m_X12_is) (n := 3) (as := [vI x1, vI 0, vI 5]) (S := []) dX12_status_3 rfl l_X12_369 k_X12_is rfl rfl (Nat.le_of_ble_eq_true rfl) (by omega) ⟨Nat.le_refl _, Nat.le_refl _, Nat.le_refl _, Nat.le_refl _⟩ (Q1 := fun r M' => WP k LAY m_X12_status 6 [(0, vR (some 74)), (1, vI x1)] (r.toList ++ []) M' Q) (S_X12_is (by omega) e1 (by decide) (by decide) ?_) (fun r M' q => q)
  change WP _ LAY m_X12_status 6 [(0, vR (some 74)), (1, vI x1)] [vI (b2i (0 ≤ x1 ∧ x1 ≤ 5))] (mem (P, some 5, some 22) I J) Q
  refine st_if_eq (tg := 18) (pc' := 9) dX12_status_6 (by decide) rfl (b2i_in _) (fun c => ?_) (fun c => ?_)
  · replace h := h.1 (b2i_f.mp c)
    refine st_iconst (pc' := 19) dX12_status_18 rfl ?_
    exact st_iret (ty := .int) dX12_status_19 rfl rfl rfl h
  · replace h := h.2 (b2i_t.mp c)
    refine st_aload_n (pc' := 10) dX12_status_9 rfl rfl (j := 0) rfl ?_
    refine G_X12_168_74 dX12_status_10 (pc' := 13) rfl rfl ?_
    refine st_iload_n (pc' := 14) dX12_status_13 rfl rfl (j := 1) rfl ?_
    obtain ⟨e2, h⟩ := h
    refine st_iaload (pc' := 15) (v := (gi I 107 (x1).toNat)) dX12_status_14 rfl L_107 (by decide) e2 (show gi I 107 (x1).toNat = (gi I 107 (x1).toNat) from rfl) ?_
    refine st_goto (pc' := 19) dX12_status_15 (by decide) ?_
    exact st_iret (ty := .int) dX12_status_19 rfl rfl rfl h
set_option maxRecDepth 20000 in
set_option maxHeartbeats 4000000 in
theorem B_X12_table_0 {k : Nat} {P : Option Nat} {I : Nat → Nat → Int32} {J : Nat → Nat → Int64} {x1 : Int} {x2 : Int} {Q : Option AV → Mem → Prop} (hk : 1 ≤ k) (h : (0 ≤ (gi I 74 13) ∧ (gi I 74 13) < 2) ∧ (inR x1 ∧ (((0 ≤ x1 ∧ x1 < gi I 86 (gi I 74 13).toNat) → (inR x2 ∧ ((¬ x2 = 0 → ((¬ x2 = 1 → ((¬ x2 = 2 → (Q (some (vI (-1))) (mem (P, some 5, some 22) I J))) ∧ (x2 = 2 → (WPm (k - 1) LAY m_X12_lightOf [vR (some 74), vI 0, vI x1] (mem (P, some 5, some 22) I J) (retI (fun v4 I5 J6 => Q (some (vI v4)) (mem (P, some 5, some 22) I5 J6)) (P, some 5, some 22)))))) ∧ (x2 = 1 → (WPm (k - 1) LAY m_X12_sitting [vR (some 74), vI 0, vI x1] (mem (P, some 5, some 22) I J) (retI (fun v7 I8 J9 => Q (some (vI v7)) (mem (P, some 5, some 22) I8 J9)) (P, some 5, some 22)))))) ∧ (x2 = 0 → ((0 ≤ ((5 * (gi I 74 13)) + x1) ∧ ((5 * (gi I 74 13)) + x1) < 10) ∧ (Q (some (vI (gi I 87 (((5 * (gi I 74 13)) + x1) : Int).toNat))) (mem (P, some 5, some 22) I J))))))) ∧ (¬ (0 ≤ x1 ∧ x1 < gi I 86 (gi I 74 13).toNat) → (Q (some (vI (-1))) (mem (P, some 5, some 22) I J)))))) : WP k LAY m_X12_table 0 [(0, vR (some 74)), (1, vI x1), (2, vI x2)] [] (mem (P, some 5, some 22) I J) Q := by
  refine st_aload_n (pc' := 1) dX12_table_0 rfl rfl (j := 0) rfl ?_
  refine st_iload_n (pc' := 2) dX12_table_1 rfl rfl (j := 1) rfl ?_
  obtain ⟨e1, h⟩ := h
  obtain ⟨e2, h⟩ := h
  refine st_callV (pc' := 5) (kc := k - 1) (E' := LAY) (cal := m_X12_isTable) (n := 1) (as := [vI x1]) (S := []) dX12_table_2 rfl l_X12_565 k_X12_isTable rfl L_74 c_X12 rfl rfl (Nat.le_of_ble_eq_true rfl) (by omega) ⟨Nat.le_refl _, Nat.le_refl _, Nat.le_refl _, Nat.le_refl _⟩ (Q1 := fun r M' => WP k LAY m_X12_table 5 [(0, vR (some 74)), (1, vI x1), (2, vI x2)] (r.toList ++ []) M' Q) (S_X12_isTable (by omega) e1 e2 ?_) (fun r M' q => q)
  change WP _ LAY m_X12_table 5 [(0, vR (some 74)), (1, vI x1), (2, vI x2)] [vI (b2i (0 ≤ x1 ∧ x1 < gi I 86 (gi I 74 13).toNat))] (mem (P, some 5, some 22) I J) Q
  refine st_if_ne (tg := 10) (pc' := 8) dX12_table_5 (by decide) rfl (b2i_in _) (fun c => ?_) (fun c => ?_)
  · replace h := h.1 (b2i_t.mp c)
    refine st_iload_n (pc' := 11) dX12_table_10 rfl rfl (j := 2) rfl ?_
    obtain ⟨e3, h⟩ := h
    refine st_if_ne (tg := 30) (pc' := 14) dX12_table_11 (by decide) rfl e3 (fun c => ?_) (fun c => ?_)
    · replace h := h.1 c
      refine st_iload_n (pc' := 31) dX12_table_30 rfl rfl (j := 2) rfl ?_
      refine st_iconst (pc' := 32) dX12_table_31 rfl ?_
      refine st_icmp_ne (tg := 44) (pc' := 35) dX12_table_32 (by decide) rfl e3 (by decide) (fun c => ?_) (fun c => ?_)
      · replace h := h.1 c
        refine st_iload_n (pc' := 45) dX12_table_44 rfl rfl (j := 2) rfl ?_
        refine st_iconst (pc' := 46) dX12_table_45 rfl ?_
        refine st_icmp_ne (tg := 58) (pc' := 49) dX12_table_46 (by decide) rfl e3 (by decide) (fun c => ?_) (fun c => ?_)
        · replace h := h.1 c
          refine st_iconst (pc' := 59) dX12_table_58 rfl ?_
          exact st_iret (ty := .int) dX12_table_59 rfl rfl rfl h
        · replace h := h.2 c
          refine st_aload_n (pc' := 50) dX12_table_49 rfl rfl (j := 0) rfl ?_
          refine st_iconst (pc' := 51) dX12_table_50 rfl ?_
          refine st_iload_n (pc' := 52) dX12_table_51 rfl rfl (j := 1) rfl ?_
          refine st_callV (pc' := 55) (kc := k - 1) (E' := LAY) (cal := m_X12_lightOf) (n := 2) (as := [vI 0, vI x1]) (S := []) dX12_table_52 rfl l_X12_541 k_X12_lightOf rfl L_74 c_X12 rfl rfl (Nat.le_of_ble_eq_true rfl) (by omega) ⟨Nat.le_refl _, Nat.le_refl _, Nat.le_refl _, Nat.le_refl _⟩ h (fun r M' q => ?_)
          obtain ⟨v4, I5, J6, rfl, rfl, h⟩ := q
          change WP _ LAY m_X12_table 55 [(0, vR (some 74)), (1, vI x1), (2, vI x2)] [vI v4] (mem (P, some 5, some 22) I5 J6) Q
          refine st_goto (pc' := 59) dX12_table_55 (by decide) ?_
          exact st_iret (ty := .int) dX12_table_59 rfl rfl rfl h
      · replace h := h.2 c
        refine st_aload_n (pc' := 36) dX12_table_35 rfl rfl (j := 0) rfl ?_
        refine st_iconst (pc' := 37) dX12_table_36 rfl ?_
        refine st_iload_n (pc' := 38) dX12_table_37 rfl rfl (j := 1) rfl ?_
        refine st_callV (pc' := 41) (kc := k - 1) (E' := LAY) (cal := m_X12_sitting) (n := 2) (as := [vI 0, vI x1]) (S := []) dX12_table_38 rfl l_X12_488 k_X12_sitting rfl L_74 c_X12 rfl rfl (Nat.le_of_ble_eq_true rfl) (by omega) ⟨Nat.le_refl _, Nat.le_refl _, Nat.le_refl _, Nat.le_refl _⟩ h (fun r M' q => ?_)
        obtain ⟨v7, I8, J9, rfl, rfl, h⟩ := q
        change WP _ LAY m_X12_table 41 [(0, vR (some 74)), (1, vI x1), (2, vI x2)] [vI v7] (mem (P, some 5, some 22) I8 J9) Q
        refine st_goto (pc' := 59) dX12_table_41 (by decide) ?_
        exact st_iret (ty := .int) dX12_table_59 rfl rfl rfl h
    · replace h := h.2 c
      refine st_aload_n (pc' := 15) dX12_table_14 rfl rfl (j := 0) rfl ?_
      refine G_X12_87_74 dX12_table_15 (pc' := 18) rfl rfl ?_
      refine st_iconst (pc' := 19) dX12_table_18 rfl ?_
      refine st_aload_n (pc' := 20) dX12_table_19 rfl rfl (j := 0) rfl ?_
      refine G_X12_51_74 dX12_table_20 (pc' := 23) rfl rfl ?_
      refine st_imul (pc' := 24) dX12_table_23 rfl ?_
      refine st_iload_n (pc' := 25) dX12_table_24 rfl rfl (j := 1) rfl ?_
      refine st_iadd (pc' := 26) dX12_table_25 rfl ?_
      obtain ⟨e10, h⟩ := h
      refine st_iaload (pc' := 27) (v := (gi I 87 (((5 * (gi I 74 13)) + x1) : Int).toNat)) dX12_table_26 rfl L_87 (by decide) e10 (show gi I 87 (((5 * (gi I 74 13)) + x1) : Int).toNat = (gi I 87 (((5 * (gi I 74 13)) + x1) : Int).toNat) from rfl) ?_
      refine st_goto (pc' := 59) dX12_table_27 (by decide) ?_
      exact st_iret (ty := .int) dX12_table_59 rfl rfl rfl h
  · replace h := h.2 (b2i_f.mp c)
    refine st_iconst (pc' := 9) dX12_table_8 rfl ?_
    exact st_iret (ty := .int) dX12_table_9 rfl rfl rfl h
set_option maxRecDepth 20000 in
set_option maxHeartbeats 4000000 in
theorem B_X12_takes_0 {k : Nat} {P : Option Nat} {I : Nat → Nat → Int32} {J : Nat → Nat → Int64} {x1 : Int} {x2 : Int} {Q : Option AV → Mem → Prop} (hk : 1 ≤ k) (h : (0 ≤ (gi I 74 13) ∧ (gi I 74 13) < 2) ∧ (inR x1 ∧ ((¬ (0 ≤ x1 ∧ x1 < gi I 83 (gi I 74 13).toNat) → (Q (some (vI (-1))) (mem (P, some 5, some 22) I J))) ∧ ((0 ≤ x1 ∧ x1 < gi I 83 (gi I 74 13).toNat) → (inR x2 ∧ ((¬ (0 ≤ x2 ∧ x2 < gi I 77 (gi I 74 13).toNat) → (Q (some (vI (-1))) (mem (P, some 5, some 22) I J))) ∧ ((0 ≤ x2 ∧ x2 < gi I 77 (gi I 74 13).toNat) → (WPm (k - 1) LAY m_X12_longOf [vR (some 74), vI 0, vI x1, vI x2] (mem (P, some 5, some 22) I J) (retI (fun v4 I5 J6 => Q (some (vI v4)) (mem (P, some 5, some 22) I5 J6)) (P, some 5, some 22)))))))))) : WP k LAY m_X12_takes 0 [(0, vR (some 74)), (1, vI x1), (2, vI x2)] [] (mem (P, some 5, some 22) I J) Q := by
  refine st_aload_n (pc' := 1) dX12_takes_0 rfl rfl (j := 0) rfl ?_
  refine st_iload_n (pc' := 2) dX12_takes_1 rfl rfl (j := 1) rfl ?_
  obtain ⟨e1, h⟩ := h
  obtain ⟨e2, h⟩ := h
  refine st_callV (pc' := 5) (kc := k - 1) (E' := LAY) (cal := m_X12_isReader) (n := 1) (as := [vI x1]) (S := []) dX12_takes_2 rfl l_X12_562 k_X12_isReader rfl L_74 c_X12 rfl rfl (Nat.le_of_ble_eq_true rfl) (by omega) ⟨Nat.le_refl _, Nat.le_refl _, Nat.le_refl _, Nat.le_refl _⟩ (Q1 := fun r M' => WP k LAY m_X12_takes 5 [(0, vR (some 74)), (1, vI x1), (2, vI x2)] (r.toList ++ []) M' Q) (S_X12_isReader (by omega) e1 e2 ?_) (fun r M' q => q)
  change WP _ LAY m_X12_takes 5 [(0, vR (some 74)), (1, vI x1), (2, vI x2)] [vI (b2i (0 ≤ x1 ∧ x1 < gi I 83 (gi I 74 13).toNat))] (mem (P, some 5, some 22) I J) Q
  refine st_if_eq (tg := 26) (pc' := 8) dX12_takes_5 (by decide) rfl (b2i_in _) (fun c => ?_) (fun c => ?_)
  · replace h := h.1 (b2i_f.mp c)
    refine st_iconst (pc' := 27) dX12_takes_26 rfl ?_
    exact st_iret (ty := .int) dX12_takes_27 rfl rfl rfl h
  · replace h := h.2 (b2i_t.mp c)
    refine st_aload_n (pc' := 9) dX12_takes_8 rfl rfl (j := 0) rfl ?_
    refine st_iload_n (pc' := 10) dX12_takes_9 rfl rfl (j := 2) rfl ?_
    obtain ⟨e3, h⟩ := h
    refine st_callV (pc' := 13) (kc := k - 1) (E' := LAY) (cal := m_X12_isPage) (n := 1) (as := [vI x2]) (S := []) dX12_takes_10 rfl l_X12_556 k_X12_isPage rfl L_74 c_X12 rfl rfl (Nat.le_of_ble_eq_true rfl) (by omega) ⟨Nat.le_refl _, Nat.le_refl _, Nat.le_refl _, Nat.le_refl _⟩ (Q1 := fun r M' => WP k LAY m_X12_takes 13 [(0, vR (some 74)), (1, vI x1), (2, vI x2)] (r.toList ++ []) M' Q) (S_X12_isPage (by omega) e1 e3 ?_) (fun r M' q => q)
    change WP _ LAY m_X12_takes 13 [(0, vR (some 74)), (1, vI x1), (2, vI x2)] [vI (b2i (0 ≤ x2 ∧ x2 < gi I 77 (gi I 74 13).toNat))] (mem (P, some 5, some 22) I J) Q
    refine st_if_eq (tg := 26) (pc' := 16) dX12_takes_13 (by decide) rfl (b2i_in _) (fun c => ?_) (fun c => ?_)
    · replace h := h.1 (b2i_f.mp c)
      refine st_iconst (pc' := 27) dX12_takes_26 rfl ?_
      exact st_iret (ty := .int) dX12_takes_27 rfl rfl rfl h
    · replace h := h.2 (b2i_t.mp c)
      refine st_aload_n (pc' := 17) dX12_takes_16 rfl rfl (j := 0) rfl ?_
      refine st_iconst (pc' := 18) dX12_takes_17 rfl ?_
      refine st_iload_n (pc' := 19) dX12_takes_18 rfl rfl (j := 1) rfl ?_
      refine st_iload_n (pc' := 20) dX12_takes_19 rfl rfl (j := 2) rfl ?_
      refine st_callV (pc' := 23) (kc := k - 1) (E' := LAY) (cal := m_X12_longOf) (n := 3) (as := [vI 0, vI x1, vI x2]) (S := []) dX12_takes_20 rfl l_X12_530 k_X12_longOf rfl L_74 c_X12 rfl rfl (Nat.le_of_ble_eq_true rfl) (by omega) ⟨Nat.le_refl _, Nat.le_refl _, Nat.le_refl _, Nat.le_refl _⟩ h (fun r M' q => ?_)
      obtain ⟨v4, I5, J6, rfl, rfl, h⟩ := q
      change WP _ LAY m_X12_takes 23 [(0, vR (some 74)), (1, vI x1), (2, vI x2)] [vI v4] (mem (P, some 5, some 22) I5 J6) Q
      refine st_goto (pc' := 27) dX12_takes_23 (by decide) ?_
      exact st_iret (ty := .int) dX12_takes_27 rfl rfl rfl h
set_option maxRecDepth 20000 in
set_option maxHeartbeats 4000000 in
theorem B_X12_tell_0 {k : Nat} {P : Option Nat} {I : Nat → Nat → Int32} {J : Nat → Nat → Int64} {x1 : Int} {x2 : Int} {x3 : Int} {Q : Option AV → Mem → Prop} (hk : 1 ≤ k) (h : (0 ≤ (gi I 74 13) ∧ (gi I 74 13) < 2) ∧ (inR x1 ∧ ((¬ (0 ≤ x1 ∧ x1 < gi I 83 (gi I 74 13).toNat) → (Q (some (vI 0)) (mem (P, some 5, some 22) (si I 107 2 ((gi I 107 2) + 1)) J))) ∧ ((0 ≤ x1 ∧ x1 < gi I 83 (gi I 74 13).toNat) → (inR x2 ∧ ((¬ (0 ≤ x2 ∧ x2 < gi I 83 (gi I 74 13).toNat) → (Q (some (vI 0)) (mem (P, some 5, some 22) (si I 107 2 ((gi I 107 2) + 1)) J))) ∧ ((0 ≤ x2 ∧ x2 < gi I 83 (gi I 74 13).toNat) → ((x1 = x2 → (Q (some (vI 0)) (mem (P, some 5, some 22) (si I 107 2 ((gi I 107 2) + 1)) J))) ∧ (¬ x1 = x2 → (inR x3 ∧ ((¬ (0 ≤ x3 ∧ x3 < gi I 77 (gi I 74 13).toNat) → (Q (some (vI 0)) (mem (P, some 5, some 22) (si I 107 2 ((gi I 107 2) + 1)) J))) ∧ ((0 ≤ x3 ∧ x3 < gi I 77 (gi I 74 13).toNat) → ((0 ≤ x1 ∧ x1 < 132) ∧ ((0 ≤ x2 ∧ x2 < 132) ∧ ((¬ (gi I 110 (x1).toNat) = (gi I 110 (x2).toNat) → (Q (some (vI 0)) (mem (P, some 5, some 22) (si I 107 2 ((gi I 107 2) + 1)) J))) ∧ ((gi I 110 (x1).toNat) = (gi I 110 (x2).toNat) → ((¬ (and32 (shr32 (gi I 111 (x1).toNat) x3) 1 = 1) → (Q (some (vI 0)) (mem (P, some 5, some 22) (si I 107 2 ((gi I 107 2) + 1)) J))) ∧ ((and32 (shr32 (gi I 111 (x1).toNat) x3) 1 = 1) → (WPm (k - 1) LAY m_X12_mayHear [vR (some 74), vI x2, vI x3] (mem (P, some 5, some 22) I J) (retI (fun v7 I8 J9 => inR v7 ∧ ((v7 = 0 → (Q (some (vI 0)) (mem (P, some 5, some 22) (si I8 107 2 ((gi I8 107 2) + 1)) J9))) ∧ (¬ v7 = 0 → (WPm (k - 1) LAY m_X12_keeps [vR (some 74)] (mem (P, some 5, some 22) I8 J9) (retV (fun I12 J13 => WPm (k - 1) LAY m_X12_unlists [vR (some 74), vI x2, vI x3] (mem (P, some 5, some 22) (si I12 112 (x2).toNat (or32 (gi I12 112 (x2).toNat) (shl32 1 x3))) J13) (retV (fun I15 J16 => (¬ (gi I15 113 (x2).toNat) = x3 → (Q (some (vI 1)) (mem (P, some 5, some 22) I15 J16))) ∧ ((gi I15 113 (x2).toNat) = x3 → (Q (some (vI 1)) (mem (P, some 5, some 22) (si (si I15 113 (x2).toNat (-1)) 114 (x2).toNat 0) J16)))) (P, some 5, some 22))) (P, some 5, some 22)))))) (P, some 5, some 22))))))))))))))))))))) : WP k LAY m_X12_tell 0 [(0, vR (some 74)), (1, vI x1), (2, vI x2), (3, vI x3)] [] (mem (P, some 5, some 22) I J) Q := by
  refine st_aload_n (pc' := 1) dX12_tell_0 rfl rfl (j := 0) rfl ?_
  refine st_iload_n (pc' := 2) dX12_tell_1 rfl rfl (j := 1) rfl ?_
  obtain ⟨e1, h⟩ := h
  obtain ⟨e2, h⟩ := h
  refine st_callV (pc' := 5) (kc := k - 1) (E' := LAY) (cal := m_X12_isReader) (n := 1) (as := [vI x1]) (S := []) dX12_tell_2 rfl l_X12_562 k_X12_isReader rfl L_74 c_X12 rfl rfl (Nat.le_of_ble_eq_true rfl) (by omega) ⟨Nat.le_refl _, Nat.le_refl _, Nat.le_refl _, Nat.le_refl _⟩ (Q1 := fun r M' => WP k LAY m_X12_tell 5 [(0, vR (some 74)), (1, vI x1), (2, vI x2), (3, vI x3)] (r.toList ++ []) M' Q) (S_X12_isReader (by omega) e1 e2 ?_) (fun r M' q => q)
  change WP _ LAY m_X12_tell 5 [(0, vR (some 74)), (1, vI x1), (2, vI x2), (3, vI x3)] [vI (b2i (0 ≤ x1 ∧ x1 < gi I 83 (gi I 74 13).toNat))] (mem (P, some 5, some 22) I J) Q
  refine st_if_eq (tg := 70) (pc' := 8) dX12_tell_5 (by decide) rfl (b2i_in _) (fun c => ?_) (fun c => ?_)
  · replace h := h.1 (b2i_f.mp c)
    refine st_iconst (pc' := 71) dX12_tell_70 rfl ?_
    refine st_istore (pc' := 73) (L' := [(4, vI 0), (0, vR (some 74)), (1, vI x1), (2, vI x2), (3, vI x3)]) dX12_tell_71 rfl (by decide) rfl ?_
    refine st_iload (pc' := 75) dX12_tell_73 rfl (j := 0) rfl ?_
    refine st_if_ne (tg := 92) (pc' := 78) dX12_tell_75 (by decide) rfl (by decide) (fun c => ?_) (fun c => ?_)
    · exact absurd c (by decide)
    · refine st_aload_n (pc' := 79) dX12_tell_78 rfl rfl (j := 1) rfl ?_
      refine st_iconst (pc' := 80) dX12_tell_79 rfl ?_
      refine st_callV (pc' := 83) (kc := k - 1) (E' := LAY) (cal := m_X12_refuses) (n := 1) (as := [vI 2]) (S := []) dX12_tell_80 rfl l_X12_279 k_X12_refuses rfl L_74 c_X12 rfl rfl (Nat.le_of_ble_eq_true rfl) (by omega) ⟨Nat.le_refl _, Nat.le_refl _, Nat.le_refl _, Nat.le_refl _⟩ (Q1 := fun r M' => WP k LAY m_X12_tell 83 [(4, vI 0), (0, vR (some 74)), (1, vI x1), (2, vI x2), (3, vI x3)] (r.toList ++ []) M' Q) (WPm.of k_X12_refuses.1 (Nat.le_of_ble_eq_true rfl) (B_X12_refuses_0 (by omega) ?_)) (fun r M' q => q)
      refine ⟨by decide, ?_⟩
      change WP _ LAY m_X12_tell 83 [(4, vI 0), (0, vR (some 74)), (1, vI x1), (2, vI x2), (3, vI x3)] [vI (-1)] (mem (P, some 5, some 22) (si I 107 2 ((gi I 107 2) + 1)) J) Q
      refine st_if_lt (tg := 90) (pc' := 86) dX12_tell_83 (by decide) rfl (by decide) (fun c => ?_) (fun c => ?_)
      · refine st_iconst (pc' := 91) dX12_tell_90 rfl ?_
        exact st_iret (ty := .boolean) dX12_tell_91 rfl (by decide) rfl h
      · exact absurd c (by decide)
  · replace h := h.2 (b2i_t.mp c)
    refine st_aload_n (pc' := 9) dX12_tell_8 rfl rfl (j := 0) rfl ?_
    refine st_iload_n (pc' := 10) dX12_tell_9 rfl rfl (j := 2) rfl ?_
    obtain ⟨e3, h⟩ := h
    refine st_callV (pc' := 13) (kc := k - 1) (E' := LAY) (cal := m_X12_isReader) (n := 1) (as := [vI x2]) (S := []) dX12_tell_10 rfl l_X12_562 k_X12_isReader rfl L_74 c_X12 rfl rfl (Nat.le_of_ble_eq_true rfl) (by omega) ⟨Nat.le_refl _, Nat.le_refl _, Nat.le_refl _, Nat.le_refl _⟩ (Q1 := fun r M' => WP k LAY m_X12_tell 13 [(0, vR (some 74)), (1, vI x1), (2, vI x2), (3, vI x3)] (r.toList ++ []) M' Q) (S_X12_isReader (by omega) e1 e3 ?_) (fun r M' q => q)
    change WP _ LAY m_X12_tell 13 [(0, vR (some 74)), (1, vI x1), (2, vI x2), (3, vI x3)] [vI (b2i (0 ≤ x2 ∧ x2 < gi I 83 (gi I 74 13).toNat))] (mem (P, some 5, some 22) I J) Q
    refine st_if_eq (tg := 70) (pc' := 16) dX12_tell_13 (by decide) rfl (b2i_in _) (fun c => ?_) (fun c => ?_)
    · replace h := h.1 (b2i_f.mp c)
      refine st_iconst (pc' := 71) dX12_tell_70 rfl ?_
      refine st_istore (pc' := 73) (L' := [(4, vI 0), (0, vR (some 74)), (1, vI x1), (2, vI x2), (3, vI x3)]) dX12_tell_71 rfl (by decide) rfl ?_
      refine st_iload (pc' := 75) dX12_tell_73 rfl (j := 0) rfl ?_
      refine st_if_ne (tg := 92) (pc' := 78) dX12_tell_75 (by decide) rfl (by decide) (fun c => ?_) (fun c => ?_)
      · exact absurd c (by decide)
      · refine st_aload_n (pc' := 79) dX12_tell_78 rfl rfl (j := 1) rfl ?_
        refine st_iconst (pc' := 80) dX12_tell_79 rfl ?_
        refine st_callV (pc' := 83) (kc := k - 1) (E' := LAY) (cal := m_X12_refuses) (n := 1) (as := [vI 2]) (S := []) dX12_tell_80 rfl l_X12_279 k_X12_refuses rfl L_74 c_X12 rfl rfl (Nat.le_of_ble_eq_true rfl) (by omega) ⟨Nat.le_refl _, Nat.le_refl _, Nat.le_refl _, Nat.le_refl _⟩ (Q1 := fun r M' => WP k LAY m_X12_tell 83 [(4, vI 0), (0, vR (some 74)), (1, vI x1), (2, vI x2), (3, vI x3)] (r.toList ++ []) M' Q) (WPm.of k_X12_refuses.1 (Nat.le_of_ble_eq_true rfl) (B_X12_refuses_0 (by omega) ?_)) (fun r M' q => q)
        refine ⟨by decide, ?_⟩
        change WP _ LAY m_X12_tell 83 [(4, vI 0), (0, vR (some 74)), (1, vI x1), (2, vI x2), (3, vI x3)] [vI (-1)] (mem (P, some 5, some 22) (si I 107 2 ((gi I 107 2) + 1)) J) Q
        refine st_if_lt (tg := 90) (pc' := 86) dX12_tell_83 (by decide) rfl (by decide) (fun c => ?_) (fun c => ?_)
        · refine st_iconst (pc' := 91) dX12_tell_90 rfl ?_
          exact st_iret (ty := .boolean) dX12_tell_91 rfl (by decide) rfl h
        · exact absurd c (by decide)
    · replace h := h.2 (b2i_t.mp c)
      refine st_iload_n (pc' := 17) dX12_tell_16 rfl rfl (j := 1) rfl ?_
      refine st_iload_n (pc' := 18) dX12_tell_17 rfl rfl (j := 2) rfl ?_
      refine st_icmp_eq (tg := 70) (pc' := 21) dX12_tell_18 (by decide) rfl e2 e3 (fun c => ?_) (fun c => ?_)
      · replace h := h.1 c
        refine st_iconst (pc' := 71) dX12_tell_70 rfl ?_
        refine st_istore (pc' := 73) (L' := [(4, vI 0), (0, vR (some 74)), (1, vI x1), (2, vI x2), (3, vI x3)]) dX12_tell_71 rfl (by decide) rfl ?_
        refine st_iload (pc' := 75) dX12_tell_73 rfl (j := 0) rfl ?_
        refine st_if_ne (tg := 92) (pc' := 78) dX12_tell_75 (by decide) rfl (by decide) (fun c => ?_) (fun c => ?_)
        · exact absurd c (by decide)
        · refine st_aload_n (pc' := 79) dX12_tell_78 rfl rfl (j := 1) rfl ?_
          refine st_iconst (pc' := 80) dX12_tell_79 rfl ?_
          refine st_callV (pc' := 83) (kc := k - 1) (E' := LAY) (cal := m_X12_refuses) (n := 1) (as := [vI 2]) (S := []) dX12_tell_80 rfl l_X12_279 k_X12_refuses rfl L_74 c_X12 rfl rfl (Nat.le_of_ble_eq_true rfl) (by omega) ⟨Nat.le_refl _, Nat.le_refl _, Nat.le_refl _, Nat.le_refl _⟩ (Q1 := fun r M' => WP k LAY m_X12_tell 83 [(4, vI 0), (0, vR (some 74)), (1, vI x1), (2, vI x2), (3, vI x3)] (r.toList ++ []) M' Q) (WPm.of k_X12_refuses.1 (Nat.le_of_ble_eq_true rfl) (B_X12_refuses_0 (by omega) ?_)) (fun r M' q => q)
          refine ⟨by decide, ?_⟩
          change WP _ LAY m_X12_tell 83 [(4, vI 0), (0, vR (some 74)), (1, vI x1), (2, vI x2), (3, vI x3)] [vI (-1)] (mem (P, some 5, some 22) (si I 107 2 ((gi I 107 2) + 1)) J) Q
          refine st_if_lt (tg := 90) (pc' := 86) dX12_tell_83 (by decide) rfl (by decide) (fun c => ?_) (fun c => ?_)
          · refine st_iconst (pc' := 91) dX12_tell_90 rfl ?_
            exact st_iret (ty := .boolean) dX12_tell_91 rfl (by decide) rfl h
          · exact absurd c (by decide)
      · replace h := h.2 c
        refine st_aload_n (pc' := 22) dX12_tell_21 rfl rfl (j := 0) rfl ?_
        refine st_iload_n (pc' := 23) dX12_tell_22 rfl rfl (j := 3) rfl ?_
        obtain ⟨e4, h⟩ := h
        refine st_callV (pc' := 26) (kc := k - 1) (E' := LAY) (cal := m_X12_isPage) (n := 1) (as := [vI x3]) (S := []) dX12_tell_23 rfl l_X12_556 k_X12_isPage rfl L_74 c_X12 rfl rfl (Nat.le_of_ble_eq_true rfl) (by omega) ⟨Nat.le_refl _, Nat.le_refl _, Nat.le_refl _, Nat.le_refl _⟩ (Q1 := fun r M' => WP k LAY m_X12_tell 26 [(0, vR (some 74)), (1, vI x1), (2, vI x2), (3, vI x3)] (r.toList ++ []) M' Q) (S_X12_isPage (by omega) e1 e4 ?_) (fun r M' q => q)
        change WP _ LAY m_X12_tell 26 [(0, vR (some 74)), (1, vI x1), (2, vI x2), (3, vI x3)] [vI (b2i (0 ≤ x3 ∧ x3 < gi I 77 (gi I 74 13).toNat))] (mem (P, some 5, some 22) I J) Q
        refine st_if_eq (tg := 70) (pc' := 29) dX12_tell_26 (by decide) rfl (b2i_in _) (fun c => ?_) (fun c => ?_)
        · replace h := h.1 (b2i_f.mp c)
          refine st_iconst (pc' := 71) dX12_tell_70 rfl ?_
          refine st_istore (pc' := 73) (L' := [(4, vI 0), (0, vR (some 74)), (1, vI x1), (2, vI x2), (3, vI x3)]) dX12_tell_71 rfl (by decide) rfl ?_
          refine st_iload (pc' := 75) dX12_tell_73 rfl (j := 0) rfl ?_
          refine st_if_ne (tg := 92) (pc' := 78) dX12_tell_75 (by decide) rfl (by decide) (fun c => ?_) (fun c => ?_)
          · exact absurd c (by decide)
          · refine st_aload_n (pc' := 79) dX12_tell_78 rfl rfl (j := 1) rfl ?_
            refine st_iconst (pc' := 80) dX12_tell_79 rfl ?_
            refine st_callV (pc' := 83) (kc := k - 1) (E' := LAY) (cal := m_X12_refuses) (n := 1) (as := [vI 2]) (S := []) dX12_tell_80 rfl l_X12_279 k_X12_refuses rfl L_74 c_X12 rfl rfl (Nat.le_of_ble_eq_true rfl) (by omega) ⟨Nat.le_refl _, Nat.le_refl _, Nat.le_refl _, Nat.le_refl _⟩ (Q1 := fun r M' => WP k LAY m_X12_tell 83 [(4, vI 0), (0, vR (some 74)), (1, vI x1), (2, vI x2), (3, vI x3)] (r.toList ++ []) M' Q) (WPm.of k_X12_refuses.1 (Nat.le_of_ble_eq_true rfl) (B_X12_refuses_0 (by omega) ?_)) (fun r M' q => q)
            refine ⟨by decide, ?_⟩
            change WP _ LAY m_X12_tell 83 [(4, vI 0), (0, vR (some 74)), (1, vI x1), (2, vI x2), (3, vI x3)] [vI (-1)] (mem (P, some 5, some 22) (si I 107 2 ((gi I 107 2) + 1)) J) Q
            refine st_if_lt (tg := 90) (pc' := 86) dX12_tell_83 (by decide) rfl (by decide) (fun c => ?_) (fun c => ?_)
            · refine st_iconst (pc' := 91) dX12_tell_90 rfl ?_
              exact st_iret (ty := .boolean) dX12_tell_91 rfl (by decide) rfl h
            · exact absurd c (by decide)
        · replace h := h.2 (b2i_t.mp c)
          refine st_aload_n (pc' := 30) dX12_tell_29 rfl rfl (j := 0) rfl ?_
          refine G_X12_177_74 dX12_tell_30 (pc' := 33) rfl rfl ?_
          refine st_iload_n (pc' := 34) dX12_tell_33 rfl rfl (j := 1) rfl ?_
          obtain ⟨e5, h⟩ := h
          refine st_iaload (pc' := 35) (v := (gi I 110 (x1).toNat)) dX12_tell_34 rfl L_110 (by decide) e5 (show gi I 110 (x1).toNat = (gi I 110 (x1).toNat) from rfl) ?_
          refine st_aload_n (pc' := 36) dX12_tell_35 rfl rfl (j := 0) rfl ?_
          refine G_X12_177_74 dX12_tell_36 (pc' := 39) rfl rfl ?_
          refine st_iload_n (pc' := 40) dX12_tell_39 rfl rfl (j := 2) rfl ?_
          obtain ⟨e6, h⟩ := h
          refine st_iaload (pc' := 41) (v := (gi I 110 (x2).toNat)) dX12_tell_40 rfl L_110 (by decide) e6 (show gi I 110 (x2).toNat = (gi I 110 (x2).toNat) from rfl) ?_
          refine st_icmp_ne (tg := 70) (pc' := 44) dX12_tell_41 (by decide) rfl (gi_in _ _ _) (gi_in _ _ _) (fun c => ?_) (fun c => ?_)
          · replace h := h.1 c
            refine st_iconst (pc' := 71) dX12_tell_70 rfl ?_
            refine st_istore (pc' := 73) (L' := [(4, vI 0), (0, vR (some 74)), (1, vI x1), (2, vI x2), (3, vI x3)]) dX12_tell_71 rfl (by decide) rfl ?_
            refine st_iload (pc' := 75) dX12_tell_73 rfl (j := 0) rfl ?_
            refine st_if_ne (tg := 92) (pc' := 78) dX12_tell_75 (by decide) rfl (by decide) (fun c => ?_) (fun c => ?_)
            · exact absurd c (by decide)
            · refine st_aload_n (pc' := 79) dX12_tell_78 rfl rfl (j := 1) rfl ?_
              refine st_iconst (pc' := 80) dX12_tell_79 rfl ?_
              refine st_callV (pc' := 83) (kc := k - 1) (E' := LAY) (cal := m_X12_refuses) (n := 1) (as := [vI 2]) (S := []) dX12_tell_80 rfl l_X12_279 k_X12_refuses rfl L_74 c_X12 rfl rfl (Nat.le_of_ble_eq_true rfl) (by omega) ⟨Nat.le_refl _, Nat.le_refl _, Nat.le_refl _, Nat.le_refl _⟩ (Q1 := fun r M' => WP k LAY m_X12_tell 83 [(4, vI 0), (0, vR (some 74)), (1, vI x1), (2, vI x2), (3, vI x3)] (r.toList ++ []) M' Q) (WPm.of k_X12_refuses.1 (Nat.le_of_ble_eq_true rfl) (B_X12_refuses_0 (by omega) ?_)) (fun r M' q => q)
              refine ⟨by decide, ?_⟩
              change WP _ LAY m_X12_tell 83 [(4, vI 0), (0, vR (some 74)), (1, vI x1), (2, vI x2), (3, vI x3)] [vI (-1)] (mem (P, some 5, some 22) (si I 107 2 ((gi I 107 2) + 1)) J) Q
              refine st_if_lt (tg := 90) (pc' := 86) dX12_tell_83 (by decide) rfl (by decide) (fun c => ?_) (fun c => ?_)
              · refine st_iconst (pc' := 91) dX12_tell_90 rfl ?_
                exact st_iret (ty := .boolean) dX12_tell_91 rfl (by decide) rfl h
              · exact absurd c (by decide)
          · replace h := h.2 c
            refine st_aload_n (pc' := 45) dX12_tell_44 rfl rfl (j := 0) rfl ?_
            refine G_X12_180_74 dX12_tell_45 (pc' := 48) rfl rfl ?_
            refine st_iload_n (pc' := 49) dX12_tell_48 rfl rfl (j := 1) rfl ?_
            refine st_iaload (pc' := 50) (v := (gi I 111 (x1).toNat)) dX12_tell_49 rfl L_111 (by decide) e5 (show gi I 111 (x1).toNat = (gi I 111 (x1).toNat) from rfl) ?_
            refine st_iload_n (pc' := 51) dX12_tell_50 rfl rfl (j := 3) rfl ?_
            refine st_callS (pc' := 54) (kc := k - 1) (E' := LAY) (cal := m_X12_has) (n := 2) (as := [vI (gi I 111 (x1).toNat), vI x3]) (S := []) dX12_tell_51 rfl l_X12_552 k_X12_has rfl rfl (Nat.le_of_ble_eq_true rfl) (by omega) ⟨Nat.le_refl _, Nat.le_refl _, Nat.le_refl _, Nat.le_refl _⟩ (Q1 := fun r M' => WP k LAY m_X12_tell 54 [(0, vR (some 74)), (1, vI x1), (2, vI x2), (3, vI x3)] (r.toList ++ []) M' Q) (S_X12_has (by omega)  ?_) (fun r M' q => q)
            change WP _ LAY m_X12_tell 54 [(0, vR (some 74)), (1, vI x1), (2, vI x2), (3, vI x3)] [vI (b2i (and32 (shr32 (gi I 111 (x1).toNat) x3) 1 = 1))] (mem (P, some 5, some 22) I J) Q
            refine st_if_eq (tg := 70) (pc' := 57) dX12_tell_54 (by decide) rfl (b2i_in _) (fun c => ?_) (fun c => ?_)
            · replace h := h.1 (b2i_f.mp c)
              refine st_iconst (pc' := 71) dX12_tell_70 rfl ?_
              refine st_istore (pc' := 73) (L' := [(4, vI 0), (0, vR (some 74)), (1, vI x1), (2, vI x2), (3, vI x3)]) dX12_tell_71 rfl (by decide) rfl ?_
              refine st_iload (pc' := 75) dX12_tell_73 rfl (j := 0) rfl ?_
              refine st_if_ne (tg := 92) (pc' := 78) dX12_tell_75 (by decide) rfl (by decide) (fun c => ?_) (fun c => ?_)
              · exact absurd c (by decide)
              · refine st_aload_n (pc' := 79) dX12_tell_78 rfl rfl (j := 1) rfl ?_
                refine st_iconst (pc' := 80) dX12_tell_79 rfl ?_
                refine st_callV (pc' := 83) (kc := k - 1) (E' := LAY) (cal := m_X12_refuses) (n := 1) (as := [vI 2]) (S := []) dX12_tell_80 rfl l_X12_279 k_X12_refuses rfl L_74 c_X12 rfl rfl (Nat.le_of_ble_eq_true rfl) (by omega) ⟨Nat.le_refl _, Nat.le_refl _, Nat.le_refl _, Nat.le_refl _⟩ (Q1 := fun r M' => WP k LAY m_X12_tell 83 [(4, vI 0), (0, vR (some 74)), (1, vI x1), (2, vI x2), (3, vI x3)] (r.toList ++ []) M' Q) (WPm.of k_X12_refuses.1 (Nat.le_of_ble_eq_true rfl) (B_X12_refuses_0 (by omega) ?_)) (fun r M' q => q)
                refine ⟨by decide, ?_⟩
                change WP _ LAY m_X12_tell 83 [(4, vI 0), (0, vR (some 74)), (1, vI x1), (2, vI x2), (3, vI x3)] [vI (-1)] (mem (P, some 5, some 22) (si I 107 2 ((gi I 107 2) + 1)) J) Q
                refine st_if_lt (tg := 90) (pc' := 86) dX12_tell_83 (by decide) rfl (by decide) (fun c => ?_) (fun c => ?_)
                · refine st_iconst (pc' := 91) dX12_tell_90 rfl ?_
                  exact st_iret (ty := .boolean) dX12_tell_91 rfl (by decide) rfl h
                · exact absurd c (by decide)
            · replace h := h.2 (b2i_t.mp c)
              refine st_aload_n (pc' := 58) dX12_tell_57 rfl rfl (j := 0) rfl ?_
              refine st_iload_n (pc' := 59) dX12_tell_58 rfl rfl (j := 2) rfl ?_
              refine st_iload_n (pc' := 60) dX12_tell_59 rfl rfl (j := 3) rfl ?_
              refine st_callV (pc' := 63) (kc := k - 1) (E' := LAY) (cal := m_X12_mayHear) (n := 2) (as := [vI x2, vI x3]) (S := []) dX12_tell_60 rfl l_X12_578 k_X12_mayHear rfl L_74 c_X12 rfl rfl (Nat.le_of_ble_eq_true rfl) (by omega) ⟨Nat.le_refl _, Nat.le_refl _, Nat.le_refl _, Nat.le_refl _⟩ h (fun r M' q => ?_)
              obtain ⟨v7, I8, J9, rfl, rfl, h⟩ := q
              change WP _ LAY m_X12_tell 63 [(0, vR (some 74)), (1, vI x1), (2, vI x2), (3, vI x3)] [vI v7] (mem (P, some 5, some 22) I8 J9) Q
              obtain ⟨e10, h⟩ := h
              refine st_if_eq (tg := 70) (pc' := 66) dX12_tell_63 (by decide) rfl e10 (fun c => ?_) (fun c => ?_)
              · replace h := h.1 c
                refine st_iconst (pc' := 71) dX12_tell_70 rfl ?_
                refine st_istore (pc' := 73) (L' := [(4, vI 0), (0, vR (some 74)), (1, vI x1), (2, vI x2), (3, vI x3)]) dX12_tell_71 rfl (by decide) rfl ?_
                refine st_iload (pc' := 75) dX12_tell_73 rfl (j := 0) rfl ?_
                refine st_if_ne (tg := 92) (pc' := 78) dX12_tell_75 (by decide) rfl (by decide) (fun c => ?_) (fun c => ?_)
                · exact absurd c (by decide)
                · refine st_aload_n (pc' := 79) dX12_tell_78 rfl rfl (j := 1) rfl ?_
                  refine st_iconst (pc' := 80) dX12_tell_79 rfl ?_
                  refine st_callV (pc' := 83) (kc := k - 1) (E' := LAY) (cal := m_X12_refuses) (n := 1) (as := [vI 2]) (S := []) dX12_tell_80 rfl l_X12_279 k_X12_refuses rfl L_74 c_X12 rfl rfl (Nat.le_of_ble_eq_true rfl) (by omega) ⟨Nat.le_refl _, Nat.le_refl _, Nat.le_refl _, Nat.le_refl _⟩ (Q1 := fun r M' => WP k LAY m_X12_tell 83 [(4, vI 0), (0, vR (some 74)), (1, vI x1), (2, vI x2), (3, vI x3)] (r.toList ++ []) M' Q) (WPm.of k_X12_refuses.1 (Nat.le_of_ble_eq_true rfl) (B_X12_refuses_0 (by omega) ?_)) (fun r M' q => q)
                  refine ⟨by decide, ?_⟩
                  change WP _ LAY m_X12_tell 83 [(4, vI 0), (0, vR (some 74)), (1, vI x1), (2, vI x2), (3, vI x3)] [vI (-1)] (mem (P, some 5, some 22) (si I8 107 2 ((gi I8 107 2) + 1)) J9) Q
                  refine st_if_lt (tg := 90) (pc' := 86) dX12_tell_83 (by decide) rfl (by decide) (fun c => ?_) (fun c => ?_)
                  · refine st_iconst (pc' := 91) dX12_tell_90 rfl ?_
                    exact st_iret (ty := .boolean) dX12_tell_91 rfl (by decide) rfl h
                  · exact absurd c (by decide)
              · replace h := h.2 c
                refine st_iconst (pc' := 67) dX12_tell_66 rfl ?_
                refine st_goto (pc' := 71) dX12_tell_67 (by decide) ?_
                refine st_istore (pc' := 73) (L' := [(4, vI 1), (0, vR (some 74)), (1, vI x1), (2, vI x2), (3, vI x3)]) dX12_tell_71 rfl (by decide) rfl ?_
                refine st_iload (pc' := 75) dX12_tell_73 rfl (j := 0) rfl ?_
                refine st_if_ne (tg := 92) (pc' := 78) dX12_tell_75 (by decide) rfl (by decide) (fun c => ?_) (fun c => ?_)
                · refine st_aload_n (pc' := 93) dX12_tell_92 rfl rfl (j := 1) rfl ?_
                  refine st_callV (pc' := 96) (kc := k - 1) (E' := LAY) (cal := m_X12_keeps) (n := 0) (as := []) (S := []) dX12_tell_93 rfl l_X12_572 k_X12_keeps rfl L_74 c_X12 rfl rfl (Nat.le_of_ble_eq_true rfl) (by omega) ⟨Nat.le_refl _, Nat.le_refl _, Nat.le_refl _, Nat.le_refl _⟩ h (fun r M' q => ?_)
                  obtain ⟨I12, J13, rfl, rfl, h⟩ := q
                  change WP _ LAY m_X12_tell 96 [(4, vI 1), (0, vR (some 74)), (1, vI x1), (2, vI x2), (3, vI x3)] [] (mem (P, some 5, some 22) I12 J13) Q
                  refine st_aload_n (pc' := 97) dX12_tell_96 rfl rfl (j := 1) rfl ?_
                  refine G_X12_183_74 dX12_tell_97 (pc' := 100) rfl rfl ?_
                  refine st_iload_n (pc' := 101) dX12_tell_100 rfl rfl (j := 3) rfl ?_
                  refine st_dup2 (pc' := 102) dX12_tell_101 rfl rfl rfl ?_
                  refine st_iaload (pc' := 103) (v := (gi I12 112 (x2).toNat)) dX12_tell_102 rfl L_112 (by decide) e6 (show gi I12 112 (x2).toNat = (gi I12 112 (x2).toNat) from rfl) ?_
                  refine st_iconst (pc' := 104) dX12_tell_103 rfl ?_
                  refine st_iload_n (pc' := 105) dX12_tell_104 rfl rfl (j := 4) rfl ?_
                  refine st_ishl (pc' := 106) (z := (shl32 1 x3)) dX12_tell_105 rfl rfl ?_
                  refine st_ior (pc' := 107) (z := (or32 (gi I12 112 (x2).toNat) (shl32 1 x3))) dX12_tell_106 rfl rfl ?_
                  refine st_iastore (pc' := 108) (M' := (mem (P, some 5, some 22) (si I12 112 (x2).toNat (or32 (gi I12 112 (x2).toNat) (shl32 1 x3))) J13)) dX12_tell_107 rfl L_112 (by decide) e6 rfl ?_
                  refine st_aload_n (pc' := 109) dX12_tell_108 rfl rfl (j := 1) rfl ?_
                  refine st_iload_n (pc' := 110) dX12_tell_109 rfl rfl (j := 3) rfl ?_
                  refine st_iload_n (pc' := 111) dX12_tell_110 rfl rfl (j := 4) rfl ?_
                  refine st_callV (pc' := 114) (kc := k - 1) (E' := LAY) (cal := m_X12_unlists) (n := 2) (as := [vI x2, vI x3]) (S := []) dX12_tell_111 rfl l_X12_534 k_X12_unlists rfl L_74 c_X12 rfl rfl (Nat.le_of_ble_eq_true rfl) (by omega) ⟨Nat.le_refl _, Nat.le_refl _, Nat.le_refl _, Nat.le_refl _⟩ h (fun r M' q => ?_)
                  obtain ⟨I15, J16, rfl, rfl, h⟩ := q
                  change WP _ LAY m_X12_tell 114 [(4, vI 1), (0, vR (some 74)), (1, vI x1), (2, vI x2), (3, vI x3)] [] (mem (P, some 5, some 22) I15 J16) Q
                  refine st_aload_n (pc' := 115) dX12_tell_114 rfl rfl (j := 1) rfl ?_
                  refine G_X12_186_74 dX12_tell_115 (pc' := 118) rfl rfl ?_
                  refine st_iload_n (pc' := 119) dX12_tell_118 rfl rfl (j := 3) rfl ?_
                  refine st_iaload (pc' := 120) (v := (gi I15 113 (x2).toNat)) dX12_tell_119 rfl L_113 (by decide) e6 (show gi I15 113 (x2).toNat = (gi I15 113 (x2).toNat) from rfl) ?_
                  refine st_iload_n (pc' := 121) dX12_tell_120 rfl rfl (j := 4) rfl ?_
                  refine st_icmp_ne (tg := 138) (pc' := 124) dX12_tell_121 (by decide) rfl (gi_in _ _ _) e4 (fun c => ?_) (fun c => ?_)
                  · replace h := h.1 c
                    refine st_iconst (pc' := 139) dX12_tell_138 rfl ?_
                    exact st_iret (ty := .boolean) dX12_tell_139 rfl (by decide) rfl h
                  · replace h := h.2 c
                    refine st_aload_n (pc' := 125) dX12_tell_124 rfl rfl (j := 1) rfl ?_
                    refine G_X12_186_74 dX12_tell_125 (pc' := 128) rfl rfl ?_
                    refine st_iload_n (pc' := 129) dX12_tell_128 rfl rfl (j := 3) rfl ?_
                    refine st_iconst (pc' := 130) dX12_tell_129 rfl ?_
                    refine st_iastore (pc' := 131) (M' := (mem (P, some 5, some 22) (si I15 113 (x2).toNat (-1)) J16)) dX12_tell_130 rfl L_113 (by decide) e6 rfl ?_
                    refine st_aload_n (pc' := 132) dX12_tell_131 rfl rfl (j := 1) rfl ?_
                    refine G_X12_189_74 dX12_tell_132 (pc' := 135) rfl rfl ?_
                    refine st_iload_n (pc' := 136) dX12_tell_135 rfl rfl (j := 3) rfl ?_
                    refine st_iconst (pc' := 137) dX12_tell_136 rfl ?_
                    refine st_iastore (pc' := 138) (M' := (mem (P, some 5, some 22) (si (si I15 113 (x2).toNat (-1)) 114 (x2).toNat 0) J16)) dX12_tell_137 rfl L_114 (by decide) e6 rfl ?_
                    refine st_iconst (pc' := 139) dX12_tell_138 rfl ?_
                    exact st_iret (ty := .boolean) dX12_tell_139 rfl (by decide) rfl h
                · exact absurd c (by decide)
set_option maxRecDepth 20000 in
set_option maxHeartbeats 4000000 in
theorem B_X12_triesNight_0 {k : Nat} {P : Option Nat} {I : Nat → Nat → Int32} {J : Nat → Nat → Int64}  {Q : Option AV → Mem → Prop} (hk : 1 ≤ k) (h : WPm (k - 1) LAY m_X12_copies [vR (some 74), vI 1, vI 0] (mem (P, some 5, some 22) I J) (retV (fun I2 J3 => WPm (k - 1) LAY m_X12_goesNight [vR (some 74), vI 1] (mem (P, some 5, some 22) I2 J3) (retI (fun v4 I5 J6 => Q (some (vI v4)) (mem (P, some 5, some 22) I5 J6)) (P, some 5, some 22))) (P, some 5, some 22))) : WP k LAY m_X12_triesNight 0 [(0, vR (some 74))] [] (mem (P, some 5, some 22) I J) Q := by
  refine st_aload_n (pc' := 1) dX12_triesNight_0 rfl rfl (j := 0) rfl ?_
  refine st_iconst (pc' := 2) dX12_triesNight_1 rfl ?_
  refine st_iconst (pc' := 3) dX12_triesNight_2 rfl ?_
  refine st_callV (pc' := 6) (kc := k - 1) (E' := LAY) (cal := m_X12_copies) (n := 2) (as := [vI 1, vI 0]) (S := []) dX12_triesNight_3 rfl l_X12_479 k_X12_copies rfl L_74 c_X12 rfl rfl (Nat.le_of_ble_eq_true rfl) (by omega) ⟨Nat.le_refl _, Nat.le_refl _, Nat.le_refl _, Nat.le_refl _⟩ h (fun r M' q => ?_)
  obtain ⟨I2, J3, rfl, rfl, h⟩ := q
  change WP _ LAY m_X12_triesNight 6 [(0, vR (some 74))] [] (mem (P, some 5, some 22) I2 J3) Q
  refine st_aload_n (pc' := 7) dX12_triesNight_6 rfl rfl (j := 0) rfl ?_
  refine st_iconst (pc' := 8) dX12_triesNight_7 rfl ?_
  refine st_callV (pc' := 11) (kc := k - 1) (E' := LAY) (cal := m_X12_goesNight) (n := 1) (as := [vI 1]) (S := []) dX12_triesNight_8 rfl l_X12_547 k_X12_goesNight rfl L_74 c_X12 rfl rfl (Nat.le_of_ble_eq_true rfl) (by omega) ⟨Nat.le_refl _, Nat.le_refl _, Nat.le_refl _, Nat.le_refl _⟩ h (fun r M' q => ?_)
  obtain ⟨v4, I5, J6, rfl, rfl, h⟩ := q
  change WP _ LAY m_X12_triesNight 11 [(0, vR (some 74))] [vI v4] (mem (P, some 5, some 22) I5 J6) Q
  exact st_iret (ty := .int) dX12_triesNight_11 rfl rfl rfl h
set_option maxRecDepth 20000 in
set_option maxHeartbeats 4000000 in
theorem B_X12_tonight_0 {k : Nat} {P : Option Nat} {I : Nat → Nat → Int32} {J : Nat → Nat → Int64} {x1 : Int} {x2 : Int} {Q : Option AV → Mem → Prop} (hk : 1 ≤ k) (h : (0 ≤ (gi I 74 13) ∧ (gi I 74 13) < 2) ∧ (inR x1 ∧ ((¬ (0 ≤ x1 ∧ x1 < gi I 83 (gi I 74 13).toNat) → (Q (some (vI (-1))) (mem (P, some 5, some 22) I J))) ∧ ((0 ≤ x1 ∧ x1 < gi I 83 (gi I 74 13).toNat) → (inR x2 ∧ (((0 ≤ x2 ∧ x2 ≤ 4) → (WPm (k - 1) LAY m_X12_triesNight [vR (some 74)] (mem (P, some 5, some 22) I J) (retI (fun v4 I5 J6 => (¬ x2 = 0 → ((¬ x2 = 1 → ((¬ x2 = 2 → ((¬ x2 = 3 → ((0 ≤ (6 + x1) ∧ (6 + x1) < 132) ∧ (Q (some (vI (gi I5 114 ((6 + x1) : Int).toNat))) (mem (P, some 5, some 22) I5 J6)))) ∧ (x2 = 3 → ((0 ≤ (6 + x1) ∧ (6 + x1) < 132) ∧ (Q (some (vI (gi I5 113 ((6 + x1) : Int).toNat))) (mem (P, some 5, some 22) I5 J6)))))) ∧ (x2 = 2 → ((0 ≤ x1 ∧ x1 < 6) ∧ (Q (some (vI (gi I5 122 (x1).toNat))) (mem (P, some 5, some 22) I5 J6)))))) ∧ (x2 = 1 → ((0 ≤ x1 ∧ x1 < 6) ∧ (Q (some (vI (gi I5 123 (x1).toNat))) (mem (P, some 5, some 22) I5 J6)))))) ∧ (x2 = 0 → ((0 ≤ x1 ∧ x1 < 6) ∧ (WPm (k - 1) LAY m_X12_bits [vI (gi I5 123 (x1).toNat)] (mem (P, some 5, some 22) I5 J6) (retI (fun v12 I13 J14 => Q (some (vI v12)) (mem (P, some 5, some 22) I13 J14)) (P, some 5, some 22)))))) (P, some 5, some 22)))) ∧ (¬ (0 ≤ x2 ∧ x2 ≤ 4) → (Q (some (vI (-1))) (mem (P, some 5, some 22) I J))))))))) : WP k LAY m_X12_tonight 0 [(0, vR (some 74)), (1, vI x1), (2, vI x2)] [] (mem (P, some 5, some 22) I J) Q := by
  refine st_aload_n (pc' := 1) dX12_tonight_0 rfl rfl (j := 0) rfl ?_
  refine st_iload_n (pc' := 2) dX12_tonight_1 rfl rfl (j := 1) rfl ?_
  obtain ⟨e1, h⟩ := h
  obtain ⟨e2, h⟩ := h
  refine st_callV (pc' := 5) (kc := k - 1) (E' := LAY) (cal := m_X12_isReader) (n := 1) (as := [vI x1]) (S := []) dX12_tonight_2 rfl l_X12_562 k_X12_isReader rfl L_74 c_X12 rfl rfl (Nat.le_of_ble_eq_true rfl) (by omega) ⟨Nat.le_refl _, Nat.le_refl _, Nat.le_refl _, Nat.le_refl _⟩ (Q1 := fun r M' => WP k LAY m_X12_tonight 5 [(0, vR (some 74)), (1, vI x1), (2, vI x2)] (r.toList ++ []) M' Q) (S_X12_isReader (by omega) e1 e2 ?_) (fun r M' q => q)
  change WP _ LAY m_X12_tonight 5 [(0, vR (some 74)), (1, vI x1), (2, vI x2)] [vI (b2i (0 ≤ x1 ∧ x1 < gi I 83 (gi I 74 13).toNat))] (mem (P, some 5, some 22) I J) Q
  refine st_if_eq (tg := 17) (pc' := 8) dX12_tonight_5 (by decide) rfl (b2i_in _) (fun c => ?_) (fun c => ?_)
  · replace h := h.1 (b2i_f.mp c)
    refine st_iconst (pc' := 18) dX12_tonight_17 rfl ?_
    exact st_iret (ty := .int) dX12_tonight_18 rfl rfl rfl h
  · replace h := h.2 (b2i_t.mp c)
    refine st_iload_n (pc' := 9) dX12_tonight_8 rfl rfl (j := 2) rfl ?_
    refine st_iconst (pc' := 10) dX12_tonight_9 rfl ?_
    refine st_iconst (pc' := 11) dX12_tonight_10 rfl ?_
    obtain ⟨e3, h⟩ := h
    refine st_callS (pc' := 14) (kc := k - 1) (E' := LAY) (cal := m_X12_is) (n := 3) (as := [vI x2, vI 0, vI 4]) (S := []) dX12_tonight_11 rfl l_X12_369 k_X12_is rfl rfl (Nat.le_of_ble_eq_true rfl) (by omega) ⟨Nat.le_refl _, Nat.le_refl _, Nat.le_refl _, Nat.le_refl _⟩ (Q1 := fun r M' => WP k LAY m_X12_tonight 14 [(0, vR (some 74)), (1, vI x1), (2, vI x2)] (r.toList ++ []) M' Q) (S_X12_is (by omega) e3 (by decide) (by decide) ?_) (fun r M' q => q)
    change WP _ LAY m_X12_tonight 14 [(0, vR (some 74)), (1, vI x1), (2, vI x2)] [vI (b2i (0 ≤ x2 ∧ x2 ≤ 4))] (mem (P, some 5, some 22) I J) Q
    refine st_if_ne (tg := 19) (pc' := 17) dX12_tonight_14 (by decide) rfl (b2i_in _) (fun c => ?_) (fun c => ?_)
    · replace h := h.1 (b2i_t.mp c)
      refine st_aload_n (pc' := 20) dX12_tonight_19 rfl rfl (j := 0) rfl ?_
      refine st_callV (pc' := 23) (kc := k - 1) (E' := LAY) (cal := m_X12_triesNight) (n := 0) (as := []) (S := []) dX12_tonight_20 rfl l_X12_568 k_X12_triesNight rfl L_74 c_X12 rfl rfl (Nat.le_of_ble_eq_true rfl) (by omega) ⟨Nat.le_refl _, Nat.le_refl _, Nat.le_refl _, Nat.le_refl _⟩ h (fun r M' q => ?_)
      obtain ⟨v4, I5, J6, rfl, rfl, h⟩ := q
      change WP _ LAY m_X12_tonight 23 [(0, vR (some 74)), (1, vI x1), (2, vI x2)] [vI v4] (mem (P, some 5, some 22) I5 J6) Q
      refine st_pop (pc' := 24) dX12_tonight_23 rfl rfl ?_
      refine st_iload_n (pc' := 25) dX12_tonight_24 rfl rfl (j := 2) rfl ?_
      refine st_if_ne (tg := 40) (pc' := 28) dX12_tonight_25 (by decide) rfl e3 (fun c => ?_) (fun c => ?_)
      · replace h := h.1 c
        refine st_iload_n (pc' := 41) dX12_tonight_40 rfl rfl (j := 2) rfl ?_
        refine st_iconst (pc' := 42) dX12_tonight_41 rfl ?_
        refine st_icmp_ne (tg := 54) (pc' := 45) dX12_tonight_42 (by decide) rfl e3 (by decide) (fun c => ?_) (fun c => ?_)
        · replace h := h.1 c
          refine st_iload_n (pc' := 55) dX12_tonight_54 rfl rfl (j := 2) rfl ?_
          refine st_iconst (pc' := 56) dX12_tonight_55 rfl ?_
          refine st_icmp_ne (tg := 68) (pc' := 59) dX12_tonight_56 (by decide) rfl e3 (by decide) (fun c => ?_) (fun c => ?_)
          · replace h := h.1 c
            refine st_iload_n (pc' := 69) dX12_tonight_68 rfl rfl (j := 2) rfl ?_
            refine st_iconst (pc' := 70) dX12_tonight_69 rfl ?_
            refine st_icmp_ne (tg := 85) (pc' := 73) dX12_tonight_70 (by decide) rfl e3 (by decide) (fun c => ?_) (fun c => ?_)
            · replace h := h.1 c
              refine st_aload_n (pc' := 86) dX12_tonight_85 rfl rfl (j := 0) rfl ?_
              refine G_X12_189_74 dX12_tonight_86 (pc' := 89) rfl rfl ?_
              refine st_bipush (pc' := 91) dX12_tonight_89 rfl (by decide) ?_
              refine st_iload_n (pc' := 92) dX12_tonight_91 rfl rfl (j := 1) rfl ?_
              refine st_iadd (pc' := 93) dX12_tonight_92 rfl ?_
              obtain ⟨e7, h⟩ := h
              refine st_iaload (pc' := 94) (v := (gi I5 114 ((6 + x1) : Int).toNat)) dX12_tonight_93 rfl L_114 (by decide) e7 (show gi I5 114 ((6 + x1) : Int).toNat = (gi I5 114 ((6 + x1) : Int).toNat) from rfl) ?_
              exact st_iret (ty := .int) dX12_tonight_94 rfl rfl rfl h
            · replace h := h.2 c
              refine st_aload_n (pc' := 74) dX12_tonight_73 rfl rfl (j := 0) rfl ?_
              refine G_X12_186_74 dX12_tonight_74 (pc' := 77) rfl rfl ?_
              refine st_bipush (pc' := 79) dX12_tonight_77 rfl (by decide) ?_
              refine st_iload_n (pc' := 80) dX12_tonight_79 rfl rfl (j := 1) rfl ?_
              refine st_iadd (pc' := 81) dX12_tonight_80 rfl ?_
              obtain ⟨e8, h⟩ := h
              refine st_iaload (pc' := 82) (v := (gi I5 113 ((6 + x1) : Int).toNat)) dX12_tonight_81 rfl L_113 (by decide) e8 (show gi I5 113 ((6 + x1) : Int).toNat = (gi I5 113 ((6 + x1) : Int).toNat) from rfl) ?_
              refine st_goto (pc' := 94) dX12_tonight_82 (by decide) ?_
              exact st_iret (ty := .int) dX12_tonight_94 rfl rfl rfl h
          · replace h := h.2 c
            refine st_aload_n (pc' := 60) dX12_tonight_59 rfl rfl (j := 0) rfl ?_
            refine G_X12_237_74 dX12_tonight_60 (pc' := 63) rfl rfl ?_
            refine st_iload_n (pc' := 64) dX12_tonight_63 rfl rfl (j := 1) rfl ?_
            obtain ⟨e9, h⟩ := h
            refine st_iaload (pc' := 65) (v := (gi I5 122 (x1).toNat)) dX12_tonight_64 rfl L_122 (by decide) e9 (show gi I5 122 (x1).toNat = (gi I5 122 (x1).toNat) from rfl) ?_
            refine st_goto (pc' := 94) dX12_tonight_65 (by decide) ?_
            exact st_iret (ty := .int) dX12_tonight_94 rfl rfl rfl h
        · replace h := h.2 c
          refine st_aload_n (pc' := 46) dX12_tonight_45 rfl rfl (j := 0) rfl ?_
          refine G_X12_240_74 dX12_tonight_46 (pc' := 49) rfl rfl ?_
          refine st_iload_n (pc' := 50) dX12_tonight_49 rfl rfl (j := 1) rfl ?_
          obtain ⟨e10, h⟩ := h
          refine st_iaload (pc' := 51) (v := (gi I5 123 (x1).toNat)) dX12_tonight_50 rfl L_123 (by decide) e10 (show gi I5 123 (x1).toNat = (gi I5 123 (x1).toNat) from rfl) ?_
          refine st_goto (pc' := 94) dX12_tonight_51 (by decide) ?_
          exact st_iret (ty := .int) dX12_tonight_94 rfl rfl rfl h
      · replace h := h.2 c
        refine st_aload_n (pc' := 29) dX12_tonight_28 rfl rfl (j := 0) rfl ?_
        refine G_X12_240_74 dX12_tonight_29 (pc' := 32) rfl rfl ?_
        refine st_iload_n (pc' := 33) dX12_tonight_32 rfl rfl (j := 1) rfl ?_
        obtain ⟨e11, h⟩ := h
        refine st_iaload (pc' := 34) (v := (gi I5 123 (x1).toNat)) dX12_tonight_33 rfl L_123 (by decide) e11 (show gi I5 123 (x1).toNat = (gi I5 123 (x1).toNat) from rfl) ?_
        refine st_callS (pc' := 37) (kc := k - 1) (E' := LAY) (cal := m_X12_bits) (n := 1) (as := [vI (gi I5 123 (x1).toNat)]) (S := []) dX12_tonight_34 rfl l_X12_482 k_X12_bits rfl rfl (Nat.le_of_ble_eq_true rfl) (by omega) ⟨Nat.le_refl _, Nat.le_refl _, Nat.le_refl _, Nat.le_refl _⟩ h (fun r M' q => ?_)
        obtain ⟨v12, I13, J14, rfl, rfl, h⟩ := q
        change WP _ LAY m_X12_tonight 37 [(0, vR (some 74)), (1, vI x1), (2, vI x2)] [vI v12] (mem (P, some 5, some 22) I13 J14) Q
        refine st_goto (pc' := 94) dX12_tonight_37 (by decide) ?_
        exact st_iret (ty := .int) dX12_tonight_94 rfl rfl rfl h
    · replace h := h.2 (b2i_f.mp c)
      refine st_iconst (pc' := 18) dX12_tonight_17 rfl ?_
      exact st_iret (ty := .int) dX12_tonight_18 rfl rfl rfl h
end WM4
