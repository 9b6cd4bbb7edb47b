section WX0
set_option maxRecDepth 20000 in
set_option maxHeartbeats 4000000 in
theorem B_X0_beginOf_0 {k : Nat} {P : Option Nat} {I : Nat → Nat → Int32} {J : Nat → Nat → Int64} {x1 : Int} {Q : Option AV → Mem → Prop} (hk : 0 ≤ k) (h : inR x1 ∧ ((¬ x1 = 0 → ((0 ≤ (x1 - 1) ∧ (x1 - 1) < 8) ∧ (Q (some (vI (gi I 41 (x1 - 1).toNat))) (mem (P, some 5, some 22) I J)))) ∧ (x1 = 0 → (Q (some (vI 0)) (mem (P, some 5, some 22) I J))))) : WP k LAY m_X0_beginOf 0 [(0, vR (some 39)), (1, vI x1)] [] (mem (P, some 5, some 22) I J) Q := by
  refine st_iload_n (pc' := 1) dX0_beginOf_0 rfl rfl (j := 1) rfl ?_
  obtain ⟨e1, h⟩ := h
  refine st_if_ne (tg := 8) (pc' := 4) dX0_beginOf_1 (by decide) rfl e1 (fun c => ?_) (fun c => ?_)
  · replace h := h.1 c
    refine st_aload_n (pc' := 9) dX0_beginOf_8 rfl rfl (j := 0) rfl ?_
    refine G_X0_15_39 dX0_beginOf_9 (pc' := 12) rfl rfl ?_
    refine st_iload_n (pc' := 13) dX0_beginOf_12 rfl rfl (j := 1) rfl ?_
    refine st_iconst (pc' := 14) dX0_beginOf_13 rfl ?_
    refine st_isub (pc' := 15) dX0_beginOf_14 rfl ?_
    obtain ⟨e2, h⟩ := h
    refine st_iaload (pc' := 16) (v := (gi I 41 (x1 - 1).toNat)) dX0_beginOf_15 rfl L_41 (by decide) e2 (show gi I 41 (x1 - 1).toNat = (gi I 41 (x1 - 1).toNat) from rfl) ?_
    exact st_iret (ty := .int) dX0_beginOf_16 rfl rfl rfl h
  · replace h := h.2 c
    refine st_iconst (pc' := 5) dX0_beginOf_4 rfl ?_
    refine st_goto (pc' := 16) dX0_beginOf_5 (by decide) ?_
    exact st_iret (ty := .int) dX0_beginOf_16 rfl rfl rfl h
set_option maxRecDepth 20000 in
set_option maxHeartbeats 4000000 in
theorem B_X0_nextPage_0 {k : Nat} {P : Option Nat} {I : Nat → Nat → Int32} {J : Nat → Nat → Int64} {x1 : Int} {x2 : Int} {Q : Option AV → Mem → Prop} (hk : 1 ≤ k) (h : (0 ≤ ((3 + (x1 * 14)) + 5) ∧ ((3 + (x1 * 14)) + 5) < 87) ∧ (WP k LAY m_X0_nextPage 13 [(0, vR (some 39)), (1, vI x1), (2, vI x2), (3, vI (gi I 19 ((3 + (x1 * 14)) + 5).toNat)), (4, vI 0)] [] (mem (P, some 5, some 22) I J) Q)) : WP k LAY m_X0_nextPage 0 [(0, vR (some 39)), (1, vI x1), (2, vI x2)] [] (mem (P, some 5, some 22) I J) Q := by
  refine st_aload_n (pc' := 1) dX0_nextPage_0 rfl rfl (j := 0) rfl ?_
  refine G_X0_18_39 dX0_nextPage_1 (pc' := 4) rfl rfl ?_
  refine st_iload_n (pc' := 5) dX0_nextPage_4 rfl rfl (j := 1) rfl ?_
  refine st_iconst (pc' := 6) dX0_nextPage_5 rfl ?_
  refine st_callV (pc' := 9) (kc := k - 1) (E' := LAY) (cal := m_X2_of) (n := 2) (as := [vI x1, vI 5]) (S := []) dX0_nextPage_6 rfl l_X0_32 k_X2_of rfl L_4 c_X2 rfl rfl (Nat.le_of_ble_eq_true rfl) (by omega) ⟨Nat.le_refl _, Nat.le_refl _, Nat.le_refl _, Nat.le_refl _⟩ (Q1 := fun r M' => WP k LAY m_X0_nextPage 9 [(0, vR (some 39)), (1, vI x1), (2, vI x2)] (r.toList ++ []) M' Q) (WPm.of k_X2_of.1 (Nat.le_of_ble_eq_true rfl) (B_X2_of_0 (by omega) ?_)) (fun r M' q => q)
  obtain ⟨e1, h⟩ := h
  refine ⟨e1, ?_⟩
  change WP _ LAY m_X0_nextPage 9 [(0, vR (some 39)), (1, vI x1), (2, vI x2)] [vI (gi I 19 ((3 + (x1 * 14)) + 5).toNat)] (mem (P, some 5, some 22) I J) Q
  refine st_istore_n (pc' := 10) (L' := [(3, vI (gi I 19 ((3 + (x1 * 14)) + 5).toNat)), (0, vR (some 39)), (1, vI x1), (2, vI x2)]) dX0_nextPage_9 rfl rfl (by decide) rfl ?_
  refine st_iconst (pc' := 11) dX0_nextPage_10 rfl ?_
  refine st_istore (pc' := 13) (L' := [(4, vI 0), (3, vI (gi I 19 ((3 + (x1 * 14)) + 5).toNat)), (0, vR (some 39)), (1, vI x1), (2, vI x2)]) dX0_nextPage_11 rfl (by decide) rfl ?_
  refine WP_sub (L' := [(0, vR (some 39)), (1, vI x1), (2, vI x2), (3, vI (gi I 19 ((3 + (x1 * 14)) + 5).toNat)), (4, vI 0)]) [2, 3, 4, 1, 0] rfl ?_
  exact h
set_option maxRecDepth 20000 in
set_option maxHeartbeats 4000000 in
theorem B_X0_nextPage_13 {k : Nat} {P : Option Nat} {I : Nat → Nat → Int32} {J : Nat → Nat → Int64} {x1 : Int} {x2 : Int} {x3 : Int} {x4 : Int} {Q : Option AV → Mem → Prop} (hk : 2 ≤ k) (h : inR x4 ∧ (inR x3 ∧ ((x3 ≤ x4 → (Q (some (vI (-1))) (mem (P, some 5, some 22) I J))) ∧ (¬ x3 ≤ x4 → ((x4 < 0 → (WP k LAY m_X0_nextPage 13 [(0, vR (some 39)), (1, vI x1), (2, vI x2), (3, vI x3), (4, vI (x4 + 1))] [] (mem (P, some 5, some 22) I J) Q)) ∧ (¬ x4 < 0 → ((0 ≤ ((3 + (x1 * 14)) + 5) ∧ ((3 + (x1 * 14)) + 5) < 87) ∧ (((gi I 19 ((3 + (x1 * 14)) + 5).toNat) ≤ x4 → (WP k LAY m_X0_nextPage 13 [(0, vR (some 39)), (1, vI x1), (2, vI x2), (3, vI x3), (4, vI (x4 + 1))] [] (mem (P, some 5, some 22) I J) Q)) ∧ (¬ (gi I 19 ((3 + (x1 * 14)) + 5).toNat) ≤ x4 → ((0 ≤ ((3 + (x1 * 14)) + (6 + x4)) ∧ ((3 + (x1 * 14)) + (6 + x4)) < 87) ∧ (((gi I 19 ((3 + (x1 * 14)) + (6 + x4)).toNat) = (-1) → (WP k LAY m_X0_nextPage 13 [(0, vR (some 39)), (1, vI x1), (2, vI x2), (3, vI x3), (4, vI (x4 + 1))] [] (mem (P, some 5, some 22) I J) Q)) ∧ (¬ (gi I 19 ((3 + (x1 * 14)) + (6 + x4)).toNat) = (-1) → ((¬ (and32 x2 (shl32 1 (gi I 19 ((3 + (x1 * 14)) + (6 + x4)).toNat))) = 0 → (WP k LAY m_X0_nextPage 13 [(0, vR (some 39)), (1, vI x1), (2, vI x2), (3, vI x3), (4, vI (x4 + 1))] [] (mem (P, some 5, some 22) I J) Q)) ∧ ((and32 x2 (shl32 1 (gi I 19 ((3 + (x1 * 14)) + (6 + x4)).toNat))) = 0 → ((0 ≤ (gi I 19 ((3 + (x1 * 14)) + (6 + x4)).toNat) ∧ (gi I 19 ((3 + (x1 * 14)) + (6 + x4)).toNat) < 14) ∧ ((¬ (and32 (gi I 11 ((gi I 19 ((3 + (x1 * 14)) + (6 + x4)).toNat) : Int).toNat) (xor32 x2 (-1)) = 0) → (WP k LAY m_X0_nextPage 13 [(0, vR (some 39)), (1, vI x1), (2, vI x2), (3, vI x3), (4, vI (x4 + 1))] [] (mem (P, some 5, some 22) I J) Q)) ∧ ((and32 (gi I 11 ((gi I 19 ((3 + (x1 * 14)) + (6 + x4)).toNat) : Int).toNat) (xor32 x2 (-1)) = 0) → (Q (some (vI (gi I 19 ((3 + (x1 * 14)) + (6 + x4)).toNat))) (mem (P, some 5, some 22) I J))))))))))))))))))) : WP k LAY m_X0_nextPage 13 [(0, vR (some 39)), (1, vI x1), (2, vI x2), (3, vI x3), (4, vI x4)] [] (mem (P, some 5, some 22) I J) Q := by
  refine st_iload (pc' := 15) dX0_nextPage_13 rfl (j := 4) rfl ?_
  refine st_iload_n (pc' := 16) dX0_nextPage_15 rfl rfl (j := 3) rfl ?_
  obtain ⟨e1, h⟩ := h
  obtain ⟨e2, h⟩ := h
  refine st_icmp_ge (tg := 71) (pc' := 19) dX0_nextPage_16 (by decide) rfl e1 e2 (fun c => ?_) (fun c => ?_)
  · replace h := h.1 c
    refine st_iconst (pc' := 72) dX0_nextPage_71 rfl ?_
    exact st_iret (ty := .int) dX0_nextPage_72 rfl rfl rfl h
  · replace h := h.2 c
    refine st_aload_n (pc' := 20) dX0_nextPage_19 rfl rfl (j := 0) rfl ?_
    refine G_X0_18_39 dX0_nextPage_20 (pc' := 23) rfl rfl ?_
    refine st_iload_n (pc' := 24) dX0_nextPage_23 rfl rfl (j := 1) rfl ?_
    refine st_iload (pc' := 26) dX0_nextPage_24 rfl (j := 4) rfl ?_
    refine st_callV (pc' := 29) (kc := k - 1) (E' := LAY) (cal := m_X2_listed) (n := 2) (as := [vI x1, vI x4]) (S := []) dX0_nextPage_26 rfl l_X0_75 k_X2_listed rfl L_4 c_X2 rfl rfl (Nat.le_of_ble_eq_true rfl) (by omega) ⟨Nat.le_refl _, Nat.le_refl _, Nat.le_refl _, Nat.le_refl _⟩ (Q1 := fun r M' => WP k LAY m_X0_nextPage 29 [(0, vR (some 39)), (1, vI x1), (2, vI x2), (3, vI x3), (4, vI x4)] (r.toList ++ []) M' Q) (WPm.of k_X2_listed.1 (Nat.le_of_ble_eq_true rfl) (B_X2_listed_0 (by omega) ?_)) (fun r M' q => q)
    refine ⟨e1, ?_⟩
    refine ⟨fun c => ?_, fun c => ?_⟩
    · replace h := h.1 c
      change WP _ LAY m_X0_nextPage 29 [(0, vR (some 39)), (1, vI x1), (2, vI x2), (3, vI x3), (4, vI x4)] [vI (-1)] (mem (P, some 5, some 22) I J) Q
      refine st_istore (pc' := 31) (L' := [(5, vI (-1)), (0, vR (some 39)), (1, vI x1), (2, vI x2), (3, vI x3), (4, vI x4)]) dX0_nextPage_29 rfl (by decide) rfl ?_
      refine st_iload (pc' := 33) dX0_nextPage_31 rfl (j := 0) rfl ?_
      refine st_iconst (pc' := 34) dX0_nextPage_33 rfl ?_
      refine st_icmp_eq (tg := 65) (pc' := 37) dX0_nextPage_34 (by decide) rfl (by decide) (by decide) (fun c => ?_) (fun c => ?_)
      · refine st_iinc (pc' := 68) (L' := [(4, vI (x4 + 1)), (5, vI (-1)), (0, vR (some 39)), (1, vI x1), (2, vI x2), (3, vI x3)]) (j := 5) dX0_nextPage_65 rfl (by decide) rfl rfl ?_
        refine st_goto (pc' := 13) dX0_nextPage_68 (by decide) ?_
        refine WP_sub (L' := [(0, vR (some 39)), (1, vI x1), (2, vI x2), (3, vI x3), (4, vI (x4 + 1))]) [2, 3, 4, 5, 0] rfl ?_
        exact h
      · exact absurd c (by decide)
    · replace h := h.2 c
      obtain ⟨e3, h⟩ := h
      refine ⟨e3, ?_⟩
      refine ⟨fun c => ?_, fun c => ?_⟩
      · replace h := h.1 c
        change WP _ LAY m_X0_nextPage 29 [(0, vR (some 39)), (1, vI x1), (2, vI x2), (3, vI x3), (4, vI x4)] [vI (-1)] (mem (P, some 5, some 22) I J) Q
        refine st_istore (pc' := 31) (L' := [(5, vI (-1)), (0, vR (some 39)), (1, vI x1), (2, vI x2), (3, vI x3), (4, vI x4)]) dX0_nextPage_29 rfl (by decide) rfl ?_
        refine st_iload (pc' := 33) dX0_nextPage_31 rfl (j := 0) rfl ?_
        refine st_iconst (pc' := 34) dX0_nextPage_33 rfl ?_
        refine st_icmp_eq (tg := 65) (pc' := 37) dX0_nextPage_34 (by decide) rfl (by decide) (by decide) (fun c => ?_) (fun c => ?_)
        · refine st_iinc (pc' := 68) (L' := [(4, vI (x4 + 1)), (5, vI (-1)), (0, vR (some 39)), (1, vI x1), (2, vI x2), (3, vI x3)]) (j := 5) dX0_nextPage_65 rfl (by decide) rfl rfl ?_
          refine st_goto (pc' := 13) dX0_nextPage_68 (by decide) ?_
          refine WP_sub (L' := [(0, vR (some 39)), (1, vI x1), (2, vI x2), (3, vI x3), (4, vI (x4 + 1))]) [2, 3, 4, 5, 0] rfl ?_
          exact h
        · exact absurd c (by decide)
      · replace h := h.2 c
        obtain ⟨e4, h⟩ := h
        refine ⟨e4, ?_⟩
        change WP _ LAY m_X0_nextPage 29 [(0, vR (some 39)), (1, vI x1), (2, vI x2), (3, vI x3), (4, vI x4)] [vI (gi I 19 ((3 + (x1 * 14)) + (6 + x4)).toNat)] (mem (P, some 5, some 22) I J) Q
        refine st_istore (pc' := 31) (L' := [(5, vI (gi I 19 ((3 + (x1 * 14)) + (6 + x4)).toNat)), (0, vR (some 39)), (1, vI x1), (2, vI x2), (3, vI x3), (4, vI x4)]) dX0_nextPage_29 rfl (by decide) rfl ?_
        refine st_iload (pc' := 33) dX0_nextPage_31 rfl (j := 0) rfl ?_
        refine st_iconst (pc' := 34) dX0_nextPage_33 rfl ?_
        refine st_icmp_eq (tg := 65) (pc' := 37) dX0_nextPage_34 (by decide) rfl (gi_in _ _ _) (by decide) (fun c => ?_) (fun c => ?_)
        · replace h := h.1 c
          refine st_iinc (pc' := 68) (L' := [(4, vI (x4 + 1)), (5, vI (gi I 19 ((3 + (x1 * 14)) + (6 + x4)).toNat)), (0, vR (some 39)), (1, vI x1), (2, vI x2), (3, vI x3)]) (j := 5) dX0_nextPage_65 rfl (by decide) rfl rfl ?_
          refine st_goto (pc' := 13) dX0_nextPage_68 (by decide) ?_
          refine WP_sub (L' := [(0, vR (some 39)), (1, vI x1), (2, vI x2), (3, vI x3), (4, vI (x4 + 1))]) [2, 3, 4, 5, 0] rfl ?_
          exact h
        · replace h := h.2 c
          refine st_iload_n (pc' := 38) dX0_nextPage_37 rfl rfl (j := 3) rfl ?_
          refine st_iconst (pc' := 39) dX0_nextPage_38 rfl ?_
          refine st_iload (pc' := 41) dX0_nextPage_39 rfl (j := 0) rfl ?_
          refine st_ishl (pc' := 42) (z := (shl32 1 (gi I 19 ((3 + (x1 * 14)) + (6 + x4)).toNat))) dX0_nextPage_41 rfl rfl ?_
          refine st_iand (pc' := 43) (z := (and32 x2 (shl32 1 (gi I 19 ((3 + (x1 * 14)) + (6 + x4)).toNat)))) dX0_nextPage_42 rfl rfl ?_
          refine st_if_ne (tg := 65) (pc' := 46) dX0_nextPage_43 (by decide) rfl (and32_in _ _) (fun c => ?_) (fun c => ?_)
          · replace h := h.1 c
            refine st_iinc (pc' := 68) (L' := [(4, vI (x4 + 1)), (5, vI (gi I 19 ((3 + (x1 * 14)) + (6 + x4)).toNat)), (0, vR (some 39)), (1, vI x1), (2, vI x2), (3, vI x3)]) (j := 5) dX0_nextPage_65 rfl (by decide) rfl rfl ?_
            refine st_goto (pc' := 13) dX0_nextPage_68 (by decide) ?_
            refine WP_sub (L' := [(0, vR (some 39)), (1, vI x1), (2, vI x2), (3, vI x3), (4, vI (x4 + 1))]) [2, 3, 4, 5, 0] rfl ?_
            exact h
          · replace h := h.2 c
            refine st_aload_n (pc' := 47) dX0_nextPage_46 rfl rfl (j := 1) rfl ?_
            refine G_X0_18_39 dX0_nextPage_47 (pc' := 50) rfl rfl ?_
            refine G_X0_36_4 dX0_nextPage_50 (pc' := 53) rfl rfl ?_
            refine st_iload_n (pc' := 54) dX0_nextPage_53 rfl rfl (j := 3) rfl ?_
            refine st_iload (pc' := 56) dX0_nextPage_54 rfl (j := 0) rfl ?_
            obtain ⟨e5, h⟩ := h
            refine st_callV (pc' := 59) (kc := k - 1) (E' := LAY) (cal := m_X7_mayRead) (n := 2) (as := [vI x2, vI (gi I 19 ((3 + (x1 * 14)) + (6 + x4)).toNat)]) (S := []) dX0_nextPage_56 rfl l_X0_40 k_X7_mayRead rfl L_5 c_X7 rfl rfl (Nat.le_of_ble_eq_true rfl) (by omega) ⟨Nat.le_refl _, Nat.le_refl _, Nat.le_refl _, Nat.le_refl _⟩ (Q1 := fun r M' => WP k LAY m_X0_nextPage 59 [(5, vI (gi I 19 ((3 + (x1 * 14)) + (6 + x4)).toNat)), (0, vR (some 39)), (1, vI x1), (2, vI x2), (3, vI x3), (4, vI x4)] (r.toList ++ []) M' Q) (S_X7_mayRead_5 (by omega) e5 ?_) (fun r M' q => q)
            change WP _ LAY m_X0_nextPage 59 [(5, vI (gi I 19 ((3 + (x1 * 14)) + (6 + x4)).toNat)), (0, vR (some 39)), (1, vI x1), (2, vI x2), (3, vI x3), (4, vI x4)] [vI (b2i (and32 (gi I 11 ((gi I 19 ((3 + (x1 * 14)) + (6 + x4)).toNat) : Int).toNat) (xor32 x2 (-1)) = 0))] (mem (P, some 5, some 22) I J) Q
            refine st_if_eq (tg := 65) (pc' := 62) dX0_nextPage_59 (by decide) rfl (b2i_in _) (fun c => ?_) (fun c => ?_)
            · replace h := h.1 (b2i_f.mp c)
              refine st_iinc (pc' := 68) (L' := [(4, vI (x4 + 1)), (5, vI (gi I 19 ((3 + (x1 * 14)) + (6 + x4)).toNat)), (0, vR (some 39)), (1, vI x1), (2, vI x2), (3, vI x3)]) (j := 5) dX0_nextPage_65 rfl (by decide) rfl rfl ?_
              refine st_goto (pc' := 13) dX0_nextPage_68 (by decide) ?_
              refine WP_sub (L' := [(0, vR (some 39)), (1, vI x1), (2, vI x2), (3, vI x3), (4, vI (x4 + 1))]) [2, 3, 4, 5, 0] rfl ?_
              exact h
            · replace h := h.2 (b2i_t.mp c)
              refine st_iload (pc' := 64) dX0_nextPage_62 rfl (j := 0) rfl ?_
              exact st_iret (ty := .int) dX0_nextPage_64 rfl rfl rfl h
set_option maxRecDepth 20000 in
set_option maxHeartbeats 4000000 in
theorem B_X0_lay_0 {k : Nat} {P : Option Nat} {I : Nat → Nat → Int32} {J : Nat → Nat → Int64} {x1 : Int} {x2 : Int} {x3 : Int} {x4 : Int} {Q : Option AV → Mem → Prop} (hk : 2 ≤ k) (h : (0 ≤ ((3 + (x1 * 14)) + 1) ∧ ((3 + (x1 * 14)) + 1) < 87) ∧ ((0 ≤ ((3 + (x1 * 14)) + 2) ∧ ((3 + (x1 * 14)) + 2) < 87) ∧ (∀ y3 : Int, y3 = (or32 (gi I 19 ((3 + (x1 * 14)) + 1).toNat) (gi I 19 ((3 + (x1 * 14)) + 2).toNat)) → (inR x4 ∧ ((x4 = 0 → (WPm (k - 1) LAY m_X0_nextPage [vR (some 39), vI x1, vI y3] (mem (P, some 5, some 22) I J) (retI (fun v5 I6 J7 => inR v5 ∧ ((v5 = (-1) → (WP k LAY m_X0_lay 109 [(0, vR (some 39)), (1, vI x1), (2, vI x2), (3, vI x3), (5, vI y3), (7, vI v5), (8, vI (-0))] [] (mem (P, some 5, some 22) (si (si I6 39 5 0) 39 4 0) J7) Q)) ∧ (¬ v5 = (-1) → ((¬ v5 = (-1) → (WP k LAY m_X0_lay 109 [(0, vR (some 39)), (1, vI x1), (2, vI x2), (3, vI x3), (5, vI y3), (7, vI v5), (8, vI (-0))] [] (mem (P, some 5, some 22) (si (si I6 39 5 0) 39 4 0) J7) Q)) ∧ (v5 = (-1) → ((0 ≤ ((3 + (x1 * 14)) + 4) ∧ ((3 + (x1 * 14)) + 4) < 87) ∧ (WP k LAY m_X0_lay 109 [(0, vR (some 39)), (1, vI x1), (2, vI x2), (3, vI x3), (5, vI y3), (7, vI v5), (8, vI (-(gi I6 19 ((3 + (x1 * 14)) + 4).toNat)))] [] (mem (P, some 5, some 22) (si (si I6 39 5 (gi I6 19 ((3 + (x1 * 14)) + 4).toNat)) 39 4 0) J7) Q))))))) (P, some 5, some 22)))) ∧ (¬ x4 = 0 → ((0 ≤ ((3 + (x1 * 14)) + 3) ∧ ((3 + (x1 * 14)) + 3) < 87) ∧ (((gi I 19 ((3 + (x1 * 14)) + 3).toNat) = (-1) → (WPm (k - 1) LAY m_X0_nextPage [vR (some 39), vI x1, vI y3] (mem (P, some 5, some 22) I J) (retI (fun v11 I12 J13 => inR v11 ∧ ((v11 = (-1) → (WP k LAY m_X0_lay 109 [(0, vR (some 39)), (1, vI x1), (2, vI x2), (3, vI x3), (5, vI y3), (7, vI v11), (8, vI (-0))] [] (mem (P, some 5, some 22) (si (si I12 39 5 0) 39 4 0) J13) Q)) ∧ (¬ v11 = (-1) → ((¬ v11 = (gi I 19 ((3 + (x1 * 14)) + 3).toNat) → (WP k LAY m_X0_lay 109 [(0, vR (some 39)), (1, vI x1), (2, vI x2), (3, vI x3), (5, vI y3), (7, vI v11), (8, vI (-0))] [] (mem (P, some 5, some 22) (si (si I12 39 5 0) 39 4 0) J13) Q)) ∧ (v11 = (gi I 19 ((3 + (x1 * 14)) + 3).toNat) → ((0 ≤ ((3 + (x1 * 14)) + 4) ∧ ((3 + (x1 * 14)) + 4) < 87) ∧ (WP k LAY m_X0_lay 109 [(0, vR (some 39)), (1, vI x1), (2, vI x2), (3, vI x3), (5, vI y3), (7, vI v11), (8, vI (-(gi I12 19 ((3 + (x1 * 14)) + 4).toNat)))] [] (mem (P, some 5, some 22) (si (si I12 39 5 (gi I12 19 ((3 + (x1 * 14)) + 4).toNat)) 39 4 0) J13) Q))))))) (P, some 5, some 22)))) ∧ (¬ (gi I 19 ((3 + (x1 * 14)) + 3).toNat) = (-1) → ((0 ≤ (gi I 19 ((3 + (x1 * 14)) + 3).toNat) ∧ (gi I 19 ((3 + (x1 * 14)) + 3).toNat) < 14) ∧ ((¬ (and32 (gi I 11 ((gi I 19 ((3 + (x1 * 14)) + 3).toNat) : Int).toNat) (xor32 y3 (-1)) = 0) → (WPm (k - 1) LAY m_X0_nextPage [vR (some 39), vI x1, vI y3] (mem (P, some 5, some 22) I J) (retI (fun v17 I18 J19 => inR v17 ∧ ((v17 = (-1) → (WP k LAY m_X0_lay 109 [(0, vR (some 39)), (1, vI x1), (2, vI x2), (3, vI x3), (5, vI y3), (7, vI v17), (8, vI (-0))] [] (mem (P, some 5, some 22) (si (si I18 39 5 0) 39 4 0) J19) Q)) ∧ (¬ v17 = (-1) → ((¬ v17 = (gi I 19 ((3 + (x1 * 14)) + 3).toNat) → (WP k LAY m_X0_lay 109 [(0, vR (some 39)), (1, vI x1), (2, vI x2), (3, vI x3), (5, vI y3), (7, vI v17), (8, vI (-0))] [] (mem (P, some 5, some 22) (si (si I18 39 5 0) 39 4 0) J19) Q)) ∧ (v17 = (gi I 19 ((3 + (x1 * 14)) + 3).toNat) → ((0 ≤ ((3 + (x1 * 14)) + 4) ∧ ((3 + (x1 * 14)) + 4) < 87) ∧ (WP k LAY m_X0_lay 109 [(0, vR (some 39)), (1, vI x1), (2, vI x2), (3, vI x3), (5, vI y3), (7, vI v17), (8, vI (-(gi I18 19 ((3 + (x1 * 14)) + 4).toNat)))] [] (mem (P, some 5, some 22) (si (si I18 39 5 (gi I18 19 ((3 + (x1 * 14)) + 4).toNat)) 39 4 0) J19) Q))))))) (P, some 5, some 22)))) ∧ ((and32 (gi I 11 ((gi I 19 ((3 + (x1 * 14)) + 3).toNat) : Int).toNat) (xor32 y3 (-1)) = 0) → (((gi I 19 ((3 + (x1 * 14)) + 3).toNat) = (-1) → (WP k LAY m_X0_lay 109 [(0, vR (some 39)), (1, vI x1), (2, vI x2), (3, vI x3), (5, vI y3), (7, vI (gi I 19 ((3 + (x1 * 14)) + 3).toNat)), (8, vI (-0))] [] (mem (P, some 5, some 22) (si (si I 39 5 0) 39 4 0) J) Q)) ∧ (¬ (gi I 19 ((3 + (x1 * 14)) + 3).toNat) = (-1) → ((¬ (gi I 19 ((3 + (x1 * 14)) + 3).toNat) = (gi I 19 ((3 + (x1 * 14)) + 3).toNat) → (WP k LAY m_X0_lay 109 [(0, vR (some 39)), (1, vI x1), (2, vI x2), (3, vI x3), (5, vI y3), (7, vI (gi I 19 ((3 + (x1 * 14)) + 3).toNat)), (8, vI (-0))] [] (mem (P, some 5, some 22) (si (si I 39 5 0) 39 4 0) J) Q)) ∧ ((gi I 19 ((3 + (x1 * 14)) + 3).toNat) = (gi I 19 ((3 + (x1 * 14)) + 3).toNat) → ((0 ≤ ((3 + (x1 * 14)) + 4) ∧ ((3 + (x1 * 14)) + 4) < 87) ∧ (WP k LAY m_X0_lay 109 [(0, vR (some 39)), (1, vI x1), (2, vI x2), (3, vI x3), (5, vI y3), (7, vI (gi I 19 ((3 + (x1 * 14)) + 3).toNat)), (8, vI (-(gi I 19 ((3 + (x1 * 14)) + 4).toNat)))] [] (mem (P, some 5, some 22) (si (si I 39 5 (gi I 19 ((3 + (x1 * 14)) + 4).toNat)) 39 4 0) J) Q)))))))))))))))))) : WP k LAY m_X0_lay 0 [(0, vR (some 39)), (1, vI x1), (2, vI x2), (3, vI x3), (4, vI x4)] [] (mem (P, some 5, some 22) I J) Q := by
  refine st_aload_n (pc' := 1) dX0_lay_0 rfl rfl (j := 0) rfl ?_
  refine G_X0_18_39 dX0_lay_1 (pc' := 4) rfl rfl ?_
  refine st_iload_n (pc' := 5) dX0_lay_4 rfl rfl (j := 1) rfl ?_
  refine st_callV (pc' := 8) (kc := k - 1) (E' := LAY) (cal := m_X2_known) (n := 1) (as := [vI x1]) (S := []) dX0_lay_5 rfl l_X0_26 k_X2_known rfl L_4 c_X2 rfl rfl (Nat.le_of_ble_eq_true rfl) (by omega) ⟨Nat.le_refl _, Nat.le_refl _, Nat.le_refl _, Nat.le_refl _⟩ (Q1 := fun r M' => WP k LAY m_X0_lay 8 [(0, vR (some 39)), (1, vI x1), (2, vI x2), (3, vI x3), (4, vI x4)] (r.toList ++ []) M' Q) (WPm.of k_X2_known.1 (Nat.le_of_ble_eq_true rfl) (B_X2_known_0 (by omega) ?_)) (fun r M' q => q)
  obtain ⟨e1, h⟩ := h
  refine ⟨e1, ?_⟩
  obtain ⟨e2, h⟩ := h
  refine ⟨e2, ?_⟩
  change WP _ LAY m_X0_lay 8 [(0, vR (some 39)), (1, vI x1), (2, vI x2), (3, vI x3), (4, vI x4)] [vI (or32 (gi I 19 ((3 + (x1 * 14)) + 1).toNat) (gi I 19 ((3 + (x1 * 14)) + 2).toNat))] (mem (P, some 5, some 22) I J) Q
  obtain ⟨y3, hy3⟩ : ∃ y : Int, y = (or32 (gi I 19 ((3 + (x1 * 14)) + 1).toNat) (gi I 19 ((3 + (x1 * 14)) + 2).toNat)) := ⟨_, rfl⟩
  rw [← hy3]
  replace h := h y3 hy3
  refine st_istore (pc' := 10) (L' := [(5, vI y3), (0, vR (some 39)), (1, vI x1), (2, vI x2), (3, vI x3), (4, vI x4)]) dX0_lay_8 rfl (by decide) rfl ?_
  refine st_iload (pc' := 12) dX0_lay_10 rfl (j := 5) rfl ?_
  obtain ⟨e4, h⟩ := h
  refine st_if_eq (tg := 27) (pc' := 15) dX0_lay_12 (by decide) rfl e4 (fun c => ?_) (fun c => ?_)
  · replace h := h.1 c
    refine st_iconst (pc' := 28) dX0_lay_27 rfl ?_
    refine st_istore (pc' := 30) (L' := [(6, vI (-1)), (5, vI y3), (0, vR (some 39)), (1, vI x1), (2, vI x2), (3, vI x3), (4, vI x4)]) dX0_lay_28 rfl (by decide) rfl ?_
    refine st_iload (pc' := 32) dX0_lay_30 rfl (j := 0) rfl ?_
    refine st_iconst (pc' := 33) dX0_lay_32 rfl ?_
    refine st_icmp_eq (tg := 58) (pc' := 36) dX0_lay_33 (by decide) rfl (by decide) (by decide) (fun c => ?_) (fun c => ?_)
    · refine st_aload_n (pc' := 59) dX0_lay_58 rfl rfl (j := 2) rfl ?_
      refine st_iload_n (pc' := 60) dX0_lay_59 rfl rfl (j := 3) rfl ?_
      refine st_iload (pc' := 62) dX0_lay_60 rfl (j := 1) rfl ?_
      refine st_callV (pc' := 65) (kc := k - 1) (E' := LAY) (cal := m_X0_nextPage) (n := 2) (as := [vI x1, vI y3]) (S := []) dX0_lay_62 rfl l_X0_46 k_X0_nextPage rfl L_39 c_X0 rfl rfl (Nat.le_of_ble_eq_true rfl) (by omega) ⟨Nat.le_refl _, Nat.le_refl _, Nat.le_refl _, Nat.le_refl _⟩ h (fun r M' q => ?_)
      obtain ⟨v5, I6, J7, rfl, rfl, h⟩ := q
      change WP _ LAY m_X0_lay 65 [(6, vI (-1)), (5, vI y3), (0, vR (some 39)), (1, vI x1), (2, vI x2), (3, vI x3), (4, vI x4)] [vI v5] (mem (P, some 5, some 22) I6 J7) Q
      refine st_istore (pc' := 67) (L' := [(7, vI v5), (6, vI (-1)), (5, vI y3), (0, vR (some 39)), (1, vI x1), (2, vI x2), (3, vI x3), (4, vI x4)]) dX0_lay_65 rfl (by decide) rfl ?_
      refine st_aload_n (pc' := 68) dX0_lay_67 rfl rfl (j := 3) rfl ?_
      refine st_iload (pc' := 70) dX0_lay_68 rfl (j := 0) rfl ?_
      refine st_iconst (pc' := 71) dX0_lay_70 rfl ?_
      obtain ⟨e8, h⟩ := h
      refine st_icmp_eq (tg := 93) (pc' := 74) dX0_lay_71 (by decide) rfl e8 (by decide) (fun c => ?_) (fun c => ?_)
      · replace h := h.1 c
        refine st_iconst (pc' := 94) dX0_lay_93 rfl ?_
        refine P_X0_49_39 dX0_lay_94 (pc' := 97) rfl rfl ?_
        refine st_aload_n (pc' := 98) dX0_lay_97 rfl rfl (j := 3) rfl ?_
        refine st_iconst (pc' := 99) dX0_lay_98 rfl ?_
        refine P_X0_53_39 dX0_lay_99 (pc' := 102) rfl rfl ?_
        refine st_aload_n (pc' := 103) dX0_lay_102 rfl rfl (j := 3) rfl ?_
        refine G_X0_49_39 dX0_lay_103 (pc' := 106) rfl rfl ?_
        rw [show gi (si (si I6 39 5 0) 39 4 0) 39 5 = 0 from ((gi_idx _ _ _ (by decide)).trans (gi_same _ _ _ (by decide)))]
        refine st_ineg (pc' := 107) dX0_lay_106 rfl ?_
        refine st_istore (pc' := 109) (L' := [(8, vI (-0)), (7, vI v5), (6, vI (-1)), (5, vI y3), (0, vR (some 39)), (1, vI x1), (2, vI x2), (3, vI x3), (4, vI x4)]) dX0_lay_107 rfl (by decide) rfl ?_
        refine WP_sub (L' := [(0, vR (some 39)), (1, vI x1), (2, vI x2), (3, vI x3), (5, vI y3), (7, vI v5), (8, vI (-0))]) [4, 5, 6, 7, 3, 1, 0] rfl ?_
        exact h
      · replace h := h.2 c
        refine st_iload (pc' := 76) dX0_lay_74 rfl (j := 0) rfl ?_
        refine st_iload (pc' := 78) dX0_lay_76 rfl (j := 1) rfl ?_
        refine st_icmp_ne (tg := 93) (pc' := 81) dX0_lay_78 (by decide) rfl e8 (by decide) (fun c => ?_) (fun c => ?_)
        · replace h := h.1 c
          refine st_iconst (pc' := 94) dX0_lay_93 rfl ?_
          refine P_X0_49_39 dX0_lay_94 (pc' := 97) rfl rfl ?_
          refine st_aload_n (pc' := 98) dX0_lay_97 rfl rfl (j := 3) rfl ?_
          refine st_iconst (pc' := 99) dX0_lay_98 rfl ?_
          refine P_X0_53_39 dX0_lay_99 (pc' := 102) rfl rfl ?_
          refine st_aload_n (pc' := 103) dX0_lay_102 rfl rfl (j := 3) rfl ?_
          refine G_X0_49_39 dX0_lay_103 (pc' := 106) rfl rfl ?_
          rw [show gi (si (si I6 39 5 0) 39 4 0) 39 5 = 0 from ((gi_idx _ _ _ (by decide)).trans (gi_same _ _ _ (by decide)))]
          refine st_ineg (pc' := 107) dX0_lay_106 rfl ?_
          refine st_istore (pc' := 109) (L' := [(8, vI (-0)), (7, vI v5), (6, vI (-1)), (5, vI y3), (0, vR (some 39)), (1, vI x1), (2, vI x2), (3, vI x3), (4, vI x4)]) dX0_lay_107 rfl (by decide) rfl ?_
          refine WP_sub (L' := [(0, vR (some 39)), (1, vI x1), (2, vI x2), (3, vI x3), (5, vI y3), (7, vI v5), (8, vI (-0))]) [4, 5, 6, 7, 3, 1, 0] rfl ?_
          exact h
        · replace h := h.2 c
          refine st_aload_n (pc' := 82) dX0_lay_81 rfl rfl (j := 3) rfl ?_
          refine G_X0_18_39 dX0_lay_82 (pc' := 85) rfl rfl ?_
          refine st_iload_n (pc' := 86) dX0_lay_85 rfl rfl (j := 4) rfl ?_
          refine st_iconst (pc' := 87) dX0_lay_86 rfl ?_
          refine st_callV (pc' := 90) (kc := k - 1) (E' := LAY) (cal := m_X2_of) (n := 2) (as := [vI x1, vI 4]) (S := [vR (some 39)]) dX0_lay_87 rfl l_X0_32 k_X2_of rfl L_4 c_X2 rfl rfl (Nat.le_of_ble_eq_true rfl) (by omega) ⟨Nat.le_refl _, Nat.le_refl _, Nat.le_refl _, Nat.le_refl _⟩ (Q1 := fun r M' => WP k LAY m_X0_lay 90 [(7, vI v5), (6, vI (-1)), (5, vI y3), (0, vR (some 39)), (1, vI x1), (2, vI x2), (3, vI x3), (4, vI x4)] (r.toList ++ [vR (some 39)]) M' Q) (WPm.of k_X2_of.1 (Nat.le_of_ble_eq_true rfl) (B_X2_of_0 (by omega) ?_)) (fun r M' q => q)
          obtain ⟨e9, h⟩ := h
          refine ⟨e9, ?_⟩
          change WP _ LAY m_X0_lay 90 [(7, vI v5), (6, vI (-1)), (5, vI y3), (0, vR (some 39)), (1, vI x1), (2, vI x2), (3, vI x3), (4, vI x4)] [vI (gi I6 19 ((3 + (x1 * 14)) + 4).toNat), vR (some 39)] (mem (P, some 5, some 22) I6 J7) Q
          refine st_goto (pc' := 94) dX0_lay_90 (by decide) ?_
          refine P_X0_49_39 dX0_lay_94 (pc' := 97) rfl rfl ?_
          refine st_aload_n (pc' := 98) dX0_lay_97 rfl rfl (j := 3) rfl ?_
          refine st_iconst (pc' := 99) dX0_lay_98 rfl ?_
          refine P_X0_53_39 dX0_lay_99 (pc' := 102) rfl rfl ?_
          refine st_aload_n (pc' := 103) dX0_lay_102 rfl rfl (j := 3) rfl ?_
          refine G_X0_49_39 dX0_lay_103 (pc' := 106) rfl rfl ?_
          rw [show gi (si (si I6 39 5 (gi I6 19 ((3 + (x1 * 14)) + 4).toNat)) 39 4 0) 39 5 = (gi I6 19 ((3 + (x1 * 14)) + 4).toNat) from ((gi_idx _ _ _ (by decide)).trans (gi_same _ _ _ (gi_in _ _ _)))]
          refine st_ineg (pc' := 107) dX0_lay_106 rfl ?_
          refine st_istore (pc' := 109) (L' := [(8, vI (-(gi I6 19 ((3 + (x1 * 14)) + 4).toNat))), (7, vI v5), (6, vI (-1)), (5, vI y3), (0, vR (some 39)), (1, vI x1), (2, vI x2), (3, vI x3), (4, vI x4)]) dX0_lay_107 rfl (by decide) rfl ?_
          refine WP_sub (L' := [(0, vR (some 39)), (1, vI x1), (2, vI x2), (3, vI x3), (5, vI y3), (7, vI v5), (8, vI (-(gi I6 19 ((3 + (x1 * 14)) + 4).toNat)))]) [4, 5, 6, 7, 3, 1, 0] rfl ?_
          exact h
    · exact absurd c (by decide)
  · replace h := h.2 c
    refine st_aload_n (pc' := 16) dX0_lay_15 rfl rfl (j := 1) rfl ?_
    refine G_X0_18_39 dX0_lay_16 (pc' := 19) rfl rfl ?_
    refine st_iload_n (pc' := 20) dX0_lay_19 rfl rfl (j := 2) rfl ?_
    refine st_iconst (pc' := 21) dX0_lay_20 rfl ?_
    refine st_callV (pc' := 24) (kc := k - 1) (E' := LAY) (cal := m_X2_of) (n := 2) (as := [vI x1, vI 3]) (S := []) dX0_lay_21 rfl l_X0_32 k_X2_of rfl L_4 c_X2 rfl rfl (Nat.le_of_ble_eq_true rfl) (by omega) ⟨Nat.le_refl _, Nat.le_refl _, Nat.le_refl _, Nat.le_refl _⟩ (Q1 := fun r M' => WP k LAY m_X0_lay 24 [(5, vI y3), (0, vR (some 39)), (1, vI x1), (2, vI x2), (3, vI x3), (4, vI x4)] (r.toList ++ []) M' Q) (WPm.of k_X2_of.1 (Nat.le_of_ble_eq_true rfl) (B_X2_of_0 (by omega) ?_)) (fun r M' q => q)
    obtain ⟨e10, h⟩ := h
    refine ⟨e10, ?_⟩
    change WP _ LAY m_X0_lay 24 [(5, vI y3), (0, vR (some 39)), (1, vI x1), (2, vI x2), (3, vI x3), (4, vI x4)] [vI (gi I 19 ((3 + (x1 * 14)) + 3).toNat)] (mem (P, some 5, some 22) I J) Q
    refine st_goto (pc' := 28) dX0_lay_24 (by decide) ?_
    refine st_istore (pc' := 30) (L' := [(6, vI (gi I 19 ((3 + (x1 * 14)) + 3).toNat)), (5, vI y3), (0, vR (some 39)), (1, vI x1), (2, vI x2), (3, vI x3), (4, vI x4)]) dX0_lay_28 rfl (by decide) rfl ?_
    refine st_iload (pc' := 32) dX0_lay_30 rfl (j := 0) rfl ?_
    refine st_iconst (pc' := 33) dX0_lay_32 rfl ?_
    refine st_icmp_eq (tg := 58) (pc' := 36) dX0_lay_33 (by decide) rfl (gi_in _ _ _) (by decide) (fun c => ?_) (fun c => ?_)
    · replace h := h.1 c
      refine st_aload_n (pc' := 59) dX0_lay_58 rfl rfl (j := 2) rfl ?_
      refine st_iload_n (pc' := 60) dX0_lay_59 rfl rfl (j := 3) rfl ?_
      refine st_iload (pc' := 62) dX0_lay_60 rfl (j := 1) rfl ?_
      refine st_callV (pc' := 65) (kc := k - 1) (E' := LAY) (cal := m_X0_nextPage) (n := 2) (as := [vI x1, vI y3]) (S := []) dX0_lay_62 rfl l_X0_46 k_X0_nextPage rfl L_39 c_X0 rfl rfl (Nat.le_of_ble_eq_true rfl) (by omega) ⟨Nat.le_refl _, Nat.le_refl _, Nat.le_refl _, Nat.le_refl _⟩ h (fun r M' q => ?_)
      obtain ⟨v11, I12, J13, rfl, rfl, h⟩ := q
      change WP _ LAY m_X0_lay 65 [(6, vI (gi I 19 ((3 + (x1 * 14)) + 3).toNat)), (5, vI y3), (0, vR (some 39)), (1, vI x1), (2, vI x2), (3, vI x3), (4, vI x4)] [vI v11] (mem (P, some 5, some 22) I12 J13) Q
      refine st_istore (pc' := 67) (L' := [(7, vI v11), (6, vI (gi I 19 ((3 + (x1 * 14)) + 3).toNat)), (5, vI y3), (0, vR (some 39)), (1, vI x1), (2, vI x2), (3, vI x3), (4, vI x4)]) dX0_lay_65 rfl (by decide) rfl ?_
      refine st_aload_n (pc' := 68) dX0_lay_67 rfl rfl (j := 3) rfl ?_
      refine st_iload (pc' := 70) dX0_lay_68 rfl (j := 0) rfl ?_
      refine st_iconst (pc' := 71) dX0_lay_70 rfl ?_
      obtain ⟨e14, h⟩ := h
      refine st_icmp_eq (tg := 93) (pc' := 74) dX0_lay_71 (by decide) rfl e14 (by decide) (fun c => ?_) (fun c => ?_)
      · replace h := h.1 c
        refine st_iconst (pc' := 94) dX0_lay_93 rfl ?_
        refine P_X0_49_39 dX0_lay_94 (pc' := 97) rfl rfl ?_
        refine st_aload_n (pc' := 98) dX0_lay_97 rfl rfl (j := 3) rfl ?_
        refine st_iconst (pc' := 99) dX0_lay_98 rfl ?_
        refine P_X0_53_39 dX0_lay_99 (pc' := 102) rfl rfl ?_
        refine st_aload_n (pc' := 103) dX0_lay_102 rfl rfl (j := 3) rfl ?_
        refine G_X0_49_39 dX0_lay_103 (pc' := 106) rfl rfl ?_
        rw [show gi (si (si I12 39 5 0) 39 4 0) 39 5 = 0 from ((gi_idx _ _ _ (by decide)).trans (gi_same _ _ _ (by decide)))]
        refine st_ineg (pc' := 107) dX0_lay_106 rfl ?_
        refine st_istore (pc' := 109) (L' := [(8, vI (-0)), (7, vI v11), (6, vI (gi I 19 ((3 + (x1 * 14)) + 3).toNat)), (5, vI y3), (0, vR (some 39)), (1, vI x1), (2, vI x2), (3, vI x3), (4, vI x4)]) dX0_lay_107 rfl (by decide) rfl ?_
        refine WP_sub (L' := [(0, vR (some 39)), (1, vI x1), (2, vI x2), (3, vI x3), (5, vI y3), (7, vI v11), (8, vI (-0))]) [4, 5, 6, 7, 3, 1, 0] rfl ?_
        exact h
      · replace h := h.2 c
        refine st_iload (pc' := 76) dX0_lay_74 rfl (j := 0) rfl ?_
        refine st_iload (pc' := 78) dX0_lay_76 rfl (j := 1) rfl ?_
        refine st_icmp_ne (tg := 93) (pc' := 81) dX0_lay_78 (by decide) rfl e14 (gi_in _ _ _) (fun c => ?_) (fun c => ?_)
        · replace h := h.1 c
          refine st_iconst (pc' := 94) dX0_lay_93 rfl ?_
          refine P_X0_49_39 dX0_lay_94 (pc' := 97) rfl rfl ?_
          refine st_aload_n (pc' := 98) dX0_lay_97 rfl rfl (j := 3) rfl ?_
          refine st_iconst (pc' := 99) dX0_lay_98 rfl ?_
          refine P_X0_53_39 dX0_lay_99 (pc' := 102) rfl rfl ?_
          refine st_aload_n (pc' := 103) dX0_lay_102 rfl rfl (j := 3) rfl ?_
          refine G_X0_49_39 dX0_lay_103 (pc' := 106) rfl rfl ?_
          rw [show gi (si (si I12 39 5 0) 39 4 0) 39 5 = 0 from ((gi_idx _ _ _ (by decide)).trans (gi_same _ _ _ (by decide)))]
          refine st_ineg (pc' := 107) dX0_lay_106 rfl ?_
          refine st_istore (pc' := 109) (L' := [(8, vI (-0)), (7, vI v11), (6, vI (gi I 19 ((3 + (x1 * 14)) + 3).toNat)), (5, vI y3), (0, vR (some 39)), (1, vI x1), (2, vI x2), (3, vI x3), (4, vI x4)]) dX0_lay_107 rfl (by decide) rfl ?_
          refine WP_sub (L' := [(0, vR (some 39)), (1, vI x1), (2, vI x2), (3, vI x3), (5, vI y3), (7, vI v11), (8, vI (-0))]) [4, 5, 6, 7, 3, 1, 0] rfl ?_
          exact h
        · replace h := h.2 c
          refine st_aload_n (pc' := 82) dX0_lay_81 rfl rfl (j := 3) rfl ?_
          refine G_X0_18_39 dX0_lay_82 (pc' := 85) rfl rfl ?_
          refine st_iload_n (pc' := 86) dX0_lay_85 rfl rfl (j := 4) rfl ?_
          refine st_iconst (pc' := 87) dX0_lay_86 rfl ?_
          refine st_callV (pc' := 90) (kc := k - 1) (E' := LAY) (cal := m_X2_of) (n := 2) (as := [vI x1, vI 4]) (S := [vR (some 39)]) dX0_lay_87 rfl l_X0_32 k_X2_of rfl L_4 c_X2 rfl rfl (Nat.le_of_ble_eq_true rfl) (by omega) ⟨Nat.le_refl _, Nat.le_refl _, Nat.le_refl _, Nat.le_refl _⟩ (Q1 := fun r M' => WP k LAY m_X0_lay 90 [(7, vI v11), (6, vI (gi I 19 ((3 + (x1 * 14)) + 3).toNat)), (5, vI y3), (0, vR (some 39)), (1, vI x1), (2, vI x2), (3, vI x3), (4, vI x4)] (r.toList ++ [vR (some 39)]) M' Q) (WPm.of k_X2_of.1 (Nat.le_of_ble_eq_true rfl) (B_X2_of_0 (by omega) ?_)) (fun r M' q => q)
          obtain ⟨e15, h⟩ := h
          refine ⟨e15, ?_⟩
          change WP _ LAY m_X0_lay 90 [(7, vI v11), (6, vI (gi I 19 ((3 + (x1 * 14)) + 3).toNat)), (5, vI y3), (0, vR (some 39)), (1, vI x1), (2, vI x2), (3, vI x3), (4, vI x4)] [vI (gi I12 19 ((3 + (x1 * 14)) + 4).toNat), vR (some 39)] (mem (P, some 5, some 22) I12 J13) Q
          refine st_goto (pc' := 94) dX0_lay_90 (by decide) ?_
          refine P_X0_49_39 dX0_lay_94 (pc' := 97) rfl rfl ?_
          refine st_aload_n (pc' := 98) dX0_lay_97 rfl rfl (j := 3) rfl ?_
          refine st_iconst (pc' := 99) dX0_lay_98 rfl ?_
          refine P_X0_53_39 dX0_lay_99 (pc' := 102) rfl rfl ?_
          refine st_aload_n (pc' := 103) dX0_lay_102 rfl rfl (j := 3) rfl ?_
          refine G_X0_49_39 dX0_lay_103 (pc' := 106) rfl rfl ?_
          rw [show gi (si (si I12 39 5 (gi I12 19 ((3 + (x1 * 14)) + 4).toNat)) 39 4 0) 39 5 = (gi I12 19 ((3 + (x1 * 14)) + 4).toNat) from ((gi_idx _ _ _ (by decide)).trans (gi_same _ _ _ (gi_in _ _ _)))]
          refine st_ineg (pc' := 107) dX0_lay_106 rfl ?_
          refine st_istore (pc' := 109) (L' := [(8, vI (-(gi I12 19 ((3 + (x1 * 14)) + 4).toNat))), (7, vI v11), (6, vI (gi I 19 ((3 + (x1 * 14)) + 3).toNat)), (5, vI y3), (0, vR (some 39)), (1, vI x1), (2, vI x2), (3, vI x3), (4, vI x4)]) dX0_lay_107 rfl (by decide) rfl ?_
          refine WP_sub (L' := [(0, vR (some 39)), (1, vI x1), (2, vI x2), (3, vI x3), (5, vI y3), (7, vI v11), (8, vI (-(gi I12 19 ((3 + (x1 * 14)) + 4).toNat)))]) [4, 5, 6, 7, 3, 1, 0] rfl ?_
          exact h
    · replace h := h.2 c
      refine st_aload_n (pc' := 37) dX0_lay_36 rfl rfl (j := 2) rfl ?_
      refine G_X0_18_39 dX0_lay_37 (pc' := 40) rfl rfl ?_
      refine G_X0_36_4 dX0_lay_40 (pc' := 43) rfl rfl ?_
      refine st_iload (pc' := 45) dX0_lay_43 rfl (j := 1) rfl ?_
      refine st_iload (pc' := 47) dX0_lay_45 rfl (j := 0) rfl ?_
      obtain ⟨e16, h⟩ := h
      refine st_callV (pc' := 50) (kc := k - 1) (E' := LAY) (cal := m_X7_mayRead) (n := 2) (as := [vI y3, vI (gi I 19 ((3 + (x1 * 14)) + 3).toNat)]) (S := []) dX0_lay_47 rfl l_X0_40 k_X7_mayRead rfl L_5 c_X7 rfl rfl (Nat.le_of_ble_eq_true rfl) (by omega) ⟨Nat.le_refl _, Nat.le_refl _, Nat.le_refl _, Nat.le_refl _⟩ (Q1 := fun r M' => WP k LAY m_X0_lay 50 [(6, vI (gi I 19 ((3 + (x1 * 14)) + 3).toNat)), (5, vI y3), (0, vR (some 39)), (1, vI x1), (2, vI x2), (3, vI x3), (4, vI x4)] (r.toList ++ []) M' Q) (S_X7_mayRead_5 (by omega) e16 ?_) (fun r M' q => q)
      change WP _ LAY m_X0_lay 50 [(6, vI (gi I 19 ((3 + (x1 * 14)) + 3).toNat)), (5, vI y3), (0, vR (some 39)), (1, vI x1), (2, vI x2), (3, vI x3), (4, vI x4)] [vI (b2i (and32 (gi I 11 ((gi I 19 ((3 + (x1 * 14)) + 3).toNat) : Int).toNat) (xor32 y3 (-1)) = 0))] (mem (P, some 5, some 22) I J) Q
      refine st_if_eq (tg := 58) (pc' := 53) dX0_lay_50 (by decide) rfl (b2i_in _) (fun c => ?_) (fun c => ?_)
      · replace h := h.1 (b2i_f.mp c)
        refine st_aload_n (pc' := 59) dX0_lay_58 rfl rfl (j := 2) rfl ?_
        refine st_iload_n (pc' := 60) dX0_lay_59 rfl rfl (j := 3) rfl ?_
        refine st_iload (pc' := 62) dX0_lay_60 rfl (j := 1) rfl ?_
        refine st_callV (pc' := 65) (kc := k - 1) (E' := LAY) (cal := m_X0_nextPage) (n := 2) (as := [vI x1, vI y3]) (S := []) dX0_lay_62 rfl l_X0_46 k_X0_nextPage rfl L_39 c_X0 rfl rfl (Nat.le_of_ble_eq_true rfl) (by omega) ⟨Nat.le_refl _, Nat.le_refl _, Nat.le_refl _, Nat.le_refl _⟩ h (fun r M' q => ?_)
        obtain ⟨v17, I18, J19, rfl, rfl, h⟩ := q
        change WP _ LAY m_X0_lay 65 [(6, vI (gi I 19 ((3 + (x1 * 14)) + 3).toNat)), (5, vI y3), (0, vR (some 39)), (1, vI x1), (2, vI x2), (3, vI x3), (4, vI x4)] [vI v17] (mem (P, some 5, some 22) I18 J19) Q
        refine st_istore (pc' := 67) (L' := [(7, vI v17), (6, vI (gi I 19 ((3 + (x1 * 14)) + 3).toNat)), (5, vI y3), (0, vR (some 39)), (1, vI x1), (2, vI x2), (3, vI x3), (4, vI x4)]) dX0_lay_65 rfl (by decide) rfl ?_
        refine st_aload_n (pc' := 68) dX0_lay_67 rfl rfl (j := 3) rfl ?_
        refine st_iload (pc' := 70) dX0_lay_68 rfl (j := 0) rfl ?_
        refine st_iconst (pc' := 71) dX0_lay_70 rfl ?_
        obtain ⟨e20, h⟩ := h
        refine st_icmp_eq (tg := 93) (pc' := 74) dX0_lay_71 (by decide) rfl e20 (by decide) (fun c => ?_) (fun c => ?_)
        · replace h := h.1 c
          refine st_iconst (pc' := 94) dX0_lay_93 rfl ?_
          refine P_X0_49_39 dX0_lay_94 (pc' := 97) rfl rfl ?_
          refine st_aload_n (pc' := 98) dX0_lay_97 rfl rfl (j := 3) rfl ?_
          refine st_iconst (pc' := 99) dX0_lay_98 rfl ?_
          refine P_X0_53_39 dX0_lay_99 (pc' := 102) rfl rfl ?_
          refine st_aload_n (pc' := 103) dX0_lay_102 rfl rfl (j := 3) rfl ?_
          refine G_X0_49_39 dX0_lay_103 (pc' := 106) rfl rfl ?_
          rw [show gi (si (si I18 39 5 0) 39 4 0) 39 5 = 0 from ((gi_idx _ _ _ (by decide)).trans (gi_same _ _ _ (by decide)))]
          refine st_ineg (pc' := 107) dX0_lay_106 rfl ?_
          refine st_istore (pc' := 109) (L' := [(8, vI (-0)), (7, vI v17), (6, vI (gi I 19 ((3 + (x1 * 14)) + 3).toNat)), (5, vI y3), (0, vR (some 39)), (1, vI x1), (2, vI x2), (3, vI x3), (4, vI x4)]) dX0_lay_107 rfl (by decide) rfl ?_
          refine WP_sub (L' := [(0, vR (some 39)), (1, vI x1), (2, vI x2), (3, vI x3), (5, vI y3), (7, vI v17), (8, vI (-0))]) [4, 5, 6, 7, 3, 1, 0] rfl ?_
          exact h
        · replace h := h.2 c
          refine st_iload (pc' := 76) dX0_lay_74 rfl (j := 0) rfl ?_
          refine st_iload (pc' := 78) dX0_lay_76 rfl (j := 1) rfl ?_
          refine st_icmp_ne (tg := 93) (pc' := 81) dX0_lay_78 (by decide) rfl e20 (gi_in _ _ _) (fun c => ?_) (fun c => ?_)
          · replace h := h.1 c
            refine st_iconst (pc' := 94) dX0_lay_93 rfl ?_
            refine P_X0_49_39 dX0_lay_94 (pc' := 97) rfl rfl ?_
            refine st_aload_n (pc' := 98) dX0_lay_97 rfl rfl (j := 3) rfl ?_
            refine st_iconst (pc' := 99) dX0_lay_98 rfl ?_
            refine P_X0_53_39 dX0_lay_99 (pc' := 102) rfl rfl ?_
            refine st_aload_n (pc' := 103) dX0_lay_102 rfl rfl (j := 3) rfl ?_
            refine G_X0_49_39 dX0_lay_103 (pc' := 106) rfl rfl ?_
            rw [show gi (si (si I18 39 5 0) 39 4 0) 39 5 = 0 from ((gi_idx _ _ _ (by decide)).trans (gi_same _ _ _ (by decide)))]
            refine st_ineg (pc' := 107) dX0_lay_106 rfl ?_
            refine st_istore (pc' := 109) (L' := [(8, vI (-0)), (7, vI v17), (6, vI (gi I 19 ((3 + (x1 * 14)) + 3).toNat)), (5, vI y3), (0, vR (some 39)), (1, vI x1), (2, vI x2), (3, vI x3), (4, vI x4)]) dX0_lay_107 rfl (by decide) rfl ?_
            refine WP_sub (L' := [(0, vR (some 39)), (1, vI x1), (2, vI x2), (3, vI x3), (5, vI y3), (7, vI v17), (8, vI (-0))]) [4, 5, 6, 7, 3, 1, 0] rfl ?_
            exact h
          · replace h := h.2 c
            refine st_aload_n (pc' := 82) dX0_lay_81 rfl rfl (j := 3) rfl ?_
            refine G_X0_18_39 dX0_lay_82 (pc' := 85) rfl rfl ?_
            refine st_iload_n (pc' := 86) dX0_lay_85 rfl rfl (j := 4) rfl ?_
            refine st_iconst (pc' := 87) dX0_lay_86 rfl ?_
            refine st_callV (pc' := 90) (kc := k - 1) (E' := LAY) (cal := m_X2_of) (n := 2) (as := [vI x1, vI 4]) (S := [vR (some 39)]) dX0_lay_87 rfl l_X0_32 k_X2_of rfl L_4 c_X2 rfl rfl (Nat.le_of_ble_eq_true rfl) (by omega) ⟨Nat.le_refl _, Nat.le_refl _, Nat.le_refl _, Nat.le_refl _⟩ (Q1 := fun r M' => WP k LAY m_X0_lay 90 [(7, vI v17), (6, vI (gi I 19 ((3 + (x1 * 14)) + 3).toNat)), (5, vI y3), (0, vR (some 39)), (1, vI x1), (2, vI x2), (3, vI x3), (4, vI x4)] (r.toList ++ [vR (some 39)]) M' Q) (WPm.of k_X2_of.1 (Nat.le_of_ble_eq_true rfl) (B_X2_of_0 (by omega) ?_)) (fun r M' q => q)
            obtain ⟨e21, h⟩ := h
            refine ⟨e21, ?_⟩
            change WP _ LAY m_X0_lay 90 [(7, vI v17), (6, vI (gi I 19 ((3 + (x1 * 14)) + 3).toNat)), (5, vI y3), (0, vR (some 39)), (1, vI x1), (2, vI x2), (3, vI x3), (4, vI x4)] [vI (gi I18 19 ((3 + (x1 * 14)) + 4).toNat), vR (some 39)] (mem (P, some 5, some 22) I18 J19) Q
            refine st_goto (pc' := 94) dX0_lay_90 (by decide) ?_
            refine P_X0_49_39 dX0_lay_94 (pc' := 97) rfl rfl ?_
            refine st_aload_n (pc' := 98) dX0_lay_97 rfl rfl (j := 3) rfl ?_
            refine st_iconst (pc' := 99) dX0_lay_98 rfl ?_
            refine P_X0_53_39 dX0_lay_99 (pc' := 102) rfl rfl ?_
            refine st_aload_n (pc' := 103) dX0_lay_102 rfl rfl (j := 3) rfl ?_
            refine G_X0_49_39 dX0_lay_103 (pc' := 106) rfl rfl ?_
            rw [show gi (si (si I18 39 5 (gi I18 19 ((3 + (x1 * 14)) + 4).toNat)) 39 4 0) 39 5 = (gi I18 19 ((3 + (x1 * 14)) + 4).toNat) from ((gi_idx _ _ _ (by decide)).trans (gi_same _ _ _ (gi_in _ _ _)))]
            refine st_ineg (pc' := 107) dX0_lay_106 rfl ?_
            refine st_istore (pc' := 109) (L' := [(8, vI (-(gi I18 19 ((3 + (x1 * 14)) + 4).toNat))), (7, vI v17), (6, vI (gi I 19 ((3 + (x1 * 14)) + 3).toNat)), (5, vI y3), (0, vR (some 39)), (1, vI x1), (2, vI x2), (3, vI x3), (4, vI x4)]) dX0_lay_107 rfl (by decide) rfl ?_
            refine WP_sub (L' := [(0, vR (some 39)), (1, vI x1), (2, vI x2), (3, vI x3), (5, vI y3), (7, vI v17), (8, vI (-(gi I18 19 ((3 + (x1 * 14)) + 4).toNat)))]) [4, 5, 6, 7, 3, 1, 0] rfl ?_
            exact h
      · replace h := h.2 (b2i_t.mp c)
        refine st_iload (pc' := 55) dX0_lay_53 rfl (j := 0) rfl ?_
        refine st_goto (pc' := 65) dX0_lay_55 (by decide) ?_
        refine st_istore (pc' := 67) (L' := [(7, vI (gi I 19 ((3 + (x1 * 14)) + 3).toNat)), (6, vI (gi I 19 ((3 + (x1 * 14)) + 3).toNat)), (5, vI y3), (0, vR (some 39)), (1, vI x1), (2, vI x2), (3, vI x3), (4, vI x4)]) dX0_lay_65 rfl (by decide) rfl ?_
        refine st_aload_n (pc' := 68) dX0_lay_67 rfl rfl (j := 3) rfl ?_
        refine st_iload (pc' := 70) dX0_lay_68 rfl (j := 0) rfl ?_
        refine st_iconst (pc' := 71) dX0_lay_70 rfl ?_
        refine st_icmp_eq (tg := 93) (pc' := 74) dX0_lay_71 (by decide) rfl (gi_in _ _ _) (by decide) (fun c => ?_) (fun c => ?_)
        · replace h := h.1 c
          refine st_iconst (pc' := 94) dX0_lay_93 rfl ?_
          refine P_X0_49_39 dX0_lay_94 (pc' := 97) rfl rfl ?_
          refine st_aload_n (pc' := 98) dX0_lay_97 rfl rfl (j := 3) rfl ?_
          refine st_iconst (pc' := 99) dX0_lay_98 rfl ?_
          refine P_X0_53_39 dX0_lay_99 (pc' := 102) rfl rfl ?_
          refine st_aload_n (pc' := 103) dX0_lay_102 rfl rfl (j := 3) rfl ?_
          refine G_X0_49_39 dX0_lay_103 (pc' := 106) rfl rfl ?_
          rw [show gi (si (si I 39 5 0) 39 4 0) 39 5 = 0 from ((gi_idx _ _ _ (by decide)).trans (gi_same _ _ _ (by decide)))]
          refine st_ineg (pc' := 107) dX0_lay_106 rfl ?_
          refine st_istore (pc' := 109) (L' := [(8, vI (-0)), (7, vI (gi I 19 ((3 + (x1 * 14)) + 3).toNat)), (6, vI (gi I 19 ((3 + (x1 * 14)) + 3).toNat)), (5, vI y3), (0, vR (some 39)), (1, vI x1), (2, vI x2), (3, vI x3), (4, vI x4)]) dX0_lay_107 rfl (by decide) rfl ?_
          refine WP_sub (L' := [(0, vR (some 39)), (1, vI x1), (2, vI x2), (3, vI x3), (5, vI y3), (7, vI (gi I 19 ((3 + (x1 * 14)) + 3).toNat)), (8, vI (-0))]) [4, 5, 6, 7, 3, 1, 0] rfl ?_
          exact h
        · replace h := h.2 c
          refine st_iload (pc' := 76) dX0_lay_74 rfl (j := 0) rfl ?_
          refine st_iload (pc' := 78) dX0_lay_76 rfl (j := 1) rfl ?_
          refine st_icmp_ne (tg := 93) (pc' := 81) dX0_lay_78 (by decide) rfl (gi_in _ _ _) (gi_in _ _ _) (fun c => ?_) (fun c => ?_)
          · replace h := h.1 c
            refine st_iconst (pc' := 94) dX0_lay_93 rfl ?_
            refine P_X0_49_39 dX0_lay_94 (pc' := 97) rfl rfl ?_
            refine st_aload_n (pc' := 98) dX0_lay_97 rfl rfl (j := 3) rfl ?_
            refine st_iconst (pc' := 99) dX0_lay_98 rfl ?_
            refine P_X0_53_39 dX0_lay_99 (pc' := 102) rfl rfl ?_
            refine st_aload_n (pc' := 103) dX0_lay_102 rfl rfl (j := 3) rfl ?_
            refine G_X0_49_39 dX0_lay_103 (pc' := 106) rfl rfl ?_
            rw [show gi (si (si I 39 5 0) 39 4 0) 39 5 = 0 from ((gi_idx _ _ _ (by decide)).trans (gi_same _ _ _ (by decide)))]
            refine st_ineg (pc' := 107) dX0_lay_106 rfl ?_
            refine st_istore (pc' := 109) (L' := [(8, vI (-0)), (7, vI (gi I 19 ((3 + (x1 * 14)) + 3).toNat)), (6, vI (gi I 19 ((3 + (x1 * 14)) + 3).toNat)), (5, vI y3), (0, vR (some 39)), (1, vI x1), (2, vI x2), (3, vI x3), (4, vI x4)]) dX0_lay_107 rfl (by decide) rfl ?_
            refine WP_sub (L' := [(0, vR (some 39)), (1, vI x1), (2, vI x2), (3, vI x3), (5, vI y3), (7, vI (gi I 19 ((3 + (x1 * 14)) + 3).toNat)), (8, vI (-0))]) [4, 5, 6, 7, 3, 1, 0] rfl ?_
            exact h
          · replace h := h.2 c
            refine st_aload_n (pc' := 82) dX0_lay_81 rfl rfl (j := 3) rfl ?_
            refine G_X0_18_39 dX0_lay_82 (pc' := 85) rfl rfl ?_
            refine st_iload_n (pc' := 86) dX0_lay_85 rfl rfl (j := 4) rfl ?_
            refine st_iconst (pc' := 87) dX0_lay_86 rfl ?_
            refine st_callV (pc' := 90) (kc := k - 1) (E' := LAY) (cal := m_X2_of) (n := 2) (as := [vI x1, vI 4]) (S := [vR (some 39)]) dX0_lay_87 rfl l_X0_32 k_X2_of rfl L_4 c_X2 rfl rfl (Nat.le_of_ble_eq_true rfl) (by omega) ⟨Nat.le_refl _, Nat.le_refl _, Nat.le_refl _, Nat.le_refl _⟩ (Q1 := fun r M' => WP k LAY m_X0_lay 90 [(7, vI (gi I 19 ((3 + (x1 * 14)) + 3).toNat)), (6, vI (gi I 19 ((3 + (x1 * 14)) + 3).toNat)), (5, vI y3), (0, vR (some 39)), (1, vI x1), (2, vI x2), (3, vI x3), (4, vI x4)] (r.toList ++ [vR (some 39)]) M' Q) (WPm.of k_X2_of.1 (Nat.le_of_ble_eq_true rfl) (B_X2_of_0 (by omega) ?_)) (fun r M' q => q)
            obtain ⟨e22, h⟩ := h
            refine ⟨e22, ?_⟩
            change WP _ LAY m_X0_lay 90 [(7, vI (gi I 19 ((3 + (x1 * 14)) + 3).toNat)), (6, vI (gi I 19 ((3 + (x1 * 14)) + 3).toNat)), (5, vI y3), (0, vR (some 39)), (1, vI x1), (2, vI x2), (3, vI x3), (4, vI x4)] [vI (gi I 19 ((3 + (x1 * 14)) + 4).toNat), vR (some 39)] (mem (P, some 5, some 22) I J) Q
            refine st_goto (pc' := 94) dX0_lay_90 (by decide) ?_
            refine P_X0_49_39 dX0_lay_94 (pc' := 97) rfl rfl ?_
            refine st_aload_n (pc' := 98) dX0_lay_97 rfl rfl (j := 3) rfl ?_
            refine st_iconst (pc' := 99) dX0_lay_98 rfl ?_
            refine P_X0_53_39 dX0_lay_99 (pc' := 102) rfl rfl ?_
            refine st_aload_n (pc' := 103) dX0_lay_102 rfl rfl (j := 3) rfl ?_
            refine G_X0_49_39 dX0_lay_103 (pc' := 106) rfl rfl ?_
            rw [show gi (si (si I 39 5 (gi I 19 ((3 + (x1 * 14)) + 4).toNat)) 39 4 0) 39 5 = (gi I 19 ((3 + (x1 * 14)) + 4).toNat) from ((gi_idx _ _ _ (by decide)).trans (gi_same _ _ _ (gi_in _ _ _)))]
            refine st_ineg (pc' := 107) dX0_lay_106 rfl ?_
            refine st_istore (pc' := 109) (L' := [(8, vI (-(gi I 19 ((3 + (x1 * 14)) + 4).toNat))), (7, vI (gi I 19 ((3 + (x1 * 14)) + 3).toNat)), (6, vI (gi I 19 ((3 + (x1 * 14)) + 3).toNat)), (5, vI y3), (0, vR (some 39)), (1, vI x1), (2, vI x2), (3, vI x3), (4, vI x4)]) dX0_lay_107 rfl (by decide) rfl ?_
            refine WP_sub (L' := [(0, vR (some 39)), (1, vI x1), (2, vI x2), (3, vI x3), (5, vI y3), (7, vI (gi I 19 ((3 + (x1 * 14)) + 3).toNat)), (8, vI (-(gi I 19 ((3 + (x1 * 14)) + 4).toNat)))]) [4, 5, 6, 7, 3, 1, 0] rfl ?_
            exact h
set_option maxRecDepth 20000 in
set_option maxHeartbeats 4000000 in
theorem B_X0_lay_109 {k : Nat} {P : Option Nat} {I : Nat → Nat → Int32} {J : Nat → Nat → Int64} {x1 : Int} {x2 : Int} {x3 : Int} {x5 : Int} {x7 : Int} {x8 : Int} {Q : Option AV → Mem → Prop} (hk : 1 ≤ k) (h : inR x7 ∧ ((x7 = (-1) → (Q none (mem (P, some 5, some 22) I J))) ∧ (¬ x7 = (-1) → ((8 ≤ (gi I 39 4) → (Q none (mem (P, some 5, some 22) I J))) ∧ (¬ 8 ≤ (gi I 39 4) → ((0 ≤ x1 ∧ x1 < 6) ∧ (WPm (k - 1) LAY m_X9_pageMinutes [vR (some 36), vI x7] (mem (P, some 5, some 22) (si (si (si (si (si (si (si I 38 7 (gi I 13 (x1).toNat)) 38 8 (gi I 14 (x1).toNat)) 38 16 (bc32 x5)) 38 10 x2) 38 17 x3) 38 11 (gi I 5 15)) 38 18 (gi I 19 0)) J) (retI (fun v3 I4 J5 => inR (x8 + v3) ∧ ((0 ≤ (gi I4 39 4) ∧ (gi I4 39 4) < 8) ∧ (WPm (k - 1) LAY m_X0_nextPage [vR (some 39), vI x1, vI (or32 x5 (shl32 1 x7))] (mem (P, some 5, some 22) (si (si (si I4 40 (gi I4 39 4).toNat x7) 41 (gi I4 39 4).toNat (max 0 (x8 + v3))) 39 4 ((gi I4 39 4) + 1)) J5) (retI (fun v8 I9 J10 => WP k LAY m_X0_lay 109 [(0, vR (some 39)), (1, vI x1), (2, vI x2), (3, vI x3), (5, vI (or32 x5 (shl32 1 x7))), (7, vI v8), (8, vI (max 0 (x8 + v3)))] [] (mem (P, some 5, some 22) I9 J10) Q) (P, some 5, some 22))))) (P, some 5, some 22))))))))) : WP k LAY m_X0_lay 109 [(0, vR (some 39)), (1, vI x1), (2, vI x2), (3, vI x3), (5, vI x5), (7, vI x7), (8, vI x8)] [] (mem (P, some 5, some 22) I J) Q := by
  refine st_iload (pc' := 111) dX0_lay_109 rfl (j := 5) rfl ?_
  refine st_iconst (pc' := 112) dX0_lay_111 rfl ?_
  obtain ⟨e1, h⟩ := h
  refine st_icmp_eq (tg := 210) (pc' := 115) dX0_lay_112 (by decide) rfl e1 (by decide) (fun c => ?_) (fun c => ?_)
  · replace h := h.1 c
    exact st_vret dX0_lay_210 rfl rfl h
  · replace h := h.2 c
    refine st_aload_n (pc' := 116) dX0_lay_115 rfl rfl (j := 0) rfl ?_
    refine G_X0_53_39 dX0_lay_116 (pc' := 119) rfl rfl ?_
    refine st_bipush (pc' := 121) dX0_lay_119 rfl (by decide) ?_
    refine st_icmp_ge (tg := 210) (pc' := 124) dX0_lay_121 (by decide) rfl (gi_in _ _ _) (by decide) (fun c => ?_) (fun c => ?_)
    · replace h := h.1 c
      exact st_vret dX0_lay_210 rfl rfl h
    · replace h := h.2 c
      refine st_aload_n (pc' := 125) dX0_lay_124 rfl rfl (j := 0) rfl ?_
      refine G_X0_22_39 dX0_lay_125 (pc' := 128) rfl rfl ?_
      refine st_iload_n (pc' := 129) dX0_lay_128 rfl rfl (j := 1) rfl ?_
      refine st_iload_n (pc' := 130) dX0_lay_129 rfl rfl (j := 2) rfl ?_
      refine st_iload_n (pc' := 131) dX0_lay_130 rfl rfl (j := 3) rfl ?_
      refine st_iload (pc' := 133) dX0_lay_131 rfl (j := 4) rfl ?_
      refine st_callS (pc' := 136) (kc := k - 1) (E' := LAY) (cal := m_J6_bitCount_0f7a4) (n := 1) (as := [vI x5]) (S := [vI x3, vI x2, vI x1, vR (some 36)]) dX0_lay_133 rfl l_X0_56 k_J6_bitCount_0f7a4 rfl rfl (Nat.le_of_ble_eq_true rfl) (by omega) ⟨Nat.le_refl _, Nat.le_refl _, Nat.le_refl _, Nat.le_refl _⟩ (Q1 := fun r M' => WP k LAY m_X0_lay 136 [(0, vR (some 39)), (1, vI x1), (2, vI x2), (3, vI x3), (5, vI x5), (7, vI x7), (8, vI x8)] (r.toList ++ [vI x3, vI x2, vI x1, vR (some 36)]) M' Q) (S_J6_bitCount (by omega)  ?_) (fun r M' q => q)
      change WP _ LAY m_X0_lay 136 [(0, vR (some 39)), (1, vI x1), (2, vI x2), (3, vI x3), (5, vI x5), (7, vI x7), (8, vI x8)] [vI (bc32 x5), vI x3, vI x2, vI x1, vR (some 36)] (mem (P, some 5, some 22) I J) Q
      refine st_callV (pc' := 139) (kc := k - 1) (E' := LAY) (cal := m_X9_setAt) (n := 4) (as := [vI x1, vI x2, vI x3, vI (bc32 x5)]) (S := []) dX0_lay_136 rfl l_X0_61 k_X9_setAt rfl L_36 c_X9 rfl rfl (Nat.le_of_ble_eq_true rfl) (by omega) ⟨Nat.le_refl _, Nat.le_refl _, Nat.le_refl _, Nat.le_refl _⟩ (Q1 := fun r M' => WP k LAY m_X0_lay 139 [(0, vR (some 39)), (1, vI x1), (2, vI x2), (3, vI x3), (5, vI x5), (7, vI x7), (8, vI x8)] (r.toList ++ []) M' Q) (WPm.of k_X9_setAt.1 (Nat.le_of_ble_eq_true rfl) (B_X9_setAt_0 (by omega) ?_)) (fun r M' q => q)
      obtain ⟨e2, h⟩ := h
      refine ⟨e2, ?_⟩
      change WP _ LAY m_X0_lay 139 [(0, vR (some 39)), (1, vI x1), (2, vI x2), (3, vI x3), (5, vI x5), (7, vI x7), (8, vI x8)] [] (mem (P, some 5, some 22) (si (si (si (si (si (si (si I 38 7 (gi I 13 (x1).toNat)) 38 8 (gi I 14 (x1).toNat)) 38 16 (bc32 x5)) 38 10 x2) 38 17 x3) 38 11 (gi I 5 15)) 38 18 (gi I 19 0)) J) Q
      refine st_iconst (pc' := 140) dX0_lay_139 rfl ?_
      refine st_iload (pc' := 142) dX0_lay_140 rfl (j := 6) rfl ?_
      refine st_aload_n (pc' := 143) dX0_lay_142 rfl rfl (j := 0) rfl ?_
      refine G_X0_22_39 dX0_lay_143 (pc' := 146) rfl rfl ?_
      refine st_iload (pc' := 148) dX0_lay_146 rfl (j := 5) rfl ?_
      refine st_callV (pc' := 151) (kc := k - 1) (E' := LAY) (cal := m_X9_pageMinutes) (n := 1) (as := [vI x7]) (S := [vI x8, vI 0]) dX0_lay_148 rfl l_X0_67 k_X9_pageMinutes rfl L_36 c_X9 rfl rfl (Nat.le_of_ble_eq_true rfl) (by omega) ⟨Nat.le_refl _, Nat.le_refl _, Nat.le_refl _, Nat.le_refl _⟩ h (fun r M' q => ?_)
      obtain ⟨v3, I4, J5, rfl, rfl, h⟩ := q
      change WP _ LAY m_X0_lay 151 [(0, vR (some 39)), (1, vI x1), (2, vI x2), (3, vI x3), (5, vI x5), (7, vI x7), (8, vI x8)] [vI v3, vI x8, vI 0] (mem (P, some 5, some 22) I4 J5) Q
      refine st_iadd (pc' := 152) dX0_lay_151 rfl ?_
      obtain ⟨e6, h⟩ := h
      refine st_callS (pc' := 155) (kc := k - 1) (E' := LAY) (cal := m_J9_max_7cf53) (n := 2) (as := [vI 0, vI (x8 + v3)]) (S := []) dX0_lay_152 rfl l_X0_70 k_J9_max_7cf53 rfl rfl (Nat.le_of_ble_eq_true rfl) (by omega) ⟨Nat.le_refl _, Nat.le_refl _, Nat.le_refl _, Nat.le_refl _⟩ (Q1 := fun r M' => WP k LAY m_X0_lay 155 [(0, vR (some 39)), (1, vI x1), (2, vI x2), (3, vI x3), (5, vI x5), (7, vI x7), (8, vI x8)] (r.toList ++ []) M' Q) (S_J9_max (by omega) (by decide) e6 ?_) (fun r M' q => q)
      change WP _ LAY m_X0_lay 155 [(0, vR (some 39)), (1, vI x1), (2, vI x2), (3, vI x3), (5, vI x5), (7, vI x7), (8, vI x8)] [vI (max 0 (x8 + v3))] (mem (P, some 5, some 22) I4 J5) Q
      refine st_istore (pc' := 157) (L' := [(8, vI (max 0 (x8 + v3))), (0, vR (some 39)), (1, vI x1), (2, vI x2), (3, vI x3), (5, vI x5), (7, vI x7)]) dX0_lay_155 rfl (by decide) rfl ?_
      refine st_aload_n (pc' := 158) dX0_lay_157 rfl rfl (j := 1) rfl ?_
      refine G_X0_9_39 dX0_lay_158 (pc' := 161) rfl rfl ?_
      refine st_aload_n (pc' := 162) dX0_lay_161 rfl rfl (j := 1) rfl ?_
      refine G_X0_53_39 dX0_lay_162 (pc' := 165) rfl rfl ?_
      refine st_iload (pc' := 167) dX0_lay_165 rfl (j := 6) rfl ?_
      obtain ⟨e7, h⟩ := h
      refine st_iastore (pc' := 168) (M' := (mem (P, some 5, some 22) (si I4 40 (gi I4 39 4).toNat x7) J5)) dX0_lay_167 rfl L_40 (by decide) e7 rfl ?_
      refine st_aload_n (pc' := 169) dX0_lay_168 rfl rfl (j := 1) rfl ?_
      refine G_X0_15_39 dX0_lay_169 (pc' := 172) rfl rfl ?_
      refine st_aload_n (pc' := 173) dX0_lay_172 rfl rfl (j := 1) rfl ?_
      refine G_X0_53_39 dX0_lay_173 (pc' := 176) rfl rfl ?_
      rw [show gi (si I4 40 (gi I4 39 4).toNat x7) 39 4 = (gi I4 39 4) from (gi_cell _ _ _ _ (by decide))]
      refine st_iload (pc' := 178) dX0_lay_176 rfl (j := 0) rfl ?_
      refine st_iastore (pc' := 179) (M' := (mem (P, some 5, some 22) (si (si I4 40 (gi I4 39 4).toNat x7) 41 (gi I4 39 4).toNat (max 0 (x8 + v3))) J5)) dX0_lay_178 rfl L_41 (by decide) e7 rfl ?_
      refine st_aload_n (pc' := 180) dX0_lay_179 rfl rfl (j := 1) rfl ?_
      refine st_dup (pc' := 181) dX0_lay_180 rfl rfl ?_
      refine G_X0_53_39 dX0_lay_181 (pc' := 184) rfl rfl ?_
      rw [show gi (si (si I4 40 (gi I4 39 4).toNat x7) 41 (gi I4 39 4).toNat (max 0 (x8 + v3))) 39 4 = (gi I4 39 4) from ((gi_cell _ _ _ _ (by decide)).trans (gi_cell _ _ _ _ (by decide)))]
      refine st_iconst (pc' := 185) dX0_lay_184 rfl ?_
      refine st_iadd (pc' := 186) dX0_lay_185 rfl ?_
      refine P_X0_53_39 dX0_lay_186 (pc' := 189) rfl rfl ?_
      refine st_iload (pc' := 191) dX0_lay_189 rfl (j := 5) rfl ?_
      refine st_iconst (pc' := 192) dX0_lay_191 rfl ?_
      refine st_iload (pc' := 194) dX0_lay_192 rfl (j := 6) rfl ?_
      refine st_ishl (pc' := 195) (z := (shl32 1 x7)) dX0_lay_194 rfl rfl ?_
      refine st_ior (pc' := 196) (z := (or32 x5 (shl32 1 x7))) dX0_lay_195 rfl rfl ?_
      refine st_istore (pc' := 198) (L' := [(5, vI (or32 x5 (shl32 1 x7))), (8, vI (max 0 (x8 + v3))), (0, vR (some 39)), (1, vI x1), (2, vI x2), (3, vI x3), (7, vI x7)]) dX0_lay_196 rfl (by decide) rfl ?_
      refine st_aload_n (pc' := 199) dX0_lay_198 rfl rfl (j := 2) rfl ?_
      refine st_iload_n (pc' := 200) dX0_lay_199 rfl rfl (j := 3) rfl ?_
      refine st_iload (pc' := 202) dX0_lay_200 rfl (j := 0) rfl ?_
      refine st_callV (pc' := 205) (kc := k - 1) (E' := LAY) (cal := m_X0_nextPage) (n := 2) (as := [vI x1, vI (or32 x5 (shl32 1 x7))]) (S := []) dX0_lay_202 rfl l_X0_46 k_X0_nextPage rfl L_39 c_X0 rfl rfl (Nat.le_of_ble_eq_true rfl) (by omega) ⟨Nat.le_refl _, Nat.le_refl _, Nat.le_refl _, Nat.le_refl _⟩ h (fun r M' q => ?_)
      obtain ⟨v8, I9, J10, rfl, rfl, h⟩ := q
      change WP _ LAY m_X0_lay 205 [(5, vI (or32 x5 (shl32 1 x7))), (8, vI (max 0 (x8 + v3))), (0, vR (some 39)), (1, vI x1), (2, vI x2), (3, vI x3), (7, vI x7)] [vI v8] (mem (P, some 5, some 22) I9 J10) Q
      refine st_istore (pc' := 207) (L' := [(7, vI v8), (5, vI (or32 x5 (shl32 1 x7))), (8, vI (max 0 (x8 + v3))), (0, vR (some 39)), (1, vI x1), (2, vI x2), (3, vI x3)]) dX0_lay_205 rfl (by decide) rfl ?_
      refine st_goto (pc' := 109) dX0_lay_207 (by decide) ?_
      refine WP_sub (L' := [(0, vR (some 39)), (1, vI x1), (2, vI x2), (3, vI x3), (5, vI (or32 x5 (shl32 1 x7))), (7, vI v8), (8, vI (max 0 (x8 + v3)))]) [3, 4, 5, 6, 1, 0, 2] rfl ?_
      exact h
set_option maxRecDepth 20000 in
set_option maxHeartbeats 4000000 in
theorem B_X0_readBy_0 {k : Nat} {P : Option Nat} {I : Nat → Nat → Int32} {J : Nat → Nat → Int64} {x1 : Int} {Q : Option AV → Mem → Prop} (hk : 0 ≤ k) (h : WP k LAY m_X0_readBy 2 [(0, vR (some 39)), (1, vI x1), (2, vI 0)] [] (mem (P, some 5, some 22) I J) Q) : WP k LAY m_X0_readBy 0 [(0, vR (some 39)), (1, vI x1)] [] (mem (P, some 5, some 22) I J) Q := by
  refine st_iconst (pc' := 1) dX0_readBy_0 rfl ?_
  refine st_istore_n (pc' := 2) (L' := [(2, vI 0), (0, vR (some 39)), (1, vI x1)]) dX0_readBy_1 rfl rfl (by decide) rfl ?_
  refine WP_sub (L' := [(0, vR (some 39)), (1, vI x1), (2, vI 0)]) [1, 2, 0] rfl ?_
  exact h
set_option maxRecDepth 20000 in
set_option maxHeartbeats 4000000 in
theorem B_X0_readBy_2 {k : Nat} {P : Option Nat} {I : Nat → Nat → Int32} {J : Nat → Nat → Int64} {x1 : Int} {x2 : Int} {Q : Option AV → Mem → Prop} (hk : 0 ≤ k) (h : inR x1 ∧ ((x1 ≤ 0 → (Q (some (vI x2)) (mem (P, some 5, some 22) I J))) ∧ (¬ x1 ≤ 0 → (inR x2 ∧ (((gi I 39 4) ≤ x2 → (Q (some (vI x2)) (mem (P, some 5, some 22) I J))) ∧ (¬ (gi I 39 4) ≤ x2 → ((0 ≤ x2 ∧ x2 < 8) ∧ ((x1 < (gi I 41 (x2).toNat) → (Q (some (vI x2)) (mem (P, some 5, some 22) I J))) ∧ (¬ x1 < (gi I 41 (x2).toNat) → (WP k LAY m_X0_readBy 2 [(0, vR (some 39)), (1, vI x1), (2, vI (x2 + 1))] [] (mem (P, some 5, some 22) I J) Q)))))))))) : WP k LAY m_X0_readBy 2 [(0, vR (some 39)), (1, vI x1), (2, vI x2)] [] (mem (P, some 5, some 22) I J) Q := by
  refine st_iload_n (pc' := 3) dX0_readBy_2 rfl rfl (j := 1) rfl ?_
  obtain ⟨e1, h⟩ := h
  refine st_if_le (tg := 30) (pc' := 6) dX0_readBy_3 (by decide) rfl e1 (fun c => ?_) (fun c => ?_)
  · replace h := h.1 c
    refine st_iload_n (pc' := 31) dX0_readBy_30 rfl rfl (j := 2) rfl ?_
    exact st_iret (ty := .int) dX0_readBy_31 rfl rfl rfl h
  · replace h := h.2 c
    refine st_iload_n (pc' := 7) dX0_readBy_6 rfl rfl (j := 2) rfl ?_
    refine st_aload_n (pc' := 8) dX0_readBy_7 rfl rfl (j := 0) rfl ?_
    refine G_X0_53_39 dX0_readBy_8 (pc' := 11) rfl rfl ?_
    obtain ⟨e2, h⟩ := h
    refine st_icmp_ge (tg := 30) (pc' := 14) dX0_readBy_11 (by decide) rfl e2 (gi_in _ _ _) (fun c => ?_) (fun c => ?_)
    · replace h := h.1 c
      refine st_iload_n (pc' := 31) dX0_readBy_30 rfl rfl (j := 2) rfl ?_
      exact st_iret (ty := .int) dX0_readBy_31 rfl rfl rfl h
    · replace h := h.2 c
      refine st_aload_n (pc' := 15) dX0_readBy_14 rfl rfl (j := 0) rfl ?_
      refine G_X0_15_39 dX0_readBy_15 (pc' := 18) rfl rfl ?_
      refine st_iload_n (pc' := 19) dX0_readBy_18 rfl rfl (j := 2) rfl ?_
      obtain ⟨e3, h⟩ := h
      refine st_iaload (pc' := 20) (v := (gi I 41 (x2).toNat)) dX0_readBy_19 rfl L_41 (by decide) e3 (show gi I 41 (x2).toNat = (gi I 41 (x2).toNat) from rfl) ?_
      refine st_iload_n (pc' := 21) dX0_readBy_20 rfl rfl (j := 1) rfl ?_
      refine st_icmp_gt (tg := 30) (pc' := 24) dX0_readBy_21 (by decide) rfl (gi_in _ _ _) e1 (fun c => ?_) (fun c => ?_)
      · replace h := h.1 c
        refine st_iload_n (pc' := 31) dX0_readBy_30 rfl rfl (j := 2) rfl ?_
        exact st_iret (ty := .int) dX0_readBy_31 rfl rfl rfl h
      · replace h := h.2 c
        refine st_iinc (pc' := 27) (L' := [(2, vI (x2 + 1)), (0, vR (some 39)), (1, vI x1)]) (j := 2) dX0_readBy_24 rfl (by decide) rfl rfl ?_
        refine st_goto (pc' := 2) dX0_readBy_27 (by decide) ?_
        refine WP_sub (L' := [(0, vR (some 39)), (1, vI x1), (2, vI (x2 + 1))]) [1, 2, 0] rfl ?_
        exact h
set_option maxRecDepth 20000 in
set_option maxHeartbeats 4000000 in
theorem B_X0_stopBy_0 {k : Nat} {P : Option Nat} {I : Nat → Nat → Int32} {J : Nat → Nat → Int64} {x1 : Int} {Q : Option AV → Mem → Prop} (hk : 1 ≤ k) (h : (¬ (gi I 39 4) = 0 → ((0 ≤ ((gi I 39 4) - 1) ∧ ((gi I 39 4) - 1) < 8) ∧ (inR x1 ∧ (Q (some (vI (min x1 (gi I 41 ((gi I 39 4) - 1).toNat)))) (mem (P, some 5, some 22) I J))))) ∧ ((gi I 39 4) = 0 → (Q (some (vI 0)) (mem (P, some 5, some 22) I J)))) : WP k LAY m_X0_stopBy 0 [(0, vR (some 39)), (1, vI x1)] [] (mem (P, some 5, some 22) I J) Q := by
  refine st_aload_n (pc' := 1) dX0_stopBy_0 rfl rfl (j := 0) rfl ?_
  refine G_X0_53_39 dX0_stopBy_1 (pc' := 4) rfl rfl ?_
  refine st_if_ne (tg := 11) (pc' := 7) dX0_stopBy_4 (by decide) rfl (gi_in _ _ _) (fun c => ?_) (fun c => ?_)
  · replace h := h.1 c
    refine st_iload_n (pc' := 12) dX0_stopBy_11 rfl rfl (j := 1) rfl ?_
    refine st_aload_n (pc' := 13) dX0_stopBy_12 rfl rfl (j := 0) rfl ?_
    refine G_X0_15_39 dX0_stopBy_13 (pc' := 16) rfl rfl ?_
    refine st_aload_n (pc' := 17) dX0_stopBy_16 rfl rfl (j := 0) rfl ?_
    refine G_X0_53_39 dX0_stopBy_17 (pc' := 20) rfl rfl ?_
    refine st_iconst (pc' := 21) dX0_stopBy_20 rfl ?_
    refine st_isub (pc' := 22) dX0_stopBy_21 rfl ?_
    obtain ⟨e1, h⟩ := h
    refine st_iaload (pc' := 23) (v := (gi I 41 ((gi I 39 4) - 1).toNat)) dX0_stopBy_22 rfl L_41 (by decide) e1 (show gi I 41 ((gi I 39 4) - 1).toNat = (gi I 41 ((gi I 39 4) - 1).toNat) from rfl) ?_
    obtain ⟨e2, h⟩ := h
    refine st_callS (pc' := 26) (kc := k - 1) (E' := LAY) (cal := m_J9_min_7cf53) (n := 2) (as := [vI x1, vI (gi I 41 ((gi I 39 4) - 1).toNat)]) (S := []) dX0_stopBy_23 rfl l_X0_78 k_J9_min_7cf53 rfl rfl (Nat.le_of_ble_eq_true rfl) (by omega) ⟨Nat.le_refl _, Nat.le_refl _, Nat.le_refl _, Nat.le_refl _⟩ (Q1 := fun r M' => WP k LAY m_X0_stopBy 26 [(0, vR (some 39)), (1, vI x1)] (r.toList ++ []) M' Q) (S_J9_min (by omega) e2 (gi_in _ _ _) ?_) (fun r M' q => q)
    change WP _ LAY m_X0_stopBy 26 [(0, vR (some 39)), (1, vI x1)] [vI (min x1 (gi I 41 ((gi I 39 4) - 1).toNat))] (mem (P, some 5, some 22) I J) Q
    exact st_iret (ty := .int) dX0_stopBy_26 rfl rfl rfl h
  · replace h := h.2 c
    refine st_iconst (pc' := 8) dX0_stopBy_7 rfl ?_
    refine st_goto (pc' := 26) dX0_stopBy_8 (by decide) ?_
    exact st_iret (ty := .int) dX0_stopBy_26 rfl rfl rfl h
end WX0
