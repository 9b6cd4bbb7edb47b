section INITS
/-- a row of ints filled with one, in any memory -/
theorem fill_loopM {k a n : Nat} {E : List LT} {M : Mem} {z : Int} {Q : Option AV → Mem → Prop} (hE : M.1 = E) (ha : M.1[a]? = some (0, n)) (hn : n < 100000) (h : Q none (M.1, flI M.2.1 a n z, M.2.2.1, M.2.2.2)) : ∀ (d i : Nat), i + d = n → WP k E m_J7_fill_53178 5 [(0, vR (some a)), (1, vI z), (2, vI (i : Int)), (3, vI (n : Int))] [] (M.1, flI M.2.1 a i z, M.2.2.1, M.2.2.2) Q := by
  intro d
  induction d with
  | zero =>
    intro i hi
    have e : i = n := by omega
    subst e
    refine st_iload_n (pc' := 6) dJ7_fill_53178_5 rfl rfl (j := 2) rfl ?_
    refine st_iload_n (pc' := 7) dJ7_fill_53178_6 rfl rfl (j := 3) rfl ?_
    refine st_icmp_ge (tg := 20) (pc' := 10) dJ7_fill_53178_7 (by decide) rfl ⟨by omega, by omega⟩ ⟨by omega, by omega⟩ (fun c => ?_) (fun c => absurd (Int.le_refl _) c)
    exact st_vret dJ7_fill_53178_20 rfl hE h
  | succ d ih =>
    intro i hi
    refine st_iload_n (pc' := 6) dJ7_fill_53178_5 rfl rfl (j := 2) rfl ?_
    refine st_iload_n (pc' := 7) dJ7_fill_53178_6 rfl rfl (j := 3) rfl ?_
    refine st_icmp_ge (tg := 20) (pc' := 10) dJ7_fill_53178_7 (by decide) rfl ⟨by omega, by omega⟩ ⟨by omega, by omega⟩ (fun c => absurd c (by omega)) (fun c => ?_)
    refine st_aload_n (pc' := 11) dJ7_fill_53178_10 rfl rfl (j := 0) rfl ?_
    refine st_iload_n (pc' := 12) dJ7_fill_53178_11 rfl rfl (j := 2) rfl ?_
    refine st_iload_n (pc' := 13) dJ7_fill_53178_12 rfl rfl (j := 1) rfl ?_
    refine st_iastore (pc' := 14) (M' := (M.1, flI M.2.1 a (i + 1) z, M.2.2.1, M.2.2.2)) dJ7_fill_53178_13 rfl ha (by omega) ⟨by omega, by omega⟩ (by rw [← flI_succ]; rfl) ?_
    refine st_iinc (pc' := 17) (L' := [(2, vI ((i : Int) + 1)), (0, vR (some a)), (1, vI z), (3, vI (n : Int))]) (j := 2) dJ7_fill_53178_14 rfl (by decide) rfl rfl ?_
    refine st_goto (pc' := 5) dJ7_fill_53178_17 (by decide) ?_
    refine WP_sub (L' := [(0, vR (some a)), (1, vI z), (2, vI ((i + 1 : Nat) : Int)), (3, vI (n : Int))]) [1, 2, 0, 3] rfl ?_
    exact ih (i + 1) (by omega)
theorem S_fillM {k a n : Nat} {E : List LT} {M : Mem} {z : Int} {Q : Option AV → Mem → Prop} (hE : M.1 = E) (ha : M.1[a]? = some (0, n)) (hn : n < 100000) (h : Q none (M.1, flI M.2.1 a n z, M.2.2.1, M.2.2.2)) : WPm k E m_J7_fill_53178 [vR (some a), vI z] M Q := by
  refine WPm.of k_J7_fill_53178.1 (Nat.le_of_ble_eq_true rfl) ?_
  refine st_iconst (pc' := 1) dJ7_fill_53178_0 rfl ?_
  refine st_istore_n (pc' := 2) (L' := [(2, vI 0), (0, vR (some a)), (1, vI z)]) dJ7_fill_53178_1 rfl rfl (by decide) rfl ?_
  refine st_aload_n (pc' := 3) dJ7_fill_53178_2 rfl rfl (j := 1) rfl ?_
  refine st_alenI (pc' := 4) (z := (n : Int)) dJ7_fill_53178_3 rfl ha (by rw [iI, Int32.ofInt_eq_ofNat]) ?_
  refine st_istore_n (pc' := 5) (L' := [(3, vI (n : Int)), (2, vI 0), (0, vR (some a)), (1, vI z)]) dJ7_fill_53178_4 rfl rfl (by decide) rfl ?_
  refine WP_sub (L' := [(0, vR (some a)), (1, vI z), (2, vI ((0 : Nat) : Int)), (3, vI (n : Int))]) [2, 3, 1, 0] rfl ?_
  have h0 := fill_loopM (k := k) hE ha hn h n 0 (by omega)
  rw [flI_0] at h0
  exact h0
def IC_0 : Nat → Nat → Int32 := fun _ _ => 0
def JC_0 : Nat → Nat → Int64 := fun _ _ => 0
def RC_0 : Nat → Nat → Option Nat := fun _ _ => none
def MC_0 : Mem := (LAY.take 0, IC_0, JC_0, RC_0)
def IC_1 : Nat → Nat → Int32 := ze2 IC_0 0 0
def JC_1 : Nat → Nat → Int64 := ze2 JC_0 0 0
def RC_1 : Nat → Nat → Option Nat := ze2 RC_0 0 none
def MC_1 : Mem := (LAY.take 1, IC_1, JC_1, RC_1)
def IC_2 : Nat → Nat → Int32 := ze2 IC_1 1 0
def JC_2 : Nat → Nat → Int64 := ze2 JC_1 1 0
def RC_2 : Nat → Nat → Option Nat := ze2 RC_1 1 none
def MC_2 : Mem := (LAY.take 2, IC_2, JC_2, RC_2)
def IC_3 : Nat → Nat → Int32 := ze2 IC_2 2 0
def JC_3 : Nat → Nat → Int64 := ze2 JC_2 2 0
def RC_3 : Nat → Nat → Option Nat := ze2 RC_2 2 none
def MC_3 : Mem := (LAY.take 3, IC_3, JC_3, RC_3)
def RC_4 : Nat → Nat → Option Nat := up2 RC_3 1 0 (some 2)
def MC_4 : Mem := (LAY.take 3, IC_3, JC_3, RC_4)
set_option maxRecDepth 100000 in
set_option maxHeartbeats 4000000 in
theorem K_X10_init_0 {k : Nat} {Q : Option AV → Mem → Prop} (hk : 1 ≤ k) (h : Q none MC_4) : WPm k (LAY.take 3) m_X10_init [vR (some 1)] MC_2 Q := by
  refine WPm.of k_X10_init.1 (Nat.le_of_ble_eq_true rfl) ?_
  change WP k _ _ 0 [(0, vR (some 1))] [] _ _
  refine st_aload_n (pc' := 1) dX10_init_0 rfl rfl (j := 0) rfl ?_
  refine st_objInit (pc' := 4) dX10_init_1 rfl l_X10_3 a_obj (Nat.le_of_ble_eq_true rfl) (by omega) ?_
  refine st_aload_n (pc' := 5) dX10_init_4 rfl rfl (j := 0) rfl ?_
  refine st_sipush (pc' := 8) dX10_init_5 rfl (by decide) ?_
  refine st_newarr (pc' := 10) (N := 1600) (q := 2) (M' := MC_3) 0 .int .int (by simp) dX10_init_8 rfl a_int rfl (by decide) (by decide +kernel) rfl rfl ?_
  refine st_putAF (pc' := 13) (M' := MC_4) dX10_init_10 rfl (show MC_3.1[1]? = some (13, 7) from rfl) c_X10 rfl (show 0 < 7 by decide) rfl rfl rfl f_X10_9 rfl rfl ?_
  exact st_vret dX10_init_13 rfl rfl h
def RC_5 : Nat → Nat → Option Nat := up2 RC_4 0 0 (some 1)
def MC_5 : Mem := (LAY.take 3, IC_3, JC_3, RC_5)
def IC_4 : Nat → Nat → Int32 := ze2 IC_3 3 0
def JC_4 : Nat → Nat → Int64 := ze2 JC_3 3 0
def RC_6 : Nat → Nat → Option Nat := ze2 RC_5 3 none
def MC_6 : Mem := (LAY.take 4, IC_4, JC_4, RC_6)
def IC_5 : Nat → Nat → Int32 := up2 IC_4 3 3 (iI (-1))
def MC_7 : Mem := (LAY.take 4, IC_5, JC_4, RC_6)
def RC_7 : Nat → Nat → Option Nat := up2 RC_6 3 0 (some 1)
def MC_8 : Mem := (LAY.take 4, IC_5, JC_4, RC_7)
set_option maxRecDepth 100000 in
set_option maxHeartbeats 4000000 in
theorem K_X3_init_0 {k : Nat} {Q : Option AV → Mem → Prop} (hk : 1 ≤ k) (h : Q none MC_8) : WPm k (LAY.take 4) m_X3_init [vR (some 3), vR (some 1)] MC_6 Q := by
  refine WPm.of k_X3_init.1 (Nat.le_of_ble_eq_true rfl) ?_
  change WP k _ _ 0 [(0, vR (some 3)), (1, vR (some 1))] [] _ _
  refine st_aload_n (pc' := 1) dX3_init_0 rfl rfl (j := 0) rfl ?_
  refine st_objInit (pc' := 4) dX3_init_1 rfl l_X3_3 a_obj (Nat.le_of_ble_eq_true rfl) (by omega) ?_
  refine st_aload_n (pc' := 5) dX3_init_4 rfl rfl (j := 0) rfl ?_
  refine st_iconst (pc' := 6) dX3_init_5 rfl ?_
  refine st_putI (pc' := 9) (M' := MC_7) dX3_init_6 rfl (show MC_6.1[3]? = some (6, 5) from rfl) c_X3 rfl (show 3 < 5 by decide) rfl f_X3_9 rfl rfl ?_
  refine st_aload_n (pc' := 10) dX3_init_9 rfl rfl (j := 0) rfl ?_
  refine st_aload_n (pc' := 11) dX3_init_10 rfl rfl (j := 1) rfl ?_
  refine st_putOF (pc' := 14) (M' := MC_8) dX3_init_11 rfl (show MC_7.1[3]? = some (6, 5) from rfl) c_X3 rfl (show 0 < 5 by decide) rfl rfl rfl f_X3_15 rfl rfl ?_
  exact st_vret dX3_init_14 rfl rfl h
def RC_8 : Nat → Nat → Option Nat := up2 RC_7 0 1 (some 3)
def MC_9 : Mem := (LAY.take 4, IC_5, JC_4, RC_8)
def IC_6 : Nat → Nat → Int32 := ze2 IC_5 4 0
def JC_5 : Nat → Nat → Int64 := ze2 JC_4 4 0
def RC_9 : Nat → Nat → Option Nat := ze2 RC_8 4 none
def MC_10 : Mem := (LAY.take 5, IC_6, JC_5, RC_9)
def IC_7 : Nat → Nat → Int32 := ze2 IC_6 5 0
def JC_6 : Nat → Nat → Int64 := ze2 JC_5 5 0
def RC_10 : Nat → Nat → Option Nat := ze2 RC_9 5 none
def MC_11 : Mem := (LAY.take 6, IC_7, JC_6, RC_10)
def IC_8 : Nat → Nat → Int32 := ze2 IC_7 6 0
def JC_7 : Nat → Nat → Int64 := ze2 JC_6 6 0
def RC_11 : Nat → Nat → Option Nat := ze2 RC_10 6 none
def MC_12 : Mem := (LAY.take 7, IC_8, JC_7, RC_11)
def RC_12 : Nat → Nat → Option Nat := up2 RC_11 5 0 (some 6)
def MC_13 : Mem := (LAY.take 7, IC_8, JC_7, RC_12)
def IC_9 : Nat → Nat → Int32 := ze2 IC_8 7 0
def JC_8 : Nat → Nat → Int64 := ze2 JC_7 7 0
def RC_13 : Nat → Nat → Option Nat := ze2 RC_12 7 none
def MC_14 : Mem := (LAY.take 8, IC_9, JC_8, RC_13)
def RC_14 : Nat → Nat → Option Nat := up2 RC_13 5 1 (some 7)
def MC_15 : Mem := (LAY.take 8, IC_9, JC_8, RC_14)
def IC_10 : Nat → Nat → Int32 := ze2 IC_9 8 0
def JC_9 : Nat → Nat → Int64 := ze2 JC_8 8 0
def RC_15 : Nat → Nat → Option Nat := ze2 RC_14 8 none
def MC_16 : Mem := (LAY.take 9, IC_10, JC_9, RC_15)
def RC_16 : Nat → Nat → Option Nat := up2 RC_15 5 2 (some 8)
def MC_17 : Mem := (LAY.take 9, IC_10, JC_9, RC_16)
def IC_11 : Nat → Nat → Int32 := ze2 IC_10 9 0
def JC_10 : Nat → Nat → Int64 := ze2 JC_9 9 0
def RC_17 : Nat → Nat → Option Nat := ze2 RC_16 9 none
def MC_18 : Mem := (LAY.take 10, IC_11, JC_10, RC_17)
def RC_18 : Nat → Nat → Option Nat := up2 RC_17 5 3 (some 9)
def MC_19 : Mem := (LAY.take 10, IC_11, JC_10, RC_18)
def IC_12 : Nat → Nat → Int32 := ze2 IC_11 10 0
def JC_11 : Nat → Nat → Int64 := ze2 JC_10 10 0
def RC_19 : Nat → Nat → Option Nat := ze2 RC_18 10 none
def MC_20 : Mem := (LAY.take 11, IC_12, JC_11, RC_19)
def RC_20 : Nat → Nat → Option Nat := up2 RC_19 5 4 (some 10)
def MC_21 : Mem := (LAY.take 11, IC_12, JC_11, RC_20)
def IC_13 : Nat → Nat → Int32 := ze2 IC_12 11 0
def JC_12 : Nat → Nat → Int64 := ze2 JC_11 11 0
def RC_21 : Nat → Nat → Option Nat := ze2 RC_20 11 none
def MC_22 : Mem := (LAY.take 12, IC_13, JC_12, RC_21)
def RC_22 : Nat → Nat → Option Nat := up2 RC_21 5 5 (some 11)
def MC_23 : Mem := (LAY.take 12, IC_13, JC_12, RC_22)
def IC_14 : Nat → Nat → Int32 := ze2 IC_13 12 0
def JC_13 : Nat → Nat → Int64 := ze2 JC_12 12 0
def RC_23 : Nat → Nat → Option Nat := ze2 RC_22 12 none
def MC_24 : Mem := (LAY.take 13, IC_14, JC_13, RC_23)
def RC_24 : Nat → Nat → Option Nat := up2 RC_23 5 6 (some 12)
def MC_25 : Mem := (LAY.take 13, IC_14, JC_13, RC_24)
def IC_15 : Nat → Nat → Int32 := ze2 IC_14 13 0
def JC_14 : Nat → Nat → Int64 := ze2 JC_13 13 0
def RC_25 : Nat → Nat → Option Nat := ze2 RC_24 13 none
def MC_26 : Mem := (LAY.take 14, IC_15, JC_14, RC_25)
def RC_26 : Nat → Nat → Option Nat := up2 RC_25 5 7 (some 13)
def MC_27 : Mem := (LAY.take 14, IC_15, JC_14, RC_26)
def IC_16 : Nat → Nat → Int32 := ze2 IC_15 14 0
def JC_15 : Nat → Nat → Int64 := ze2 JC_14 14 0
def RC_27 : Nat → Nat → Option Nat := ze2 RC_26 14 none
def MC_28 : Mem := (LAY.take 15, IC_16, JC_15, RC_27)
def RC_28 : Nat → Nat → Option Nat := up2 RC_27 5 8 (some 14)
def MC_29 : Mem := (LAY.take 15, IC_16, JC_15, RC_28)
def IC_17 : Nat → Nat → Int32 := ze2 IC_16 15 0
def JC_16 : Nat → Nat → Int64 := ze2 JC_15 15 0
def RC_29 : Nat → Nat → Option Nat := ze2 RC_28 15 none
def MC_30 : Mem := (LAY.take 16, IC_17, JC_16, RC_29)
def RC_30 : Nat → Nat → Option Nat := up2 RC_29 5 9 (some 15)
def MC_31 : Mem := (LAY.take 16, IC_17, JC_16, RC_30)
def IC_18 : Nat → Nat → Int32 := ze2 IC_17 16 0
def JC_17 : Nat → Nat → Int64 := ze2 JC_16 16 0
def RC_31 : Nat → Nat → Option Nat := ze2 RC_30 16 none
def MC_32 : Mem := (LAY.take 17, IC_18, JC_17, RC_31)
def RC_32 : Nat → Nat → Option Nat := up2 RC_31 5 10 (some 16)
def MC_33 : Mem := (LAY.take 17, IC_18, JC_17, RC_32)
def IC_19 : Nat → Nat → Int32 := ze2 IC_18 17 0
def JC_18 : Nat → Nat → Int64 := ze2 JC_17 17 0
def RC_33 : Nat → Nat → Option Nat := ze2 RC_32 17 none
def MC_34 : Mem := (LAY.take 18, IC_19, JC_18, RC_33)
def RC_34 : Nat → Nat → Option Nat := up2 RC_33 5 11 (some 17)
def MC_35 : Mem := (LAY.take 18, IC_19, JC_18, RC_34)
def IC_20 : Nat → Nat → Int32 := ze2 IC_19 18 0
def JC_19 : Nat → Nat → Int64 := ze2 JC_18 18 0
def RC_35 : Nat → Nat → Option Nat := ze2 RC_34 18 none
def MC_36 : Mem := (LAY.take 19, IC_20, JC_19, RC_35)
def RC_36 : Nat → Nat → Option Nat := up2 RC_35 5 12 (some 18)
def MC_37 : Mem := (LAY.take 19, IC_20, JC_19, RC_36)
def IC_21 : Nat → Nat → Int32 := flI IC_20 6 4 0
def MC_38 : Mem := (LAY.take 19, IC_21, JC_19, RC_36)
def IC_22 : Nat → Nat → Int32 := flI IC_21 7 180 0
def MC_39 : Mem := (LAY.take 19, IC_22, JC_19, RC_36)
def IC_23 : Nat → Nat → Int32 := flI IC_22 10 14 0
def MC_40 : Mem := (LAY.take 19, IC_23, JC_19, RC_36)
def IC_24 : Nat → Nat → Int32 := flI IC_23 11 14 0
def MC_41 : Mem := (LAY.take 19, IC_24, JC_19, RC_36)
def IC_25 : Nat → Nat → Int32 := flI IC_24 18 3 0
def MC_42 : Mem := (LAY.take 19, IC_25, JC_19, RC_36)
def IC_26 : Nat → Nat → Int32 := up2 IC_25 5 13 (iI 0)
def MC_43 : Mem := (LAY.take 19, IC_26, JC_19, RC_36)
def IC_27 : Nat → Nat → Int32 := up2 IC_26 5 14 (iI 0)
def MC_44 : Mem := (LAY.take 19, IC_27, JC_19, RC_36)
def IC_28 : Nat → Nat → Int32 := up2 IC_27 5 15 (iI 60)
def MC_45 : Mem := (LAY.take 19, IC_28, JC_19, RC_36)
set_option maxRecDepth 100000 in
set_option maxHeartbeats 4000000 in
theorem K_X7_clear_0 {k : Nat} {Q : Option AV → Mem → Prop} (hk : 1 ≤ k) (h : Q none MC_45) : WPm k (LAY.take 19) m_X7_clear [vR (some 5)] MC_37 Q := by
  refine WPm.of k_X7_clear.1 (Nat.le_of_ble_eq_true rfl) ?_
  change WP k _ _ 0 [(0, vR (some 5))] [] _ _
  refine st_aload_n (pc' := 1) dX7_clear_0 rfl rfl (j := 0) rfl ?_
  refine st_getR (pc' := 4) (r := some 6) dX7_clear_1 rfl (show MC_37.1[5]? = some (10, 16) from rfl) c_X7 rfl (show 0 < 16 by decide) f_X7_9 (fun _ => rfl) rfl ?_
  refine st_iconst (pc' := 5) dX7_clear_4 rfl ?_
  refine st_callS (pc' := 8) (kc := k - 1) (E' := LAY.take 19) (cal := m_J7_fill_53178) (n := 2) (as := [vR (some 6), vI 0]) (S := []) (Q1 := fun r M' => r = none ∧ M' = MC_38) dX7_clear_5 rfl l_X7_54 k_J7_fill_53178 rfl rfl (Nat.le_of_ble_eq_true rfl) (by omega) (by decide +kernel) (S_fillM rfl (show MC_37.1[6]? = some (0, 4) from rfl) (by decide) ⟨rfl, rfl⟩) (fun r M' q => ?_)
  obtain ⟨rfl, rfl⟩ := q
  change WP _ _ _ 8 [(0, vR (some 5))] [] MC_38 _
  refine st_aload_n (pc' := 9) dX7_clear_8 rfl rfl (j := 0) rfl ?_
  refine st_getR (pc' := 12) (r := some 7) dX7_clear_9 rfl (show MC_38.1[5]? = some (10, 16) from rfl) c_X7 rfl (show 1 < 16 by decide) f_X7_15 (fun _ => rfl) rfl ?_
  refine st_iconst (pc' := 13) dX7_clear_12 rfl ?_
  refine st_callS (pc' := 16) (kc := k - 1) (E' := LAY.take 19) (cal := m_J7_fill_53178) (n := 2) (as := [vR (some 7), vI 0]) (S := []) (Q1 := fun r M' => r = none ∧ M' = MC_39) dX7_clear_13 rfl l_X7_54 k_J7_fill_53178 rfl rfl (Nat.le_of_ble_eq_true rfl) (by omega) (by decide +kernel) (S_fillM rfl (show MC_38.1[7]? = some (0, 180) from rfl) (by decide) ⟨rfl, rfl⟩) (fun r M' q => ?_)
  obtain ⟨rfl, rfl⟩ := q
  change WP _ _ _ 16 [(0, vR (some 5))] [] MC_39 _
  refine st_aload_n (pc' := 17) dX7_clear_16 rfl rfl (j := 0) rfl ?_
  refine st_getR (pc' := 20) (r := some 10) dX7_clear_17 rfl (show MC_39.1[5]? = some (10, 16) from rfl) c_X7 rfl (show 4 < 16 by decide) f_X7_24 (fun _ => rfl) rfl ?_
  refine st_iconst (pc' := 21) dX7_clear_20 rfl ?_
  refine st_callS (pc' := 24) (kc := k - 1) (E' := LAY.take 19) (cal := m_J7_fill_53178) (n := 2) (as := [vR (some 10), vI 0]) (S := []) (Q1 := fun r M' => r = none ∧ M' = MC_40) dX7_clear_21 rfl l_X7_54 k_J7_fill_53178 rfl rfl (Nat.le_of_ble_eq_true rfl) (by omega) (by decide +kernel) (S_fillM rfl (show MC_39.1[10]? = some (0, 14) from rfl) (by decide) ⟨rfl, rfl⟩) (fun r M' q => ?_)
  obtain ⟨rfl, rfl⟩ := q
  change WP _ _ _ 24 [(0, vR (some 5))] [] MC_40 _
  refine st_aload_n (pc' := 25) dX7_clear_24 rfl rfl (j := 0) rfl ?_
  refine st_getR (pc' := 28) (r := some 11) dX7_clear_25 rfl (show MC_40.1[5]? = some (10, 16) from rfl) c_X7 rfl (show 5 < 16 by decide) f_X7_27 (fun _ => rfl) rfl ?_
  refine st_iconst (pc' := 29) dX7_clear_28 rfl ?_
  refine st_callS (pc' := 32) (kc := k - 1) (E' := LAY.take 19) (cal := m_J7_fill_53178) (n := 2) (as := [vR (some 11), vI 0]) (S := []) (Q1 := fun r M' => r = none ∧ M' = MC_41) dX7_clear_29 rfl l_X7_54 k_J7_fill_53178 rfl rfl (Nat.le_of_ble_eq_true rfl) (by omega) (by decide +kernel) (S_fillM rfl (show MC_40.1[11]? = some (0, 14) from rfl) (by decide) ⟨rfl, rfl⟩) (fun r M' q => ?_)
  obtain ⟨rfl, rfl⟩ := q
  change WP _ _ _ 32 [(0, vR (some 5))] [] MC_41 _
  refine st_aload_n (pc' := 33) dX7_clear_32 rfl rfl (j := 0) rfl ?_
  refine st_getR (pc' := 36) (r := some 18) dX7_clear_33 rfl (show MC_41.1[5]? = some (10, 16) from rfl) c_X7 rfl (show 12 < 16 by decide) f_X7_48 (fun _ => rfl) rfl ?_
  refine st_iconst (pc' := 37) dX7_clear_36 rfl ?_
  refine st_callS (pc' := 40) (kc := k - 1) (E' := LAY.take 19) (cal := m_J7_fill_53178) (n := 2) (as := [vR (some 18), vI 0]) (S := []) (Q1 := fun r M' => r = none ∧ M' = MC_42) dX7_clear_37 rfl l_X7_54 k_J7_fill_53178 rfl rfl (Nat.le_of_ble_eq_true rfl) (by omega) (by decide +kernel) (S_fillM rfl (show MC_41.1[18]? = some (0, 3) from rfl) (by decide) ⟨rfl, rfl⟩) (fun r M' q => ?_)
  obtain ⟨rfl, rfl⟩ := q
  change WP _ _ _ 40 [(0, vR (some 5))] [] MC_42 _
  refine st_aload_n (pc' := 41) dX7_clear_40 rfl rfl (j := 0) rfl ?_
  refine st_iconst (pc' := 42) dX7_clear_41 rfl ?_
  refine st_putI (pc' := 45) (M' := MC_43) dX7_clear_42 rfl (show MC_42.1[5]? = some (10, 16) from rfl) c_X7 rfl (show 13 < 16 by decide) rfl f_X7_60 rfl rfl ?_
  refine st_aload_n (pc' := 46) dX7_clear_45 rfl rfl (j := 0) rfl ?_
  refine st_iconst (pc' := 47) dX7_clear_46 rfl ?_
  refine st_putI (pc' := 50) (M' := MC_44) dX7_clear_47 rfl (show MC_43.1[5]? = some (10, 16) from rfl) c_X7 rfl (show 14 < 16 by decide) rfl f_X7_64 rfl rfl ?_
  refine st_aload_n (pc' := 51) dX7_clear_50 rfl rfl (j := 0) rfl ?_
  refine st_bipush (pc' := 53) dX7_clear_51 rfl (by decide) ?_
  refine st_putI (pc' := 56) (M' := MC_45) dX7_clear_53 rfl (show MC_44.1[5]? = some (10, 16) from rfl) c_X7 rfl (show 15 < 16 by decide) rfl f_X7_67 rfl rfl ?_
  exact st_vret dX7_clear_56 rfl rfl h
set_option maxRecDepth 100000 in
set_option maxHeartbeats 4000000 in
theorem K_X7_init_0 {k : Nat} {Q : Option AV → Mem → Prop} (hk : 2 ≤ k) (h : Q none MC_45) : WPm k (LAY.take 19) m_X7_init [vR (some 5)] MC_11 Q := by
  refine WPm.of k_X7_init.1 (Nat.le_of_ble_eq_true rfl) ?_
  change WP k _ _ 0 [(0, vR (some 5))] [] _ _
  refine st_aload_n (pc' := 1) dX7_init_0 rfl rfl (j := 0) rfl ?_
  refine st_objInit (pc' := 4) dX7_init_1 rfl l_X7_3 a_obj (Nat.le_of_ble_eq_true rfl) (by omega) ?_
  refine st_aload_n (pc' := 5) dX7_init_4 rfl rfl (j := 0) rfl ?_
  refine st_iconst (pc' := 6) dX7_init_5 rfl ?_
  refine st_newarr (pc' := 8) (N := 4) (q := 6) (M' := MC_12) 0 .int .int (by simp) dX7_init_6 rfl a_int rfl (by decide) (by decide +kernel) rfl rfl ?_
  refine st_putAF (pc' := 11) (M' := MC_13) dX7_init_8 rfl (show MC_12.1[5]? = some (10, 16) from rfl) c_X7 rfl (show 0 < 16 by decide) rfl rfl rfl f_X7_9 rfl rfl ?_
  refine st_aload_n (pc' := 12) dX7_init_11 rfl rfl (j := 0) rfl ?_
  refine st_sipush (pc' := 15) dX7_init_12 rfl (by decide) ?_
  refine st_newarr (pc' := 17) (N := 180) (q := 7) (M' := MC_14) 0 .int .int (by simp) dX7_init_15 rfl a_int rfl (by decide) (by decide +kernel) rfl rfl ?_
  refine st_putAF (pc' := 20) (M' := MC_15) dX7_init_17 rfl (show MC_14.1[5]? = some (10, 16) from rfl) c_X7 rfl (show 1 < 16 by decide) rfl rfl rfl f_X7_15 rfl rfl ?_
  refine st_aload_n (pc' := 21) dX7_init_20 rfl rfl (j := 0) rfl ?_
  refine st_bipush (pc' := 23) dX7_init_21 rfl (by decide) ?_
  refine st_newarr (pc' := 25) (N := 14) (q := 8) (M' := MC_16) 0 .int .int (by simp) dX7_init_23 rfl a_int rfl (by decide) (by decide +kernel) rfl rfl ?_
  refine st_putAF (pc' := 28) (M' := MC_17) dX7_init_25 rfl (show MC_16.1[5]? = some (10, 16) from rfl) c_X7 rfl (show 2 < 16 by decide) rfl rfl rfl f_X7_18 rfl rfl ?_
  refine st_aload_n (pc' := 29) dX7_init_28 rfl rfl (j := 0) rfl ?_
  refine st_bipush (pc' := 31) dX7_init_29 rfl (by decide) ?_
  refine st_newarr (pc' := 33) (N := 14) (q := 9) (M' := MC_18) 0 .int .int (by simp) dX7_init_31 rfl a_int rfl (by decide) (by decide +kernel) rfl rfl ?_
  refine st_putAF (pc' := 36) (M' := MC_19) dX7_init_33 rfl (show MC_18.1[5]? = some (10, 16) from rfl) c_X7 rfl (show 3 < 16 by decide) rfl rfl rfl f_X7_21 rfl rfl ?_
  refine st_aload_n (pc' := 37) dX7_init_36 rfl rfl (j := 0) rfl ?_
  refine st_bipush (pc' := 39) dX7_init_37 rfl (by decide) ?_
  refine st_newarr (pc' := 41) (N := 14) (q := 10) (M' := MC_20) 0 .int .int (by simp) dX7_init_39 rfl a_int rfl (by decide) (by decide +kernel) rfl rfl ?_
  refine st_putAF (pc' := 44) (M' := MC_21) dX7_init_41 rfl (show MC_20.1[5]? = some (10, 16) from rfl) c_X7 rfl (show 4 < 16 by decide) rfl rfl rfl f_X7_24 rfl rfl ?_
  refine st_aload_n (pc' := 45) dX7_init_44 rfl rfl (j := 0) rfl ?_
  refine st_bipush (pc' := 47) dX7_init_45 rfl (by decide) ?_
  refine st_newarr (pc' := 49) (N := 14) (q := 11) (M' := MC_22) 0 .int .int (by simp) dX7_init_47 rfl a_int rfl (by decide) (by decide +kernel) rfl rfl ?_
  refine st_putAF (pc' := 52) (M' := MC_23) dX7_init_49 rfl (show MC_22.1[5]? = some (10, 16) from rfl) c_X7 rfl (show 5 < 16 by decide) rfl rfl rfl f_X7_27 rfl rfl ?_
  refine st_aload_n (pc' := 53) dX7_init_52 rfl rfl (j := 0) rfl ?_
  refine st_bipush (pc' := 55) dX7_init_53 rfl (by decide) ?_
  refine st_newarr (pc' := 57) (N := 14) (q := 12) (M' := MC_24) 0 .int .int (by simp) dX7_init_55 rfl a_int rfl (by decide) (by decide +kernel) rfl rfl ?_
  refine st_putAF (pc' := 60) (M' := MC_25) dX7_init_57 rfl (show MC_24.1[5]? = some (10, 16) from rfl) c_X7 rfl (show 6 < 16 by decide) rfl rfl rfl f_X7_30 rfl rfl ?_
  refine st_aload_n (pc' := 61) dX7_init_60 rfl rfl (j := 0) rfl ?_
  refine st_bipush (pc' := 63) dX7_init_61 rfl (by decide) ?_
  refine st_newarr (pc' := 65) (N := 6) (q := 13) (M' := MC_26) 0 .int .int (by simp) dX7_init_63 rfl a_int rfl (by decide) (by decide +kernel) rfl rfl ?_
  refine st_putAF (pc' := 68) (M' := MC_27) dX7_init_65 rfl (show MC_26.1[5]? = some (10, 16) from rfl) c_X7 rfl (show 7 < 16 by decide) rfl rfl rfl f_X7_33 rfl rfl ?_
  refine st_aload_n (pc' := 69) dX7_init_68 rfl rfl (j := 0) rfl ?_
  refine st_bipush (pc' := 71) dX7_init_69 rfl (by decide) ?_
  refine st_newarr (pc' := 73) (N := 6) (q := 14) (M' := MC_28) 0 .int .int (by simp) dX7_init_71 rfl a_int rfl (by decide) (by decide +kernel) rfl rfl ?_
  refine st_putAF (pc' := 76) (M' := MC_29) dX7_init_73 rfl (show MC_28.1[5]? = some (10, 16) from rfl) c_X7 rfl (show 8 < 16 by decide) rfl rfl rfl f_X7_36 rfl rfl ?_
  refine st_aload_n (pc' := 77) dX7_init_76 rfl rfl (j := 0) rfl ?_
  refine st_iconst (pc' := 78) dX7_init_77 rfl ?_
  refine st_newarr (pc' := 80) (N := 5) (q := 15) (M' := MC_30) 0 .int .int (by simp) dX7_init_78 rfl a_int rfl (by decide) (by decide +kernel) rfl rfl ?_
  refine st_putAF (pc' := 83) (M' := MC_31) dX7_init_80 rfl (show MC_30.1[5]? = some (10, 16) from rfl) c_X7 rfl (show 9 < 16 by decide) rfl rfl rfl f_X7_39 rfl rfl ?_
  refine st_aload_n (pc' := 84) dX7_init_83 rfl rfl (j := 0) rfl ?_
  refine st_sipush (pc' := 87) dX7_init_84 rfl (by decide) ?_
  refine st_newarr (pc' := 89) (N := 1600) (q := 16) (M' := MC_32) 0 .int .int (by simp) dX7_init_87 rfl a_int rfl (by decide) (by decide +kernel) rfl rfl ?_
  refine st_putAF (pc' := 92) (M' := MC_33) dX7_init_89 rfl (show MC_32.1[5]? = some (10, 16) from rfl) c_X7 rfl (show 10 < 16 by decide) rfl rfl rfl f_X7_42 rfl rfl ?_
  refine st_aload_n (pc' := 93) dX7_init_92 rfl rfl (j := 0) rfl ?_
  refine st_iconst (pc' := 94) dX7_init_93 rfl ?_
  refine st_newarr (pc' := 96) (N := 3) (q := 17) (M' := MC_34) 0 .int .int (by simp) dX7_init_94 rfl a_int rfl (by decide) (by decide +kernel) rfl rfl ?_
  refine st_putAF (pc' := 99) (M' := MC_35) dX7_init_96 rfl (show MC_34.1[5]? = some (10, 16) from rfl) c_X7 rfl (show 11 < 16 by decide) rfl rfl rfl f_X7_45 rfl rfl ?_
  refine st_aload_n (pc' := 100) dX7_init_99 rfl rfl (j := 0) rfl ?_
  refine st_iconst (pc' := 101) dX7_init_100 rfl ?_
  refine st_newarr (pc' := 103) (N := 3) (q := 18) (M' := MC_36) 0 .int .int (by simp) dX7_init_101 rfl a_int rfl (by decide) (by decide +kernel) rfl rfl ?_
  refine st_putAF (pc' := 106) (M' := MC_37) dX7_init_103 rfl (show MC_36.1[5]? = some (10, 16) from rfl) c_X7 rfl (show 12 < 16 by decide) rfl rfl rfl f_X7_48 rfl rfl ?_
  refine st_aload_n (pc' := 107) dX7_init_106 rfl rfl (j := 0) rfl ?_
  refine st_callV (pc' := 110) (kc := k - 1) (E' := LAY.take 19) (cal := m_X7_clear) (n := 0) (as := []) (S := []) (Q1 := fun r M' => r = none ∧ M' = MC_45) dX7_init_107 rfl l_X7_51 k_X7_clear rfl (show MC_37.1[5]? = some (10, 16) from rfl) c_X7 rfl rfl (Nat.le_of_ble_eq_true rfl) (by omega) (by decide +kernel) (K_X7_clear_0 (by omega) ⟨rfl, rfl⟩) (fun r M' q => ?_)
  obtain ⟨rfl, rfl⟩ := q
  change WP _ _ _ 110 [(0, vR (some 5))] [] MC_45 _
  exact st_vret dX7_init_110 rfl rfl h
def IC_29 : Nat → Nat → Int32 := ze2 IC_28 19 0
def JC_20 : Nat → Nat → Int64 := ze2 JC_19 19 0
def RC_37 : Nat → Nat → Option Nat := ze2 RC_36 19 none
def MC_46 : Mem := (LAY.take 20, IC_29, JC_20, RC_37)
def RC_38 : Nat → Nat → Option Nat := up2 RC_37 4 1 (some 19)
def MC_47 : Mem := (LAY.take 20, IC_29, JC_20, RC_38)
def IC_30 : Nat → Nat → Int32 := ze2 IC_29 20 0
def JC_21 : Nat → Nat → Int64 := ze2 JC_20 20 0
def RC_39 : Nat → Nat → Option Nat := ze2 RC_38 20 none
def MC_48 : Mem := (LAY.take 21, IC_30, JC_21, RC_39)
def RC_40 : Nat → Nat → Option Nat := up2 RC_39 4 2 (some 20)
def MC_49 : Mem := (LAY.take 21, IC_30, JC_21, RC_40)
def IC_31 : Nat → Nat → Int32 := ze2 IC_30 21 0
def JC_22 : Nat → Nat → Int64 := ze2 JC_21 21 0
def RC_41 : Nat → Nat → Option Nat := ze2 RC_40 21 none
def MC_50 : Mem := (LAY.take 22, IC_31, JC_22, RC_41)
def RC_42 : Nat → Nat → Option Nat := up2 RC_41 4 3 (some 21)
def MC_51 : Mem := (LAY.take 22, IC_31, JC_22, RC_42)
def RC_43 : Nat → Nat → Option Nat := up2 RC_42 4 0 (some 5)
def MC_52 : Mem := (LAY.take 22, IC_31, JC_22, RC_43)
def IC_32 : Nat → Nat → Int32 := flI IC_31 19 87 0
def MC_53 : Mem := (LAY.take 22, IC_32, JC_22, RC_43)
def IC_33 : Nat → Nat → Int32 := up2 IC_32 19 6 (iI (-1))
def MC_54 : Mem := (LAY.take 22, IC_33, JC_22, RC_43)
set_option maxRecDepth 100000 in
set_option maxHeartbeats 4000000 in
theorem K_X2_set_0 {k : Nat} {Q : Option AV → Mem → Prop} (hk : 0 ≤ k) (h : Q none MC_54) : WPm k (LAY.take 22) m_X2_set [vR (some 4), vI 0, vI 3, vI (-1)] MC_53 Q := by
  refine WPm.of k_X2_set.1 (Nat.le_of_ble_eq_true rfl) ?_
  change WP k _ _ 0 [(0, vR (some 4)), (1, vI 0), (2, vI 3), (3, vI (-1))] [] _ _
  refine st_aload_n (pc' := 1) dX2_set_0 rfl rfl (j := 0) rfl ?_
  refine st_getR (pc' := 4) (r := some 19) dX2_set_1 rfl (show MC_53.1[4]? = some (5, 7) from rfl) c_X2 rfl (show 1 < 7 by decide) f_X2_9 (fun _ => rfl) rfl ?_
  refine st_iconst (pc' := 5) dX2_set_4 rfl ?_
  refine st_iload_n (pc' := 6) dX2_set_5 rfl rfl (j := 1) rfl ?_
  refine st_bipush (pc' := 8) dX2_set_6 rfl (by decide) ?_
  refine st_imul (pc' := 9) dX2_set_8 rfl ?_
  change WP _ _ _ _ _ [vI 0, vI 3, vR (some 19)] _ _
  refine st_iadd (pc' := 10) dX2_set_9 rfl ?_
  change WP _ _ _ _ _ [vI 3, vR (some 19)] _ _
  refine st_iload_n (pc' := 11) dX2_set_10 rfl rfl (j := 2) rfl ?_
  refine st_iadd (pc' := 12) dX2_set_11 rfl ?_
  change WP _ _ _ _ _ [vI 6, vR (some 19)] _ _
  refine st_iload_n (pc' := 13) dX2_set_12 rfl rfl (j := 3) rfl ?_
  refine st_iastore (pc' := 14) (M' := MC_54) dX2_set_13 rfl (show MC_53.1[19]? = some (0, 87) from rfl) (by decide) (by decide) rfl ?_
  exact st_vret dX2_set_14 rfl rfl h
def IC_34 : Nat → Nat → Int32 := up2 IC_33 19 20 (iI (-1))
def MC_55 : Mem := (LAY.take 22, IC_34, JC_22, RC_43)
set_option maxRecDepth 100000 in
set_option maxHeartbeats 4000000 in
theorem K_X2_set_1 {k : Nat} {Q : Option AV → Mem → Prop} (hk : 0 ≤ k) (h : Q none MC_55) : WPm k (LAY.take 22) m_X2_set [vR (some 4), vI 1, vI 3, vI (-1)] MC_54 Q := by
  refine WPm.of k_X2_set.1 (Nat.le_of_ble_eq_true rfl) ?_
  change WP k _ _ 0 [(0, vR (some 4)), (1, vI 1), (2, vI 3), (3, vI (-1))] [] _ _
  refine st_aload_n (pc' := 1) dX2_set_0 rfl rfl (j := 0) rfl ?_
  refine st_getR (pc' := 4) (r := some 19) dX2_set_1 rfl (show MC_54.1[4]? = some (5, 7) from rfl) c_X2 rfl (show 1 < 7 by decide) f_X2_9 (fun _ => rfl) rfl ?_
  refine st_iconst (pc' := 5) dX2_set_4 rfl ?_
  refine st_iload_n (pc' := 6) dX2_set_5 rfl rfl (j := 1) rfl ?_
  refine st_bipush (pc' := 8) dX2_set_6 rfl (by decide) ?_
  refine st_imul (pc' := 9) dX2_set_8 rfl ?_
  change WP _ _ _ _ _ [vI 14, vI 3, vR (some 19)] _ _
  refine st_iadd (pc' := 10) dX2_set_9 rfl ?_
  change WP _ _ _ _ _ [vI 17, vR (some 19)] _ _
  refine st_iload_n (pc' := 11) dX2_set_10 rfl rfl (j := 2) rfl ?_
  refine st_iadd (pc' := 12) dX2_set_11 rfl ?_
  change WP _ _ _ _ _ [vI 20, vR (some 19)] _ _
  refine st_iload_n (pc' := 13) dX2_set_12 rfl rfl (j := 3) rfl ?_
  refine st_iastore (pc' := 14) (M' := MC_55) dX2_set_13 rfl (show MC_54.1[19]? = some (0, 87) from rfl) (by decide) (by decide) rfl ?_
  exact st_vret dX2_set_14 rfl rfl h
def IC_35 : Nat → Nat → Int32 := up2 IC_34 19 34 (iI (-1))
def MC_56 : Mem := (LAY.take 22, IC_35, JC_22, RC_43)
set_option maxRecDepth 100000 in
set_option maxHeartbeats 4000000 in
theorem K_X2_set_2 {k : Nat} {Q : Option AV → Mem → Prop} (hk : 0 ≤ k) (h : Q none MC_56) : WPm k (LAY.take 22) m_X2_set [vR (some 4), vI 2, vI 3, vI (-1)] MC_55 Q := by
  refine WPm.of k_X2_set.1 (Nat.le_of_ble_eq_true rfl) ?_
  change WP k _ _ 0 [(0, vR (some 4)), (1, vI 2), (2, vI 3), (3, vI (-1))] [] _ _
  refine st_aload_n (pc' := 1) dX2_set_0 rfl rfl (j := 0) rfl ?_
  refine st_getR (pc' := 4) (r := some 19) dX2_set_1 rfl (show MC_55.1[4]? = some (5, 7) from rfl) c_X2 rfl (show 1 < 7 by decide) f_X2_9 (fun _ => rfl) rfl ?_
  refine st_iconst (pc' := 5) dX2_set_4 rfl ?_
  refine st_iload_n (pc' := 6) dX2_set_5 rfl rfl (j := 1) rfl ?_
  refine st_bipush (pc' := 8) dX2_set_6 rfl (by decide) ?_
  refine st_imul (pc' := 9) dX2_set_8 rfl ?_
  change WP _ _ _ _ _ [vI 28, vI 3, vR (some 19)] _ _
  refine st_iadd (pc' := 10) dX2_set_9 rfl ?_
  change WP _ _ _ _ _ [vI 31, vR (some 19)] _ _
  refine st_iload_n (pc' := 11) dX2_set_10 rfl rfl (j := 2) rfl ?_
  refine st_iadd (pc' := 12) dX2_set_11 rfl ?_
  change WP _ _ _ _ _ [vI 34, vR (some 19)] _ _
  refine st_iload_n (pc' := 13) dX2_set_12 rfl rfl (j := 3) rfl ?_
  refine st_iastore (pc' := 14) (M' := MC_56) dX2_set_13 rfl (show MC_55.1[19]? = some (0, 87) from rfl) (by decide) (by decide) rfl ?_
  exact st_vret dX2_set_14 rfl rfl h
def IC_36 : Nat → Nat → Int32 := up2 IC_35 19 48 (iI (-1))
def MC_57 : Mem := (LAY.take 22, IC_36, JC_22, RC_43)
set_option maxRecDepth 100000 in
set_option maxHeartbeats 4000000 in
theorem K_X2_set_3 {k : Nat} {Q : Option AV → Mem → Prop} (hk : 0 ≤ k) (h : Q none MC_57) : WPm k (LAY.take 22) m_X2_set [vR (some 4), vI 3, vI 3, vI (-1)] MC_56 Q := by
  refine WPm.of k_X2_set.1 (Nat.le_of_ble_eq_true rfl) ?_
  change WP k _ _ 0 [(0, vR (some 4)), (1, vI 3), (2, vI 3), (3, vI (-1))] [] _ _
  refine st_aload_n (pc' := 1) dX2_set_0 rfl rfl (j := 0) rfl ?_
  refine st_getR (pc' := 4) (r := some 19) dX2_set_1 rfl (show MC_56.1[4]? = some (5, 7) from rfl) c_X2 rfl (show 1 < 7 by decide) f_X2_9 (fun _ => rfl) rfl ?_
  refine st_iconst (pc' := 5) dX2_set_4 rfl ?_
  refine st_iload_n (pc' := 6) dX2_set_5 rfl rfl (j := 1) rfl ?_
  refine st_bipush (pc' := 8) dX2_set_6 rfl (by decide) ?_
  refine st_imul (pc' := 9) dX2_set_8 rfl ?_
  change WP _ _ _ _ _ [vI 42, vI 3, vR (some 19)] _ _
  refine st_iadd (pc' := 10) dX2_set_9 rfl ?_
  change WP _ _ _ _ _ [vI 45, vR (some 19)] _ _
  refine st_iload_n (pc' := 11) dX2_set_10 rfl rfl (j := 2) rfl ?_
  refine st_iadd (pc' := 12) dX2_set_11 rfl ?_
  change WP _ _ _ _ _ [vI 48, vR (some 19)] _ _
  refine st_iload_n (pc' := 13) dX2_set_12 rfl rfl (j := 3) rfl ?_
  refine st_iastore (pc' := 14) (M' := MC_57) dX2_set_13 rfl (show MC_56.1[19]? = some (0, 87) from rfl) (by decide) (by decide) rfl ?_
  exact st_vret dX2_set_14 rfl rfl h
def IC_37 : Nat → Nat → Int32 := up2 IC_36 19 62 (iI (-1))
def MC_58 : Mem := (LAY.take 22, IC_37, JC_22, RC_43)
set_option maxRecDepth 100000 in
set_option maxHeartbeats 4000000 in
theorem K_X2_set_4 {k : Nat} {Q : Option AV → Mem → Prop} (hk : 0 ≤ k) (h : Q none MC_58) : WPm k (LAY.take 22) m_X2_set [vR (some 4), vI 4, vI 3, vI (-1)] MC_57 Q := by
  refine WPm.of k_X2_set.1 (Nat.le_of_ble_eq_true rfl) ?_
  change WP k _ _ 0 [(0, vR (some 4)), (1, vI 4), (2, vI 3), (3, vI (-1))] [] _ _
  refine st_aload_n (pc' := 1) dX2_set_0 rfl rfl (j := 0) rfl ?_
  refine st_getR (pc' := 4) (r := some 19) dX2_set_1 rfl (show MC_57.1[4]? = some (5, 7) from rfl) c_X2 rfl (show 1 < 7 by decide) f_X2_9 (fun _ => rfl) rfl ?_
  refine st_iconst (pc' := 5) dX2_set_4 rfl ?_
  refine st_iload_n (pc' := 6) dX2_set_5 rfl rfl (j := 1) rfl ?_
  refine st_bipush (pc' := 8) dX2_set_6 rfl (by decide) ?_
  refine st_imul (pc' := 9) dX2_set_8 rfl ?_
  change WP _ _ _ _ _ [vI 56, vI 3, vR (some 19)] _ _
  refine st_iadd (pc' := 10) dX2_set_9 rfl ?_
  change WP _ _ _ _ _ [vI 59, vR (some 19)] _ _
  refine st_iload_n (pc' := 11) dX2_set_10 rfl rfl (j := 2) rfl ?_
  refine st_iadd (pc' := 12) dX2_set_11 rfl ?_
  change WP _ _ _ _ _ [vI 62, vR (some 19)] _ _
  refine st_iload_n (pc' := 13) dX2_set_12 rfl rfl (j := 3) rfl ?_
  refine st_iastore (pc' := 14) (M' := MC_58) dX2_set_13 rfl (show MC_57.1[19]? = some (0, 87) from rfl) (by decide) (by decide) rfl ?_
  exact st_vret dX2_set_14 rfl rfl h
def IC_38 : Nat → Nat → Int32 := up2 IC_37 19 76 (iI (-1))
def MC_59 : Mem := (LAY.take 22, IC_38, JC_22, RC_43)
set_option maxRecDepth 100000 in
set_option maxHeartbeats 4000000 in
theorem K_X2_set_5 {k : Nat} {Q : Option AV → Mem → Prop} (hk : 0 ≤ k) (h : Q none MC_59) : WPm k (LAY.take 22) m_X2_set [vR (some 4), vI 5, vI 3, vI (-1)] MC_58 Q := by
  refine WPm.of k_X2_set.1 (Nat.le_of_ble_eq_true rfl) ?_
  change WP k _ _ 0 [(0, vR (some 4)), (1, vI 5), (2, vI 3), (3, vI (-1))] [] _ _
  refine st_aload_n (pc' := 1) dX2_set_0 rfl rfl (j := 0) rfl ?_
  refine st_getR (pc' := 4) (r := some 19) dX2_set_1 rfl (show MC_58.1[4]? = some (5, 7) from rfl) c_X2 rfl (show 1 < 7 by decide) f_X2_9 (fun _ => rfl) rfl ?_
  refine st_iconst (pc' := 5) dX2_set_4 rfl ?_
  refine st_iload_n (pc' := 6) dX2_set_5 rfl rfl (j := 1) rfl ?_
  refine st_bipush (pc' := 8) dX2_set_6 rfl (by decide) ?_
  refine st_imul (pc' := 9) dX2_set_8 rfl ?_
  change WP _ _ _ _ _ [vI 70, vI 3, vR (some 19)] _ _
  refine st_iadd (pc' := 10) dX2_set_9 rfl ?_
  change WP _ _ _ _ _ [vI 73, vR (some 19)] _ _
  refine st_iload_n (pc' := 11) dX2_set_10 rfl rfl (j := 2) rfl ?_
  refine st_iadd (pc' := 12) dX2_set_11 rfl ?_
  change WP _ _ _ _ _ [vI 76, vR (some 19)] _ _
  refine st_iload_n (pc' := 13) dX2_set_12 rfl rfl (j := 3) rfl ?_
  refine st_iastore (pc' := 14) (M' := MC_59) dX2_set_13 rfl (show MC_58.1[19]? = some (0, 87) from rfl) (by decide) (by decide) rfl ?_
  exact st_vret dX2_set_14 rfl rfl h
def IC_39 : Nat → Nat → Int32 := up2 IC_38 4 4 (iI 0)
def MC_60 : Mem := (LAY.take 22, IC_39, JC_22, RC_43)
def IC_40 : Nat → Nat → Int32 := up2 IC_39 4 5 (iI 0)
def MC_61 : Mem := (LAY.take 22, IC_40, JC_22, RC_43)
def IC_41 : Nat → Nat → Int32 := up2 IC_40 4 6 (iI 1)
def MC_62 : Mem := (LAY.take 22, IC_41, JC_22, RC_43)
set_option maxRecDepth 100000 in
set_option maxHeartbeats 4000000 in
theorem K_X2_forget_0 {k : Nat} {Q : Option AV → Mem → Prop} (hk : 0 ≤ k) (h : Q none MC_62) : WPm k (LAY.take 22) m_X2_forget [vR (some 4)] MC_59 Q := by
  refine WPm.of k_X2_forget.1 (Nat.le_of_ble_eq_true rfl) ?_
  change WP k _ _ 0 [(0, vR (some 4))] [] _ _
  refine st_aload_n (pc' := 1) dX2_forget_0 rfl rfl (j := 0) rfl ?_
  refine st_iconst (pc' := 2) dX2_forget_1 rfl ?_
  refine st_putI (pc' := 5) (M' := MC_60) dX2_forget_2 rfl (show MC_59.1[4]? = some (5, 7) from rfl) c_X2 rfl (show 4 < 7 by decide) rfl f_X2_48 rfl rfl ?_
  refine st_aload_n (pc' := 6) dX2_forget_5 rfl rfl (j := 0) rfl ?_
  refine st_iconst (pc' := 7) dX2_forget_6 rfl ?_
  refine st_putI (pc' := 10) (M' := MC_61) dX2_forget_7 rfl (show MC_60.1[4]? = some (5, 7) from rfl) c_X2 rfl (show 5 < 7 by decide) rfl f_X2_52 rfl rfl ?_
  refine st_aload_n (pc' := 11) dX2_forget_10 rfl rfl (j := 0) rfl ?_
  refine st_dup (pc' := 12) dX2_forget_11 rfl rfl ?_
  refine st_getI (pc' := 15) (z := 0) dX2_forget_12 rfl (show MC_61.1[4]? = some (5, 7) from rfl) c_X2 rfl (show 6 < 7 by decide) f_X2_55 (fun _ => rfl) (by decide +kernel) ?_
  refine st_iconst (pc' := 16) dX2_forget_15 rfl ?_
  refine st_iadd (pc' := 17) dX2_forget_16 rfl ?_
  change WP _ _ _ _ _ [vI 1, vR (some 4)] _ _
  refine st_putI (pc' := 20) (M' := MC_62) dX2_forget_17 rfl (show MC_61.1[4]? = some (5, 7) from rfl) c_X2 rfl (show 6 < 7 by decide) rfl f_X2_55 rfl rfl ?_
  exact st_vret dX2_forget_20 rfl rfl h
set_option maxRecDepth 100000 in
set_option maxHeartbeats 4000000 in
theorem K_X2_open_0 {k : Nat} {Q : Option AV → Mem → Prop} (hk : 1 ≤ k) (h : Q none MC_62) : WPm k (LAY.take 22) m_X2_open [vR (some 4), vR (some 5)] MC_51 Q := by
  refine WPm.of k_X2_open.1 (Nat.le_of_ble_eq_true rfl) ?_
  change WP k _ _ 0 [(0, vR (some 4)), (1, vR (some 5))] [] _ _
  refine st_aload_n (pc' := 1) dX2_open_0 rfl rfl (j := 0) rfl ?_
  refine st_aload_n (pc' := 2) dX2_open_1 rfl rfl (j := 1) rfl ?_
  refine st_putO (pc' := 5) (M' := MC_52) dX2_open_2 rfl (show MC_51.1[4]? = some (5, 7) from rfl) c_X2 rfl (show 0 < 7 by decide) rfl f_X2_25 rfl rfl ?_
  refine st_aload_n (pc' := 6) dX2_open_5 rfl rfl (j := 0) rfl ?_
  refine st_getR (pc' := 9) (r := some 19) dX2_open_6 rfl (show MC_52.1[4]? = some (5, 7) from rfl) c_X2 rfl (show 1 < 7 by decide) f_X2_9 (fun _ => rfl) rfl ?_
  refine st_iconst (pc' := 10) dX2_open_9 rfl ?_
  refine st_callS (pc' := 13) (kc := k - 1) (E' := LAY.take 22) (cal := m_J7_fill_53178) (n := 2) (as := [vR (some 19), vI 0]) (S := []) (Q1 := fun r M' => r = none ∧ M' = MC_53) dX2_open_10 rfl l_X2_29 k_J7_fill_53178 rfl rfl (Nat.le_of_ble_eq_true rfl) (by omega) (by decide +kernel) (S_fillM rfl (show MC_52.1[19]? = some (0, 87) from rfl) (by decide) ⟨rfl, rfl⟩) (fun r M' q => ?_)
  obtain ⟨rfl, rfl⟩ := q
  change WP _ _ _ 13 [(0, vR (some 4)), (1, vR (some 5))] [] MC_53 _
  refine st_iconst (pc' := 14) dX2_open_13 rfl ?_
  refine st_istore_n (pc' := 15) (L' := [(2, vI 0), (0, vR (some 4)), (1, vR (some 5))]) dX2_open_14 rfl rfl (by decide) rfl ?_
  refine st_iload_n (pc' := 16) dX2_open_15 rfl rfl (j := 0) rfl ?_
  refine st_bipush (pc' := 18) dX2_open_16 rfl (by decide) ?_
  refine st_icmp_ge (tg := 34) (pc' := 21) dX2_open_18 (by decide) rfl (by decide) (by decide) (fun c => absurd c (by decide)) (fun c => ?_)
  refine st_aload_n (pc' := 22) dX2_open_21 rfl rfl (j := 1) rfl ?_
  refine st_iload_n (pc' := 23) dX2_open_22 rfl rfl (j := 0) rfl ?_
  refine st_iconst (pc' := 24) dX2_open_23 rfl ?_
  refine st_iconst (pc' := 25) dX2_open_24 rfl ?_
  refine st_callV (pc' := 28) (kc := k - 1) (E' := LAY.take 22) (cal := m_X2_set) (n := 3) (as := [vI 0, vI 3, vI (-1)]) (S := []) (Q1 := fun r M' => r = none ∧ M' = MC_54) dX2_open_25 rfl l_X2_35 k_X2_set rfl (show MC_53.1[4]? = some (5, 7) from rfl) c_X2 rfl rfl (Nat.le_of_ble_eq_true rfl) (by omega) (by decide +kernel) (K_X2_set_0 (by omega) ⟨rfl, rfl⟩) (fun r M' q => ?_)
  obtain ⟨rfl, rfl⟩ := q
  change WP _ _ _ 28 [(2, vI 0), (0, vR (some 4)), (1, vR (some 5))] [] MC_54 _
  refine st_iinc (pc' := 31) (L' := [(2, vI 1), (0, vR (some 4)), (1, vR (some 5))]) (j := 0) dX2_open_28 rfl (by decide) rfl rfl ?_
  refine st_goto (pc' := 15) dX2_open_31 (by decide) ?_
  refine st_iload_n (pc' := 16) dX2_open_15 rfl rfl (j := 0) rfl ?_
  refine st_bipush (pc' := 18) dX2_open_16 rfl (by decide) ?_
  refine st_icmp_ge (tg := 34) (pc' := 21) dX2_open_18 (by decide) rfl (by decide) (by decide) (fun c => absurd c (by decide)) (fun c => ?_)
  refine st_aload_n (pc' := 22) dX2_open_21 rfl rfl (j := 1) rfl ?_
  refine st_iload_n (pc' := 23) dX2_open_22 rfl rfl (j := 0) rfl ?_
  refine st_iconst (pc' := 24) dX2_open_23 rfl ?_
  refine st_iconst (pc' := 25) dX2_open_24 rfl ?_
  refine st_callV (pc' := 28) (kc := k - 1) (E' := LAY.take 22) (cal := m_X2_set) (n := 3) (as := [vI 1, vI 3, vI (-1)]) (S := []) (Q1 := fun r M' => r = none ∧ M' = MC_55) dX2_open_25 rfl l_X2_35 k_X2_set rfl (show MC_54.1[4]? = some (5, 7) from rfl) c_X2 rfl rfl (Nat.le_of_ble_eq_true rfl) (by omega) (by decide +kernel) (K_X2_set_1 (by omega) ⟨rfl, rfl⟩) (fun r M' q => ?_)
  obtain ⟨rfl, rfl⟩ := q
  change WP _ _ _ 28 [(2, vI 1), (0, vR (some 4)), (1, vR (some 5))] [] MC_55 _
  refine st_iinc (pc' := 31) (L' := [(2, vI 2), (0, vR (some 4)), (1, vR (some 5))]) (j := 0) dX2_open_28 rfl (by decide) rfl rfl ?_
  refine st_goto (pc' := 15) dX2_open_31 (by decide) ?_
  refine st_iload_n (pc' := 16) dX2_open_15 rfl rfl (j := 0) rfl ?_
  refine st_bipush (pc' := 18) dX2_open_16 rfl (by decide) ?_
  refine st_icmp_ge (tg := 34) (pc' := 21) dX2_open_18 (by decide) rfl (by decide) (by decide) (fun c => absurd c (by decide)) (fun c => ?_)
  refine st_aload_n (pc' := 22) dX2_open_21 rfl rfl (j := 1) rfl ?_
  refine st_iload_n (pc' := 23) dX2_open_22 rfl rfl (j := 0) rfl ?_
  refine st_iconst (pc' := 24) dX2_open_23 rfl ?_
  refine st_iconst (pc' := 25) dX2_open_24 rfl ?_
  refine st_callV (pc' := 28) (kc := k - 1) (E' := LAY.take 22) (cal := m_X2_set) (n := 3) (as := [vI 2, vI 3, vI (-1)]) (S := []) (Q1 := fun r M' => r = none ∧ M' = MC_56) dX2_open_25 rfl l_X2_35 k_X2_set rfl (show MC_55.1[4]? = some (5, 7) from rfl) c_X2 rfl rfl (Nat.le_of_ble_eq_true rfl) (by omega) (by decide +kernel) (K_X2_set_2 (by omega) ⟨rfl, rfl⟩) (fun r M' q => ?_)
  obtain ⟨rfl, rfl⟩ := q
  change WP _ _ _ 28 [(2, vI 2), (0, vR (some 4)), (1, vR (some 5))] [] MC_56 _
  refine st_iinc (pc' := 31) (L' := [(2, vI 3), (0, vR (some 4)), (1, vR (some 5))]) (j := 0) dX2_open_28 rfl (by decide) rfl rfl ?_
  refine st_goto (pc' := 15) dX2_open_31 (by decide) ?_
  refine st_iload_n (pc' := 16) dX2_open_15 rfl rfl (j := 0) rfl ?_
  refine st_bipush (pc' := 18) dX2_open_16 rfl (by decide) ?_
  refine st_icmp_ge (tg := 34) (pc' := 21) dX2_open_18 (by decide) rfl (by decide) (by decide) (fun c => absurd c (by decide)) (fun c => ?_)
  refine st_aload_n (pc' := 22) dX2_open_21 rfl rfl (j := 1) rfl ?_
  refine st_iload_n (pc' := 23) dX2_open_22 rfl rfl (j := 0) rfl ?_
  refine st_iconst (pc' := 24) dX2_open_23 rfl ?_
  refine st_iconst (pc' := 25) dX2_open_24 rfl ?_
  refine st_callV (pc' := 28) (kc := k - 1) (E' := LAY.take 22) (cal := m_X2_set) (n := 3) (as := [vI 3, vI 3, vI (-1)]) (S := []) (Q1 := fun r M' => r = none ∧ M' = MC_57) dX2_open_25 rfl l_X2_35 k_X2_set rfl (show MC_56.1[4]? = some (5, 7) from rfl) c_X2 rfl rfl (Nat.le_of_ble_eq_true rfl) (by omega) (by decide +kernel) (K_X2_set_3 (by omega) ⟨rfl, rfl⟩) (fun r M' q => ?_)
  obtain ⟨rfl, rfl⟩ := q
  change WP _ _ _ 28 [(2, vI 3), (0, vR (some 4)), (1, vR (some 5))] [] MC_57 _
  refine st_iinc (pc' := 31) (L' := [(2, vI 4), (0, vR (some 4)), (1, vR (some 5))]) (j := 0) dX2_open_28 rfl (by decide) rfl rfl ?_
  refine st_goto (pc' := 15) dX2_open_31 (by decide) ?_
  refine st_iload_n (pc' := 16) dX2_open_15 rfl rfl (j := 0) rfl ?_
  refine st_bipush (pc' := 18) dX2_open_16 rfl (by decide) ?_
  refine st_icmp_ge (tg := 34) (pc' := 21) dX2_open_18 (by decide) rfl (by decide) (by decide) (fun c => absurd c (by decide)) (fun c => ?_)
  refine st_aload_n (pc' := 22) dX2_open_21 rfl rfl (j := 1) rfl ?_
  refine st_iload_n (pc' := 23) dX2_open_22 rfl rfl (j := 0) rfl ?_
  refine st_iconst (pc' := 24) dX2_open_23 rfl ?_
  refine st_iconst (pc' := 25) dX2_open_24 rfl ?_
  refine st_callV (pc' := 28) (kc := k - 1) (E' := LAY.take 22) (cal := m_X2_set) (n := 3) (as := [vI 4, vI 3, vI (-1)]) (S := []) (Q1 := fun r M' => r = none ∧ M' = MC_58) dX2_open_25 rfl l_X2_35 k_X2_set rfl (show MC_57.1[4]? = some (5, 7) from rfl) c_X2 rfl rfl (Nat.le_of_ble_eq_true rfl) (by omega) (by decide +kernel) (K_X2_set_4 (by omega) ⟨rfl, rfl⟩) (fun r M' q => ?_)
  obtain ⟨rfl, rfl⟩ := q
  change WP _ _ _ 28 [(2, vI 4), (0, vR (some 4)), (1, vR (some 5))] [] MC_58 _
  refine st_iinc (pc' := 31) (L' := [(2, vI 5), (0, vR (some 4)), (1, vR (some 5))]) (j := 0) dX2_open_28 rfl (by decide) rfl rfl ?_
  refine st_goto (pc' := 15) dX2_open_31 (by decide) ?_
  refine st_iload_n (pc' := 16) dX2_open_15 rfl rfl (j := 0) rfl ?_
  refine st_bipush (pc' := 18) dX2_open_16 rfl (by decide) ?_
  refine st_icmp_ge (tg := 34) (pc' := 21) dX2_open_18 (by decide) rfl (by decide) (by decide) (fun c => absurd c (by decide)) (fun c => ?_)
  refine st_aload_n (pc' := 22) dX2_open_21 rfl rfl (j := 1) rfl ?_
  refine st_iload_n (pc' := 23) dX2_open_22 rfl rfl (j := 0) rfl ?_
  refine st_iconst (pc' := 24) dX2_open_23 rfl ?_
  refine st_iconst (pc' := 25) dX2_open_24 rfl ?_
  refine st_callV (pc' := 28) (kc := k - 1) (E' := LAY.take 22) (cal := m_X2_set) (n := 3) (as := [vI 5, vI 3, vI (-1)]) (S := []) (Q1 := fun r M' => r = none ∧ M' = MC_59) dX2_open_25 rfl l_X2_35 k_X2_set rfl (show MC_58.1[4]? = some (5, 7) from rfl) c_X2 rfl rfl (Nat.le_of_ble_eq_true rfl) (by omega) (by decide +kernel) (K_X2_set_5 (by omega) ⟨rfl, rfl⟩) (fun r M' q => ?_)
  obtain ⟨rfl, rfl⟩ := q
  change WP _ _ _ 28 [(2, vI 5), (0, vR (some 4)), (1, vR (some 5))] [] MC_59 _
  refine st_iinc (pc' := 31) (L' := [(2, vI 6), (0, vR (some 4)), (1, vR (some 5))]) (j := 0) dX2_open_28 rfl (by decide) rfl rfl ?_
  refine st_goto (pc' := 15) dX2_open_31 (by decide) ?_
  refine st_iload_n (pc' := 16) dX2_open_15 rfl rfl (j := 0) rfl ?_
  refine st_bipush (pc' := 18) dX2_open_16 rfl (by decide) ?_
  refine st_icmp_ge (tg := 34) (pc' := 21) dX2_open_18 (by decide) rfl (by decide) (by decide) (fun c => ?_) (fun c => absurd c (by decide))
  refine st_aload_n (pc' := 35) dX2_open_34 rfl rfl (j := 1) rfl ?_
  refine st_callV (pc' := 38) (kc := k - 1) (E' := LAY.take 22) (cal := m_X2_forget) (n := 0) (as := []) (S := []) (Q1 := fun r M' => r = none ∧ M' = MC_62) dX2_open_35 rfl l_X2_39 k_X2_forget rfl (show MC_59.1[4]? = some (5, 7) from rfl) c_X2 rfl rfl (Nat.le_of_ble_eq_true rfl) (by omega) (by decide +kernel) (K_X2_forget_0 (by omega) ⟨rfl, rfl⟩) (fun r M' q => ?_)
  obtain ⟨rfl, rfl⟩ := q
  change WP _ _ _ 38 [(2, vI 6), (0, vR (some 4)), (1, vR (some 5))] [] MC_62 _
  exact st_vret dX2_open_38 rfl rfl h
set_option maxRecDepth 100000 in
set_option maxHeartbeats 4000000 in
theorem K_X2_init_0 {k : Nat} {Q : Option AV → Mem → Prop} (hk : 2 ≤ k) (h : Q none MC_62) : WPm k (LAY.take 22) m_X2_init [vR (some 4), vR (some 5)] MC_45 Q := by
  refine WPm.of k_X2_init.1 (Nat.le_of_ble_eq_true rfl) ?_
  change WP k _ _ 0 [(0, vR (some 4)), (1, vR (some 5))] [] _ _
  refine st_aload_n (pc' := 1) dX2_init_0 rfl rfl (j := 0) rfl ?_
  refine st_objInit (pc' := 4) dX2_init_1 rfl l_X2_3 a_obj (Nat.le_of_ble_eq_true rfl) (by omega) ?_
  refine st_aload_n (pc' := 5) dX2_init_4 rfl rfl (j := 0) rfl ?_
  refine st_bipush (pc' := 7) dX2_init_5 rfl (by decide) ?_
  refine st_newarr (pc' := 9) (N := 87) (q := 19) (M' := MC_46) 0 .int .int (by simp) dX2_init_7 rfl a_int rfl (by decide) (by decide +kernel) rfl rfl ?_
  refine st_putAF (pc' := 12) (M' := MC_47) dX2_init_9 rfl (show MC_46.1[4]? = some (5, 7) from rfl) c_X2 rfl (show 1 < 7 by decide) rfl rfl rfl f_X2_9 rfl rfl ?_
  refine st_aload_n (pc' := 13) dX2_init_12 rfl rfl (j := 0) rfl ?_
  refine st_bipush (pc' := 15) dX2_init_13 rfl (by decide) ?_
  refine st_newarr (pc' := 17) (N := 84) (q := 20) (M' := MC_48) 0 .int .int (by simp) dX2_init_15 rfl a_int rfl (by decide) (by decide +kernel) rfl rfl ?_
  refine st_putAF (pc' := 20) (M' := MC_49) dX2_init_17 rfl (show MC_48.1[4]? = some (5, 7) from rfl) c_X2 rfl (show 2 < 7 by decide) rfl rfl rfl f_X2_15 rfl rfl ?_
  refine st_aload_n (pc' := 21) dX2_init_20 rfl rfl (j := 0) rfl ?_
  refine st_sipush (pc' := 24) dX2_init_21 rfl (by decide) ?_
  refine st_newarr (pc' := 26) (N := 1740) (q := 21) (M' := MC_50) 0 .int .int (by simp) dX2_init_24 rfl a_int rfl (by decide) (by decide +kernel) rfl rfl ?_
  refine st_putAF (pc' := 29) (M' := MC_51) dX2_init_26 rfl (show MC_50.1[4]? = some (5, 7) from rfl) c_X2 rfl (show 3 < 7 by decide) rfl rfl rfl f_X2_18 rfl rfl ?_
  refine st_aload_n (pc' := 30) dX2_init_29 rfl rfl (j := 0) rfl ?_
  refine st_aload_n (pc' := 31) dX2_init_30 rfl rfl (j := 1) rfl ?_
  refine st_callV (pc' := 34) (kc := k - 1) (E' := LAY.take 22) (cal := m_X2_open) (n := 1) (as := [vR (some 5)]) (S := []) (Q1 := fun r M' => r = none ∧ M' = MC_62) dX2_init_31 rfl l_X2_21 k_X2_open rfl (show MC_51.1[4]? = some (5, 7) from rfl) c_X2 rfl rfl (Nat.le_of_ble_eq_true rfl) (by omega) (by decide +kernel) (K_X2_open_0 (by omega) ⟨rfl, rfl⟩) (fun r M' q => ?_)
  obtain ⟨rfl, rfl⟩ := q
  change WP _ _ _ 34 [(0, vR (some 4)), (1, vR (some 5))] [] MC_62 _
  exact st_vret dX2_init_34 rfl rfl h
def RC_44 : Nat → Nat → Option Nat := up2 RC_43 0 2 (some 4)
def MC_63 : Mem := (LAY.take 22, IC_41, JC_22, RC_44)
def IC_42 : Nat → Nat → Int32 := ze2 IC_41 22 0
def JC_23 : Nat → Nat → Int64 := ze2 JC_22 22 0
def RC_45 : Nat → Nat → Option Nat := ze2 RC_44 22 none
def MC_64 : Mem := (LAY.take 23, IC_42, JC_23, RC_45)
def IC_43 : Nat → Nat → Int32 := ze2 IC_42 23 0
def JC_24 : Nat → Nat → Int64 := ze2 JC_23 23 0
def RC_46 : Nat → Nat → Option Nat := ze2 RC_45 23 none
def MC_65 : Mem := (LAY.take 24, IC_43, JC_24, RC_46)
def RC_47 : Nat → Nat → Option Nat := up2 RC_46 22 0 (some 23)
def MC_66 : Mem := (LAY.take 24, IC_43, JC_24, RC_47)
def IC_44 : Nat → Nat → Int32 := ze2 IC_43 24 0
def JC_25 : Nat → Nat → Int64 := ze2 JC_24 24 0
def RC_48 : Nat → Nat → Option Nat := ze2 RC_47 24 none
def MC_67 : Mem := (LAY.take 25, IC_44, JC_25, RC_48)
def RC_49 : Nat → Nat → Option Nat := up2 RC_48 22 1 (some 24)
def MC_68 : Mem := (LAY.take 25, IC_44, JC_25, RC_49)
def IC_45 : Nat → Nat → Int32 := ze2 IC_44 25 0
def JC_26 : Nat → Nat → Int64 := ze2 JC_25 25 0
def RC_50 : Nat → Nat → Option Nat := ze2 RC_49 25 none
def MC_69 : Mem := (LAY.take 26, IC_45, JC_26, RC_50)
def RC_51 : Nat → Nat → Option Nat := up2 RC_50 22 2 (some 25)
def MC_70 : Mem := (LAY.take 26, IC_45, JC_26, RC_51)
def IC_46 : Nat → Nat → Int32 := ze2 IC_45 26 0
def JC_27 : Nat → Nat → Int64 := ze2 JC_26 26 0
def RC_52 : Nat → Nat → Option Nat := ze2 RC_51 26 none
def MC_71 : Mem := (LAY.take 27, IC_46, JC_27, RC_52)
def RC_53 : Nat → Nat → Option Nat := up2 RC_52 22 3 (some 26)
def MC_72 : Mem := (LAY.take 27, IC_46, JC_27, RC_53)
def IC_47 : Nat → Nat → Int32 := ze2 IC_46 27 0
def JC_28 : Nat → Nat → Int64 := ze2 JC_27 27 0
def RC_54 : Nat → Nat → Option Nat := ze2 RC_53 27 none
def MC_73 : Mem := (LAY.take 28, IC_47, JC_28, RC_54)
def RC_55 : Nat → Nat → Option Nat := up2 RC_54 22 4 (some 27)
def MC_74 : Mem := (LAY.take 28, IC_47, JC_28, RC_55)
def IC_48 : Nat → Nat → Int32 := ze2 IC_47 28 0
def JC_29 : Nat → Nat → Int64 := ze2 JC_28 28 0
def RC_56 : Nat → Nat → Option Nat := ze2 RC_55 28 none
def MC_75 : Mem := (LAY.take 29, IC_48, JC_29, RC_56)
def RC_57 : Nat → Nat → Option Nat := up2 RC_56 22 5 (some 28)
def MC_76 : Mem := (LAY.take 29, IC_48, JC_29, RC_57)
def IC_49 : Nat → Nat → Int32 := ze2 IC_48 29 0
def JC_30 : Nat → Nat → Int64 := ze2 JC_29 29 0
def RC_58 : Nat → Nat → Option Nat := ze2 RC_57 29 none
def MC_77 : Mem := (LAY.take 30, IC_49, JC_30, RC_58)
def RC_59 : Nat → Nat → Option Nat := up2 RC_58 22 6 (some 29)
def MC_78 : Mem := (LAY.take 30, IC_49, JC_30, RC_59)
def IC_50 : Nat → Nat → Int32 := ze2 IC_49 30 0
def JC_31 : Nat → Nat → Int64 := ze2 JC_30 30 0
def RC_60 : Nat → Nat → Option Nat := ze2 RC_59 30 none
def MC_79 : Mem := (LAY.take 31, IC_50, JC_31, RC_60)
def RC_61 : Nat → Nat → Option Nat := up2 RC_60 22 7 (some 30)
def MC_80 : Mem := (LAY.take 31, IC_50, JC_31, RC_61)
def IC_51 : Nat → Nat → Int32 := ze2 IC_50 31 0
def JC_32 : Nat → Nat → Int64 := ze2 JC_31 31 0
def RC_62 : Nat → Nat → Option Nat := ze2 RC_61 31 none
def MC_81 : Mem := (LAY.take 32, IC_51, JC_32, RC_62)
def RC_63 : Nat → Nat → Option Nat := up2 RC_62 22 8 (some 31)
def MC_82 : Mem := (LAY.take 32, IC_51, JC_32, RC_63)
def IC_52 : Nat → Nat → Int32 := ze2 IC_51 32 0
def JC_33 : Nat → Nat → Int64 := ze2 JC_32 32 0
def RC_64 : Nat → Nat → Option Nat := ze2 RC_63 32 none
def MC_83 : Mem := (LAY.take 33, IC_52, JC_33, RC_64)
def RC_65 : Nat → Nat → Option Nat := up2 RC_64 22 9 (some 32)
def MC_84 : Mem := (LAY.take 33, IC_52, JC_33, RC_65)
def IC_53 : Nat → Nat → Int32 := ze2 IC_52 33 0
def JC_34 : Nat → Nat → Int64 := ze2 JC_33 33 0
def RC_66 : Nat → Nat → Option Nat := ze2 RC_65 33 none
def MC_85 : Mem := (LAY.take 34, IC_53, JC_34, RC_66)
def RC_67 : Nat → Nat → Option Nat := up2 RC_66 22 10 (some 33)
def MC_86 : Mem := (LAY.take 34, IC_53, JC_34, RC_67)
def IC_54 : Nat → Nat → Int32 := ze2 IC_53 34 0
def JC_35 : Nat → Nat → Int64 := ze2 JC_34 34 0
def RC_68 : Nat → Nat → Option Nat := ze2 RC_67 34 none
def MC_87 : Mem := (LAY.take 35, IC_54, JC_35, RC_68)
def RC_69 : Nat → Nat → Option Nat := up2 RC_68 22 11 (some 34)
def MC_88 : Mem := (LAY.take 35, IC_54, JC_35, RC_69)
def IC_55 : Nat → Nat → Int32 := ze2 IC_54 35 0
def JC_36 : Nat → Nat → Int64 := ze2 JC_35 35 0
def RC_70 : Nat → Nat → Option Nat := ze2 RC_69 35 none
def MC_89 : Mem := (LAY.take 36, IC_55, JC_36, RC_70)
def RC_71 : Nat → Nat → Option Nat := up2 RC_70 22 12 (some 35)
def MC_90 : Mem := (LAY.take 36, IC_55, JC_36, RC_71)
def IC_56 : Nat → Nat → Int32 := flI IC_55 23 4 0
def MC_91 : Mem := (LAY.take 36, IC_56, JC_36, RC_71)
def IC_57 : Nat → Nat → Int32 := flI IC_56 24 180 0
def MC_92 : Mem := (LAY.take 36, IC_57, JC_36, RC_71)
def IC_58 : Nat → Nat → Int32 := flI IC_57 27 14 0
def MC_93 : Mem := (LAY.take 36, IC_58, JC_36, RC_71)
def IC_59 : Nat → Nat → Int32 := flI IC_58 28 14 0
def MC_94 : Mem := (LAY.take 36, IC_59, JC_36, RC_71)
def IC_60 : Nat → Nat → Int32 := flI IC_59 35 3 0
def MC_95 : Mem := (LAY.take 36, IC_60, JC_36, RC_71)
def IC_61 : Nat → Nat → Int32 := up2 IC_60 22 13 (iI 0)
def MC_96 : Mem := (LAY.take 36, IC_61, JC_36, RC_71)
def IC_62 : Nat → Nat → Int32 := up2 IC_61 22 14 (iI 0)
def MC_97 : Mem := (LAY.take 36, IC_62, JC_36, RC_71)
def IC_63 : Nat → Nat → Int32 := up2 IC_62 22 15 (iI 60)
def MC_98 : Mem := (LAY.take 36, IC_63, JC_36, RC_71)
set_option maxRecDepth 100000 in
set_option maxHeartbeats 4000000 in
theorem K_X7_clear_1 {k : Nat} {Q : Option AV → Mem → Prop} (hk : 1 ≤ k) (h : Q none MC_98) : WPm k (LAY.take 36) m_X7_clear [vR (some 22)] MC_90 Q := by
  refine WPm.of k_X7_clear.1 (Nat.le_of_ble_eq_true rfl) ?_
  change WP k _ _ 0 [(0, vR (some 22))] [] _ _
  refine st_aload_n (pc' := 1) dX7_clear_0 rfl rfl (j := 0) rfl ?_
  refine st_getR (pc' := 4) (r := some 23) dX7_clear_1 rfl (show MC_90.1[22]? = some (10, 16) from rfl) c_X7 rfl (show 0 < 16 by decide) f_X7_9 (fun _ => rfl) rfl ?_
  refine st_iconst (pc' := 5) dX7_clear_4 rfl ?_
  refine st_callS (pc' := 8) (kc := k - 1) (E' := LAY.take 36) (cal := m_J7_fill_53178) (n := 2) (as := [vR (some 23), vI 0]) (S := []) (Q1 := fun r M' => r = none ∧ M' = MC_91) dX7_clear_5 rfl l_X7_54 k_J7_fill_53178 rfl rfl (Nat.le_of_ble_eq_true rfl) (by omega) (by decide +kernel) (S_fillM rfl (show MC_90.1[23]? = some (0, 4) from rfl) (by decide) ⟨rfl, rfl⟩) (fun r M' q => ?_)
  obtain ⟨rfl, rfl⟩ := q
  change WP _ _ _ 8 [(0, vR (some 22))] [] MC_91 _
  refine st_aload_n (pc' := 9) dX7_clear_8 rfl rfl (j := 0) rfl ?_
  refine st_getR (pc' := 12) (r := some 24) dX7_clear_9 rfl (show MC_91.1[22]? = some (10, 16) from rfl) c_X7 rfl (show 1 < 16 by decide) f_X7_15 (fun _ => rfl) rfl ?_
  refine st_iconst (pc' := 13) dX7_clear_12 rfl ?_
  refine st_callS (pc' := 16) (kc := k - 1) (E' := LAY.take 36) (cal := m_J7_fill_53178) (n := 2) (as := [vR (some 24), vI 0]) (S := []) (Q1 := fun r M' => r = none ∧ M' = MC_92) dX7_clear_13 rfl l_X7_54 k_J7_fill_53178 rfl rfl (Nat.le_of_ble_eq_true rfl) (by omega) (by decide +kernel) (S_fillM rfl (show MC_91.1[24]? = some (0, 180) from rfl) (by decide) ⟨rfl, rfl⟩) (fun r M' q => ?_)
  obtain ⟨rfl, rfl⟩ := q
  change WP _ _ _ 16 [(0, vR (some 22))] [] MC_92 _
  refine st_aload_n (pc' := 17) dX7_clear_16 rfl rfl (j := 0) rfl ?_
  refine st_getR (pc' := 20) (r := some 27) dX7_clear_17 rfl (show MC_92.1[22]? = some (10, 16) from rfl) c_X7 rfl (show 4 < 16 by decide) f_X7_24 (fun _ => rfl) rfl ?_
  refine st_iconst (pc' := 21) dX7_clear_20 rfl ?_
  refine st_callS (pc' := 24) (kc := k - 1) (E' := LAY.take 36) (cal := m_J7_fill_53178) (n := 2) (as := [vR (some 27), vI 0]) (S := []) (Q1 := fun r M' => r = none ∧ M' = MC_93) dX7_clear_21 rfl l_X7_54 k_J7_fill_53178 rfl rfl (Nat.le_of_ble_eq_true rfl) (by omega) (by decide +kernel) (S_fillM rfl (show MC_92.1[27]? = some (0, 14) from rfl) (by decide) ⟨rfl, rfl⟩) (fun r M' q => ?_)
  obtain ⟨rfl, rfl⟩ := q
  change WP _ _ _ 24 [(0, vR (some 22))] [] MC_93 _
  refine st_aload_n (pc' := 25) dX7_clear_24 rfl rfl (j := 0) rfl ?_
  refine st_getR (pc' := 28) (r := some 28) dX7_clear_25 rfl (show MC_93.1[22]? = some (10, 16) from rfl) c_X7 rfl (show 5 < 16 by decide) f_X7_27 (fun _ => rfl) rfl ?_
  refine st_iconst (pc' := 29) dX7_clear_28 rfl ?_
  refine st_callS (pc' := 32) (kc := k - 1) (E' := LAY.take 36) (cal := m_J7_fill_53178) (n := 2) (as := [vR (some 28), vI 0]) (S := []) (Q1 := fun r M' => r = none ∧ M' = MC_94) dX7_clear_29 rfl l_X7_54 k_J7_fill_53178 rfl rfl (Nat.le_of_ble_eq_true rfl) (by omega) (by decide +kernel) (S_fillM rfl (show MC_93.1[28]? = some (0, 14) from rfl) (by decide) ⟨rfl, rfl⟩) (fun r M' q => ?_)
  obtain ⟨rfl, rfl⟩ := q
  change WP _ _ _ 32 [(0, vR (some 22))] [] MC_94 _
  refine st_aload_n (pc' := 33) dX7_clear_32 rfl rfl (j := 0) rfl ?_
  refine st_getR (pc' := 36) (r := some 35) dX7_clear_33 rfl (show MC_94.1[22]? = some (10, 16) from rfl) c_X7 rfl (show 12 < 16 by decide) f_X7_48 (fun _ => rfl) rfl ?_
  refine st_iconst (pc' := 37) dX7_clear_36 rfl ?_
  refine st_callS (pc' := 40) (kc := k - 1) (E' := LAY.take 36) (cal := m_J7_fill_53178) (n := 2) (as := [vR (some 35), vI 0]) (S := []) (Q1 := fun r M' => r = none ∧ M' = MC_95) dX7_clear_37 rfl l_X7_54 k_J7_fill_53178 rfl rfl (Nat.le_of_ble_eq_true rfl) (by omega) (by decide +kernel) (S_fillM rfl (show MC_94.1[35]? = some (0, 3) from rfl) (by decide) ⟨rfl, rfl⟩) (fun r M' q => ?_)
  obtain ⟨rfl, rfl⟩ := q
  change WP _ _ _ 40 [(0, vR (some 22))] [] MC_95 _
  refine st_aload_n (pc' := 41) dX7_clear_40 rfl rfl (j := 0) rfl ?_
  refine st_iconst (pc' := 42) dX7_clear_41 rfl ?_
  refine st_putI (pc' := 45) (M' := MC_96) dX7_clear_42 rfl (show MC_95.1[22]? = some (10, 16) from rfl) c_X7 rfl (show 13 < 16 by decide) rfl f_X7_60 rfl rfl ?_
  refine st_aload_n (pc' := 46) dX7_clear_45 rfl rfl (j := 0) rfl ?_
  refine st_iconst (pc' := 47) dX7_clear_46 rfl ?_
  refine st_putI (pc' := 50) (M' := MC_97) dX7_clear_47 rfl (show MC_96.1[22]? = some (10, 16) from rfl) c_X7 rfl (show 14 < 16 by decide) rfl f_X7_64 rfl rfl ?_
  refine st_aload_n (pc' := 51) dX7_clear_50 rfl rfl (j := 0) rfl ?_
  refine st_bipush (pc' := 53) dX7_clear_51 rfl (by decide) ?_
  refine st_putI (pc' := 56) (M' := MC_98) dX7_clear_53 rfl (show MC_97.1[22]? = some (10, 16) from rfl) c_X7 rfl (show 15 < 16 by decide) rfl f_X7_67 rfl rfl ?_
  exact st_vret dX7_clear_56 rfl rfl h
set_option maxRecDepth 100000 in
set_option maxHeartbeats 4000000 in
theorem K_X7_init_1 {k : Nat} {Q : Option AV → Mem → Prop} (hk : 2 ≤ k) (h : Q none MC_98) : WPm k (LAY.take 36) m_X7_init [vR (some 22)] MC_64 Q := by
  refine WPm.of k_X7_init.1 (Nat.le_of_ble_eq_true rfl) ?_
  change WP k _ _ 0 [(0, vR (some 22))] [] _ _
  refine st_aload_n (pc' := 1) dX7_init_0 rfl rfl (j := 0) rfl ?_
  refine st_objInit (pc' := 4) dX7_init_1 rfl l_X7_3 a_obj (Nat.le_of_ble_eq_true rfl) (by omega) ?_
  refine st_aload_n (pc' := 5) dX7_init_4 rfl rfl (j := 0) rfl ?_
  refine st_iconst (pc' := 6) dX7_init_5 rfl ?_
  refine st_newarr (pc' := 8) (N := 4) (q := 23) (M' := MC_65) 0 .int .int (by simp) dX7_init_6 rfl a_int rfl (by decide) (by decide +kernel) rfl rfl ?_
  refine st_putAF (pc' := 11) (M' := MC_66) dX7_init_8 rfl (show MC_65.1[22]? = some (10, 16) from rfl) c_X7 rfl (show 0 < 16 by decide) rfl rfl rfl f_X7_9 rfl rfl ?_
  refine st_aload_n (pc' := 12) dX7_init_11 rfl rfl (j := 0) rfl ?_
  refine st_sipush (pc' := 15) dX7_init_12 rfl (by decide) ?_
  refine st_newarr (pc' := 17) (N := 180) (q := 24) (M' := MC_67) 0 .int .int (by simp) dX7_init_15 rfl a_int rfl (by decide) (by decide +kernel) rfl rfl ?_
  refine st_putAF (pc' := 20) (M' := MC_68) dX7_init_17 rfl (show MC_67.1[22]? = some (10, 16) from rfl) c_X7 rfl (show 1 < 16 by decide) rfl rfl rfl f_X7_15 rfl rfl ?_
  refine st_aload_n (pc' := 21) dX7_init_20 rfl rfl (j := 0) rfl ?_
  refine st_bipush (pc' := 23) dX7_init_21 rfl (by decide) ?_
  refine st_newarr (pc' := 25) (N := 14) (q := 25) (M' := MC_69) 0 .int .int (by simp) dX7_init_23 rfl a_int rfl (by decide) (by decide +kernel) rfl rfl ?_
  refine st_putAF (pc' := 28) (M' := MC_70) dX7_init_25 rfl (show MC_69.1[22]? = some (10, 16) from rfl) c_X7 rfl (show 2 < 16 by decide) rfl rfl rfl f_X7_18 rfl rfl ?_
  refine st_aload_n (pc' := 29) dX7_init_28 rfl rfl (j := 0) rfl ?_
  refine st_bipush (pc' := 31) dX7_init_29 rfl (by decide) ?_
  refine st_newarr (pc' := 33) (N := 14) (q := 26) (M' := MC_71) 0 .int .int (by simp) dX7_init_31 rfl a_int rfl (by decide) (by decide +kernel) rfl rfl ?_
  refine st_putAF (pc' := 36) (M' := MC_72) dX7_init_33 rfl (show MC_71.1[22]? = some (10, 16) from rfl) c_X7 rfl (show 3 < 16 by decide) rfl rfl rfl f_X7_21 rfl rfl ?_
  refine st_aload_n (pc' := 37) dX7_init_36 rfl rfl (j := 0) rfl ?_
  refine st_bipush (pc' := 39) dX7_init_37 rfl (by decide) ?_
  refine st_newarr (pc' := 41) (N := 14) (q := 27) (M' := MC_73) 0 .int .int (by simp) dX7_init_39 rfl a_int rfl (by decide) (by decide +kernel) rfl rfl ?_
  refine st_putAF (pc' := 44) (M' := MC_74) dX7_init_41 rfl (show MC_73.1[22]? = some (10, 16) from rfl) c_X7 rfl (show 4 < 16 by decide) rfl rfl rfl f_X7_24 rfl rfl ?_
  refine st_aload_n (pc' := 45) dX7_init_44 rfl rfl (j := 0) rfl ?_
  refine st_bipush (pc' := 47) dX7_init_45 rfl (by decide) ?_
  refine st_newarr (pc' := 49) (N := 14) (q := 28) (M' := MC_75) 0 .int .int (by simp) dX7_init_47 rfl a_int rfl (by decide) (by decide +kernel) rfl rfl ?_
  refine st_putAF (pc' := 52) (M' := MC_76) dX7_init_49 rfl (show MC_75.1[22]? = some (10, 16) from rfl) c_X7 rfl (show 5 < 16 by decide) rfl rfl rfl f_X7_27 rfl rfl ?_
  refine st_aload_n (pc' := 53) dX7_init_52 rfl rfl (j := 0) rfl ?_
  refine st_bipush (pc' := 55) dX7_init_53 rfl (by decide) ?_
  refine st_newarr (pc' := 57) (N := 14) (q := 29) (M' := MC_77) 0 .int .int (by simp) dX7_init_55 rfl a_int rfl (by decide) (by decide +kernel) rfl rfl ?_
  refine st_putAF (pc' := 60) (M' := MC_78) dX7_init_57 rfl (show MC_77.1[22]? = some (10, 16) from rfl) c_X7 rfl (show 6 < 16 by decide) rfl rfl rfl f_X7_30 rfl rfl ?_
  refine st_aload_n (pc' := 61) dX7_init_60 rfl rfl (j := 0) rfl ?_
  refine st_bipush (pc' := 63) dX7_init_61 rfl (by decide) ?_
  refine st_newarr (pc' := 65) (N := 6) (q := 30) (M' := MC_79) 0 .int .int (by simp) dX7_init_63 rfl a_int rfl (by decide) (by decide +kernel) rfl rfl ?_
  refine st_putAF (pc' := 68) (M' := MC_80) dX7_init_65 rfl (show MC_79.1[22]? = some (10, 16) from rfl) c_X7 rfl (show 7 < 16 by decide) rfl rfl rfl f_X7_33 rfl rfl ?_
  refine st_aload_n (pc' := 69) dX7_init_68 rfl rfl (j := 0) rfl ?_
  refine st_bipush (pc' := 71) dX7_init_69 rfl (by decide) ?_
  refine st_newarr (pc' := 73) (N := 6) (q := 31) (M' := MC_81) 0 .int .int (by simp) dX7_init_71 rfl a_int rfl (by decide) (by decide +kernel) rfl rfl ?_
  refine st_putAF (pc' := 76) (M' := MC_82) dX7_init_73 rfl (show MC_81.1[22]? = some (10, 16) from rfl) c_X7 rfl (show 8 < 16 by decide) rfl rfl rfl f_X7_36 rfl rfl ?_
  refine st_aload_n (pc' := 77) dX7_init_76 rfl rfl (j := 0) rfl ?_
  refine st_iconst (pc' := 78) dX7_init_77 rfl ?_
  refine st_newarr (pc' := 80) (N := 5) (q := 32) (M' := MC_83) 0 .int .int (by simp) dX7_init_78 rfl a_int rfl (by decide) (by decide +kernel) rfl rfl ?_
  refine st_putAF (pc' := 83) (M' := MC_84) dX7_init_80 rfl (show MC_83.1[22]? = some (10, 16) from rfl) c_X7 rfl (show 9 < 16 by decide) rfl rfl rfl f_X7_39 rfl rfl ?_
  refine st_aload_n (pc' := 84) dX7_init_83 rfl rfl (j := 0) rfl ?_
  refine st_sipush (pc' := 87) dX7_init_84 rfl (by decide) ?_
  refine st_newarr (pc' := 89) (N := 1600) (q := 33) (M' := MC_85) 0 .int .int (by simp) dX7_init_87 rfl a_int rfl (by decide) (by decide +kernel) rfl rfl ?_
  refine st_putAF (pc' := 92) (M' := MC_86) dX7_init_89 rfl (show MC_85.1[22]? = some (10, 16) from rfl) c_X7 rfl (show 10 < 16 by decide) rfl rfl rfl f_X7_42 rfl rfl ?_
  refine st_aload_n (pc' := 93) dX7_init_92 rfl rfl (j := 0) rfl ?_
  refine st_iconst (pc' := 94) dX7_init_93 rfl ?_
  refine st_newarr (pc' := 96) (N := 3) (q := 34) (M' := MC_87) 0 .int .int (by simp) dX7_init_94 rfl a_int rfl (by decide) (by decide +kernel) rfl rfl ?_
  refine st_putAF (pc' := 99) (M' := MC_88) dX7_init_96 rfl (show MC_87.1[22]? = some (10, 16) from rfl) c_X7 rfl (show 11 < 16 by decide) rfl rfl rfl f_X7_45 rfl rfl ?_
  refine st_aload_n (pc' := 100) dX7_init_99 rfl rfl (j := 0) rfl ?_
  refine st_iconst (pc' := 101) dX7_init_100 rfl ?_
  refine st_newarr (pc' := 103) (N := 3) (q := 35) (M' := MC_89) 0 .int .int (by simp) dX7_init_101 rfl a_int rfl (by decide) (by decide +kernel) rfl rfl ?_
  refine st_putAF (pc' := 106) (M' := MC_90) dX7_init_103 rfl (show MC_89.1[22]? = some (10, 16) from rfl) c_X7 rfl (show 12 < 16 by decide) rfl rfl rfl f_X7_48 rfl rfl ?_
  refine st_aload_n (pc' := 107) dX7_init_106 rfl rfl (j := 0) rfl ?_
  refine st_callV (pc' := 110) (kc := k - 1) (E' := LAY.take 36) (cal := m_X7_clear) (n := 0) (as := []) (S := []) (Q1 := fun r M' => r = none ∧ M' = MC_98) dX7_init_107 rfl l_X7_51 k_X7_clear rfl (show MC_90.1[22]? = some (10, 16) from rfl) c_X7 rfl rfl (Nat.le_of_ble_eq_true rfl) (by omega) (by decide +kernel) (K_X7_clear_1 (by omega) ⟨rfl, rfl⟩) (fun r M' q => ?_)
  obtain ⟨rfl, rfl⟩ := q
  change WP _ _ _ 110 [(0, vR (some 22))] [] MC_98 _
  exact st_vret dX7_init_110 rfl rfl h
def RC_72 : Nat → Nat → Option Nat := up2 RC_71 0 10 (some 22)
def MC_99 : Mem := (LAY.take 36, IC_63, JC_36, RC_72)
def IC_64 : Nat → Nat → Int32 := ze2 IC_63 36 0
def JC_37 : Nat → Nat → Int64 := ze2 JC_36 36 0
def RC_73 : Nat → Nat → Option Nat := ze2 RC_72 36 none
def MC_100 : Mem := (LAY.take 37, IC_64, JC_37, RC_73)
def IC_65 : Nat → Nat → Int32 := ze2 IC_64 37 0
def JC_38 : Nat → Nat → Int64 := ze2 JC_37 37 0
def RC_74 : Nat → Nat → Option Nat := ze2 RC_73 37 none
def MC_101 : Mem := (LAY.take 38, IC_65, JC_38, RC_74)
def RC_75 : Nat → Nat → Option Nat := up2 RC_74 36 0 (some 37)
def MC_102 : Mem := (LAY.take 38, IC_65, JC_38, RC_75)
def IC_66 : Nat → Nat → Int32 := ze2 IC_65 38 0
def JC_39 : Nat → Nat → Int64 := ze2 JC_38 38 0
def RC_76 : Nat → Nat → Option Nat := ze2 RC_75 38 none
def MC_103 : Mem := (LAY.take 39, IC_66, JC_39, RC_76)
def RC_77 : Nat → Nat → Option Nat := up2 RC_76 36 1 (some 38)
def MC_104 : Mem := (LAY.take 39, IC_66, JC_39, RC_77)
def RC_78 : Nat → Nat → Option Nat := up2 RC_77 36 2 (some 4)
def MC_105 : Mem := (LAY.take 39, IC_66, JC_39, RC_78)
set_option maxRecDepth 100000 in
set_option maxHeartbeats 4000000 in
theorem K_X9_init_0 {k : Nat} {Q : Option AV → Mem → Prop} (hk : 1 ≤ k) (h : Q none MC_105) : WPm k (LAY.take 39) m_X9_init [vR (some 36), vR (some 4)] MC_100 Q := by
  refine WPm.of k_X9_init.1 (Nat.le_of_ble_eq_true rfl) ?_
  change WP k _ _ 0 [(0, vR (some 36)), (1, vR (some 4))] [] _ _
  refine st_aload_n (pc' := 1) dX9_init_0 rfl rfl (j := 0) rfl ?_
  refine st_objInit (pc' := 4) dX9_init_1 rfl l_X9_3 a_obj (Nat.le_of_ble_eq_true rfl) (by omega) ?_
  refine st_aload_n (pc' := 5) dX9_init_4 rfl rfl (j := 0) rfl ?_
  refine st_bipush (pc' := 7) dX9_init_5 rfl (by decide) ?_
  refine st_newarr (pc' := 9) (N := 64) (q := 37) (M' := MC_101) 0 .int .int (by simp) dX9_init_7 rfl a_int rfl (by decide) (by decide +kernel) rfl rfl ?_
  refine st_putAF (pc' := 12) (M' := MC_102) dX9_init_9 rfl (show MC_101.1[36]? = some (12, 3) from rfl) c_X9 rfl (show 0 < 3 by decide) rfl rfl rfl f_X9_9 rfl rfl ?_
  refine st_aload_n (pc' := 13) dX9_init_12 rfl rfl (j := 0) rfl ?_
  refine st_bipush (pc' := 15) dX9_init_13 rfl (by decide) ?_
  refine st_newarr (pc' := 17) (N := 25) (q := 38) (M' := MC_103) 0 .int .int (by simp) dX9_init_15 rfl a_int rfl (by decide) (by decide +kernel) rfl rfl ?_
  refine st_putAF (pc' := 20) (M' := MC_104) dX9_init_17 rfl (show MC_103.1[36]? = some (12, 3) from rfl) c_X9 rfl (show 1 < 3 by decide) rfl rfl rfl f_X9_15 rfl rfl ?_
  refine st_aload_n (pc' := 21) dX9_init_20 rfl rfl (j := 0) rfl ?_
  refine st_aload_n (pc' := 22) dX9_init_21 rfl rfl (j := 1) rfl ?_
  refine st_putOF (pc' := 25) (M' := MC_105) dX9_init_22 rfl (show MC_104.1[36]? = some (12, 3) from rfl) c_X9 rfl (show 2 < 3 by decide) rfl rfl rfl f_X9_18 rfl rfl ?_
  exact st_vret dX9_init_25 rfl rfl h
def RC_79 : Nat → Nat → Option Nat := up2 RC_78 0 3 (some 36)
def MC_106 : Mem := (LAY.take 39, IC_66, JC_39, RC_79)
def IC_67 : Nat → Nat → Int32 := ze2 IC_66 39 0
def JC_40 : Nat → Nat → Int64 := ze2 JC_39 39 0
def RC_80 : Nat → Nat → Option Nat := ze2 RC_79 39 none
def MC_107 : Mem := (LAY.take 40, IC_67, JC_40, RC_80)
def IC_68 : Nat → Nat → Int32 := ze2 IC_67 40 0
def JC_41 : Nat → Nat → Int64 := ze2 JC_40 40 0
def RC_81 : Nat → Nat → Option Nat := ze2 RC_80 40 none
def MC_108 : Mem := (LAY.take 41, IC_68, JC_41, RC_81)
def RC_82 : Nat → Nat → Option Nat := up2 RC_81 39 2 (some 40)
def MC_109 : Mem := (LAY.take 41, IC_68, JC_41, RC_82)
def IC_69 : Nat → Nat → Int32 := ze2 IC_68 41 0
def JC_42 : Nat → Nat → Int64 := ze2 JC_41 41 0
def RC_83 : Nat → Nat → Option Nat := ze2 RC_82 41 none
def MC_110 : Mem := (LAY.take 42, IC_69, JC_42, RC_83)
def RC_84 : Nat → Nat → Option Nat := up2 RC_83 39 3 (some 41)
def MC_111 : Mem := (LAY.take 42, IC_69, JC_42, RC_84)
def RC_85 : Nat → Nat → Option Nat := up2 RC_84 39 0 (some 4)
def MC_112 : Mem := (LAY.take 42, IC_69, JC_42, RC_85)
def RC_86 : Nat → Nat → Option Nat := up2 RC_85 39 1 (some 36)
def MC_113 : Mem := (LAY.take 42, IC_69, JC_42, RC_86)
set_option maxRecDepth 100000 in
set_option maxHeartbeats 4000000 in
theorem K_X0_init_0 {k : Nat} {Q : Option AV → Mem → Prop} (hk : 1 ≤ k) (h : Q none MC_113) : WPm k (LAY.take 42) m_X0_init [vR (some 39), vR (some 4), vR (some 36)] MC_107 Q := by
  refine WPm.of k_X0_init.1 (Nat.le_of_ble_eq_true rfl) ?_
  change WP k _ _ 0 [(0, vR (some 39)), (1, vR (some 4)), (2, vR (some 36))] [] _ _
  refine st_aload_n (pc' := 1) dX0_init_0 rfl rfl (j := 0) rfl ?_
  refine st_objInit (pc' := 4) dX0_init_1 rfl l_X0_3 a_obj (Nat.le_of_ble_eq_true rfl) (by omega) ?_
  refine st_aload_n (pc' := 5) dX0_init_4 rfl rfl (j := 0) rfl ?_
  refine st_bipush (pc' := 7) dX0_init_5 rfl (by decide) ?_
  refine st_newarr (pc' := 9) (N := 8) (q := 40) (M' := MC_108) 0 .int .int (by simp) dX0_init_7 rfl a_int rfl (by decide) (by decide +kernel) rfl rfl ?_
  refine st_putAF (pc' := 12) (M' := MC_109) dX0_init_9 rfl (show MC_108.1[39]? = some (3, 6) from rfl) c_X0 rfl (show 2 < 6 by decide) rfl rfl rfl f_X0_9 rfl rfl ?_
  refine st_aload_n (pc' := 13) dX0_init_12 rfl rfl (j := 0) rfl ?_
  refine st_bipush (pc' := 15) dX0_init_13 rfl (by decide) ?_
  refine st_newarr (pc' := 17) (N := 8) (q := 41) (M' := MC_110) 0 .int .int (by simp) dX0_init_15 rfl a_int rfl (by decide) (by decide +kernel) rfl rfl ?_
  refine st_putAF (pc' := 20) (M' := MC_111) dX0_init_17 rfl (show MC_110.1[39]? = some (3, 6) from rfl) c_X0 rfl (show 3 < 6 by decide) rfl rfl rfl f_X0_15 rfl rfl ?_
  refine st_aload_n (pc' := 21) dX0_init_20 rfl rfl (j := 0) rfl ?_
  refine st_aload_n (pc' := 22) dX0_init_21 rfl rfl (j := 1) rfl ?_
  refine st_putOF (pc' := 25) (M' := MC_112) dX0_init_22 rfl (show MC_111.1[39]? = some (3, 6) from rfl) c_X0 rfl (show 0 < 6 by decide) rfl rfl rfl f_X0_18 rfl rfl ?_
  refine st_aload_n (pc' := 26) dX0_init_25 rfl rfl (j := 0) rfl ?_
  refine st_aload_n (pc' := 27) dX0_init_26 rfl rfl (j := 2) rfl ?_
  refine st_putOF (pc' := 30) (M' := MC_113) dX0_init_27 rfl (show MC_112.1[39]? = some (3, 6) from rfl) c_X0 rfl (show 1 < 6 by decide) rfl rfl rfl f_X0_22 rfl rfl ?_
  exact st_vret dX0_init_30 rfl rfl h
def IC_70 : Nat → Nat → Int32 := ze2 IC_69 42 0
def JC_43 : Nat → Nat → Int64 := ze2 JC_42 42 0
def RC_87 : Nat → Nat → Option Nat := ze2 RC_86 42 none
def MC_114 : Mem := (LAY.take 43, IC_70, JC_43, RC_87)
def IC_71 : Nat → Nat → Int32 := ze2 IC_70 43 0
def JC_44 : Nat → Nat → Int64 := ze2 JC_43 43 0
def RC_88 : Nat → Nat → Option Nat := ze2 RC_87 43 none
def MC_115 : Mem := (LAY.take 44, IC_71, JC_44, RC_88)
def RC_89 : Nat → Nat → Option Nat := up2 RC_88 42 3 (some 43)
def MC_116 : Mem := (LAY.take 44, IC_71, JC_44, RC_89)
def IC_72 : Nat → Nat → Int32 := ze2 IC_71 44 0
def JC_45 : Nat → Nat → Int64 := ze2 JC_44 44 0
def RC_90 : Nat → Nat → Option Nat := ze2 RC_89 44 none
def MC_117 : Mem := (LAY.take 45, IC_72, JC_45, RC_90)
def RC_91 : Nat → Nat → Option Nat := up2 RC_90 42 4 (some 44)
def MC_118 : Mem := (LAY.take 45, IC_72, JC_45, RC_91)
def IC_73 : Nat → Nat → Int32 := ze2 IC_72 45 0
def JC_46 : Nat → Nat → Int64 := ze2 JC_45 45 0
def RC_92 : Nat → Nat → Option Nat := ze2 RC_91 45 none
def MC_119 : Mem := (LAY.take 46, IC_73, JC_46, RC_92)
def RC_93 : Nat → Nat → Option Nat := up2 RC_92 42 5 (some 45)
def MC_120 : Mem := (LAY.take 46, IC_73, JC_46, RC_93)
def IC_74 : Nat → Nat → Int32 := ze2 IC_73 46 0
def JC_47 : Nat → Nat → Int64 := ze2 JC_46 46 0
def RC_94 : Nat → Nat → Option Nat := ze2 RC_93 46 none
def MC_121 : Mem := (LAY.take 47, IC_74, JC_47, RC_94)
def RC_95 : Nat → Nat → Option Nat := up2 RC_94 42 6 (some 46)
def MC_122 : Mem := (LAY.take 47, IC_74, JC_47, RC_95)
def IC_75 : Nat → Nat → Int32 := ze2 IC_74 47 0
def JC_48 : Nat → Nat → Int64 := ze2 JC_47 47 0
def RC_96 : Nat → Nat → Option Nat := ze2 RC_95 47 none
def MC_123 : Mem := (LAY.take 48, IC_75, JC_48, RC_96)
def RC_97 : Nat → Nat → Option Nat := up2 RC_96 42 7 (some 47)
def MC_124 : Mem := (LAY.take 48, IC_75, JC_48, RC_97)
def IC_76 : Nat → Nat → Int32 := ze2 IC_75 48 0
def JC_49 : Nat → Nat → Int64 := ze2 JC_48 48 0
def RC_98 : Nat → Nat → Option Nat := ze2 RC_97 48 none
def MC_125 : Mem := (LAY.take 49, IC_76, JC_49, RC_98)
def RC_99 : Nat → Nat → Option Nat := up2 RC_98 42 8 (some 48)
def MC_126 : Mem := (LAY.take 49, IC_76, JC_49, RC_99)
def IC_77 : Nat → Nat → Int32 := ze2 IC_76 49 0
def JC_50 : Nat → Nat → Int64 := ze2 JC_49 49 0
def RC_100 : Nat → Nat → Option Nat := ze2 RC_99 49 none
def MC_127 : Mem := (LAY.take 50, IC_77, JC_50, RC_100)
def RC_101 : Nat → Nat → Option Nat := up2 RC_100 42 9 (some 49)
def MC_128 : Mem := (LAY.take 50, IC_77, JC_50, RC_101)
def IC_78 : Nat → Nat → Int32 := ze2 IC_77 50 0
def JC_51 : Nat → Nat → Int64 := ze2 JC_50 50 0
def RC_102 : Nat → Nat → Option Nat := ze2 RC_101 50 none
def MC_129 : Mem := (LAY.take 51, IC_78, JC_51, RC_102)
def RC_103 : Nat → Nat → Option Nat := up2 RC_102 42 10 (some 50)
def MC_130 : Mem := (LAY.take 51, IC_78, JC_51, RC_103)
def RC_104 : Nat → Nat → Option Nat := up2 RC_103 42 0 (some 4)
def MC_131 : Mem := (LAY.take 51, IC_78, JC_51, RC_104)
def RC_105 : Nat → Nat → Option Nat := up2 RC_104 42 1 (some 36)
def MC_132 : Mem := (LAY.take 51, IC_78, JC_51, RC_105)
def RC_106 : Nat → Nat → Option Nat := up2 RC_105 42 2 (some 39)
def MC_133 : Mem := (LAY.take 51, IC_78, JC_51, RC_106)
set_option maxRecDepth 100000 in
set_option maxHeartbeats 4000000 in
theorem K_X1_init_0 {k : Nat} {Q : Option AV → Mem → Prop} (hk : 1 ≤ k) (h : Q none MC_133) : WPm k (LAY.take 51) m_X1_init [vR (some 42), vR (some 4), vR (some 36), vR (some 39)] MC_114 Q := by
  refine WPm.of k_X1_init.1 (Nat.le_of_ble_eq_true rfl) ?_
  change WP k _ _ 0 [(0, vR (some 42)), (1, vR (some 4)), (2, vR (some 36)), (3, vR (some 39))] [] _ _
  refine st_aload_n (pc' := 1) dX1_init_0 rfl rfl (j := 0) rfl ?_
  refine st_objInit (pc' := 4) dX1_init_1 rfl l_X1_3 a_obj (Nat.le_of_ble_eq_true rfl) (by omega) ?_
  refine st_aload_n (pc' := 5) dX1_init_4 rfl rfl (j := 0) rfl ?_
  refine st_iconst (pc' := 6) dX1_init_5 rfl ?_
  refine st_newarr (pc' := 8) (N := 5) (q := 43) (M' := MC_115) 0 .int .int (by simp) dX1_init_6 rfl a_int rfl (by decide) (by decide +kernel) rfl rfl ?_
  refine st_putAF (pc' := 11) (M' := MC_116) dX1_init_8 rfl (show MC_115.1[42]? = some (4, 11) from rfl) c_X1 rfl (show 3 < 11 by decide) rfl rfl rfl f_X1_9 rfl rfl ?_
  refine st_aload_n (pc' := 12) dX1_init_11 rfl rfl (j := 0) rfl ?_
  refine st_iconst (pc' := 13) dX1_init_12 rfl ?_
  refine st_newarr (pc' := 15) (N := 5) (q := 44) (M' := MC_117) 0 .int .int (by simp) dX1_init_13 rfl a_int rfl (by decide) (by decide +kernel) rfl rfl ?_
  refine st_putAF (pc' := 18) (M' := MC_118) dX1_init_15 rfl (show MC_117.1[42]? = some (4, 11) from rfl) c_X1 rfl (show 4 < 11 by decide) rfl rfl rfl f_X1_15 rfl rfl ?_
  refine st_aload_n (pc' := 19) dX1_init_18 rfl rfl (j := 0) rfl ?_
  refine st_bipush (pc' := 21) dX1_init_19 rfl (by decide) ?_
  refine st_newarr (pc' := 23) (N := 6) (q := 45) (M' := MC_119) 0 .int .int (by simp) dX1_init_21 rfl a_int rfl (by decide) (by decide +kernel) rfl rfl ?_
  refine st_putAF (pc' := 26) (M' := MC_120) dX1_init_23 rfl (show MC_119.1[42]? = some (4, 11) from rfl) c_X1 rfl (show 5 < 11 by decide) rfl rfl rfl f_X1_18 rfl rfl ?_
  refine st_aload_n (pc' := 27) dX1_init_26 rfl rfl (j := 0) rfl ?_
  refine st_bipush (pc' := 29) dX1_init_27 rfl (by decide) ?_
  refine st_newarr (pc' := 31) (N := 6) (q := 46) (M' := MC_121) 0 .int .int (by simp) dX1_init_29 rfl a_int rfl (by decide) (by decide +kernel) rfl rfl ?_
  refine st_putAF (pc' := 34) (M' := MC_122) dX1_init_31 rfl (show MC_121.1[42]? = some (4, 11) from rfl) c_X1 rfl (show 6 < 11 by decide) rfl rfl rfl f_X1_21 rfl rfl ?_
  refine st_aload_n (pc' := 35) dX1_init_34 rfl rfl (j := 0) rfl ?_
  refine st_bipush (pc' := 37) dX1_init_35 rfl (by decide) ?_
  refine st_newarr (pc' := 39) (N := 6) (q := 47) (M' := MC_123) 0 .int .int (by simp) dX1_init_37 rfl a_int rfl (by decide) (by decide +kernel) rfl rfl ?_
  refine st_putAF (pc' := 42) (M' := MC_124) dX1_init_39 rfl (show MC_123.1[42]? = some (4, 11) from rfl) c_X1 rfl (show 7 < 11 by decide) rfl rfl rfl f_X1_24 rfl rfl ?_
  refine st_aload_n (pc' := 43) dX1_init_42 rfl rfl (j := 0) rfl ?_
  refine st_bipush (pc' := 45) dX1_init_43 rfl (by decide) ?_
  refine st_newarr (pc' := 47) (N := 6) (q := 48) (M' := MC_125) 0 .int .int (by simp) dX1_init_45 rfl a_int rfl (by decide) (by decide +kernel) rfl rfl ?_
  refine st_putAF (pc' := 50) (M' := MC_126) dX1_init_47 rfl (show MC_125.1[42]? = some (4, 11) from rfl) c_X1 rfl (show 8 < 11 by decide) rfl rfl rfl f_X1_27 rfl rfl ?_
  refine st_aload_n (pc' := 51) dX1_init_50 rfl rfl (j := 0) rfl ?_
  refine st_bipush (pc' := 53) dX1_init_51 rfl (by decide) ?_
  refine st_newarr (pc' := 55) (N := 6) (q := 49) (M' := MC_127) 0 .int .int (by simp) dX1_init_53 rfl a_int rfl (by decide) (by decide +kernel) rfl rfl ?_
  refine st_putAF (pc' := 58) (M' := MC_128) dX1_init_55 rfl (show MC_127.1[42]? = some (4, 11) from rfl) c_X1 rfl (show 9 < 11 by decide) rfl rfl rfl f_X1_30 rfl rfl ?_
  refine st_aload_n (pc' := 59) dX1_init_58 rfl rfl (j := 0) rfl ?_
  refine st_bipush (pc' := 61) dX1_init_59 rfl (by decide) ?_
  refine st_newarr (pc' := 63) (N := 48) (q := 50) (M' := MC_129) 0 .int .int (by simp) dX1_init_61 rfl a_int rfl (by decide) (by decide +kernel) rfl rfl ?_
  refine st_putAF (pc' := 66) (M' := MC_130) dX1_init_63 rfl (show MC_129.1[42]? = some (4, 11) from rfl) c_X1 rfl (show 10 < 11 by decide) rfl rfl rfl f_X1_33 rfl rfl ?_
  refine st_aload_n (pc' := 67) dX1_init_66 rfl rfl (j := 0) rfl ?_
  refine st_aload_n (pc' := 68) dX1_init_67 rfl rfl (j := 1) rfl ?_
  refine st_putOF (pc' := 71) (M' := MC_131) dX1_init_68 rfl (show MC_130.1[42]? = some (4, 11) from rfl) c_X1 rfl (show 0 < 11 by decide) rfl rfl rfl f_X1_36 rfl rfl ?_
  refine st_aload_n (pc' := 72) dX1_init_71 rfl rfl (j := 0) rfl ?_
  refine st_aload_n (pc' := 73) dX1_init_72 rfl rfl (j := 2) rfl ?_
  refine st_putOF (pc' := 76) (M' := MC_132) dX1_init_73 rfl (show MC_131.1[42]? = some (4, 11) from rfl) c_X1 rfl (show 1 < 11 by decide) rfl rfl rfl f_X1_40 rfl rfl ?_
  refine st_aload_n (pc' := 77) dX1_init_76 rfl rfl (j := 0) rfl ?_
  refine st_aload_n (pc' := 78) dX1_init_77 rfl rfl (j := 3) rfl ?_
  refine st_putOF (pc' := 81) (M' := MC_133) dX1_init_78 rfl (show MC_132.1[42]? = some (4, 11) from rfl) c_X1 rfl (show 2 < 11 by decide) rfl rfl rfl f_X1_44 rfl rfl ?_
  exact st_vret dX1_init_81 rfl rfl h
def RC_107 : Nat → Nat → Option Nat := up2 RC_106 0 4 (some 42)
def MC_134 : Mem := (LAY.take 51, IC_78, JC_51, RC_107)
def IC_79 : Nat → Nat → Int32 := ze2 IC_78 51 0
def JC_52 : Nat → Nat → Int64 := ze2 JC_51 51 0
def RC_108 : Nat → Nat → Option Nat := ze2 RC_107 51 none
def MC_135 : Mem := (LAY.take 52, IC_79, JC_52, RC_108)
def IC_80 : Nat → Nat → Int32 := ze2 IC_79 52 0
def JC_53 : Nat → Nat → Int64 := ze2 JC_52 52 0
def RC_109 : Nat → Nat → Option Nat := ze2 RC_108 52 none
def MC_136 : Mem := (LAY.take 53, IC_80, JC_53, RC_109)
def RC_110 : Nat → Nat → Option Nat := up2 RC_109 51 2 (some 52)
def MC_137 : Mem := (LAY.take 53, IC_80, JC_53, RC_110)
def IC_81 : Nat → Nat → Int32 := ze2 IC_80 53 0
def JC_54 : Nat → Nat → Int64 := ze2 JC_53 53 0
def RC_111 : Nat → Nat → Option Nat := ze2 RC_110 53 none
def MC_138 : Mem := (LAY.take 54, IC_81, JC_54, RC_111)
def RC_112 : Nat → Nat → Option Nat := up2 RC_111 51 3 (some 53)
def MC_139 : Mem := (LAY.take 54, IC_81, JC_54, RC_112)
def IC_82 : Nat → Nat → Int32 := up2 IC_81 51 11 (iI (-1))
def MC_140 : Mem := (LAY.take 54, IC_82, JC_54, RC_112)
def IC_83 : Nat → Nat → Int32 := up2 IC_82 51 14 (iI (-1))
def MC_141 : Mem := (LAY.take 54, IC_83, JC_54, RC_112)
def RC_113 : Nat → Nat → Option Nat := up2 RC_112 51 0 (some 4)
def MC_142 : Mem := (LAY.take 54, IC_83, JC_54, RC_113)
def RC_114 : Nat → Nat → Option Nat := up2 RC_113 51 1 (some 36)
def MC_143 : Mem := (LAY.take 54, IC_83, JC_54, RC_114)
set_option maxRecDepth 100000 in
set_option maxHeartbeats 4000000 in
theorem K_X8_init_0 {k : Nat} {Q : Option AV → Mem → Prop} (hk : 1 ≤ k) (h : Q none MC_143) : WPm k (LAY.take 54) m_X8_init [vR (some 51), vR (some 4), vR (some 36)] MC_135 Q := by
  refine WPm.of k_X8_init.1 (Nat.le_of_ble_eq_true rfl) ?_
  change WP k _ _ 0 [(0, vR (some 51)), (1, vR (some 4)), (2, vR (some 36))] [] _ _
  refine st_aload_n (pc' := 1) dX8_init_0 rfl rfl (j := 0) rfl ?_
  refine st_objInit (pc' := 4) dX8_init_1 rfl l_X8_3 a_obj (Nat.le_of_ble_eq_true rfl) (by omega) ?_
  refine st_aload_n (pc' := 5) dX8_init_4 rfl rfl (j := 0) rfl ?_
  refine st_bipush (pc' := 7) dX8_init_5 rfl (by decide) ?_
  refine st_newarr (pc' := 9) (N := 14) (q := 52) (M' := MC_136) 0 .int .int (by simp) dX8_init_7 rfl a_int rfl (by decide) (by decide +kernel) rfl rfl ?_
  refine st_putAF (pc' := 12) (M' := MC_137) dX8_init_9 rfl (show MC_136.1[51]? = some (11, 17) from rfl) c_X8 rfl (show 2 < 17 by decide) rfl rfl rfl f_X8_9 rfl rfl ?_
  refine st_aload_n (pc' := 13) dX8_init_12 rfl rfl (j := 0) rfl ?_
  refine st_bipush (pc' := 15) dX8_init_13 rfl (by decide) ?_
  refine st_newarr (pc' := 17) (N := 15) (q := 53) (M' := MC_138) 0 .int .int (by simp) dX8_init_15 rfl a_int rfl (by decide) (by decide +kernel) rfl rfl ?_
  refine st_putAF (pc' := 20) (M' := MC_139) dX8_init_17 rfl (show MC_138.1[51]? = some (11, 17) from rfl) c_X8 rfl (show 3 < 17 by decide) rfl rfl rfl f_X8_15 rfl rfl ?_
  refine st_aload_n (pc' := 21) dX8_init_20 rfl rfl (j := 0) rfl ?_
  refine st_iconst (pc' := 22) dX8_init_21 rfl ?_
  refine st_putI (pc' := 25) (M' := MC_140) dX8_init_22 rfl (show MC_139.1[51]? = some (11, 17) from rfl) c_X8 rfl (show 11 < 17 by decide) rfl f_X8_18 rfl rfl ?_
  refine st_aload_n (pc' := 26) dX8_init_25 rfl rfl (j := 0) rfl ?_
  refine st_iconst (pc' := 27) dX8_init_26 rfl ?_
  refine st_putI (pc' := 30) (M' := MC_141) dX8_init_27 rfl (show MC_140.1[51]? = some (11, 17) from rfl) c_X8 rfl (show 14 < 17 by decide) rfl f_X8_22 rfl rfl ?_
  refine st_aload_n (pc' := 31) dX8_init_30 rfl rfl (j := 0) rfl ?_
  refine st_aload_n (pc' := 32) dX8_init_31 rfl rfl (j := 1) rfl ?_
  refine st_putOF (pc' := 35) (M' := MC_142) dX8_init_32 rfl (show MC_141.1[51]? = some (11, 17) from rfl) c_X8 rfl (show 0 < 17 by decide) rfl rfl rfl f_X8_25 rfl rfl ?_
  refine st_aload_n (pc' := 36) dX8_init_35 rfl rfl (j := 0) rfl ?_
  refine st_aload_n (pc' := 37) dX8_init_36 rfl rfl (j := 2) rfl ?_
  refine st_putOF (pc' := 40) (M' := MC_143) dX8_init_37 rfl (show MC_142.1[51]? = some (11, 17) from rfl) c_X8 rfl (show 1 < 17 by decide) rfl rfl rfl f_X8_29 rfl rfl ?_
  exact st_vret dX8_init_40 rfl rfl h
def RC_115 : Nat → Nat → Option Nat := up2 RC_114 0 5 (some 51)
def MC_144 : Mem := (LAY.take 54, IC_83, JC_54, RC_115)
def IC_84 : Nat → Nat → Int32 := ze2 IC_83 54 0
def JC_55 : Nat → Nat → Int64 := ze2 JC_54 54 0
def RC_116 : Nat → Nat → Option Nat := ze2 RC_115 54 none
def MC_145 : Mem := (LAY.take 55, IC_84, JC_55, RC_116)
def IC_85 : Nat → Nat → Int32 := up2 IC_84 54 5 (iI (-1))
def MC_146 : Mem := (LAY.take 55, IC_85, JC_55, RC_116)
def IC_86 : Nat → Nat → Int32 := ze2 IC_85 55 0
def JC_56 : Nat → Nat → Int64 := ze2 JC_55 55 0
def RC_117 : Nat → Nat → Option Nat := ze2 RC_116 55 none
def MC_147 : Mem := (LAY.take 56, IC_86, JC_56, RC_117)
def RC_118 : Nat → Nat → Option Nat := up2 RC_117 54 9 (some 55)
def MC_148 : Mem := (LAY.take 56, IC_86, JC_56, RC_118)
def IC_87 : Nat → Nat → Int32 := ze2 IC_86 56 0
def JC_57 : Nat → Nat → Int64 := ze2 JC_56 56 0
def RC_119 : Nat → Nat → Option Nat := ze2 RC_118 56 none
def MC_149 : Mem := (LAY.take 57, IC_87, JC_57, RC_119)
def RC_120 : Nat → Nat → Option Nat := up2 RC_119 54 10 (some 56)
def MC_150 : Mem := (LAY.take 57, IC_87, JC_57, RC_120)
def IC_88 : Nat → Nat → Int32 := ze2 IC_87 57 0
def JC_58 : Nat → Nat → Int64 := ze2 JC_57 57 0
def RC_121 : Nat → Nat → Option Nat := ze2 RC_120 57 none
def MC_151 : Mem := (LAY.take 58, IC_88, JC_58, RC_121)
def RC_122 : Nat → Nat → Option Nat := up2 RC_121 54 11 (some 57)
def MC_152 : Mem := (LAY.take 58, IC_88, JC_58, RC_122)
def IC_89 : Nat → Nat → Int32 := ze2 IC_88 58 0
def JC_59 : Nat → Nat → Int64 := ze2 JC_58 58 0
def RC_123 : Nat → Nat → Option Nat := ze2 RC_122 58 none
def MC_153 : Mem := (LAY.take 59, IC_89, JC_59, RC_123)
def RC_124 : Nat → Nat → Option Nat := up2 RC_123 54 12 (some 58)
def MC_154 : Mem := (LAY.take 59, IC_89, JC_59, RC_124)
def IC_90 : Nat → Nat → Int32 := ze2 IC_89 59 0
def JC_60 : Nat → Nat → Int64 := ze2 JC_59 59 0
def RC_125 : Nat → Nat → Option Nat := ze2 RC_124 59 none
def MC_155 : Mem := (LAY.take 60, IC_90, JC_60, RC_125)
def RC_126 : Nat → Nat → Option Nat := up2 RC_125 54 13 (some 59)
def MC_156 : Mem := (LAY.take 60, IC_90, JC_60, RC_126)
def IC_91 : Nat → Nat → Int32 := ze2 IC_90 60 0
def JC_61 : Nat → Nat → Int64 := ze2 JC_60 60 0
def RC_127 : Nat → Nat → Option Nat := ze2 RC_126 60 none
def MC_157 : Mem := (LAY.take 61, IC_91, JC_61, RC_127)
def RC_128 : Nat → Nat → Option Nat := up2 RC_127 54 14 (some 60)
def MC_158 : Mem := (LAY.take 61, IC_91, JC_61, RC_128)
def IC_92 : Nat → Nat → Int32 := ze2 IC_91 61 0
def JC_62 : Nat → Nat → Int64 := ze2 JC_61 61 0
def RC_129 : Nat → Nat → Option Nat := ze2 RC_128 61 none
def MC_159 : Mem := (LAY.take 62, IC_92, JC_62, RC_129)
def RC_130 : Nat → Nat → Option Nat := up2 RC_129 54 15 (some 61)
def MC_160 : Mem := (LAY.take 62, IC_92, JC_62, RC_130)
def IC_93 : Nat → Nat → Int32 := ze2 IC_92 62 0
def JC_63 : Nat → Nat → Int64 := ze2 JC_62 62 0
def RC_131 : Nat → Nat → Option Nat := ze2 RC_130 62 none
def MC_161 : Mem := (LAY.take 63, IC_93, JC_63, RC_131)
def RC_132 : Nat → Nat → Option Nat := up2 RC_131 54 16 (some 62)
def MC_162 : Mem := (LAY.take 63, IC_93, JC_63, RC_132)
def RC_133 : Nat → Nat → Option Nat := up2 RC_132 54 0 (some 4)
def MC_163 : Mem := (LAY.take 63, IC_93, JC_63, RC_133)
def RC_134 : Nat → Nat → Option Nat := up2 RC_133 54 1 (some 36)
def MC_164 : Mem := (LAY.take 63, IC_93, JC_63, RC_134)
def RC_135 : Nat → Nat → Option Nat := up2 RC_134 54 2 (some 51)
def MC_165 : Mem := (LAY.take 63, IC_93, JC_63, RC_135)
set_option maxRecDepth 100000 in
set_option maxHeartbeats 4000000 in
theorem K_X6_init_0 {k : Nat} {Q : Option AV → Mem → Prop} (hk : 1 ≤ k) (h : Q none MC_165) : WPm k (LAY.take 63) m_X6_init [vR (some 54), vR (some 4), vR (some 36), vR (some 51)] MC_145 Q := by
  refine WPm.of k_X6_init.1 (Nat.le_of_ble_eq_true rfl) ?_
  change WP k _ _ 0 [(0, vR (some 54)), (1, vR (some 4)), (2, vR (some 36)), (3, vR (some 51))] [] _ _
  refine st_aload_n (pc' := 1) dX6_init_0 rfl rfl (j := 0) rfl ?_
  refine st_objInit (pc' := 4) dX6_init_1 rfl l_X6_3 a_obj (Nat.le_of_ble_eq_true rfl) (by omega) ?_
  refine st_aload_n (pc' := 5) dX6_init_4 rfl rfl (j := 0) rfl ?_
  refine st_iconst (pc' := 6) dX6_init_5 rfl ?_
  refine st_putI (pc' := 9) (M' := MC_146) dX6_init_6 rfl (show MC_145.1[54]? = some (9, 17) from rfl) c_X6 rfl (show 5 < 17 by decide) rfl f_X6_9 rfl rfl ?_
  refine st_aload_n (pc' := 10) dX6_init_9 rfl rfl (j := 0) rfl ?_
  refine st_bipush (pc' := 12) dX6_init_10 rfl (by decide) ?_
  refine st_newarr (pc' := 14) (N := 8) (q := 55) (M' := MC_147) 0 .int .int (by simp) dX6_init_12 rfl a_int rfl (by decide) (by decide +kernel) rfl rfl ?_
  refine st_putAF (pc' := 17) (M' := MC_148) dX6_init_14 rfl (show MC_147.1[54]? = some (9, 17) from rfl) c_X6 rfl (show 9 < 17 by decide) rfl rfl rfl f_X6_15 rfl rfl ?_
  refine st_aload_n (pc' := 18) dX6_init_17 rfl rfl (j := 0) rfl ?_
  refine st_bipush (pc' := 20) dX6_init_18 rfl (by decide) ?_
  refine st_newarr (pc' := 22) (N := 8) (q := 56) (M' := MC_149) 0 .int .int (by simp) dX6_init_20 rfl a_int rfl (by decide) (by decide +kernel) rfl rfl ?_
  refine st_putAF (pc' := 25) (M' := MC_150) dX6_init_22 rfl (show MC_149.1[54]? = some (9, 17) from rfl) c_X6 rfl (show 10 < 17 by decide) rfl rfl rfl f_X6_19 rfl rfl ?_
  refine st_aload_n (pc' := 26) dX6_init_25 rfl rfl (j := 0) rfl ?_
  refine st_bipush (pc' := 28) dX6_init_26 rfl (by decide) ?_
  refine st_newarr (pc' := 30) (N := 8) (q := 57) (M' := MC_151) 0 .int .int (by simp) dX6_init_28 rfl a_int rfl (by decide) (by decide +kernel) rfl rfl ?_
  refine st_putAF (pc' := 33) (M' := MC_152) dX6_init_30 rfl (show MC_151.1[54]? = some (9, 17) from rfl) c_X6 rfl (show 11 < 17 by decide) rfl rfl rfl f_X6_22 rfl rfl ?_
  refine st_aload_n (pc' := 34) dX6_init_33 rfl rfl (j := 0) rfl ?_
  refine st_iconst (pc' := 35) dX6_init_34 rfl ?_
  refine st_newarr (pc' := 37) (N := 3) (q := 58) (M' := MC_153) 0 .int .int (by simp) dX6_init_35 rfl a_int rfl (by decide) (by decide +kernel) rfl rfl ?_
  refine st_putAF (pc' := 40) (M' := MC_154) dX6_init_37 rfl (show MC_153.1[54]? = some (9, 17) from rfl) c_X6 rfl (show 12 < 17 by decide) rfl rfl rfl f_X6_25 rfl rfl ?_
  refine st_aload_n (pc' := 41) dX6_init_40 rfl rfl (j := 0) rfl ?_
  refine st_bipush (pc' := 43) dX6_init_41 rfl (by decide) ?_
  refine st_newarr (pc' := 45) (N := 42) (q := 59) (M' := MC_155) 0 .int .int (by simp) dX6_init_43 rfl a_int rfl (by decide) (by decide +kernel) rfl rfl ?_
  refine st_putAF (pc' := 48) (M' := MC_156) dX6_init_45 rfl (show MC_155.1[54]? = some (9, 17) from rfl) c_X6 rfl (show 13 < 17 by decide) rfl rfl rfl f_X6_28 rfl rfl ?_
  refine st_aload_n (pc' := 49) dX6_init_48 rfl rfl (j := 0) rfl ?_
  refine st_bipush (pc' := 51) dX6_init_49 rfl (by decide) ?_
  refine st_newarr (pc' := 53) (N := 24) (q := 60) (M' := MC_157) 0 .int .int (by simp) dX6_init_51 rfl a_int rfl (by decide) (by decide +kernel) rfl rfl ?_
  refine st_putAF (pc' := 56) (M' := MC_158) dX6_init_53 rfl (show MC_157.1[54]? = some (9, 17) from rfl) c_X6 rfl (show 14 < 17 by decide) rfl rfl rfl f_X6_31 rfl rfl ?_
  refine st_aload_n (pc' := 57) dX6_init_56 rfl rfl (j := 0) rfl ?_
  refine st_iconst (pc' := 58) dX6_init_57 rfl ?_
  refine st_newarr (pc' := 60) (N := 3) (q := 61) (M' := MC_159) 0 .int .int (by simp) dX6_init_58 rfl a_int rfl (by decide) (by decide +kernel) rfl rfl ?_
  refine st_putAF (pc' := 63) (M' := MC_160) dX6_init_60 rfl (show MC_159.1[54]? = some (9, 17) from rfl) c_X6 rfl (show 15 < 17 by decide) rfl rfl rfl f_X6_34 rfl rfl ?_
  refine st_aload_n (pc' := 64) dX6_init_63 rfl rfl (j := 0) rfl ?_
  refine st_iconst (pc' := 65) dX6_init_64 rfl ?_
  refine st_newarr (pc' := 67) (N := 3) (q := 62) (M' := MC_161) 0 .int .int (by simp) dX6_init_65 rfl a_int rfl (by decide) (by decide +kernel) rfl rfl ?_
  refine st_putAF (pc' := 70) (M' := MC_162) dX6_init_67 rfl (show MC_161.1[54]? = some (9, 17) from rfl) c_X6 rfl (show 16 < 17 by decide) rfl rfl rfl f_X6_37 rfl rfl ?_
  refine st_aload_n (pc' := 71) dX6_init_70 rfl rfl (j := 0) rfl ?_
  refine st_aload_n (pc' := 72) dX6_init_71 rfl rfl (j := 1) rfl ?_
  refine st_putOF (pc' := 75) (M' := MC_163) dX6_init_72 rfl (show MC_162.1[54]? = some (9, 17) from rfl) c_X6 rfl (show 0 < 17 by decide) rfl rfl rfl f_X6_40 rfl rfl ?_
  refine st_aload_n (pc' := 76) dX6_init_75 rfl rfl (j := 0) rfl ?_
  refine st_aload_n (pc' := 77) dX6_init_76 rfl rfl (j := 2) rfl ?_
  refine st_putOF (pc' := 80) (M' := MC_164) dX6_init_77 rfl (show MC_163.1[54]? = some (9, 17) from rfl) c_X6 rfl (show 1 < 17 by decide) rfl rfl rfl f_X6_44 rfl rfl ?_
  refine st_aload_n (pc' := 81) dX6_init_80 rfl rfl (j := 0) rfl ?_
  refine st_aload_n (pc' := 82) dX6_init_81 rfl rfl (j := 3) rfl ?_
  refine st_putOF (pc' := 85) (M' := MC_165) dX6_init_82 rfl (show MC_164.1[54]? = some (9, 17) from rfl) c_X6 rfl (show 2 < 17 by decide) rfl rfl rfl f_X6_48 rfl rfl ?_
  exact st_vret dX6_init_85 rfl rfl h
def RC_136 : Nat → Nat → Option Nat := up2 RC_135 0 6 (some 54)
def MC_166 : Mem := (LAY.take 63, IC_93, JC_63, RC_136)
def IC_94 : Nat → Nat → Int32 := ze2 IC_93 63 0
def JC_64 : Nat → Nat → Int64 := ze2 JC_63 63 0
def RC_137 : Nat → Nat → Option Nat := ze2 RC_136 63 none
def MC_167 : Mem := (LAY.take 64, IC_94, JC_64, RC_137)
def IC_95 : Nat → Nat → Int32 := ze2 IC_94 64 0
def JC_65 : Nat → Nat → Int64 := ze2 JC_64 64 0
def RC_138 : Nat → Nat → Option Nat := ze2 RC_137 64 none
def MC_168 : Mem := (LAY.take 65, IC_95, JC_65, RC_138)
def RC_139 : Nat → Nat → Option Nat := up2 RC_138 63 3 (some 64)
def MC_169 : Mem := (LAY.take 65, IC_95, JC_65, RC_139)
def IC_96 : Nat → Nat → Int32 := ze2 IC_95 65 0
def JC_66 : Nat → Nat → Int64 := ze2 JC_65 65 0
def RC_140 : Nat → Nat → Option Nat := ze2 RC_139 65 none
def MC_170 : Mem := (LAY.take 66, IC_96, JC_66, RC_140)
def RC_141 : Nat → Nat → Option Nat := up2 RC_140 63 4 (some 65)
def MC_171 : Mem := (LAY.take 66, IC_96, JC_66, RC_141)
def IC_97 : Nat → Nat → Int32 := ze2 IC_96 66 0
def JC_67 : Nat → Nat → Int64 := ze2 JC_66 66 0
def RC_142 : Nat → Nat → Option Nat := ze2 RC_141 66 none
def MC_172 : Mem := (LAY.take 67, IC_97, JC_67, RC_142)
def RC_143 : Nat → Nat → Option Nat := up2 RC_142 63 5 (some 66)
def MC_173 : Mem := (LAY.take 67, IC_97, JC_67, RC_143)
def IC_98 : Nat → Nat → Int32 := ze2 IC_97 67 0
def JC_68 : Nat → Nat → Int64 := ze2 JC_67 67 0
def RC_144 : Nat → Nat → Option Nat := ze2 RC_143 67 none
def MC_174 : Mem := (LAY.take 68, IC_98, JC_68, RC_144)
def RC_145 : Nat → Nat → Option Nat := up2 RC_144 63 6 (some 67)
def MC_175 : Mem := (LAY.take 68, IC_98, JC_68, RC_145)
def IC_99 : Nat → Nat → Int32 := ze2 IC_98 68 0
def JC_69 : Nat → Nat → Int64 := ze2 JC_68 68 0
def RC_146 : Nat → Nat → Option Nat := ze2 RC_145 68 none
def MC_176 : Mem := (LAY.take 69, IC_99, JC_69, RC_146)
def RC_147 : Nat → Nat → Option Nat := up2 RC_146 63 7 (some 68)
def MC_177 : Mem := (LAY.take 69, IC_99, JC_69, RC_147)
def IC_100 : Nat → Nat → Int32 := ze2 IC_99 69 0
def JC_70 : Nat → Nat → Int64 := ze2 JC_69 69 0
def RC_148 : Nat → Nat → Option Nat := ze2 RC_147 69 none
def MC_178 : Mem := (LAY.take 70, IC_100, JC_70, RC_148)
def RC_149 : Nat → Nat → Option Nat := up2 RC_148 63 8 (some 69)
def MC_179 : Mem := (LAY.take 70, IC_100, JC_70, RC_149)
def IC_101 : Nat → Nat → Int32 := up2 IC_100 63 9 (iI (-1))
def MC_180 : Mem := (LAY.take 70, IC_101, JC_70, RC_149)
def RC_150 : Nat → Nat → Option Nat := up2 RC_149 63 0 (some 4)
def MC_181 : Mem := (LAY.take 70, IC_101, JC_70, RC_150)
def RC_151 : Nat → Nat → Option Nat := up2 RC_150 63 1 (some 36)
def MC_182 : Mem := (LAY.take 70, IC_101, JC_70, RC_151)
def RC_152 : Nat → Nat → Option Nat := up2 RC_151 63 2 (some 39)
def MC_183 : Mem := (LAY.take 70, IC_101, JC_70, RC_152)
set_option maxRecDepth 100000 in
set_option maxHeartbeats 4000000 in
theorem K_X5_init_0 {k : Nat} {Q : Option AV → Mem → Prop} (hk : 1 ≤ k) (h : Q none MC_183) : WPm k (LAY.take 70) m_X5_init [vR (some 63), vR (some 4), vR (some 36), vR (some 39)] MC_167 Q := by
  refine WPm.of k_X5_init.1 (Nat.le_of_ble_eq_true rfl) ?_
  change WP k _ _ 0 [(0, vR (some 63)), (1, vR (some 4)), (2, vR (some 36)), (3, vR (some 39))] [] _ _
  refine st_aload_n (pc' := 1) dX5_init_0 rfl rfl (j := 0) rfl ?_
  refine st_objInit (pc' := 4) dX5_init_1 rfl l_X5_3 a_obj (Nat.le_of_ble_eq_true rfl) (by omega) ?_
  refine st_aload_n (pc' := 5) dX5_init_4 rfl rfl (j := 0) rfl ?_
  refine st_bipush (pc' := 7) dX5_init_5 rfl (by decide) ?_
  refine st_newarr (pc' := 9) (N := 6) (q := 64) (M' := MC_168) 0 .int .int (by simp) dX5_init_7 rfl a_int rfl (by decide) (by decide +kernel) rfl rfl ?_
  refine st_putAF (pc' := 12) (M' := MC_169) dX5_init_9 rfl (show MC_168.1[63]? = some (8, 13) from rfl) c_X5 rfl (show 3 < 13 by decide) rfl rfl rfl f_X5_9 rfl rfl ?_
  refine st_aload_n (pc' := 13) dX5_init_12 rfl rfl (j := 0) rfl ?_
  refine st_bipush (pc' := 15) dX5_init_13 rfl (by decide) ?_
  refine st_newarr (pc' := 17) (N := 6) (q := 65) (M' := MC_170) 0 .int .int (by simp) dX5_init_15 rfl a_int rfl (by decide) (by decide +kernel) rfl rfl ?_
  refine st_putAF (pc' := 20) (M' := MC_171) dX5_init_17 rfl (show MC_170.1[63]? = some (8, 13) from rfl) c_X5 rfl (show 4 < 13 by decide) rfl rfl rfl f_X5_15 rfl rfl ?_
  refine st_aload_n (pc' := 21) dX5_init_20 rfl rfl (j := 0) rfl ?_
  refine st_bipush (pc' := 23) dX5_init_21 rfl (by decide) ?_
  refine st_newarr (pc' := 25) (N := 48) (q := 66) (M' := MC_172) 0 .int .int (by simp) dX5_init_23 rfl a_int rfl (by decide) (by decide +kernel) rfl rfl ?_
  refine st_putAF (pc' := 28) (M' := MC_173) dX5_init_25 rfl (show MC_172.1[63]? = some (8, 13) from rfl) c_X5 rfl (show 5 < 13 by decide) rfl rfl rfl f_X5_18 rfl rfl ?_
  refine st_aload_n (pc' := 29) dX5_init_28 rfl rfl (j := 0) rfl ?_
  refine st_bipush (pc' := 31) dX5_init_29 rfl (by decide) ?_
  refine st_newarr (pc' := 33) (N := 6) (q := 67) (M' := MC_174) 0 .int .int (by simp) dX5_init_31 rfl a_int rfl (by decide) (by decide +kernel) rfl rfl ?_
  refine st_putAF (pc' := 36) (M' := MC_175) dX5_init_33 rfl (show MC_174.1[63]? = some (8, 13) from rfl) c_X5 rfl (show 6 < 13 by decide) rfl rfl rfl f_X5_21 rfl rfl ?_
  refine st_aload_n (pc' := 37) dX5_init_36 rfl rfl (j := 0) rfl ?_
  refine st_bipush (pc' := 39) dX5_init_37 rfl (by decide) ?_
  refine st_newarr (pc' := 41) (N := 64) (q := 68) (M' := MC_176) 1 .long .long (by simp) dX5_init_39 rfl a_long rfl (by decide) (by decide +kernel) rfl rfl ?_
  refine st_putAF (pc' := 44) (M' := MC_177) dX5_init_41 rfl (show MC_176.1[63]? = some (8, 13) from rfl) c_X5 rfl (show 7 < 13 by decide) rfl rfl rfl f_X5_24 rfl rfl ?_
  refine st_aload_n (pc' := 45) dX5_init_44 rfl rfl (j := 0) rfl ?_
  refine st_bipush (pc' := 47) dX5_init_45 rfl (by decide) ?_
  refine st_newarr (pc' := 49) (N := 64) (q := 69) (M' := MC_178) 1 .long .long (by simp) dX5_init_47 rfl a_long rfl (by decide) (by decide +kernel) rfl rfl ?_
  refine st_putAF (pc' := 52) (M' := MC_179) dX5_init_49 rfl (show MC_178.1[63]? = some (8, 13) from rfl) c_X5 rfl (show 8 < 13 by decide) rfl rfl rfl f_X5_28 rfl rfl ?_
  refine st_aload_n (pc' := 53) dX5_init_52 rfl rfl (j := 0) rfl ?_
  refine st_iconst (pc' := 54) dX5_init_53 rfl ?_
  refine st_putI (pc' := 57) (M' := MC_180) dX5_init_54 rfl (show MC_179.1[63]? = some (8, 13) from rfl) c_X5 rfl (show 9 < 13 by decide) rfl f_X5_31 rfl rfl ?_
  refine st_aload_n (pc' := 58) dX5_init_57 rfl rfl (j := 0) rfl ?_
  refine st_aload_n (pc' := 59) dX5_init_58 rfl rfl (j := 1) rfl ?_
  refine st_putOF (pc' := 62) (M' := MC_181) dX5_init_59 rfl (show MC_180.1[63]? = some (8, 13) from rfl) c_X5 rfl (show 0 < 13 by decide) rfl rfl rfl f_X5_35 rfl rfl ?_
  refine st_aload_n (pc' := 63) dX5_init_62 rfl rfl (j := 0) rfl ?_
  refine st_aload_n (pc' := 64) dX5_init_63 rfl rfl (j := 2) rfl ?_
  refine st_putOF (pc' := 67) (M' := MC_182) dX5_init_64 rfl (show MC_181.1[63]? = some (8, 13) from rfl) c_X5 rfl (show 1 < 13 by decide) rfl rfl rfl f_X5_39 rfl rfl ?_
  refine st_aload_n (pc' := 68) dX5_init_67 rfl rfl (j := 0) rfl ?_
  refine st_aload_n (pc' := 69) dX5_init_68 rfl rfl (j := 3) rfl ?_
  refine st_putOF (pc' := 72) (M' := MC_183) dX5_init_69 rfl (show MC_182.1[63]? = some (8, 13) from rfl) c_X5 rfl (show 2 < 13 by decide) rfl rfl rfl f_X5_43 rfl rfl ?_
  exact st_vret dX5_init_72 rfl rfl h
def RC_153 : Nat → Nat → Option Nat := up2 RC_152 0 7 (some 63)
def MC_184 : Mem := (LAY.take 70, IC_101, JC_70, RC_153)
def IC_102 : Nat → Nat → Int32 := ze2 IC_101 70 0
def JC_71 : Nat → Nat → Int64 := ze2 JC_70 70 0
def RC_154 : Nat → Nat → Option Nat := ze2 RC_153 70 none
def MC_185 : Mem := (LAY.take 71, IC_102, JC_71, RC_154)
def IC_103 : Nat → Nat → Int32 := ze2 IC_102 71 0
def JC_72 : Nat → Nat → Int64 := ze2 JC_71 71 0
def RC_155 : Nat → Nat → Option Nat := ze2 RC_154 71 none
def MC_186 : Mem := (LAY.take 72, IC_103, JC_72, RC_155)
def RC_156 : Nat → Nat → Option Nat := up2 RC_155 70 0 (some 71)
def MC_187 : Mem := (LAY.take 72, IC_103, JC_72, RC_156)
def IC_104 : Nat → Nat → Int32 := ze2 IC_103 72 0
def JC_73 : Nat → Nat → Int64 := ze2 JC_72 72 0
def RC_157 : Nat → Nat → Option Nat := ze2 RC_156 72 none
def MC_188 : Mem := (LAY.take 73, IC_104, JC_73, RC_157)
def RC_158 : Nat → Nat → Option Nat := up2 RC_157 70 1 (some 72)
def MC_189 : Mem := (LAY.take 73, IC_104, JC_73, RC_158)
set_option maxRecDepth 100000 in
set_option maxHeartbeats 4000000 in
theorem K_X4_init_0 {k : Nat} {Q : Option AV → Mem → Prop} (hk : 1 ≤ k) (h : Q none MC_189) : WPm k (LAY.take 73) m_X4_init [vR (some 70)] MC_185 Q := by
  refine WPm.of k_X4_init.1 (Nat.le_of_ble_eq_true rfl) ?_
  change WP k _ _ 0 [(0, vR (some 70))] [] _ _
  refine st_aload_n (pc' := 1) dX4_init_0 rfl rfl (j := 0) rfl ?_
  refine st_objInit (pc' := 4) dX4_init_1 rfl l_X4_3 a_obj (Nat.le_of_ble_eq_true rfl) (by omega) ?_
  refine st_aload_n (pc' := 5) dX4_init_4 rfl rfl (j := 0) rfl ?_
  refine st_bipush (pc' := 7) dX4_init_5 rfl (by decide) ?_
  refine st_newarr (pc' := 9) (N := 107) (q := 71) (M' := MC_186) 0 .int .int (by simp) dX4_init_7 rfl a_int rfl (by decide) (by decide +kernel) rfl rfl ?_
  refine st_putAF (pc' := 12) (M' := MC_187) dX4_init_9 rfl (show MC_186.1[70]? = some (7, 4) from rfl) c_X4 rfl (show 0 < 4 by decide) rfl rfl rfl f_X4_9 rfl rfl ?_
  refine st_aload_n (pc' := 13) dX4_init_12 rfl rfl (j := 0) rfl ?_
  refine st_bipush (pc' := 15) dX4_init_13 rfl (by decide) ?_
  refine st_newarr (pc' := 17) (N := 87) (q := 72) (M' := MC_188) 0 .int .int (by simp) dX4_init_15 rfl a_int rfl (by decide) (by decide +kernel) rfl rfl ?_
  refine st_putAF (pc' := 20) (M' := MC_189) dX4_init_17 rfl (show MC_188.1[70]? = some (7, 4) from rfl) c_X4 rfl (show 1 < 4 by decide) rfl rfl rfl f_X4_15 rfl rfl ?_
  exact st_vret dX4_init_20 rfl rfl h
def RC_159 : Nat → Nat → Option Nat := up2 RC_158 0 8 (some 70)
def MC_190 : Mem := (LAY.take 73, IC_104, JC_73, RC_159)
def IC_105 : Nat → Nat → Int32 := ze2 IC_104 73 0
def JC_74 : Nat → Nat → Int64 := ze2 JC_73 73 0
def RC_160 : Nat → Nat → Option Nat := ze2 RC_159 73 none
def MC_191 : Mem := (LAY.take 74, IC_105, JC_74, RC_160)
def RC_161 : Nat → Nat → Option Nat := up2 RC_160 0 9 (some 73)
def MC_192 : Mem := (LAY.take 74, IC_105, JC_74, RC_161)
def IC_106 : Nat → Nat → Int32 := up2 IC_105 0 11 (iI 1)
def MC_193 : Mem := (LAY.take 74, IC_106, JC_74, RC_161)
set_option maxRecDepth 100000 in
set_option maxHeartbeats 4000000 in
theorem K_X11_init_0 {k : Nat} {Q : Option AV → Mem → Prop} (hk : 3 ≤ k) (h : Q none MC_193) : WPm k (LAY.take 74) m_X11_init [vR (some 0)] MC_1 Q := by
  refine WPm.of k_X11_init.1 (Nat.le_of_ble_eq_true rfl) ?_
  change WP k _ _ 0 [(0, vR (some 0))] [] _ _
  refine st_aload_n (pc' := 1) dX11_init_0 rfl rfl (j := 0) rfl ?_
  refine st_objInit (pc' := 4) dX11_init_1 rfl l_X11_1 a_obj (Nat.le_of_ble_eq_true rfl) (by omega) ?_
  refine st_aload_n (pc' := 5) dX11_init_4 rfl rfl (j := 0) rfl ?_
  refine st_new (pc' := 8) (q := 1) (M' := MC_2) dX11_init_5 rfl c_X10 n_X11_7 i_X10 (by decide +kernel) (by decide +kernel) rfl rfl ?_
  refine st_dup (pc' := 9) dX11_init_8 rfl rfl ?_
  refine st_callIN (host := "CandleInch") (pc' := 12) (kc := k - 1) (E' := LAY.take 3) (cal := m_X10_init) (n := 0) (as := []) (S := [vR (some 1), vR (some 0)]) (Q1 := fun r M' => r = none ∧ M' = MC_4) dX11_init_9 rfl (fun G U H hSt => hSt.2.2.2.1) k_X10_init rfl rfl rfl rfl (Nat.le_of_ble_eq_true rfl) (by omega) (by decide +kernel) (K_X10_init_0 (by omega) ⟨rfl, rfl⟩) (fun r M' q => ?_)
  obtain ⟨rfl, rfl⟩ := q
  change WP _ _ _ 12 [(0, vR (some 0))] [vR (some 1), vR (some 0)] MC_4 _
  refine st_putOF (pc' := 15) (M' := MC_5) dX11_init_12 rfl (show MC_4.1[0]? = some (14, 12) from rfl) c_X11 rfl (show 0 < 12 by decide) rfl rfl rfl f_X11_10 rfl rfl ?_
  refine st_aload_n (pc' := 16) dX11_init_15 rfl rfl (j := 0) rfl ?_
  refine st_new (pc' := 19) (q := 3) (M' := MC_6) dX11_init_16 rfl c_X3 n_X11_16 i_X3 (by decide +kernel) (by decide +kernel) rfl rfl ?_
  refine st_dup (pc' := 20) dX11_init_19 rfl rfl ?_
  refine st_aload_n (pc' := 21) dX11_init_20 rfl rfl (j := 0) rfl ?_
  refine st_getR (pc' := 24) (r := some 1) dX11_init_21 rfl (show MC_6.1[0]? = some (14, 12) from rfl) c_X11 rfl (show 0 < 12 by decide) f_X11_10 (fun _ => rfl) rfl ?_
  refine st_callI (pc' := 27) (kc := k - 1) (E' := LAY.take 4) (cal := m_X3_init) (n := 1) (as := [vR (some 1)]) (S := [vR (some 3), vR (some 0)]) (Q1 := fun r M' => r = none ∧ M' = MC_8) dX11_init_24 rfl l_X11_18 k_X3_init rfl rfl rfl rfl (Nat.le_of_ble_eq_true rfl) (by omega) (by decide +kernel) (K_X3_init_0 (by omega) ⟨rfl, rfl⟩) (fun r M' q => ?_)
  obtain ⟨rfl, rfl⟩ := q
  change WP _ _ _ 27 [(0, vR (some 0))] [vR (some 3), vR (some 0)] MC_8 _
  refine st_putOF (pc' := 30) (M' := MC_9) dX11_init_27 rfl (show MC_8.1[0]? = some (14, 12) from rfl) c_X11 rfl (show 1 < 12 by decide) rfl rfl rfl f_X11_21 rfl rfl ?_
  refine st_aload_n (pc' := 31) dX11_init_30 rfl rfl (j := 0) rfl ?_
  refine st_new (pc' := 34) (q := 4) (M' := MC_10) dX11_init_31 rfl c_X2 n_X11_25 i_X2 (by decide +kernel) (by decide +kernel) rfl rfl ?_
  refine st_dup (pc' := 35) dX11_init_34 rfl rfl ?_
  refine st_new (pc' := 38) (q := 5) (M' := MC_11) dX11_init_35 rfl c_X7 n_X11_27 i_X7 (by decide +kernel) (by decide +kernel) rfl rfl ?_
  refine st_dup (pc' := 39) dX11_init_38 rfl rfl ?_
  refine st_callI (pc' := 42) (kc := k - 1) (E' := LAY.take 19) (cal := m_X7_init) (n := 0) (as := []) (S := [vR (some 5), vR (some 4), vR (some 4), vR (some 0)]) (Q1 := fun r M' => r = none ∧ M' = MC_45) dX11_init_39 rfl l_X11_29 k_X7_init rfl rfl rfl rfl (Nat.le_of_ble_eq_true rfl) (by omega) (by decide +kernel) (K_X7_init_0 (by omega) ⟨rfl, rfl⟩) (fun r M' q => ?_)
  obtain ⟨rfl, rfl⟩ := q
  change WP _ _ _ 42 [(0, vR (some 0))] [vR (some 5), vR (some 4), vR (some 4), vR (some 0)] MC_45 _
  refine st_callI (pc' := 45) (kc := k - 1) (E' := LAY.take 22) (cal := m_X2_init) (n := 1) (as := [vR (some 5)]) (S := [vR (some 4), vR (some 0)]) (Q1 := fun r M' => r = none ∧ M' = MC_62) dX11_init_42 rfl l_X11_30 k_X2_init rfl rfl rfl rfl (Nat.le_of_ble_eq_true rfl) (by omega) (by decide +kernel) (K_X2_init_0 (by omega) ⟨rfl, rfl⟩) (fun r M' q => ?_)
  obtain ⟨rfl, rfl⟩ := q
  change WP _ _ _ 45 [(0, vR (some 0))] [vR (some 4), vR (some 0)] MC_62 _
  refine st_putOF (pc' := 48) (M' := MC_63) dX11_init_45 rfl (show MC_62.1[0]? = some (14, 12) from rfl) c_X11 rfl (show 2 < 12 by decide) rfl rfl rfl f_X11_33 rfl rfl ?_
  refine st_aload_n (pc' := 49) dX11_init_48 rfl rfl (j := 0) rfl ?_
  refine st_new (pc' := 52) (q := 22) (M' := MC_64) dX11_init_49 rfl c_X7 n_X11_27 i_X7 (by decide +kernel) (by decide +kernel) rfl rfl ?_
  refine st_dup (pc' := 53) dX11_init_52 rfl rfl ?_
  refine st_callI (pc' := 56) (kc := k - 1) (E' := LAY.take 36) (cal := m_X7_init) (n := 0) (as := []) (S := [vR (some 22), vR (some 0)]) (Q1 := fun r M' => r = none ∧ M' = MC_98) dX11_init_53 rfl l_X11_29 k_X7_init rfl rfl rfl rfl (Nat.le_of_ble_eq_true rfl) (by omega) (by decide +kernel) (K_X7_init_1 (by omega) ⟨rfl, rfl⟩) (fun r M' q => ?_)
  obtain ⟨rfl, rfl⟩ := q
  change WP _ _ _ 56 [(0, vR (some 0))] [vR (some 22), vR (some 0)] MC_98 _
  refine st_putO (pc' := 59) (M' := MC_99) dX11_init_56 rfl (show MC_98.1[0]? = some (14, 12) from rfl) c_X11 rfl (show 10 < 12 by decide) rfl f_X11_37 rfl rfl ?_
  refine st_aload_n (pc' := 60) dX11_init_59 rfl rfl (j := 0) rfl ?_
  refine st_new (pc' := 63) (q := 36) (M' := MC_100) dX11_init_60 rfl c_X9 n_X11_41 i_X9 (by decide +kernel) (by decide +kernel) rfl rfl ?_
  refine st_dup (pc' := 64) dX11_init_63 rfl rfl ?_
  refine st_aload_n (pc' := 65) dX11_init_64 rfl rfl (j := 0) rfl ?_
  refine st_getR (pc' := 68) (r := some 4) dX11_init_65 rfl (show MC_100.1[0]? = some (14, 12) from rfl) c_X11 rfl (show 2 < 12 by decide) f_X11_33 (fun _ => rfl) rfl ?_
  refine st_callI (pc' := 71) (kc := k - 1) (E' := LAY.take 39) (cal := m_X9_init) (n := 1) (as := [vR (some 4)]) (S := [vR (some 36), vR (some 0)]) (Q1 := fun r M' => r = none ∧ M' = MC_105) dX11_init_68 rfl l_X11_43 k_X9_init rfl rfl rfl rfl (Nat.le_of_ble_eq_true rfl) (by omega) (by decide +kernel) (K_X9_init_0 (by omega) ⟨rfl, rfl⟩) (fun r M' q => ?_)
  obtain ⟨rfl, rfl⟩ := q
  change WP _ _ _ 71 [(0, vR (some 0))] [vR (some 36), vR (some 0)] MC_105 _
  refine st_putOF (pc' := 74) (M' := MC_106) dX11_init_71 rfl (show MC_105.1[0]? = some (14, 12) from rfl) c_X11 rfl (show 3 < 12 by decide) rfl rfl rfl f_X11_46 rfl rfl ?_
  refine st_new (pc' := 77) (q := 39) (M' := MC_107) dX11_init_74 rfl c_X0 n_X11_50 i_X0 (by decide +kernel) (by decide +kernel) rfl rfl ?_
  refine st_dup (pc' := 78) dX11_init_77 rfl rfl ?_
  refine st_aload_n (pc' := 79) dX11_init_78 rfl rfl (j := 0) rfl ?_
  refine st_getR (pc' := 82) (r := some 4) dX11_init_79 rfl (show MC_107.1[0]? = some (14, 12) from rfl) c_X11 rfl (show 2 < 12 by decide) f_X11_33 (fun _ => rfl) rfl ?_
  refine st_aload_n (pc' := 83) dX11_init_82 rfl rfl (j := 0) rfl ?_
  refine st_getR (pc' := 86) (r := some 36) dX11_init_83 rfl (show MC_107.1[0]? = some (14, 12) from rfl) c_X11 rfl (show 3 < 12 by decide) f_X11_46 (fun _ => rfl) rfl ?_
  refine st_callI (pc' := 89) (kc := k - 1) (E' := LAY.take 42) (cal := m_X0_init) (n := 2) (as := [vR (some 4), vR (some 36)]) (S := [vR (some 39)]) (Q1 := fun r M' => r = none ∧ M' = MC_113) dX11_init_86 rfl l_X11_52 k_X0_init rfl rfl rfl rfl (Nat.le_of_ble_eq_true rfl) (by omega) (by decide +kernel) (K_X0_init_0 (by omega) ⟨rfl, rfl⟩) (fun r M' q => ?_)
  obtain ⟨rfl, rfl⟩ := q
  change WP _ _ _ 89 [(0, vR (some 0))] [vR (some 39)] MC_113 _
  refine st_astore_n (pc' := 90) (L' := [(1, vR (some 39)), (0, vR (some 0))]) dX11_init_89 rfl rfl (by decide) rfl ?_
  refine st_aload_n (pc' := 91) dX11_init_90 rfl rfl (j := 1) rfl ?_
  refine st_new (pc' := 94) (q := 42) (M' := MC_114) dX11_init_91 rfl c_X1 n_X11_55 i_X1 (by decide +kernel) (by decide +kernel) rfl rfl ?_
  refine st_dup (pc' := 95) dX11_init_94 rfl rfl ?_
  refine st_aload_n (pc' := 96) dX11_init_95 rfl rfl (j := 1) rfl ?_
  refine st_getR (pc' := 99) (r := some 4) dX11_init_96 rfl (show MC_114.1[0]? = some (14, 12) from rfl) c_X11 rfl (show 2 < 12 by decide) f_X11_33 (fun _ => rfl) rfl ?_
  refine st_aload_n (pc' := 100) dX11_init_99 rfl rfl (j := 1) rfl ?_
  refine st_getR (pc' := 103) (r := some 36) dX11_init_100 rfl (show MC_114.1[0]? = some (14, 12) from rfl) c_X11 rfl (show 3 < 12 by decide) f_X11_46 (fun _ => rfl) rfl ?_
  refine st_aload_n (pc' := 104) dX11_init_103 rfl rfl (j := 0) rfl ?_
  refine st_callI (pc' := 107) (kc := k - 1) (E' := LAY.take 51) (cal := m_X1_init) (n := 3) (as := [vR (some 4), vR (some 36), vR (some 39)]) (S := [vR (some 42), vR (some 0)]) (Q1 := fun r M' => r = none ∧ M' = MC_133) dX11_init_104 rfl l_X11_57 k_X1_init rfl rfl rfl rfl (Nat.le_of_ble_eq_true rfl) (by omega) (by decide +kernel) (K_X1_init_0 (by omega) ⟨rfl, rfl⟩) (fun r M' q => ?_)
  obtain ⟨rfl, rfl⟩ := q
  change WP _ _ _ 107 [(1, vR (some 39)), (0, vR (some 0))] [vR (some 42), vR (some 0)] MC_133 _
  refine st_putOF (pc' := 110) (M' := MC_134) dX11_init_107 rfl (show MC_133.1[0]? = some (14, 12) from rfl) c_X11 rfl (show 4 < 12 by decide) rfl rfl rfl f_X11_60 rfl rfl ?_
  refine st_aload_n (pc' := 111) dX11_init_110 rfl rfl (j := 1) rfl ?_
  refine st_new (pc' := 114) (q := 51) (M' := MC_135) dX11_init_111 rfl c_X8 n_X11_64 i_X8 (by decide +kernel) (by decide +kernel) rfl rfl ?_
  refine st_dup (pc' := 115) dX11_init_114 rfl rfl ?_
  refine st_aload_n (pc' := 116) dX11_init_115 rfl rfl (j := 1) rfl ?_
  refine st_getR (pc' := 119) (r := some 4) dX11_init_116 rfl (show MC_135.1[0]? = some (14, 12) from rfl) c_X11 rfl (show 2 < 12 by decide) f_X11_33 (fun _ => rfl) rfl ?_
  refine st_aload_n (pc' := 120) dX11_init_119 rfl rfl (j := 1) rfl ?_
  refine st_getR (pc' := 123) (r := some 36) dX11_init_120 rfl (show MC_135.1[0]? = some (14, 12) from rfl) c_X11 rfl (show 3 < 12 by decide) f_X11_46 (fun _ => rfl) rfl ?_
  refine st_callI (pc' := 126) (kc := k - 1) (E' := LAY.take 54) (cal := m_X8_init) (n := 2) (as := [vR (some 4), vR (some 36)]) (S := [vR (some 51), vR (some 0)]) (Q1 := fun r M' => r = none ∧ M' = MC_143) dX11_init_123 rfl l_X11_66 k_X8_init rfl rfl rfl rfl (Nat.le_of_ble_eq_true rfl) (by omega) (by decide +kernel) (K_X8_init_0 (by omega) ⟨rfl, rfl⟩) (fun r M' q => ?_)
  obtain ⟨rfl, rfl⟩ := q
  change WP _ _ _ 126 [(1, vR (some 39)), (0, vR (some 0))] [vR (some 51), vR (some 0)] MC_143 _
  refine st_putOF (pc' := 129) (M' := MC_144) dX11_init_126 rfl (show MC_143.1[0]? = some (14, 12) from rfl) c_X11 rfl (show 5 < 12 by decide) rfl rfl rfl f_X11_67 rfl rfl ?_
  refine st_aload_n (pc' := 130) dX11_init_129 rfl rfl (j := 1) rfl ?_
  refine st_new (pc' := 133) (q := 54) (M' := MC_145) dX11_init_130 rfl c_X6 n_X11_71 i_X6 (by decide +kernel) (by decide +kernel) rfl rfl ?_
  refine st_dup (pc' := 134) dX11_init_133 rfl rfl ?_
  refine st_aload_n (pc' := 135) dX11_init_134 rfl rfl (j := 1) rfl ?_
  refine st_getR (pc' := 138) (r := some 4) dX11_init_135 rfl (show MC_145.1[0]? = some (14, 12) from rfl) c_X11 rfl (show 2 < 12 by decide) f_X11_33 (fun _ => rfl) rfl ?_
  refine st_aload_n (pc' := 139) dX11_init_138 rfl rfl (j := 1) rfl ?_
  refine st_getR (pc' := 142) (r := some 36) dX11_init_139 rfl (show MC_145.1[0]? = some (14, 12) from rfl) c_X11 rfl (show 3 < 12 by decide) f_X11_46 (fun _ => rfl) rfl ?_
  refine st_aload_n (pc' := 143) dX11_init_142 rfl rfl (j := 1) rfl ?_
  refine st_getR (pc' := 146) (r := some 51) dX11_init_143 rfl (show MC_145.1[0]? = some (14, 12) from rfl) c_X11 rfl (show 5 < 12 by decide) f_X11_67 (fun _ => rfl) rfl ?_
  refine st_callI (pc' := 149) (kc := k - 1) (E' := LAY.take 63) (cal := m_X6_init) (n := 3) (as := [vR (some 4), vR (some 36), vR (some 51)]) (S := [vR (some 54), vR (some 0)]) (Q1 := fun r M' => r = none ∧ M' = MC_165) dX11_init_146 rfl l_X11_73 k_X6_init rfl rfl rfl rfl (Nat.le_of_ble_eq_true rfl) (by omega) (by decide +kernel) (K_X6_init_0 (by omega) ⟨rfl, rfl⟩) (fun r M' q => ?_)
  obtain ⟨rfl, rfl⟩ := q
  change WP _ _ _ 149 [(1, vR (some 39)), (0, vR (some 0))] [vR (some 54), vR (some 0)] MC_165 _
  refine st_putOF (pc' := 152) (M' := MC_166) dX11_init_149 rfl (show MC_165.1[0]? = some (14, 12) from rfl) c_X11 rfl (show 6 < 12 by decide) rfl rfl rfl f_X11_76 rfl rfl ?_
  refine st_aload_n (pc' := 153) dX11_init_152 rfl rfl (j := 1) rfl ?_
  refine st_new (pc' := 156) (q := 63) (M' := MC_167) dX11_init_153 rfl c_X5 n_X11_80 i_X5 (by decide +kernel) (by decide +kernel) rfl rfl ?_
  refine st_dup (pc' := 157) dX11_init_156 rfl rfl ?_
  refine st_aload_n (pc' := 158) dX11_init_157 rfl rfl (j := 1) rfl ?_
  refine st_getR (pc' := 161) (r := some 4) dX11_init_158 rfl (show MC_167.1[0]? = some (14, 12) from rfl) c_X11 rfl (show 2 < 12 by decide) f_X11_33 (fun _ => rfl) rfl ?_
  refine st_aload_n (pc' := 162) dX11_init_161 rfl rfl (j := 1) rfl ?_
  refine st_getR (pc' := 165) (r := some 36) dX11_init_162 rfl (show MC_167.1[0]? = some (14, 12) from rfl) c_X11 rfl (show 3 < 12 by decide) f_X11_46 (fun _ => rfl) rfl ?_
  refine st_aload_n (pc' := 166) dX11_init_165 rfl rfl (j := 0) rfl ?_
  refine st_callI (pc' := 169) (kc := k - 1) (E' := LAY.take 70) (cal := m_X5_init) (n := 3) (as := [vR (some 4), vR (some 36), vR (some 39)]) (S := [vR (some 63), vR (some 0)]) (Q1 := fun r M' => r = none ∧ M' = MC_183) dX11_init_166 rfl l_X11_82 k_X5_init rfl rfl rfl rfl (Nat.le_of_ble_eq_true rfl) (by omega) (by decide +kernel) (K_X5_init_0 (by omega) ⟨rfl, rfl⟩) (fun r M' q => ?_)
  obtain ⟨rfl, rfl⟩ := q
  change WP _ _ _ 169 [(1, vR (some 39)), (0, vR (some 0))] [vR (some 63), vR (some 0)] MC_183 _
  refine st_putOF (pc' := 172) (M' := MC_184) dX11_init_169 rfl (show MC_183.1[0]? = some (14, 12) from rfl) c_X11 rfl (show 7 < 12 by decide) rfl rfl rfl f_X11_83 rfl rfl ?_
  refine st_aload_n (pc' := 173) dX11_init_172 rfl rfl (j := 1) rfl ?_
  refine st_new (pc' := 176) (q := 70) (M' := MC_185) dX11_init_173 rfl c_X4 n_X11_87 i_X4 (by decide +kernel) (by decide +kernel) rfl rfl ?_
  refine st_dup (pc' := 177) dX11_init_176 rfl rfl ?_
  refine st_callIN (host := "CandleInch") (pc' := 180) (kc := k - 1) (E' := LAY.take 73) (cal := m_X4_init) (n := 0) (as := []) (S := [vR (some 70), vR (some 0)]) (Q1 := fun r M' => r = none ∧ M' = MC_189) dX11_init_177 rfl (fun G U H hSt => hSt.2.2.2.2.1) k_X4_init rfl rfl rfl rfl (Nat.le_of_ble_eq_true rfl) (by omega) (by decide +kernel) (K_X4_init_0 (by omega) ⟨rfl, rfl⟩) (fun r M' q => ?_)
  obtain ⟨rfl, rfl⟩ := q
  change WP _ _ _ 180 [(1, vR (some 39)), (0, vR (some 0))] [vR (some 70), vR (some 0)] MC_189 _
  refine st_putOF (pc' := 183) (M' := MC_190) dX11_init_180 rfl (show MC_189.1[0]? = some (14, 12) from rfl) c_X11 rfl (show 8 < 12 by decide) rfl rfl rfl f_X11_90 rfl rfl ?_
  refine st_aload_n (pc' := 184) dX11_init_183 rfl rfl (j := 1) rfl ?_
  refine st_bipush (pc' := 186) dX11_init_184 rfl (by decide) ?_
  refine st_newarr (pc' := 188) (N := 6) (q := 73) (M' := MC_191) 0 .int .int (by simp) dX11_init_186 rfl a_int rfl (by decide) (by decide +kernel) rfl rfl ?_
  refine st_putAF (pc' := 191) (M' := MC_192) dX11_init_188 rfl (show MC_191.1[0]? = some (14, 12) from rfl) c_X11 rfl (show 9 < 12 by decide) rfl rfl rfl f_X11_94 rfl rfl ?_
  refine st_aload_n (pc' := 192) dX11_init_191 rfl rfl (j := 1) rfl ?_
  refine st_iconst (pc' := 193) dX11_init_192 rfl ?_
  refine st_putI (pc' := 196) (M' := MC_193) dX11_init_193 rfl (show MC_192.1[0]? = some (14, 12) from rfl) c_X11 rfl (show 11 < 12 by decide) rfl f_X11_98 rfl rfl ?_
  exact st_vret dX11_init_196 rfl rfl h
def IC_107 : Nat → Nat → Int32 := ze2 IC_106 74 0
def JC_75 : Nat → Nat → Int64 := ze2 JC_74 74 0
def RC_162 : Nat → Nat → Option Nat := ze2 RC_161 74 none
def MC_194 : Mem := (LAY.take 75, IC_107, JC_75, RC_162)
def IC_108 : Nat → Nat → Int32 := ze2 IC_107 75 0
def JC_76 : Nat → Nat → Int64 := ze2 JC_75 75 0
def RC_163 : Nat → Nat → Option Nat := ze2 RC_162 75 none
def MC_195 : Mem := (LAY.take 76, IC_108, JC_76, RC_163)
def RC_164 : Nat → Nat → Option Nat := up2 RC_163 74 0 (some 75)
def MC_196 : Mem := (LAY.take 76, IC_108, JC_76, RC_164)
def IC_109 : Nat → Nat → Int32 := up2 IC_108 74 1 (iI 0)
def MC_197 : Mem := (LAY.take 76, IC_109, JC_76, RC_164)
def IC_110 : Nat → Nat → Int32 := up2 IC_109 74 2 (iI 0)
def MC_198 : Mem := (LAY.take 76, IC_110, JC_76, RC_164)
def IC_111 : Nat → Nat → Int32 := up2 IC_110 74 3 (iI 0)
def MC_199 : Mem := (LAY.take 76, IC_111, JC_76, RC_164)
def IC_112 : Nat → Nat → Int32 := up2 IC_111 74 4 (iI 0)
def MC_200 : Mem := (LAY.take 76, IC_112, JC_76, RC_164)
def IC_113 : Nat → Nat → Int32 := up2 IC_112 74 5 (iI 0)
def MC_201 : Mem := (LAY.take 76, IC_113, JC_76, RC_164)
def IC_114 : Nat → Nat → Int32 := up2 IC_113 74 6 (iI 0)
def MC_202 : Mem := (LAY.take 76, IC_114, JC_76, RC_164)
def JC_77 : Nat → Nat → Int64 := up2 JC_76 74 7 (iL 0)
def MC_203 : Mem := (LAY.take 76, IC_114, JC_77, RC_164)
def IC_115 : Nat → Nat → Int32 := up2 IC_114 74 8 (iI 0)
def MC_204 : Mem := (LAY.take 76, IC_115, JC_77, RC_164)
def IC_116 : Nat → Nat → Int32 := up2 IC_115 74 9 (iI (-1))
def MC_205 : Mem := (LAY.take 76, IC_116, JC_77, RC_164)
def IC_117 : Nat → Nat → Int32 := up2 IC_116 74 10 (iI 0)
def MC_206 : Mem := (LAY.take 76, IC_117, JC_77, RC_164)
def IC_118 : Nat → Nat → Int32 := up2 IC_117 74 11 (iI (-1))
def MC_207 : Mem := (LAY.take 76, IC_118, JC_77, RC_164)
def IC_119 : Nat → Nat → Int32 := up2 IC_118 74 12 (iI (-1))
def MC_208 : Mem := (LAY.take 76, IC_119, JC_77, RC_164)
def IC_120 : Nat → Nat → Int32 := up2 IC_119 74 13 (iI 0)
def MC_209 : Mem := (LAY.take 76, IC_120, JC_77, RC_164)
def IC_121 : Nat → Nat → Int32 := ze2 IC_120 76 0
def JC_78 : Nat → Nat → Int64 := ze2 JC_77 76 0
def RC_165 : Nat → Nat → Option Nat := ze2 RC_164 76 none
def MC_210 : Mem := (LAY.take 77, IC_121, JC_78, RC_165)
def RC_166 : Nat → Nat → Option Nat := up2 RC_165 74 14 (some 76)
def MC_211 : Mem := (LAY.take 77, IC_121, JC_78, RC_166)
def IC_122 : Nat → Nat → Int32 := ze2 IC_121 77 0
def JC_79 : Nat → Nat → Int64 := ze2 JC_78 77 0
def RC_167 : Nat → Nat → Option Nat := ze2 RC_166 77 none
def MC_212 : Mem := (LAY.take 78, IC_122, JC_79, RC_167)
def RC_168 : Nat → Nat → Option Nat := up2 RC_167 74 15 (some 77)
def MC_213 : Mem := (LAY.take 78, IC_122, JC_79, RC_168)
def IC_123 : Nat → Nat → Int32 := ze2 IC_122 78 0
def JC_80 : Nat → Nat → Int64 := ze2 JC_79 78 0
def RC_169 : Nat → Nat → Option Nat := ze2 RC_168 78 none
def MC_214 : Mem := (LAY.take 79, IC_123, JC_80, RC_169)
def RC_170 : Nat → Nat → Option Nat := up2 RC_169 74 16 (some 78)
def MC_215 : Mem := (LAY.take 79, IC_123, JC_80, RC_170)
def IC_124 : Nat → Nat → Int32 := ze2 IC_123 79 0
def JC_81 : Nat → Nat → Int64 := ze2 JC_80 79 0
def RC_171 : Nat → Nat → Option Nat := ze2 RC_170 79 none
def MC_216 : Mem := (LAY.take 80, IC_124, JC_81, RC_171)
def RC_172 : Nat → Nat → Option Nat := up2 RC_171 74 17 (some 79)
def MC_217 : Mem := (LAY.take 80, IC_124, JC_81, RC_172)
def IC_125 : Nat → Nat → Int32 := ze2 IC_124 80 0
def JC_82 : Nat → Nat → Int64 := ze2 JC_81 80 0
def RC_173 : Nat → Nat → Option Nat := ze2 RC_172 80 none
def MC_218 : Mem := (LAY.take 81, IC_125, JC_82, RC_173)
def RC_174 : Nat → Nat → Option Nat := up2 RC_173 74 18 (some 80)
def MC_219 : Mem := (LAY.take 81, IC_125, JC_82, RC_174)
def IC_126 : Nat → Nat → Int32 := ze2 IC_125 81 0
def JC_83 : Nat → Nat → Int64 := ze2 JC_82 81 0
def RC_175 : Nat → Nat → Option Nat := ze2 RC_174 81 none
def MC_220 : Mem := (LAY.take 82, IC_126, JC_83, RC_175)
def RC_176 : Nat → Nat → Option Nat := up2 RC_175 74 19 (some 81)
def MC_221 : Mem := (LAY.take 82, IC_126, JC_83, RC_176)
def IC_127 : Nat → Nat → Int32 := ze2 IC_126 82 0
def JC_84 : Nat → Nat → Int64 := ze2 JC_83 82 0
def RC_177 : Nat → Nat → Option Nat := ze2 RC_176 82 none
def MC_222 : Mem := (LAY.take 83, IC_127, JC_84, RC_177)
def RC_178 : Nat → Nat → Option Nat := up2 RC_177 74 20 (some 82)
def MC_223 : Mem := (LAY.take 83, IC_127, JC_84, RC_178)
def IC_128 : Nat → Nat → Int32 := ze2 IC_127 83 0
def JC_85 : Nat → Nat → Int64 := ze2 JC_84 83 0
def RC_179 : Nat → Nat → Option Nat := ze2 RC_178 83 none
def MC_224 : Mem := (LAY.take 84, IC_128, JC_85, RC_179)
def RC_180 : Nat → Nat → Option Nat := up2 RC_179 74 21 (some 83)
def MC_225 : Mem := (LAY.take 84, IC_128, JC_85, RC_180)
def IC_129 : Nat → Nat → Int32 := ze2 IC_128 84 0
def JC_86 : Nat → Nat → Int64 := ze2 JC_85 84 0
def RC_181 : Nat → Nat → Option Nat := ze2 RC_180 84 none
def MC_226 : Mem := (LAY.take 85, IC_129, JC_86, RC_181)
def RC_182 : Nat → Nat → Option Nat := up2 RC_181 74 22 (some 84)
def MC_227 : Mem := (LAY.take 85, IC_129, JC_86, RC_182)
def IC_130 : Nat → Nat → Int32 := ze2 IC_129 85 0
def JC_87 : Nat → Nat → Int64 := ze2 JC_86 85 0
def RC_183 : Nat → Nat → Option Nat := ze2 RC_182 85 none
def MC_228 : Mem := (LAY.take 86, IC_130, JC_87, RC_183)
def RC_184 : Nat → Nat → Option Nat := up2 RC_183 74 23 (some 85)
def MC_229 : Mem := (LAY.take 86, IC_130, JC_87, RC_184)
def IC_131 : Nat → Nat → Int32 := ze2 IC_130 86 0
def JC_88 : Nat → Nat → Int64 := ze2 JC_87 86 0
def RC_185 : Nat → Nat → Option Nat := ze2 RC_184 86 none
def MC_230 : Mem := (LAY.take 87, IC_131, JC_88, RC_185)
def RC_186 : Nat → Nat → Option Nat := up2 RC_185 74 24 (some 86)
def MC_231 : Mem := (LAY.take 87, IC_131, JC_88, RC_186)
def IC_132 : Nat → Nat → Int32 := ze2 IC_131 87 0
def JC_89 : Nat → Nat → Int64 := ze2 JC_88 87 0
def RC_187 : Nat → Nat → Option Nat := ze2 RC_186 87 none
def MC_232 : Mem := (LAY.take 88, IC_132, JC_89, RC_187)
def RC_188 : Nat → Nat → Option Nat := up2 RC_187 74 25 (some 87)
def MC_233 : Mem := (LAY.take 88, IC_132, JC_89, RC_188)
def IC_133 : Nat → Nat → Int32 := ze2 IC_132 88 0
def JC_90 : Nat → Nat → Int64 := ze2 JC_89 88 0
def RC_189 : Nat → Nat → Option Nat := ze2 RC_188 88 none
def MC_234 : Mem := (LAY.take 89, IC_133, JC_90, RC_189)
def RC_190 : Nat → Nat → Option Nat := up2 RC_189 74 26 (some 88)
def MC_235 : Mem := (LAY.take 89, IC_133, JC_90, RC_190)
def IC_134 : Nat → Nat → Int32 := ze2 IC_133 89 0
def JC_91 : Nat → Nat → Int64 := ze2 JC_90 89 0
def RC_191 : Nat → Nat → Option Nat := ze2 RC_190 89 none
def MC_236 : Mem := (LAY.take 90, IC_134, JC_91, RC_191)
def RC_192 : Nat → Nat → Option Nat := up2 RC_191 74 27 (some 89)
def MC_237 : Mem := (LAY.take 90, IC_134, JC_91, RC_192)
def IC_135 : Nat → Nat → Int32 := ze2 IC_134 90 0
def JC_92 : Nat → Nat → Int64 := ze2 JC_91 90 0
def RC_193 : Nat → Nat → Option Nat := ze2 RC_192 90 none
def MC_238 : Mem := (LAY.take 91, IC_135, JC_92, RC_193)
def RC_194 : Nat → Nat → Option Nat := up2 RC_193 74 28 (some 90)
def MC_239 : Mem := (LAY.take 91, IC_135, JC_92, RC_194)
def IC_136 : Nat → Nat → Int32 := ze2 IC_135 91 0
def JC_93 : Nat → Nat → Int64 := ze2 JC_92 91 0
def RC_195 : Nat → Nat → Option Nat := ze2 RC_194 91 none
def MC_240 : Mem := (LAY.take 92, IC_136, JC_93, RC_195)
def RC_196 : Nat → Nat → Option Nat := up2 RC_195 74 29 (some 91)
def MC_241 : Mem := (LAY.take 92, IC_136, JC_93, RC_196)
def IC_137 : Nat → Nat → Int32 := ze2 IC_136 92 0
def JC_94 : Nat → Nat → Int64 := ze2 JC_93 92 0
def RC_197 : Nat → Nat → Option Nat := ze2 RC_196 92 none
def MC_242 : Mem := (LAY.take 93, IC_137, JC_94, RC_197)
def RC_198 : Nat → Nat → Option Nat := up2 RC_197 74 30 (some 92)
def MC_243 : Mem := (LAY.take 93, IC_137, JC_94, RC_198)
def IC_138 : Nat → Nat → Int32 := ze2 IC_137 93 0
def JC_95 : Nat → Nat → Int64 := ze2 JC_94 93 0
def RC_199 : Nat → Nat → Option Nat := ze2 RC_198 93 none
def MC_244 : Mem := (LAY.take 94, IC_138, JC_95, RC_199)
def RC_200 : Nat → Nat → Option Nat := up2 RC_199 74 31 (some 93)
def MC_245 : Mem := (LAY.take 94, IC_138, JC_95, RC_200)
def IC_139 : Nat → Nat → Int32 := ze2 IC_138 94 0
def JC_96 : Nat → Nat → Int64 := ze2 JC_95 94 0
def RC_201 : Nat → Nat → Option Nat := ze2 RC_200 94 none
def MC_246 : Mem := (LAY.take 95, IC_139, JC_96, RC_201)
def RC_202 : Nat → Nat → Option Nat := up2 RC_201 74 32 (some 94)
def MC_247 : Mem := (LAY.take 95, IC_139, JC_96, RC_202)
def IC_140 : Nat → Nat → Int32 := ze2 IC_139 95 0
def JC_97 : Nat → Nat → Int64 := ze2 JC_96 95 0
def RC_203 : Nat → Nat → Option Nat := ze2 RC_202 95 none
def MC_248 : Mem := (LAY.take 96, IC_140, JC_97, RC_203)
def RC_204 : Nat → Nat → Option Nat := up2 RC_203 74 33 (some 95)
def MC_249 : Mem := (LAY.take 96, IC_140, JC_97, RC_204)
def IC_141 : Nat → Nat → Int32 := ze2 IC_140 96 0
def JC_98 : Nat → Nat → Int64 := ze2 JC_97 96 0
def RC_205 : Nat → Nat → Option Nat := ze2 RC_204 96 none
def MC_250 : Mem := (LAY.take 97, IC_141, JC_98, RC_205)
def RC_206 : Nat → Nat → Option Nat := up2 RC_205 74 34 (some 96)
def MC_251 : Mem := (LAY.take 97, IC_141, JC_98, RC_206)
def IC_142 : Nat → Nat → Int32 := ze2 IC_141 97 0
def JC_99 : Nat → Nat → Int64 := ze2 JC_98 97 0
def RC_207 : Nat → Nat → Option Nat := ze2 RC_206 97 none
def MC_252 : Mem := (LAY.take 98, IC_142, JC_99, RC_207)
def RC_208 : Nat → Nat → Option Nat := up2 RC_207 74 35 (some 97)
def MC_253 : Mem := (LAY.take 98, IC_142, JC_99, RC_208)
def IC_143 : Nat → Nat → Int32 := ze2 IC_142 98 0
def JC_100 : Nat → Nat → Int64 := ze2 JC_99 98 0
def RC_209 : Nat → Nat → Option Nat := ze2 RC_208 98 none
def MC_254 : Mem := (LAY.take 99, IC_143, JC_100, RC_209)
def RC_210 : Nat → Nat → Option Nat := up2 RC_209 74 36 (some 98)
def MC_255 : Mem := (LAY.take 99, IC_143, JC_100, RC_210)
def IC_144 : Nat → Nat → Int32 := ze2 IC_143 99 0
def JC_101 : Nat → Nat → Int64 := ze2 JC_100 99 0
def RC_211 : Nat → Nat → Option Nat := ze2 RC_210 99 none
def MC_256 : Mem := (LAY.take 100, IC_144, JC_101, RC_211)
def RC_212 : Nat → Nat → Option Nat := up2 RC_211 74 37 (some 99)
def MC_257 : Mem := (LAY.take 100, IC_144, JC_101, RC_212)
def IC_145 : Nat → Nat → Int32 := ze2 IC_144 100 0
def JC_102 : Nat → Nat → Int64 := ze2 JC_101 100 0
def RC_213 : Nat → Nat → Option Nat := ze2 RC_212 100 none
def MC_258 : Mem := (LAY.take 101, IC_145, JC_102, RC_213)
def RC_214 : Nat → Nat → Option Nat := up2 RC_213 74 38 (some 100)
def MC_259 : Mem := (LAY.take 101, IC_145, JC_102, RC_214)
def IC_146 : Nat → Nat → Int32 := up2 IC_145 74 39 (iI 0)
def MC_260 : Mem := (LAY.take 101, IC_146, JC_102, RC_214)
def IC_147 : Nat → Nat → Int32 := up2 IC_146 74 40 (iI 1)
def MC_261 : Mem := (LAY.take 101, IC_147, JC_102, RC_214)
def IC_148 : Nat → Nat → Int32 := ze2 IC_147 101 0
def JC_103 : Nat → Nat → Int64 := ze2 JC_102 101 0
def RC_215 : Nat → Nat → Option Nat := ze2 RC_214 101 none
def MC_262 : Mem := (LAY.take 102, IC_148, JC_103, RC_215)
def RC_216 : Nat → Nat → Option Nat := up2 RC_215 74 41 (some 101)
def MC_263 : Mem := (LAY.take 102, IC_148, JC_103, RC_216)
def IC_149 : Nat → Nat → Int32 := ze2 IC_148 102 0
def JC_104 : Nat → Nat → Int64 := ze2 JC_103 102 0
def RC_217 : Nat → Nat → Option Nat := ze2 RC_216 102 none
def MC_264 : Mem := (LAY.take 103, IC_149, JC_104, RC_217)
def RC_218 : Nat → Nat → Option Nat := up2 RC_217 74 42 (some 102)
def MC_265 : Mem := (LAY.take 103, IC_149, JC_104, RC_218)
def IC_150 : Nat → Nat → Int32 := ze2 IC_149 103 0
def JC_105 : Nat → Nat → Int64 := ze2 JC_104 103 0
def RC_219 : Nat → Nat → Option Nat := ze2 RC_218 103 none
def MC_266 : Mem := (LAY.take 104, IC_150, JC_105, RC_219)
def RC_220 : Nat → Nat → Option Nat := up2 RC_219 74 43 (some 103)
def MC_267 : Mem := (LAY.take 104, IC_150, JC_105, RC_220)
def IC_151 : Nat → Nat → Int32 := ze2 IC_150 104 0
def JC_106 : Nat → Nat → Int64 := ze2 JC_105 104 0
def RC_221 : Nat → Nat → Option Nat := ze2 RC_220 104 none
def MC_268 : Mem := (LAY.take 105, IC_151, JC_106, RC_221)
def RC_222 : Nat → Nat → Option Nat := up2 RC_221 74 44 (some 104)
def MC_269 : Mem := (LAY.take 105, IC_151, JC_106, RC_222)
def IC_152 : Nat → Nat → Int32 := ze2 IC_151 105 0
def JC_107 : Nat → Nat → Int64 := ze2 JC_106 105 0
def RC_223 : Nat → Nat → Option Nat := ze2 RC_222 105 none
def MC_270 : Mem := (LAY.take 106, IC_152, JC_107, RC_223)
def RC_224 : Nat → Nat → Option Nat := up2 RC_223 74 45 (some 105)
def MC_271 : Mem := (LAY.take 106, IC_152, JC_107, RC_224)
def IC_153 : Nat → Nat → Int32 := up2 IC_152 74 46 (iI 0)
def MC_272 : Mem := (LAY.take 106, IC_153, JC_107, RC_224)
def IC_154 : Nat → Nat → Int32 := up2 IC_153 74 47 (iI 0)
def MC_273 : Mem := (LAY.take 106, IC_154, JC_107, RC_224)
def IC_155 : Nat → Nat → Int32 := ze2 IC_154 106 0
def JC_108 : Nat → Nat → Int64 := ze2 JC_107 106 0
def RC_225 : Nat → Nat → Option Nat := ze2 RC_224 106 none
def MC_274 : Mem := (LAY.take 107, IC_155, JC_108, RC_225)
def RC_226 : Nat → Nat → Option Nat := up2 RC_225 74 48 (some 106)
def MC_275 : Mem := (LAY.take 107, IC_155, JC_108, RC_226)
def IC_156 : Nat → Nat → Int32 := up2 IC_155 74 49 (iI 0)
def MC_276 : Mem := (LAY.take 107, IC_156, JC_108, RC_226)
def IC_157 : Nat → Nat → Int32 := up2 IC_156 74 50 (iI 0)
def MC_277 : Mem := (LAY.take 107, IC_157, JC_108, RC_226)
def IC_158 : Nat → Nat → Int32 := ze2 IC_157 107 0
def JC_109 : Nat → Nat → Int64 := ze2 JC_108 107 0
def RC_227 : Nat → Nat → Option Nat := ze2 RC_226 107 none
def MC_278 : Mem := (LAY.take 108, IC_158, JC_109, RC_227)
def RC_228 : Nat → Nat → Option Nat := up2 RC_227 74 51 (some 107)
def MC_279 : Mem := (LAY.take 108, IC_158, JC_109, RC_228)
def IC_159 : Nat → Nat → Int32 := ze2 IC_158 108 0
def JC_110 : Nat → Nat → Int64 := ze2 JC_109 108 0
def RC_229 : Nat → Nat → Option Nat := ze2 RC_228 108 none
def MC_280 : Mem := (LAY.take 109, IC_159, JC_110, RC_229)
def RC_230 : Nat → Nat → Option Nat := up2 RC_229 74 52 (some 108)
def MC_281 : Mem := (LAY.take 109, IC_159, JC_110, RC_230)
def IC_160 : Nat → Nat → Int32 := ze2 IC_159 109 0
def JC_111 : Nat → Nat → Int64 := ze2 JC_110 109 0
def RC_231 : Nat → Nat → Option Nat := ze2 RC_230 109 none
def MC_282 : Mem := (LAY.take 110, IC_160, JC_111, RC_231)
def RC_232 : Nat → Nat → Option Nat := up2 RC_231 74 53 (some 109)
def MC_283 : Mem := (LAY.take 110, IC_160, JC_111, RC_232)
def IC_161 : Nat → Nat → Int32 := ze2 IC_160 110 0
def JC_112 : Nat → Nat → Int64 := ze2 JC_111 110 0
def RC_233 : Nat → Nat → Option Nat := ze2 RC_232 110 none
def MC_284 : Mem := (LAY.take 111, IC_161, JC_112, RC_233)
def RC_234 : Nat → Nat → Option Nat := up2 RC_233 74 54 (some 110)
def MC_285 : Mem := (LAY.take 111, IC_161, JC_112, RC_234)
def IC_162 : Nat → Nat → Int32 := ze2 IC_161 111 0
def JC_113 : Nat → Nat → Int64 := ze2 JC_112 111 0
def RC_235 : Nat → Nat → Option Nat := ze2 RC_234 111 none
def MC_286 : Mem := (LAY.take 112, IC_162, JC_113, RC_235)
def RC_236 : Nat → Nat → Option Nat := up2 RC_235 74 55 (some 111)
def MC_287 : Mem := (LAY.take 112, IC_162, JC_113, RC_236)
def IC_163 : Nat → Nat → Int32 := ze2 IC_162 112 0
def JC_114 : Nat → Nat → Int64 := ze2 JC_113 112 0
def RC_237 : Nat → Nat → Option Nat := ze2 RC_236 112 none
def MC_288 : Mem := (LAY.take 113, IC_163, JC_114, RC_237)
def RC_238 : Nat → Nat → Option Nat := up2 RC_237 74 56 (some 112)
def MC_289 : Mem := (LAY.take 113, IC_163, JC_114, RC_238)
def IC_164 : Nat → Nat → Int32 := ze2 IC_163 113 0
def JC_115 : Nat → Nat → Int64 := ze2 JC_114 113 0
def RC_239 : Nat → Nat → Option Nat := ze2 RC_238 113 none
def MC_290 : Mem := (LAY.take 114, IC_164, JC_115, RC_239)
def RC_240 : Nat → Nat → Option Nat := up2 RC_239 74 57 (some 113)
def MC_291 : Mem := (LAY.take 114, IC_164, JC_115, RC_240)
def IC_165 : Nat → Nat → Int32 := ze2 IC_164 114 0
def JC_116 : Nat → Nat → Int64 := ze2 JC_115 114 0
def RC_241 : Nat → Nat → Option Nat := ze2 RC_240 114 none
def MC_292 : Mem := (LAY.take 115, IC_165, JC_116, RC_241)
def RC_242 : Nat → Nat → Option Nat := up2 RC_241 74 58 (some 114)
def MC_293 : Mem := (LAY.take 115, IC_165, JC_116, RC_242)
def IC_166 : Nat → Nat → Int32 := ze2 IC_165 115 0
def JC_117 : Nat → Nat → Int64 := ze2 JC_116 115 0
def RC_243 : Nat → Nat → Option Nat := ze2 RC_242 115 none
def MC_294 : Mem := (LAY.take 116, IC_166, JC_117, RC_243)
def RC_244 : Nat → Nat → Option Nat := up2 RC_243 74 59 (some 115)
def MC_295 : Mem := (LAY.take 116, IC_166, JC_117, RC_244)
def IC_167 : Nat → Nat → Int32 := ze2 IC_166 116 0
def JC_118 : Nat → Nat → Int64 := ze2 JC_117 116 0
def RC_245 : Nat → Nat → Option Nat := ze2 RC_244 116 none
def MC_296 : Mem := (LAY.take 117, IC_167, JC_118, RC_245)
def RC_246 : Nat → Nat → Option Nat := up2 RC_245 74 60 (some 116)
def MC_297 : Mem := (LAY.take 117, IC_167, JC_118, RC_246)
def IC_168 : Nat → Nat → Int32 := ze2 IC_167 117 0
def JC_119 : Nat → Nat → Int64 := ze2 JC_118 117 0
def RC_247 : Nat → Nat → Option Nat := ze2 RC_246 117 none
def MC_298 : Mem := (LAY.take 118, IC_168, JC_119, RC_247)
def RC_248 : Nat → Nat → Option Nat := up2 RC_247 74 61 (some 117)
def MC_299 : Mem := (LAY.take 118, IC_168, JC_119, RC_248)
def IC_169 : Nat → Nat → Int32 := ze2 IC_168 118 0
def JC_120 : Nat → Nat → Int64 := ze2 JC_119 118 0
def RC_249 : Nat → Nat → Option Nat := ze2 RC_248 118 none
def MC_300 : Mem := (LAY.take 119, IC_169, JC_120, RC_249)
def RC_250 : Nat → Nat → Option Nat := up2 RC_249 74 62 (some 118)
def MC_301 : Mem := (LAY.take 119, IC_169, JC_120, RC_250)
def IC_170 : Nat → Nat → Int32 := ze2 IC_169 119 0
def JC_121 : Nat → Nat → Int64 := ze2 JC_120 119 0
def RC_251 : Nat → Nat → Option Nat := ze2 RC_250 119 none
def MC_302 : Mem := (LAY.take 120, IC_170, JC_121, RC_251)
def RC_252 : Nat → Nat → Option Nat := up2 RC_251 74 63 (some 119)
def MC_303 : Mem := (LAY.take 120, IC_170, JC_121, RC_252)
def IC_171 : Nat → Nat → Int32 := ze2 IC_170 120 0
def JC_122 : Nat → Nat → Int64 := ze2 JC_121 120 0
def RC_253 : Nat → Nat → Option Nat := ze2 RC_252 120 none
def MC_304 : Mem := (LAY.take 121, IC_171, JC_122, RC_253)
def RC_254 : Nat → Nat → Option Nat := up2 RC_253 74 64 (some 120)
def MC_305 : Mem := (LAY.take 121, IC_171, JC_122, RC_254)
def IC_172 : Nat → Nat → Int32 := up2 IC_171 74 65 (iI 0)
def MC_306 : Mem := (LAY.take 121, IC_172, JC_122, RC_254)
def IC_173 : Nat → Nat → Int32 := up2 IC_172 74 66 (iI 0)
def MC_307 : Mem := (LAY.take 121, IC_173, JC_122, RC_254)
def JC_123 : Nat → Nat → Int64 := up2 JC_122 74 67 (iL 1)
def MC_308 : Mem := (LAY.take 121, IC_173, JC_123, RC_254)
def IC_174 : Nat → Nat → Int32 := ze2 IC_173 121 0
def JC_124 : Nat → Nat → Int64 := ze2 JC_123 121 0
def RC_255 : Nat → Nat → Option Nat := ze2 RC_254 121 none
def MC_309 : Mem := (LAY.take 122, IC_174, JC_124, RC_255)
def RC_256 : Nat → Nat → Option Nat := up2 RC_255 74 68 (some 121)
def MC_310 : Mem := (LAY.take 122, IC_174, JC_124, RC_256)
def IC_175 : Nat → Nat → Int32 := up2 IC_174 74 69 (iI 0)
def MC_311 : Mem := (LAY.take 122, IC_175, JC_124, RC_256)
def IC_176 : Nat → Nat → Int32 := up2 IC_175 74 70 (iI 0)
def MC_312 : Mem := (LAY.take 122, IC_176, JC_124, RC_256)
def IC_177 : Nat → Nat → Int32 := up2 IC_176 74 71 (iI (-1))
def MC_313 : Mem := (LAY.take 122, IC_177, JC_124, RC_256)
def IC_178 : Nat → Nat → Int32 := up2 IC_177 74 72 (iI (-1))
def MC_314 : Mem := (LAY.take 122, IC_178, JC_124, RC_256)
def IC_179 : Nat → Nat → Int32 := up2 IC_178 74 73 (iI (-1))
def MC_315 : Mem := (LAY.take 122, IC_179, JC_124, RC_256)
def IC_180 : Nat → Nat → Int32 := ze2 IC_179 122 0
def JC_125 : Nat → Nat → Int64 := ze2 JC_124 122 0
def RC_257 : Nat → Nat → Option Nat := ze2 RC_256 122 none
def MC_316 : Mem := (LAY.take 123, IC_180, JC_125, RC_257)
def RC_258 : Nat → Nat → Option Nat := up2 RC_257 74 74 (some 122)
def MC_317 : Mem := (LAY.take 123, IC_180, JC_125, RC_258)
def IC_181 : Nat → Nat → Int32 := ze2 IC_180 123 0
def JC_126 : Nat → Nat → Int64 := ze2 JC_125 123 0
def RC_259 : Nat → Nat → Option Nat := ze2 RC_258 123 none
def MC_318 : Mem := (LAY.take 124, IC_181, JC_126, RC_259)
def RC_260 : Nat → Nat → Option Nat := up2 RC_259 74 75 (some 123)
def MC_319 : Mem := (LAY.take 124, IC_181, JC_126, RC_260)
def IC_182 : Nat → Nat → Int32 := ze2 IC_181 124 0
def JC_127 : Nat → Nat → Int64 := ze2 JC_126 124 0
def RC_261 : Nat → Nat → Option Nat := ze2 RC_260 124 none
def MC_320 : Mem := (LAY.take 125, IC_182, JC_127, RC_261)
def RC_262 : Nat → Nat → Option Nat := up2 RC_261 74 76 (some 124)
def MC_321 : Mem := (LAY.take 125, IC_182, JC_127, RC_262)
def IC_183 : Nat → Nat → Int32 := up2 IC_182 74 77 (iI 0)
def MC_322 : Mem := (LAY.take 125, IC_183, JC_127, RC_262)
def IC_184 : Nat → Nat → Int32 := ze2 IC_183 125 0
def JC_128 : Nat → Nat → Int64 := ze2 JC_127 125 0
def RC_263 : Nat → Nat → Option Nat := ze2 RC_262 125 none
def MC_323 : Mem := (LAY.take 126, IC_184, JC_128, RC_263)
def RC_264 : Nat → Nat → Option Nat := up2 RC_263 74 78 (some 125)
def MC_324 : Mem := (LAY.take 126, IC_184, JC_128, RC_264)
def IC_185 : Nat → Nat → Int32 := ze2 IC_184 126 0
def JC_129 : Nat → Nat → Int64 := ze2 JC_128 126 0
def RC_265 : Nat → Nat → Option Nat := ze2 RC_264 126 none
def MC_325 : Mem := (LAY.take 127, IC_185, JC_129, RC_265)
def RC_266 : Nat → Nat → Option Nat := up2 RC_265 74 79 (some 126)
def MC_326 : Mem := (LAY.take 127, IC_185, JC_129, RC_266)
def IC_186 : Nat → Nat → Int32 := ze2 IC_185 127 0
def JC_130 : Nat → Nat → Int64 := ze2 JC_129 127 0
def RC_267 : Nat → Nat → Option Nat := ze2 RC_266 127 none
def MC_327 : Mem := (LAY.take 128, IC_186, JC_130, RC_267)
def RC_268 : Nat → Nat → Option Nat := up2 RC_267 74 80 (some 127)
def MC_328 : Mem := (LAY.take 128, IC_186, JC_130, RC_268)
def IC_187 : Nat → Nat → Int32 := ze2 IC_186 128 0
def JC_131 : Nat → Nat → Int64 := ze2 JC_130 128 0
def RC_269 : Nat → Nat → Option Nat := ze2 RC_268 128 none
def MC_329 : Mem := (LAY.take 129, IC_187, JC_131, RC_269)
def RC_270 : Nat → Nat → Option Nat := up2 RC_269 74 81 (some 128)
def MC_330 : Mem := (LAY.take 129, IC_187, JC_131, RC_270)
def IC_188 : Nat → Nat → Int32 := up2 IC_187 74 82 (iI 0)
def MC_331 : Mem := (LAY.take 129, IC_188, JC_131, RC_270)
def IC_189 : Nat → Nat → Int32 := up2 IC_188 74 83 (iI 0)
def MC_332 : Mem := (LAY.take 129, IC_189, JC_131, RC_270)
def IC_190 : Nat → Nat → Int32 := ze2 IC_189 129 0
def JC_132 : Nat → Nat → Int64 := ze2 JC_131 129 0
def RC_271 : Nat → Nat → Option Nat := ze2 RC_270 129 none
def MC_333 : Mem := (LAY.take 130, IC_190, JC_132, RC_271)
def RC_272 : Nat → Nat → Option Nat := up2 RC_271 74 84 (some 129)
def MC_334 : Mem := (LAY.take 130, IC_190, JC_132, RC_272)
def IC_191 : Nat → Nat → Int32 := ze2 IC_190 130 0
def JC_133 : Nat → Nat → Int64 := ze2 JC_132 130 0
def RC_273 : Nat → Nat → Option Nat := ze2 RC_272 130 none
def MC_335 : Mem := (LAY.take 131, IC_191, JC_133, RC_273)
def RC_274 : Nat → Nat → Option Nat := up2 RC_273 74 85 (some 130)
def MC_336 : Mem := (LAY.take 131, IC_191, JC_133, RC_274)
def IC_192 : Nat → Nat → Int32 := ze2 IC_191 131 0
def JC_134 : Nat → Nat → Int64 := ze2 JC_133 131 0
def RC_275 : Nat → Nat → Option Nat := ze2 RC_274 131 none
def MC_337 : Mem := (LAY.take 132, IC_192, JC_134, RC_275)
def RC_276 : Nat → Nat → Option Nat := up2 RC_275 74 86 (some 131)
def MC_338 : Mem := (LAY.take 132, IC_192, JC_134, RC_276)
def IC_193 : Nat → Nat → Int32 := up2 IC_192 74 87 (iI 0)
def MC_339 : Mem := (LAY.take 132, IC_193, JC_134, RC_276)
def IC_194 : Nat → Nat → Int32 := up2 IC_193 88 0 (iI 60)
def MC_340 : Mem := (LAY.take 132, IC_194, JC_134, RC_276)
def IC_195 : Nat → Nat → Int32 := up2 IC_194 89 0 (iI (-1))
def MC_341 : Mem := (LAY.take 132, IC_195, JC_134, RC_276)
def IC_196 : Nat → Nat → Int32 := up2 IC_195 91 0 (iI (-1))
def MC_342 : Mem := (LAY.take 132, IC_196, JC_134, RC_276)
def IC_197 : Nat → Nat → Int32 := up2 IC_196 93 0 (iI (-1))
def MC_343 : Mem := (LAY.take 132, IC_197, JC_134, RC_276)
set_option maxRecDepth 100000 in
set_option maxHeartbeats 4000000 in
theorem K_X12_init_0 {k : Nat} {Q : Option AV → Mem → Prop} (hk : 1 ≤ k) (h : Q none MC_343) : WPm k (LAY.take 132) m_X12_init [vR (some 74)] MC_194 Q := by
  refine WPm.of k_X12_init.1 (Nat.le_of_ble_eq_true rfl) ?_
  change WP k _ _ 0 [(0, vR (some 74))] [] _ _
  refine st_aload_n (pc' := 1) dX12_init_0 rfl rfl (j := 0) rfl ?_
  refine st_objInit (pc' := 4) dX12_init_1 rfl l_X12_1 a_obj (Nat.le_of_ble_eq_true rfl) (by omega) ?_
  refine st_aload_n (pc' := 5) dX12_init_4 rfl rfl (j := 0) rfl ?_
  refine st_sipush (pc' := 8) dX12_init_5 rfl (by decide) ?_
  refine st_newarr (pc' := 10) (N := 1800) (q := 75) (M' := MC_195) 0 .int .int (by simp) dX12_init_8 rfl a_int rfl (by decide) (by decide +kernel) rfl rfl ?_
  refine st_putAF (pc' := 13) (M' := MC_196) dX12_init_10 rfl (show MC_195.1[74]? = some (15, 88) from rfl) c_X12 rfl (show 0 < 88 by decide) rfl rfl rfl f_X12_7 rfl rfl ?_
  refine st_aload_n (pc' := 14) dX12_init_13 rfl rfl (j := 0) rfl ?_
  refine st_iconst (pc' := 15) dX12_init_14 rfl ?_
  refine st_putI (pc' := 18) (M' := MC_197) dX12_init_15 rfl (show MC_196.1[74]? = some (15, 88) from rfl) c_X12 rfl (show 1 < 88 by decide) rfl f_X12_13 rfl rfl ?_
  refine st_aload_n (pc' := 19) dX12_init_18 rfl rfl (j := 0) rfl ?_
  refine st_iconst (pc' := 20) dX12_init_19 rfl ?_
  refine st_putI (pc' := 23) (M' := MC_198) dX12_init_20 rfl (show MC_197.1[74]? = some (15, 88) from rfl) c_X12 rfl (show 2 < 88 by decide) rfl f_X12_17 rfl rfl ?_
  refine st_aload_n (pc' := 24) dX12_init_23 rfl rfl (j := 0) rfl ?_
  refine st_iconst (pc' := 25) dX12_init_24 rfl ?_
  refine st_putI (pc' := 28) (M' := MC_199) dX12_init_25 rfl (show MC_198.1[74]? = some (15, 88) from rfl) c_X12 rfl (show 3 < 88 by decide) rfl f_X12_20 rfl rfl ?_
  refine st_aload_n (pc' := 29) dX12_init_28 rfl rfl (j := 0) rfl ?_
  refine st_iconst (pc' := 30) dX12_init_29 rfl ?_
  refine st_putI (pc' := 33) (M' := MC_200) dX12_init_30 rfl (show MC_199.1[74]? = some (15, 88) from rfl) c_X12 rfl (show 4 < 88 by decide) rfl f_X12_23 rfl rfl ?_
  refine st_aload_n (pc' := 34) dX12_init_33 rfl rfl (j := 0) rfl ?_
  refine st_iconst (pc' := 35) dX12_init_34 rfl ?_
  refine st_putI (pc' := 38) (M' := MC_201) dX12_init_35 rfl (show MC_200.1[74]? = some (15, 88) from rfl) c_X12 rfl (show 5 < 88 by decide) rfl f_X12_26 rfl rfl ?_
  refine st_aload_n (pc' := 39) dX12_init_38 rfl rfl (j := 0) rfl ?_
  refine st_iconst (pc' := 40) dX12_init_39 rfl ?_
  refine st_putI (pc' := 43) (M' := MC_202) dX12_init_40 rfl (show MC_201.1[74]? = some (15, 88) from rfl) c_X12 rfl (show 6 < 88 by decide) rfl f_X12_29 rfl rfl ?_
  refine st_aload_n (pc' := 44) dX12_init_43 rfl rfl (j := 0) rfl ?_
  refine st_lconst (pc' := 45) (z := 0) dX12_init_44 rfl (by decide) ?_
  refine st_putL (pc' := 48) (M' := MC_203) dX12_init_45 rfl (show MC_202.1[74]? = some (15, 88) from rfl) c_X12 rfl (show 7 < 88 by decide) rfl f_X12_32 rfl rfl ?_
  refine st_aload_n (pc' := 49) dX12_init_48 rfl rfl (j := 0) rfl ?_
  refine st_iconst (pc' := 50) dX12_init_49 rfl ?_
  refine st_putI (pc' := 53) (M' := MC_204) dX12_init_50 rfl (show MC_203.1[74]? = some (15, 88) from rfl) c_X12 rfl (show 8 < 88 by decide) rfl f_X12_36 rfl rfl ?_
  refine st_aload_n (pc' := 54) dX12_init_53 rfl rfl (j := 0) rfl ?_
  refine st_iconst (pc' := 55) dX12_init_54 rfl ?_
  refine st_putI (pc' := 58) (M' := MC_205) dX12_init_55 rfl (show MC_204.1[74]? = some (15, 88) from rfl) c_X12 rfl (show 9 < 88 by decide) rfl f_X12_39 rfl rfl ?_
  refine st_aload_n (pc' := 59) dX12_init_58 rfl rfl (j := 0) rfl ?_
  refine st_iconst (pc' := 60) dX12_init_59 rfl ?_
  refine st_putI (pc' := 63) (M' := MC_206) dX12_init_60 rfl (show MC_205.1[74]? = some (15, 88) from rfl) c_X12 rfl (show 10 < 88 by decide) rfl f_X12_42 rfl rfl ?_
  refine st_aload_n (pc' := 64) dX12_init_63 rfl rfl (j := 0) rfl ?_
  refine st_iconst (pc' := 65) dX12_init_64 rfl ?_
  refine st_putI (pc' := 68) (M' := MC_207) dX12_init_65 rfl (show MC_206.1[74]? = some (15, 88) from rfl) c_X12 rfl (show 11 < 88 by decide) rfl f_X12_45 rfl rfl ?_
  refine st_aload_n (pc' := 69) dX12_init_68 rfl rfl (j := 0) rfl ?_
  refine st_iconst (pc' := 70) dX12_init_69 rfl ?_
  refine st_putI (pc' := 73) (M' := MC_208) dX12_init_70 rfl (show MC_207.1[74]? = some (15, 88) from rfl) c_X12 rfl (show 12 < 88 by decide) rfl f_X12_48 rfl rfl ?_
  refine st_aload_n (pc' := 74) dX12_init_73 rfl rfl (j := 0) rfl ?_
  refine st_iconst (pc' := 75) dX12_init_74 rfl ?_
  refine st_putI (pc' := 78) (M' := MC_209) dX12_init_75 rfl (show MC_208.1[74]? = some (15, 88) from rfl) c_X12 rfl (show 13 < 88 by decide) rfl f_X12_51 rfl rfl ?_
  refine st_aload_n (pc' := 79) dX12_init_78 rfl rfl (j := 0) rfl ?_
  refine st_iconst (pc' := 80) dX12_init_79 rfl ?_
  refine st_newarr (pc' := 82) (N := 2) (q := 76) (M' := MC_210) 0 .int .int (by simp) dX12_init_80 rfl a_int rfl (by decide) (by decide +kernel) rfl rfl ?_
  refine st_putAF (pc' := 85) (M' := MC_211) dX12_init_82 rfl (show MC_210.1[74]? = some (15, 88) from rfl) c_X12 rfl (show 14 < 88 by decide) rfl rfl rfl f_X12_54 rfl rfl ?_
  refine st_aload_n (pc' := 86) dX12_init_85 rfl rfl (j := 0) rfl ?_
  refine st_iconst (pc' := 87) dX12_init_86 rfl ?_
  refine st_newarr (pc' := 89) (N := 2) (q := 77) (M' := MC_212) 0 .int .int (by simp) dX12_init_87 rfl a_int rfl (by decide) (by decide +kernel) rfl rfl ?_
  refine st_putAF (pc' := 92) (M' := MC_213) dX12_init_89 rfl (show MC_212.1[74]? = some (15, 88) from rfl) c_X12 rfl (show 15 < 88 by decide) rfl rfl rfl f_X12_57 rfl rfl ?_
  refine st_aload_n (pc' := 93) dX12_init_92 rfl rfl (j := 0) rfl ?_
  refine st_bipush (pc' := 95) dX12_init_93 rfl (by decide) ?_
  refine st_newarr (pc' := 97) (N := 28) (q := 78) (M' := MC_214) 0 .int .int (by simp) dX12_init_95 rfl a_int rfl (by decide) (by decide +kernel) rfl rfl ?_
  refine st_putAF (pc' := 100) (M' := MC_215) dX12_init_97 rfl (show MC_214.1[74]? = some (15, 88) from rfl) c_X12 rfl (show 16 < 88 by decide) rfl rfl rfl f_X12_60 rfl rfl ?_
  refine st_aload_n (pc' := 101) dX12_init_100 rfl rfl (j := 0) rfl ?_
  refine st_bipush (pc' := 103) dX12_init_101 rfl (by decide) ?_
  refine st_newarr (pc' := 105) (N := 28) (q := 79) (M' := MC_216) 0 .int .int (by simp) dX12_init_103 rfl a_int rfl (by decide) (by decide +kernel) rfl rfl ?_
  refine st_putAF (pc' := 108) (M' := MC_217) dX12_init_105 rfl (show MC_216.1[74]? = some (15, 88) from rfl) c_X12 rfl (show 17 < 88 by decide) rfl rfl rfl f_X12_63 rfl rfl ?_
  refine st_aload_n (pc' := 109) dX12_init_108 rfl rfl (j := 0) rfl ?_
  refine st_bipush (pc' := 111) dX12_init_109 rfl (by decide) ?_
  refine st_newarr (pc' := 113) (N := 28) (q := 80) (M' := MC_218) 0 .int .int (by simp) dX12_init_111 rfl a_int rfl (by decide) (by decide +kernel) rfl rfl ?_
  refine st_putAF (pc' := 116) (M' := MC_219) dX12_init_113 rfl (show MC_218.1[74]? = some (15, 88) from rfl) c_X12 rfl (show 18 < 88 by decide) rfl rfl rfl f_X12_66 rfl rfl ?_
  refine st_aload_n (pc' := 117) dX12_init_116 rfl rfl (j := 0) rfl ?_
  refine st_bipush (pc' := 119) dX12_init_117 rfl (by decide) ?_
  refine st_newarr (pc' := 121) (N := 28) (q := 81) (M' := MC_220) 0 .int .int (by simp) dX12_init_119 rfl a_int rfl (by decide) (by decide +kernel) rfl rfl ?_
  refine st_putAF (pc' := 124) (M' := MC_221) dX12_init_121 rfl (show MC_220.1[74]? = some (15, 88) from rfl) c_X12 rfl (show 19 < 88 by decide) rfl rfl rfl f_X12_69 rfl rfl ?_
  refine st_aload_n (pc' := 125) dX12_init_124 rfl rfl (j := 0) rfl ?_
  refine st_iconst (pc' := 126) dX12_init_125 rfl ?_
  refine st_newarr (pc' := 128) (N := 2) (q := 82) (M' := MC_222) 0 .int .int (by simp) dX12_init_126 rfl a_int rfl (by decide) (by decide +kernel) rfl rfl ?_
  refine st_putAF (pc' := 131) (M' := MC_223) dX12_init_128 rfl (show MC_222.1[74]? = some (15, 88) from rfl) c_X12 rfl (show 20 < 88 by decide) rfl rfl rfl f_X12_72 rfl rfl ?_
  refine st_aload_n (pc' := 132) dX12_init_131 rfl rfl (j := 0) rfl ?_
  refine st_iconst (pc' := 133) dX12_init_132 rfl ?_
  refine st_newarr (pc' := 135) (N := 2) (q := 83) (M' := MC_224) 0 .int .int (by simp) dX12_init_133 rfl a_int rfl (by decide) (by decide +kernel) rfl rfl ?_
  refine st_putAF (pc' := 138) (M' := MC_225) dX12_init_135 rfl (show MC_224.1[74]? = some (15, 88) from rfl) c_X12 rfl (show 21 < 88 by decide) rfl rfl rfl f_X12_75 rfl rfl ?_
  refine st_aload_n (pc' := 139) dX12_init_138 rfl rfl (j := 0) rfl ?_
  refine st_bipush (pc' := 141) dX12_init_139 rfl (by decide) ?_
  refine st_newarr (pc' := 143) (N := 12) (q := 84) (M' := MC_226) 0 .int .int (by simp) dX12_init_141 rfl a_int rfl (by decide) (by decide +kernel) rfl rfl ?_
  refine st_putAF (pc' := 146) (M' := MC_227) dX12_init_143 rfl (show MC_226.1[74]? = some (15, 88) from rfl) c_X12 rfl (show 22 < 88 by decide) rfl rfl rfl f_X12_78 rfl rfl ?_
  refine st_aload_n (pc' := 147) dX12_init_146 rfl rfl (j := 0) rfl ?_
  refine st_bipush (pc' := 149) dX12_init_147 rfl (by decide) ?_
  refine st_newarr (pc' := 151) (N := 12) (q := 85) (M' := MC_228) 0 .int .int (by simp) dX12_init_149 rfl a_int rfl (by decide) (by decide +kernel) rfl rfl ?_
  refine st_putAF (pc' := 154) (M' := MC_229) dX12_init_151 rfl (show MC_228.1[74]? = some (15, 88) from rfl) c_X12 rfl (show 23 < 88 by decide) rfl rfl rfl f_X12_81 rfl rfl ?_
  refine st_aload_n (pc' := 155) dX12_init_154 rfl rfl (j := 0) rfl ?_
  refine st_iconst (pc' := 156) dX12_init_155 rfl ?_
  refine st_newarr (pc' := 158) (N := 2) (q := 86) (M' := MC_230) 0 .int .int (by simp) dX12_init_156 rfl a_int rfl (by decide) (by decide +kernel) rfl rfl ?_
  refine st_putAF (pc' := 161) (M' := MC_231) dX12_init_158 rfl (show MC_230.1[74]? = some (15, 88) from rfl) c_X12 rfl (show 24 < 88 by decide) rfl rfl rfl f_X12_84 rfl rfl ?_
  refine st_aload_n (pc' := 162) dX12_init_161 rfl rfl (j := 0) rfl ?_
  refine st_bipush (pc' := 164) dX12_init_162 rfl (by decide) ?_
  refine st_newarr (pc' := 166) (N := 10) (q := 87) (M' := MC_232) 0 .int .int (by simp) dX12_init_164 rfl a_int rfl (by decide) (by decide +kernel) rfl rfl ?_
  refine st_putAF (pc' := 169) (M' := MC_233) dX12_init_166 rfl (show MC_232.1[74]? = some (15, 88) from rfl) c_X12 rfl (show 25 < 88 by decide) rfl rfl rfl f_X12_87 rfl rfl ?_
  refine st_aload_n (pc' := 170) dX12_init_169 rfl rfl (j := 0) rfl ?_
  refine st_iconst (pc' := 171) dX12_init_170 rfl ?_
  refine st_newarr (pc' := 173) (N := 2) (q := 88) (M' := MC_234) 0 .int .int (by simp) dX12_init_171 rfl a_int rfl (by decide) (by decide +kernel) rfl rfl ?_
  refine st_putAF (pc' := 176) (M' := MC_235) dX12_init_173 rfl (show MC_234.1[74]? = some (15, 88) from rfl) c_X12 rfl (show 26 < 88 by decide) rfl rfl rfl f_X12_90 rfl rfl ?_
  refine st_aload_n (pc' := 177) dX12_init_176 rfl rfl (j := 0) rfl ?_
  refine st_iconst (pc' := 178) dX12_init_177 rfl ?_
  refine st_newarr (pc' := 180) (N := 2) (q := 89) (M' := MC_236) 0 .int .int (by simp) dX12_init_178 rfl a_int rfl (by decide) (by decide +kernel) rfl rfl ?_
  refine st_putAF (pc' := 183) (M' := MC_237) dX12_init_180 rfl (show MC_236.1[74]? = some (15, 88) from rfl) c_X12 rfl (show 27 < 88 by decide) rfl rfl rfl f_X12_93 rfl rfl ?_
  refine st_aload_n (pc' := 184) dX12_init_183 rfl rfl (j := 0) rfl ?_
  refine st_iconst (pc' := 185) dX12_init_184 rfl ?_
  refine st_newarr (pc' := 187) (N := 2) (q := 90) (M' := MC_238) 0 .int .int (by simp) dX12_init_185 rfl a_int rfl (by decide) (by decide +kernel) rfl rfl ?_
  refine st_putAF (pc' := 190) (M' := MC_239) dX12_init_187 rfl (show MC_238.1[74]? = some (15, 88) from rfl) c_X12 rfl (show 28 < 88 by decide) rfl rfl rfl f_X12_96 rfl rfl ?_
  refine st_aload_n (pc' := 191) dX12_init_190 rfl rfl (j := 0) rfl ?_
  refine st_iconst (pc' := 192) dX12_init_191 rfl ?_
  refine st_newarr (pc' := 194) (N := 2) (q := 91) (M' := MC_240) 0 .int .int (by simp) dX12_init_192 rfl a_int rfl (by decide) (by decide +kernel) rfl rfl ?_
  refine st_putAF (pc' := 197) (M' := MC_241) dX12_init_194 rfl (show MC_240.1[74]? = some (15, 88) from rfl) c_X12 rfl (show 29 < 88 by decide) rfl rfl rfl f_X12_99 rfl rfl ?_
  refine st_aload_n (pc' := 198) dX12_init_197 rfl rfl (j := 0) rfl ?_
  refine st_iconst (pc' := 199) dX12_init_198 rfl ?_
  refine st_newarr (pc' := 201) (N := 2) (q := 92) (M' := MC_242) 0 .int .int (by simp) dX12_init_199 rfl a_int rfl (by decide) (by decide +kernel) rfl rfl ?_
  refine st_putAF (pc' := 204) (M' := MC_243) dX12_init_201 rfl (show MC_242.1[74]? = some (15, 88) from rfl) c_X12 rfl (show 30 < 88 by decide) rfl rfl rfl f_X12_102 rfl rfl ?_
  refine st_aload_n (pc' := 205) dX12_init_204 rfl rfl (j := 0) rfl ?_
  refine st_iconst (pc' := 206) dX12_init_205 rfl ?_
  refine st_newarr (pc' := 208) (N := 2) (q := 93) (M' := MC_244) 0 .int .int (by simp) dX12_init_206 rfl a_int rfl (by decide) (by decide +kernel) rfl rfl ?_
  refine st_putAF (pc' := 211) (M' := MC_245) dX12_init_208 rfl (show MC_244.1[74]? = some (15, 88) from rfl) c_X12 rfl (show 31 < 88 by decide) rfl rfl rfl f_X12_105 rfl rfl ?_
  refine st_aload_n (pc' := 212) dX12_init_211 rfl rfl (j := 0) rfl ?_
  refine st_iconst (pc' := 213) dX12_init_212 rfl ?_
  refine st_newarr (pc' := 215) (N := 2) (q := 94) (M' := MC_246) 0 .int .int (by simp) dX12_init_213 rfl a_int rfl (by decide) (by decide +kernel) rfl rfl ?_
  refine st_putAF (pc' := 218) (M' := MC_247) dX12_init_215 rfl (show MC_246.1[74]? = some (15, 88) from rfl) c_X12 rfl (show 32 < 88 by decide) rfl rfl rfl f_X12_108 rfl rfl ?_
  refine st_aload_n (pc' := 219) dX12_init_218 rfl rfl (j := 0) rfl ?_
  refine st_sipush (pc' := 222) dX12_init_219 rfl (by decide) ?_
  refine st_newarr (pc' := 224) (N := 3200) (q := 95) (M' := MC_248) 0 .int .int (by simp) dX12_init_222 rfl a_int rfl (by decide) (by decide +kernel) rfl rfl ?_
  refine st_putAF (pc' := 227) (M' := MC_249) dX12_init_224 rfl (show MC_248.1[74]? = some (15, 88) from rfl) c_X12 rfl (show 33 < 88 by decide) rfl rfl rfl f_X12_111 rfl rfl ?_
  refine st_aload_n (pc' := 228) dX12_init_227 rfl rfl (j := 0) rfl ?_
  refine st_sipush (pc' := 231) dX12_init_228 rfl (by decide) ?_
  refine st_newarr (pc' := 233) (N := 3200) (q := 96) (M' := MC_250) 0 .int .int (by simp) dX12_init_231 rfl a_int rfl (by decide) (by decide +kernel) rfl rfl ?_
  refine st_putAF (pc' := 236) (M' := MC_251) dX12_init_233 rfl (show MC_250.1[74]? = some (15, 88) from rfl) c_X12 rfl (show 34 < 88 by decide) rfl rfl rfl f_X12_114 rfl rfl ?_
  refine st_aload_n (pc' := 237) dX12_init_236 rfl rfl (j := 0) rfl ?_
  refine st_bipush (pc' := 239) dX12_init_237 rfl (by decide) ?_
  refine st_newarr (pc' := 241) (N := 10) (q := 97) (M' := MC_252) 1 .long .long (by simp) dX12_init_239 rfl a_long rfl (by decide) (by decide +kernel) rfl rfl ?_
  refine st_putAF (pc' := 244) (M' := MC_253) dX12_init_241 rfl (show MC_252.1[74]? = some (15, 88) from rfl) c_X12 rfl (show 35 < 88 by decide) rfl rfl rfl f_X12_117 rfl rfl ?_
  refine st_aload_n (pc' := 245) dX12_init_244 rfl rfl (j := 0) rfl ?_
  refine st_bipush (pc' := 247) dX12_init_245 rfl (by decide) ?_
  refine st_newarr (pc' := 249) (N := 28) (q := 98) (M' := MC_254) 1 .long .long (by simp) dX12_init_247 rfl a_long rfl (by decide) (by decide +kernel) rfl rfl ?_
  refine st_putAF (pc' := 252) (M' := MC_255) dX12_init_249 rfl (show MC_254.1[74]? = some (15, 88) from rfl) c_X12 rfl (show 36 < 88 by decide) rfl rfl rfl f_X12_121 rfl rfl ?_
  refine st_aload_n (pc' := 253) dX12_init_252 rfl rfl (j := 0) rfl ?_
  refine st_bipush (pc' := 255) dX12_init_253 rfl (by decide) ?_
  refine st_newarr (pc' := 257) (N := 12) (q := 99) (M' := MC_256) 1 .long .long (by simp) dX12_init_255 rfl a_long rfl (by decide) (by decide +kernel) rfl rfl ?_
  refine st_putAF (pc' := 260) (M' := MC_257) dX12_init_257 rfl (show MC_256.1[74]? = some (15, 88) from rfl) c_X12 rfl (show 37 < 88 by decide) rfl rfl rfl f_X12_124 rfl rfl ?_
  refine st_aload_n (pc' := 261) dX12_init_260 rfl rfl (j := 0) rfl ?_
  refine st_bipush (pc' := 263) dX12_init_261 rfl (by decide) ?_
  refine st_newarr (pc' := 265) (N := 10) (q := 100) (M' := MC_258) 1 .long .long (by simp) dX12_init_263 rfl a_long rfl (by decide) (by decide +kernel) rfl rfl ?_
  refine st_putAF (pc' := 268) (M' := MC_259) dX12_init_265 rfl (show MC_258.1[74]? = some (15, 88) from rfl) c_X12 rfl (show 38 < 88 by decide) rfl rfl rfl f_X12_127 rfl rfl ?_
  refine st_aload_n (pc' := 269) dX12_init_268 rfl rfl (j := 0) rfl ?_
  refine st_iconst (pc' := 270) dX12_init_269 rfl ?_
  refine st_putI (pc' := 273) (M' := MC_260) dX12_init_270 rfl (show MC_259.1[74]? = some (15, 88) from rfl) c_X12 rfl (show 39 < 88 by decide) rfl f_X12_130 rfl rfl ?_
  refine st_aload_n (pc' := 274) dX12_init_273 rfl rfl (j := 0) rfl ?_
  refine st_iconst (pc' := 275) dX12_init_274 rfl ?_
  refine st_putI (pc' := 278) (M' := MC_261) dX12_init_275 rfl (show MC_260.1[74]? = some (15, 88) from rfl) c_X12 rfl (show 40 < 88 by decide) rfl f_X12_133 rfl rfl ?_
  refine st_aload_n (pc' := 279) dX12_init_278 rfl rfl (j := 0) rfl ?_
  refine st_bipush (pc' := 281) dX12_init_279 rfl (by decide) ?_
  refine st_newarr (pc' := 283) (N := 20) (q := 101) (M' := MC_262) 0 .int .int (by simp) dX12_init_281 rfl a_int rfl (by decide) (by decide +kernel) rfl rfl ?_
  refine st_putAF (pc' := 286) (M' := MC_263) dX12_init_283 rfl (show MC_262.1[74]? = some (15, 88) from rfl) c_X12 rfl (show 41 < 88 by decide) rfl rfl rfl f_X12_136 rfl rfl ?_
  refine st_aload_n (pc' := 287) dX12_init_286 rfl rfl (j := 0) rfl ?_
  refine st_bipush (pc' := 289) dX12_init_287 rfl (by decide) ?_
  refine st_newarr (pc' := 291) (N := 20) (q := 102) (M' := MC_264) 0 .int .int (by simp) dX12_init_289 rfl a_int rfl (by decide) (by decide +kernel) rfl rfl ?_
  refine st_putAF (pc' := 294) (M' := MC_265) dX12_init_291 rfl (show MC_264.1[74]? = some (15, 88) from rfl) c_X12 rfl (show 42 < 88 by decide) rfl rfl rfl f_X12_139 rfl rfl ?_
  refine st_aload_n (pc' := 295) dX12_init_294 rfl rfl (j := 0) rfl ?_
  refine st_bipush (pc' := 297) dX12_init_295 rfl (by decide) ?_
  refine st_newarr (pc' := 299) (N := 20) (q := 103) (M' := MC_266) 2 .boolean .boolean (by simp) dX12_init_297 rfl a_boolean rfl (by decide) (by decide +kernel) rfl rfl ?_
  refine st_putAF (pc' := 302) (M' := MC_267) dX12_init_299 rfl (show MC_266.1[74]? = some (15, 88) from rfl) c_X12 rfl (show 43 < 88 by decide) rfl rfl rfl f_X12_142 rfl rfl ?_
  refine st_aload_n (pc' := 303) dX12_init_302 rfl rfl (j := 0) rfl ?_
  refine st_bipush (pc' := 305) dX12_init_303 rfl (by decide) ?_
  refine st_newarr (pc' := 307) (N := 20) (q := 104) (M' := MC_268) 0 .int .int (by simp) dX12_init_305 rfl a_int rfl (by decide) (by decide +kernel) rfl rfl ?_
  refine st_putAF (pc' := 310) (M' := MC_269) dX12_init_307 rfl (show MC_268.1[74]? = some (15, 88) from rfl) c_X12 rfl (show 44 < 88 by decide) rfl rfl rfl f_X12_146 rfl rfl ?_
  refine st_aload_n (pc' := 311) dX12_init_310 rfl rfl (j := 0) rfl ?_
  refine st_bipush (pc' := 313) dX12_init_311 rfl (by decide) ?_
  refine st_newarr (pc' := 315) (N := 20) (q := 105) (M' := MC_270) 0 .int .int (by simp) dX12_init_313 rfl a_int rfl (by decide) (by decide +kernel) rfl rfl ?_
  refine st_putAF (pc' := 318) (M' := MC_271) dX12_init_315 rfl (show MC_270.1[74]? = some (15, 88) from rfl) c_X12 rfl (show 45 < 88 by decide) rfl rfl rfl f_X12_149 rfl rfl ?_
  refine st_aload_n (pc' := 319) dX12_init_318 rfl rfl (j := 0) rfl ?_
  refine st_iconst (pc' := 320) dX12_init_319 rfl ?_
  refine st_putI (pc' := 323) (M' := MC_272) dX12_init_320 rfl (show MC_271.1[74]? = some (15, 88) from rfl) c_X12 rfl (show 46 < 88 by decide) rfl f_X12_152 rfl rfl ?_
  refine st_aload_n (pc' := 324) dX12_init_323 rfl rfl (j := 0) rfl ?_
  refine st_iconst (pc' := 325) dX12_init_324 rfl ?_
  refine st_putI (pc' := 328) (M' := MC_273) dX12_init_325 rfl (show MC_272.1[74]? = some (15, 88) from rfl) c_X12 rfl (show 47 < 88 by decide) rfl f_X12_155 rfl rfl ?_
  refine st_aload_n (pc' := 329) dX12_init_328 rfl rfl (j := 0) rfl ?_
  refine st_sipush (pc' := 332) dX12_init_329 rfl (by decide) ?_
  refine st_newarr (pc' := 334) (N := 500) (q := 106) (M' := MC_274) 0 .int .int (by simp) dX12_init_332 rfl a_int rfl (by decide) (by decide +kernel) rfl rfl ?_
  refine st_putAF (pc' := 337) (M' := MC_275) dX12_init_334 rfl (show MC_274.1[74]? = some (15, 88) from rfl) c_X12 rfl (show 48 < 88 by decide) rfl rfl rfl f_X12_158 rfl rfl ?_
  refine st_aload_n (pc' := 338) dX12_init_337 rfl rfl (j := 0) rfl ?_
  refine st_iconst (pc' := 339) dX12_init_338 rfl ?_
  refine st_putI (pc' := 342) (M' := MC_276) dX12_init_339 rfl (show MC_275.1[74]? = some (15, 88) from rfl) c_X12 rfl (show 49 < 88 by decide) rfl f_X12_161 rfl rfl ?_
  refine st_aload_n (pc' := 343) dX12_init_342 rfl rfl (j := 0) rfl ?_
  refine st_iconst (pc' := 344) dX12_init_343 rfl ?_
  refine st_putZ (pc' := 347) (M' := MC_277) dX12_init_344 rfl (show MC_276.1[74]? = some (15, 88) from rfl) c_X12 rfl (show 50 < 88 by decide) rfl f_X12_164 rfl (by decide) rfl ?_
  refine st_aload_n (pc' := 348) dX12_init_347 rfl rfl (j := 0) rfl ?_
  refine st_bipush (pc' := 350) dX12_init_348 rfl (by decide) ?_
  refine st_newarr (pc' := 352) (N := 6) (q := 107) (M' := MC_278) 0 .int .int (by simp) dX12_init_350 rfl a_int rfl (by decide) (by decide +kernel) rfl rfl ?_
  refine st_putAF (pc' := 355) (M' := MC_279) dX12_init_352 rfl (show MC_278.1[74]? = some (15, 88) from rfl) c_X12 rfl (show 51 < 88 by decide) rfl rfl rfl f_X12_168 rfl rfl ?_
  refine st_aload_n (pc' := 356) dX12_init_355 rfl rfl (j := 0) rfl ?_
  refine st_bipush (pc' := 358) dX12_init_356 rfl (by decide) ?_
  refine st_newarr (pc' := 360) (N := 22) (q := 108) (M' := MC_280) 0 .int .int (by simp) dX12_init_358 rfl a_int rfl (by decide) (by decide +kernel) rfl rfl ?_
  refine st_putAF (pc' := 363) (M' := MC_281) dX12_init_360 rfl (show MC_280.1[74]? = some (15, 88) from rfl) c_X12 rfl (show 52 < 88 by decide) rfl rfl rfl f_X12_171 rfl rfl ?_
  refine st_aload_n (pc' := 364) dX12_init_363 rfl rfl (j := 0) rfl ?_
  refine st_bipush (pc' := 366) dX12_init_364 rfl (by decide) ?_
  refine st_newarr (pc' := 368) (N := 22) (q := 109) (M' := MC_282) 0 .int .int (by simp) dX12_init_366 rfl a_int rfl (by decide) (by decide +kernel) rfl rfl ?_
  refine st_putAF (pc' := 371) (M' := MC_283) dX12_init_368 rfl (show MC_282.1[74]? = some (15, 88) from rfl) c_X12 rfl (show 53 < 88 by decide) rfl rfl rfl f_X12_174 rfl rfl ?_
  refine st_aload_n (pc' := 372) dX12_init_371 rfl rfl (j := 0) rfl ?_
  refine st_sipush (pc' := 375) dX12_init_372 rfl (by decide) ?_
  refine st_newarr (pc' := 377) (N := 132) (q := 110) (M' := MC_284) 0 .int .int (by simp) dX12_init_375 rfl a_int rfl (by decide) (by decide +kernel) rfl rfl ?_
  refine st_putAF (pc' := 380) (M' := MC_285) dX12_init_377 rfl (show MC_284.1[74]? = some (15, 88) from rfl) c_X12 rfl (show 54 < 88 by decide) rfl rfl rfl f_X12_177 rfl rfl ?_
  refine st_aload_n (pc' := 381) dX12_init_380 rfl rfl (j := 0) rfl ?_
  refine st_sipush (pc' := 384) dX12_init_381 rfl (by decide) ?_
  refine st_newarr (pc' := 386) (N := 132) (q := 111) (M' := MC_286) 0 .int .int (by simp) dX12_init_384 rfl a_int rfl (by decide) (by decide +kernel) rfl rfl ?_
  refine st_putAF (pc' := 389) (M' := MC_287) dX12_init_386 rfl (show MC_286.1[74]? = some (15, 88) from rfl) c_X12 rfl (show 55 < 88 by decide) rfl rfl rfl f_X12_180 rfl rfl ?_
  refine st_aload_n (pc' := 390) dX12_init_389 rfl rfl (j := 0) rfl ?_
  refine st_sipush (pc' := 393) dX12_init_390 rfl (by decide) ?_
  refine st_newarr (pc' := 395) (N := 132) (q := 112) (M' := MC_288) 0 .int .int (by simp) dX12_init_393 rfl a_int rfl (by decide) (by decide +kernel) rfl rfl ?_
  refine st_putAF (pc' := 398) (M' := MC_289) dX12_init_395 rfl (show MC_288.1[74]? = some (15, 88) from rfl) c_X12 rfl (show 56 < 88 by decide) rfl rfl rfl f_X12_183 rfl rfl ?_
  refine st_aload_n (pc' := 399) dX12_init_398 rfl rfl (j := 0) rfl ?_
  refine st_sipush (pc' := 402) dX12_init_399 rfl (by decide) ?_
  refine st_newarr (pc' := 404) (N := 132) (q := 113) (M' := MC_290) 0 .int .int (by simp) dX12_init_402 rfl a_int rfl (by decide) (by decide +kernel) rfl rfl ?_
  refine st_putAF (pc' := 407) (M' := MC_291) dX12_init_404 rfl (show MC_290.1[74]? = some (15, 88) from rfl) c_X12 rfl (show 57 < 88 by decide) rfl rfl rfl f_X12_186 rfl rfl ?_
  refine st_aload_n (pc' := 408) dX12_init_407 rfl rfl (j := 0) rfl ?_
  refine st_sipush (pc' := 411) dX12_init_408 rfl (by decide) ?_
  refine st_newarr (pc' := 413) (N := 132) (q := 114) (M' := MC_292) 0 .int .int (by simp) dX12_init_411 rfl a_int rfl (by decide) (by decide +kernel) rfl rfl ?_
  refine st_putAF (pc' := 416) (M' := MC_293) dX12_init_413 rfl (show MC_292.1[74]? = some (15, 88) from rfl) c_X12 rfl (show 58 < 88 by decide) rfl rfl rfl f_X12_189 rfl rfl ?_
  refine st_aload_n (pc' := 417) dX12_init_416 rfl rfl (j := 0) rfl ?_
  refine st_sipush (pc' := 420) dX12_init_417 rfl (by decide) ?_
  refine st_newarr (pc' := 422) (N := 132) (q := 115) (M' := MC_294) 0 .int .int (by simp) dX12_init_420 rfl a_int rfl (by decide) (by decide +kernel) rfl rfl ?_
  refine st_putAF (pc' := 425) (M' := MC_295) dX12_init_422 rfl (show MC_294.1[74]? = some (15, 88) from rfl) c_X12 rfl (show 59 < 88 by decide) rfl rfl rfl f_X12_192 rfl rfl ?_
  refine st_aload_n (pc' := 426) dX12_init_425 rfl rfl (j := 0) rfl ?_
  refine st_sipush (pc' := 429) dX12_init_426 rfl (by decide) ?_
  refine st_newarr (pc' := 431) (N := 1056) (q := 116) (M' := MC_296) 0 .int .int (by simp) dX12_init_429 rfl a_int rfl (by decide) (by decide +kernel) rfl rfl ?_
  refine st_putAF (pc' := 434) (M' := MC_297) dX12_init_431 rfl (show MC_296.1[74]? = some (15, 88) from rfl) c_X12 rfl (show 60 < 88 by decide) rfl rfl rfl f_X12_195 rfl rfl ?_
  refine st_aload_n (pc' := 435) dX12_init_434 rfl rfl (j := 0) rfl ?_
  refine st_bipush (pc' := 437) dX12_init_435 rfl (by decide) ?_
  refine st_newarr (pc' := 439) (N := 22) (q := 117) (M' := MC_298) 0 .int .int (by simp) dX12_init_437 rfl a_int rfl (by decide) (by decide +kernel) rfl rfl ?_
  refine st_putAF (pc' := 442) (M' := MC_299) dX12_init_439 rfl (show MC_298.1[74]? = some (15, 88) from rfl) c_X12 rfl (show 61 < 88 by decide) rfl rfl rfl f_X12_198 rfl rfl ?_
  refine st_aload_n (pc' := 443) dX12_init_442 rfl rfl (j := 0) rfl ?_
  refine st_sipush (pc' := 446) dX12_init_443 rfl (by decide) ?_
  refine st_newarr (pc' := 448) (N := 1320) (q := 118) (M' := MC_300) 0 .int .int (by simp) dX12_init_446 rfl a_int rfl (by decide) (by decide +kernel) rfl rfl ?_
  refine st_putAF (pc' := 451) (M' := MC_301) dX12_init_448 rfl (show MC_300.1[74]? = some (15, 88) from rfl) c_X12 rfl (show 62 < 88 by decide) rfl rfl rfl f_X12_201 rfl rfl ?_
  refine st_aload_n (pc' := 452) dX12_init_451 rfl rfl (j := 0) rfl ?_
  refine st_sipush (pc' := 455) dX12_init_452 rfl (by decide) ?_
  refine st_newarr (pc' := 457) (N := 1320) (q := 119) (M' := MC_302) 0 .int .int (by simp) dX12_init_455 rfl a_int rfl (by decide) (by decide +kernel) rfl rfl ?_
  refine st_putAF (pc' := 460) (M' := MC_303) dX12_init_457 rfl (show MC_302.1[74]? = some (15, 88) from rfl) c_X12 rfl (show 63 < 88 by decide) rfl rfl rfl f_X12_204 rfl rfl ?_
  refine st_aload_n (pc' := 461) dX12_init_460 rfl rfl (j := 0) rfl ?_
  refine st_sipush (pc' := 464) dX12_init_461 rfl (by decide) ?_
  refine st_newarr (pc' := 466) (N := 1320) (q := 120) (M' := MC_304) 0 .int .int (by simp) dX12_init_464 rfl a_int rfl (by decide) (by decide +kernel) rfl rfl ?_
  refine st_putAF (pc' := 469) (M' := MC_305) dX12_init_466 rfl (show MC_304.1[74]? = some (15, 88) from rfl) c_X12 rfl (show 64 < 88 by decide) rfl rfl rfl f_X12_207 rfl rfl ?_
  refine st_aload_n (pc' := 470) dX12_init_469 rfl rfl (j := 0) rfl ?_
  refine st_iconst (pc' := 471) dX12_init_470 rfl ?_
  refine st_putI (pc' := 474) (M' := MC_306) dX12_init_471 rfl (show MC_305.1[74]? = some (15, 88) from rfl) c_X12 rfl (show 65 < 88 by decide) rfl f_X12_210 rfl rfl ?_
  refine st_aload_n (pc' := 475) dX12_init_474 rfl rfl (j := 0) rfl ?_
  refine st_iconst (pc' := 476) dX12_init_475 rfl ?_
  refine st_putI (pc' := 479) (M' := MC_307) dX12_init_476 rfl (show MC_306.1[74]? = some (15, 88) from rfl) c_X12 rfl (show 66 < 88 by decide) rfl f_X12_213 rfl rfl ?_
  refine st_aload_n (pc' := 480) dX12_init_479 rfl rfl (j := 0) rfl ?_
  refine st_lconst (pc' := 481) (z := 1) dX12_init_480 rfl (by decide) ?_
  refine st_putL (pc' := 484) (M' := MC_308) dX12_init_481 rfl (show MC_307.1[74]? = some (15, 88) from rfl) c_X12 rfl (show 67 < 88 by decide) rfl f_X12_216 rfl rfl ?_
  refine st_aload_n (pc' := 485) dX12_init_484 rfl rfl (j := 0) rfl ?_
  refine st_sipush (pc' := 488) dX12_init_485 rfl (by decide) ?_
  refine st_newarr (pc' := 490) (N := 500) (q := 121) (M' := MC_309) 1 .long .long (by simp) dX12_init_488 rfl a_long rfl (by decide) (by decide +kernel) rfl rfl ?_
  refine st_putAF (pc' := 493) (M' := MC_310) dX12_init_490 rfl (show MC_309.1[74]? = some (15, 88) from rfl) c_X12 rfl (show 68 < 88 by decide) rfl rfl rfl f_X12_219 rfl rfl ?_
  refine st_aload_n (pc' := 494) dX12_init_493 rfl rfl (j := 0) rfl ?_
  refine st_iconst (pc' := 495) dX12_init_494 rfl ?_
  refine st_putI (pc' := 498) (M' := MC_311) dX12_init_495 rfl (show MC_310.1[74]? = some (15, 88) from rfl) c_X12 rfl (show 69 < 88 by decide) rfl f_X12_222 rfl rfl ?_
  refine st_aload_n (pc' := 499) dX12_init_498 rfl rfl (j := 0) rfl ?_
  refine st_iconst (pc' := 500) dX12_init_499 rfl ?_
  refine st_putI (pc' := 503) (M' := MC_312) dX12_init_500 rfl (show MC_311.1[74]? = some (15, 88) from rfl) c_X12 rfl (show 70 < 88 by decide) rfl f_X12_225 rfl rfl ?_
  refine st_aload_n (pc' := 504) dX12_init_503 rfl rfl (j := 0) rfl ?_
  refine st_iconst (pc' := 505) dX12_init_504 rfl ?_
  refine st_putI (pc' := 508) (M' := MC_313) dX12_init_505 rfl (show MC_312.1[74]? = some (15, 88) from rfl) c_X12 rfl (show 71 < 88 by decide) rfl f_X12_228 rfl rfl ?_
  refine st_aload_n (pc' := 509) dX12_init_508 rfl rfl (j := 0) rfl ?_
  refine st_iconst (pc' := 510) dX12_init_509 rfl ?_
  refine st_putI (pc' := 513) (M' := MC_314) dX12_init_510 rfl (show MC_313.1[74]? = some (15, 88) from rfl) c_X12 rfl (show 72 < 88 by decide) rfl f_X12_231 rfl rfl ?_
  refine st_aload_n (pc' := 514) dX12_init_513 rfl rfl (j := 0) rfl ?_
  refine st_iconst (pc' := 515) dX12_init_514 rfl ?_
  refine st_putI (pc' := 518) (M' := MC_315) dX12_init_515 rfl (show MC_314.1[74]? = some (15, 88) from rfl) c_X12 rfl (show 73 < 88 by decide) rfl f_X12_234 rfl rfl ?_
  refine st_aload_n (pc' := 519) dX12_init_518 rfl rfl (j := 0) rfl ?_
  refine st_bipush (pc' := 521) dX12_init_519 rfl (by decide) ?_
  refine st_newarr (pc' := 523) (N := 6) (q := 122) (M' := MC_316) 0 .int .int (by simp) dX12_init_521 rfl a_int rfl (by decide) (by decide +kernel) rfl rfl ?_
  refine st_putAF (pc' := 526) (M' := MC_317) dX12_init_523 rfl (show MC_316.1[74]? = some (15, 88) from rfl) c_X12 rfl (show 74 < 88 by decide) rfl rfl rfl f_X12_237 rfl rfl ?_
  refine st_aload_n (pc' := 527) dX12_init_526 rfl rfl (j := 0) rfl ?_
  refine st_bipush (pc' := 529) dX12_init_527 rfl (by decide) ?_
  refine st_newarr (pc' := 531) (N := 6) (q := 123) (M' := MC_318) 0 .int .int (by simp) dX12_init_529 rfl a_int rfl (by decide) (by decide +kernel) rfl rfl ?_
  refine st_putAF (pc' := 534) (M' := MC_319) dX12_init_531 rfl (show MC_318.1[74]? = some (15, 88) from rfl) c_X12 rfl (show 75 < 88 by decide) rfl rfl rfl f_X12_240 rfl rfl ?_
  refine st_aload_n (pc' := 535) dX12_init_534 rfl rfl (j := 0) rfl ?_
  refine st_iconst (pc' := 536) dX12_init_535 rfl ?_
  refine st_newarr (pc' := 538) (N := 5) (q := 124) (M' := MC_320) 0 .int .int (by simp) dX12_init_536 rfl a_int rfl (by decide) (by decide +kernel) rfl rfl ?_
  refine st_putAF (pc' := 541) (M' := MC_321) dX12_init_538 rfl (show MC_320.1[74]? = some (15, 88) from rfl) c_X12 rfl (show 76 < 88 by decide) rfl rfl rfl f_X12_243 rfl rfl ?_
  refine st_aload_n (pc' := 542) dX12_init_541 rfl rfl (j := 0) rfl ?_
  refine st_iconst (pc' := 543) dX12_init_542 rfl ?_
  refine st_putI (pc' := 546) (M' := MC_322) dX12_init_543 rfl (show MC_321.1[74]? = some (15, 88) from rfl) c_X12 rfl (show 77 < 88 by decide) rfl f_X12_246 rfl rfl ?_
  refine st_aload_n (pc' := 547) dX12_init_546 rfl rfl (j := 0) rfl ?_
  refine st_bipush (pc' := 549) dX12_init_547 rfl (by decide) ?_
  refine st_newarr (pc' := 551) (N := 8) (q := 125) (M' := MC_323) 0 .int .int (by simp) dX12_init_549 rfl a_int rfl (by decide) (by decide +kernel) rfl rfl ?_
  refine st_putAF (pc' := 554) (M' := MC_324) dX12_init_551 rfl (show MC_323.1[74]? = some (15, 88) from rfl) c_X12 rfl (show 78 < 88 by decide) rfl rfl rfl f_X12_249 rfl rfl ?_
  refine st_aload_n (pc' := 555) dX12_init_554 rfl rfl (j := 0) rfl ?_
  refine st_sipush (pc' := 558) dX12_init_555 rfl (by decide) ?_
  refine st_newarr (pc' := 560) (N := 768) (q := 126) (M' := MC_325) 0 .int .int (by simp) dX12_init_558 rfl a_int rfl (by decide) (by decide +kernel) rfl rfl ?_
  refine st_putAF (pc' := 563) (M' := MC_326) dX12_init_560 rfl (show MC_325.1[74]? = some (15, 88) from rfl) c_X12 rfl (show 79 < 88 by decide) rfl rfl rfl f_X12_252 rfl rfl ?_
  refine st_aload_n (pc' := 564) dX12_init_563 rfl rfl (j := 0) rfl ?_
  refine st_sipush (pc' := 567) dX12_init_564 rfl (by decide) ?_
  refine st_newarr (pc' := 569) (N := 768) (q := 127) (M' := MC_327) 0 .int .int (by simp) dX12_init_567 rfl a_int rfl (by decide) (by decide +kernel) rfl rfl ?_
  refine st_putAF (pc' := 572) (M' := MC_328) dX12_init_569 rfl (show MC_327.1[74]? = some (15, 88) from rfl) c_X12 rfl (show 80 < 88 by decide) rfl rfl rfl f_X12_255 rfl rfl ?_
  refine st_aload_n (pc' := 573) dX12_init_572 rfl rfl (j := 0) rfl ?_
  refine st_bipush (pc' := 575) dX12_init_573 rfl (by decide) ?_
  refine st_newarr (pc' := 577) (N := 8) (q := 128) (M' := MC_329) 0 .int .int (by simp) dX12_init_575 rfl a_int rfl (by decide) (by decide +kernel) rfl rfl ?_
  refine st_putAF (pc' := 580) (M' := MC_330) dX12_init_577 rfl (show MC_329.1[74]? = some (15, 88) from rfl) c_X12 rfl (show 81 < 88 by decide) rfl rfl rfl f_X12_258 rfl rfl ?_
  refine st_aload_n (pc' := 581) dX12_init_580 rfl rfl (j := 0) rfl ?_
  refine st_iconst (pc' := 582) dX12_init_581 rfl ?_
  refine st_putI (pc' := 585) (M' := MC_331) dX12_init_582 rfl (show MC_330.1[74]? = some (15, 88) from rfl) c_X12 rfl (show 82 < 88 by decide) rfl f_X12_261 rfl rfl ?_
  refine st_aload_n (pc' := 586) dX12_init_585 rfl rfl (j := 0) rfl ?_
  refine st_iconst (pc' := 587) dX12_init_586 rfl ?_
  refine st_putI (pc' := 590) (M' := MC_332) dX12_init_587 rfl (show MC_331.1[74]? = some (15, 88) from rfl) c_X12 rfl (show 83 < 88 by decide) rfl f_X12_264 rfl rfl ?_
  refine st_aload_n (pc' := 591) dX12_init_590 rfl rfl (j := 0) rfl ?_
  refine st_bipush (pc' := 593) dX12_init_591 rfl (by decide) ?_
  refine st_newarr (pc' := 595) (N := 6) (q := 129) (M' := MC_333) 0 .int .int (by simp) dX12_init_593 rfl a_int rfl (by decide) (by decide +kernel) rfl rfl ?_
  refine st_putAF (pc' := 598) (M' := MC_334) dX12_init_595 rfl (show MC_333.1[74]? = some (15, 88) from rfl) c_X12 rfl (show 84 < 88 by decide) rfl rfl rfl f_X12_267 rfl rfl ?_
  refine st_aload_n (pc' := 599) dX12_init_598 rfl rfl (j := 0) rfl ?_
  refine st_bipush (pc' := 601) dX12_init_599 rfl (by decide) ?_
  refine st_newarr (pc' := 603) (N := 14) (q := 130) (M' := MC_335) 0 .int .int (by simp) dX12_init_601 rfl a_int rfl (by decide) (by decide +kernel) rfl rfl ?_
  refine st_putAF (pc' := 606) (M' := MC_336) dX12_init_603 rfl (show MC_335.1[74]? = some (15, 88) from rfl) c_X12 rfl (show 85 < 88 by decide) rfl rfl rfl f_X12_270 rfl rfl ?_
  refine st_aload_n (pc' := 607) dX12_init_606 rfl rfl (j := 0) rfl ?_
  refine st_bipush (pc' := 609) dX12_init_607 rfl (by decide) ?_
  refine st_newarr (pc' := 611) (N := 110) (q := 131) (M' := MC_337) 0 .int .int (by simp) dX12_init_609 rfl a_int rfl (by decide) (by decide +kernel) rfl rfl ?_
  refine st_putAF (pc' := 614) (M' := MC_338) dX12_init_611 rfl (show MC_337.1[74]? = some (15, 88) from rfl) c_X12 rfl (show 86 < 88 by decide) rfl rfl rfl f_X12_273 rfl rfl ?_
  refine st_aload_n (pc' := 615) dX12_init_614 rfl rfl (j := 0) rfl ?_
  refine st_iconst (pc' := 616) dX12_init_615 rfl ?_
  refine st_putI (pc' := 619) (M' := MC_339) dX12_init_616 rfl (show MC_338.1[74]? = some (15, 88) from rfl) c_X12 rfl (show 87 < 88 by decide) rfl f_X12_276 rfl rfl ?_
  refine st_aload_n (pc' := 620) dX12_init_619 rfl rfl (j := 0) rfl ?_
  refine st_getR (pc' := 623) (r := some 88) dX12_init_620 rfl (show MC_339.1[74]? = some (15, 88) from rfl) c_X12 rfl (show 26 < 88 by decide) f_X12_90 (fun _ => rfl) rfl ?_
  refine st_iconst (pc' := 624) dX12_init_623 rfl ?_
  refine st_bipush (pc' := 626) dX12_init_624 rfl (by decide) ?_
  refine st_iastore (pc' := 627) (M' := MC_340) dX12_init_626 rfl (show MC_339.1[88]? = some (0, 2) from rfl) (by decide) (by decide) rfl ?_
  refine st_aload_n (pc' := 628) dX12_init_627 rfl rfl (j := 0) rfl ?_
  refine st_getR (pc' := 631) (r := some 89) dX12_init_628 rfl (show MC_340.1[74]? = some (15, 88) from rfl) c_X12 rfl (show 27 < 88 by decide) f_X12_93 (fun _ => rfl) rfl ?_
  refine st_iconst (pc' := 632) dX12_init_631 rfl ?_
  refine st_iconst (pc' := 633) dX12_init_632 rfl ?_
  refine st_iastore (pc' := 634) (M' := MC_341) dX12_init_633 rfl (show MC_340.1[89]? = some (0, 2) from rfl) (by decide) (by decide) rfl ?_
  refine st_aload_n (pc' := 635) dX12_init_634 rfl rfl (j := 0) rfl ?_
  refine st_getR (pc' := 638) (r := some 91) dX12_init_635 rfl (show MC_341.1[74]? = some (15, 88) from rfl) c_X12 rfl (show 29 < 88 by decide) f_X12_99 (fun _ => rfl) rfl ?_
  refine st_iconst (pc' := 639) dX12_init_638 rfl ?_
  refine st_iconst (pc' := 640) dX12_init_639 rfl ?_
  refine st_iastore (pc' := 641) (M' := MC_342) dX12_init_640 rfl (show MC_341.1[91]? = some (0, 2) from rfl) (by decide) (by decide) rfl ?_
  refine st_aload_n (pc' := 642) dX12_init_641 rfl rfl (j := 0) rfl ?_
  refine st_getR (pc' := 645) (r := some 93) dX12_init_642 rfl (show MC_342.1[74]? = some (15, 88) from rfl) c_X12 rfl (show 31 < 88 by decide) f_X12_105 (fun _ => rfl) rfl ?_
  refine st_iconst (pc' := 646) dX12_init_645 rfl ?_
  refine st_iconst (pc' := 647) dX12_init_646 rfl ?_
  refine st_iastore (pc' := 648) (M' := MC_343) dX12_init_647 rfl (show MC_342.1[93]? = some (0, 2) from rfl) (by decide) (by decide) rfl ?_
  exact st_vret dX12_init_648 rfl rfl h
-- start of the first constructor MC_1, its end MC_193; of the second MC_194, its end MC_343
end INITS
