section WX11
set_option maxRecDepth 20000 in
set_option maxHeartbeats 4000000 in
theorem B_X11_burns_0 {k : Nat} {P : Option Nat} {I : Nat → Nat → Int32} {J : Nat → Nat → Int64} {x1 : Int} {Q : Option AV → Mem → Prop} (hk : 1 ≤ k) (h : inR x1 ∧ (((0 ≤ x1 ∧ x1 < gi I 6 (2 : Int).toNat) → (WPm (k - 1) LAY m_X9_setNow [vR (some 36), vI x1] (mem (P, some 5, some 22) I J) (retV (fun I3 J4 => WPm (k - 1) LAY m_X9_inchMinutes [vR (some 36)] (mem (P, some 5, some 22) I3 J4) (retI (fun v5 I6 J7 => Q (some (vI v5)) (mem (P, some 5, some 22) I6 J7)) (P, some 5, some 22))) (P, some 5, some 22)))) ∧ (¬ (0 ≤ x1 ∧ x1 < gi I 6 (2 : Int).toNat) → (Q (some (vI (-1))) (mem (P, some 5, some 22) I J))))) : WP k LAY m_X11_burns 0 [(0, vR (some 0)), (1, vI x1)] [] (mem (P, some 5, some 22) I J) Q := by
  refine st_aload_n (pc' := 1) dX11_burns_0 rfl rfl (j := 0) rfl ?_
  refine G_X11_33_0 dX11_burns_1 (pc' := 4) rfl rfl ?_
  refine G_X11_121_4 dX11_burns_4 (pc' := 7) rfl rfl ?_
  refine st_iconst (pc' := 8) dX11_burns_7 rfl ?_
  refine st_iload_n (pc' := 9) dX11_burns_8 rfl rfl (j := 1) rfl ?_
  obtain ⟨e1, h⟩ := h
  refine st_callV (pc' := 12) (kc := k - 1) (E' := LAY) (cal := m_X7_holds) (n := 2) (as := [vI 2, vI x1]) (S := []) dX11_burns_9 rfl l_X11_155 k_X7_holds rfl L_5 c_X7 rfl rfl (Nat.le_of_ble_eq_true rfl) (by omega) ⟨Nat.le_refl _, Nat.le_refl _, Nat.le_refl _, Nat.le_refl _⟩ (Q1 := fun r M' => WP k LAY m_X11_burns 12 [(0, vR (some 0)), (1, vI x1)] (r.toList ++ []) M' Q) (S_X7_holds_5 (by omega) (by decide) e1 ?_) (fun r M' q => q)
  change WP _ LAY m_X11_burns 12 [(0, vR (some 0)), (1, vI x1)] [vI (b2i (0 ≤ x1 ∧ x1 < gi I 6 (2 : Int).toNat))] (mem (P, some 5, some 22) I J) Q
  refine st_if_ne (tg := 17) (pc' := 15) dX11_burns_12 (by decide) rfl (b2i_in _) (fun c => ?_) (fun c => ?_)
  · replace h := h.1 (b2i_t.mp c)
    refine st_aload_n (pc' := 18) dX11_burns_17 rfl rfl (j := 0) rfl ?_
    refine G_X11_46_0 dX11_burns_18 (pc' := 21) rfl rfl ?_
    refine st_iload_n (pc' := 22) dX11_burns_21 rfl rfl (j := 1) rfl ?_
    refine st_callV (pc' := 25) (kc := k - 1) (E' := LAY) (cal := m_X9_setNow) (n := 1) (as := [vI x1]) (S := []) dX11_burns_22 rfl l_X11_205 k_X9_setNow rfl L_36 c_X9 rfl rfl (Nat.le_of_ble_eq_true rfl) (by omega) ⟨Nat.le_refl _, Nat.le_refl _, Nat.le_refl _, Nat.le_refl _⟩ h (fun r M' q => ?_)
    obtain ⟨I3, J4, rfl, rfl, h⟩ := q
    change WP _ LAY m_X11_burns 25 [(0, vR (some 0)), (1, vI x1)] [] (mem (P, some 5, some 22) I3 J4) Q
    refine st_aload_n (pc' := 26) dX11_burns_25 rfl rfl (j := 0) rfl ?_
    refine G_X11_46_0 dX11_burns_26 (pc' := 29) rfl rfl ?_
    refine st_callV (pc' := 32) (kc := k - 1) (E' := LAY) (cal := m_X9_inchMinutes) (n := 0) (as := []) (S := []) dX11_burns_29 rfl l_X11_211 k_X9_inchMinutes rfl L_36 c_X9 rfl rfl (Nat.le_of_ble_eq_true rfl) (by omega) ⟨Nat.le_refl _, Nat.le_refl _, Nat.le_refl _, Nat.le_refl _⟩ h (fun r M' q => ?_)
    obtain ⟨v5, I6, J7, rfl, rfl, h⟩ := q
    change WP _ LAY m_X11_burns 32 [(0, vR (some 0)), (1, vI x1)] [vI v5] (mem (P, some 5, some 22) I6 J7) Q
    exact st_iret (ty := .int) dX11_burns_32 rfl rfl rfl h
  · replace h := h.2 (b2i_f.mp c)
    refine st_iconst (pc' := 16) dX11_burns_15 rfl ?_
    exact st_iret (ty := .int) dX11_burns_16 rfl rfl rfl h
set_option maxRecDepth 20000 in
set_option maxHeartbeats 4000000 in
theorem B_X11_deny_0 {k : Nat} {P : Option Nat} {I : Nat → Nat → Int32} {J : Nat → Nat → Int64} {x1 : Int} {Q : Option AV → Mem → Prop} (hk : 0 ≤ k) (h : (0 ≤ x1 ∧ x1 < 6) ∧ (Q (some (vI 0)) (mem (P, some 5, some 22) (si I 73 (x1).toNat ((gi I 73 (x1).toNat) + 1)) J))) : WP k LAY m_X11_deny 0 [(0, vR (some 0)), (1, vI x1)] [] (mem (P, some 5, some 22) I J) Q := by
  refine st_aload_n (pc' := 1) dX11_deny_0 rfl rfl (j := 0) rfl ?_
  refine G_X11_94_0 dX11_deny_1 (pc' := 4) rfl rfl ?_
  refine st_iload_n (pc' := 5) dX11_deny_4 rfl rfl (j := 1) rfl ?_
  refine st_dup2 (pc' := 6) dX11_deny_5 rfl rfl rfl ?_
  obtain ⟨e1, h⟩ := h
  refine st_iaload (pc' := 7) (v := (gi I 73 (x1).toNat)) dX11_deny_6 rfl L_73 (by decide) e1 (show gi I 73 (x1).toNat = (gi I 73 (x1).toNat) from rfl) ?_
  refine st_iconst (pc' := 8) dX11_deny_7 rfl ?_
  refine st_iadd (pc' := 9) dX11_deny_8 rfl ?_
  refine st_iastore (pc' := 10) (M' := (mem (P, some 5, some 22) (si I 73 (x1).toNat ((gi I 73 (x1).toNat) + 1)) J)) dX11_deny_9 rfl L_73 (by decide) e1 rfl ?_
  refine st_iconst (pc' := 11) dX11_deny_10 rfl ?_
  exact st_iret (ty := .boolean) dX11_deny_11 rfl (by decide) rfl h
set_option maxRecDepth 20000 in
set_option maxHeartbeats 4000000 in
theorem B_X11_drawOf_0 {k : Nat} {P : Option Nat} {I : Nat → Nat → Int32} {J : Nat → Nat → Int64} {x1 : Int} {Q : Option AV → Mem → Prop} (hk : 0 ≤ k) (h : inR x1 ∧ ((x1 ≤ 0 → (Q (some (vI 0)) (mem (P, some 5, some 22) (si I 0 11 (and32 ((1103515245 * (gi I 0 11)) + 12345) 2147483647)) J))) ∧ (¬ x1 ≤ 0 → (¬ x1 = 0 ∧ (Q (some (vI (rem32 (div32 (and32 ((1103515245 * (gi I 0 11)) + 12345) 2147483647) 64) x1))) (mem (P, some 5, some 22) (si I 0 11 (and32 ((1103515245 * (gi I 0 11)) + 12345) 2147483647)) J)))))) : WP k LAY m_X11_drawOf 0 [(0, vR (some 0)), (1, vI x1)] [] (mem (P, some 5, some 22) I J) Q := by
  refine st_aload_n (pc' := 1) dX11_drawOf_0 rfl rfl (j := 0) rfl ?_
  refine st_ldc_w (pc' := 4) (z := 1103515245) dX11_drawOf_1 rfl q_X11_372 (by decide) ?_
  refine st_aload_n (pc' := 5) dX11_drawOf_4 rfl rfl (j := 0) rfl ?_
  refine G_X11_98_0 dX11_drawOf_5 (pc' := 8) rfl rfl ?_
  refine st_imul (pc' := 9) dX11_drawOf_8 rfl ?_
  refine st_sipush (pc' := 12) dX11_drawOf_9 rfl (by decide) ?_
  refine st_iadd (pc' := 13) dX11_drawOf_12 rfl ?_
  refine st_ldc_w (pc' := 16) (z := 2147483647) dX11_drawOf_13 rfl q_X11_373 (by decide) ?_
  refine st_iand (pc' := 17) (z := (and32 ((1103515245 * (gi I 0 11)) + 12345) 2147483647)) dX11_drawOf_16 rfl rfl ?_
  refine P_X11_98_0 dX11_drawOf_17 (pc' := 20) rfl rfl ?_
  refine st_iload_n (pc' := 21) dX11_drawOf_20 rfl rfl (j := 1) rfl ?_
  obtain ⟨e1, h⟩ := h
  refine st_if_le (tg := 36) (pc' := 24) dX11_drawOf_21 (by decide) rfl e1 (fun c => ?_) (fun c => ?_)
  · replace h := h.1 c
    refine st_iconst (pc' := 37) dX11_drawOf_36 rfl ?_
    exact st_iret (ty := .int) dX11_drawOf_37 rfl rfl rfl h
  · replace h := h.2 c
    refine st_aload_n (pc' := 25) dX11_drawOf_24 rfl rfl (j := 0) rfl ?_
    refine G_X11_98_0 dX11_drawOf_25 (pc' := 28) rfl rfl ?_
    rw [show gi (si I 0 11 (and32 ((1103515245 * (gi I 0 11)) + 12345) 2147483647)) 0 11 = (and32 ((1103515245 * (gi I 0 11)) + 12345) 2147483647) from (gi_same _ _ _ (and32_in _ _))]
    refine st_bipush (pc' := 30) dX11_drawOf_28 rfl (by decide) ?_
    refine st_idiv (pc' := 31) (z := (div32 (and32 ((1103515245 * (gi I 0 11)) + 12345) 2147483647) 64)) dX11_drawOf_30 rfl (by decide) rfl ?_
    refine st_iload_n (pc' := 32) dX11_drawOf_31 rfl rfl (j := 1) rfl ?_
    obtain ⟨e2, h⟩ := h
    refine st_irem (pc' := 33) (z := (rem32 (div32 (and32 ((1103515245 * (gi I 0 11)) + 12345) 2147483647) 64) x1)) dX11_drawOf_32 rfl (fun q => e2 ((z_eq e1).mp q)) rfl ?_
    refine st_goto (pc' := 37) dX11_drawOf_33 (by decide) ?_
    exact st_iret (ty := .int) dX11_drawOf_37 rfl rfl rfl h
set_option maxRecDepth 20000 in
set_option maxHeartbeats 4000000 in
theorem B_X11_refuse_0 {k : Nat} {P : Option Nat} {I : Nat → Nat → Int32} {J : Nat → Nat → Int64} {x1 : Int} {Q : Option AV → Mem → Prop} (hk : 0 ≤ k) (h : (0 ≤ x1 ∧ x1 < 6) ∧ (Q (some (vI (-1))) (mem (P, some 5, some 22) (si I 73 (x1).toNat ((gi I 73 (x1).toNat) + 1)) J))) : WP k LAY m_X11_refuse 0 [(0, vR (some 0)), (1, vI x1)] [] (mem (P, some 5, some 22) I J) Q := by
  refine st_aload_n (pc' := 1) dX11_refuse_0 rfl rfl (j := 0) rfl ?_
  refine G_X11_94_0 dX11_refuse_1 (pc' := 4) rfl rfl ?_
  refine st_iload_n (pc' := 5) dX11_refuse_4 rfl rfl (j := 1) rfl ?_
  refine st_dup2 (pc' := 6) dX11_refuse_5 rfl rfl rfl ?_
  obtain ⟨e1, h⟩ := h
  refine st_iaload (pc' := 7) (v := (gi I 73 (x1).toNat)) dX11_refuse_6 rfl L_73 (by decide) e1 (show gi I 73 (x1).toNat = (gi I 73 (x1).toNat) from rfl) ?_
  refine st_iconst (pc' := 8) dX11_refuse_7 rfl ?_
  refine st_iadd (pc' := 9) dX11_refuse_8 rfl ?_
  refine st_iastore (pc' := 10) (M' := (mem (P, some 5, some 22) (si I 73 (x1).toNat ((gi I 73 (x1).toNat) + 1)) J)) dX11_refuse_9 rfl L_73 (by decide) e1 rfl ?_
  refine st_iconst (pc' := 11) dX11_refuse_10 rfl ?_
  exact st_iret (ty := .int) dX11_refuse_11 rfl rfl rfl h
set_option maxRecDepth 20000 in
set_option maxHeartbeats 4000000 in
theorem B_X11_drop_0 {k : Nat} {P : Option Nat} {I : Nat → Nat → Int32} {J : Nat → Nat → Int64} {x1 : Int} {Q : Option AV → Mem → Prop} (hk : 2 ≤ k) (h : inR x1 ∧ (((0 ≤ x1 ∧ x1 < gi I 6 (2 : Int).toNat) → (((0 : Int) ≤ ((gi I 4 4) * 87) ∧ ((gi I 4 4) * 87) + 87 ≤ 1740) ∧ (inR ((gi I 4 5) + 1) ∧ ((0 ≤ ((3 + (x1 * 14)) + 5) ∧ ((3 + (x1 * 14)) + 5) < 87) ∧ (∀ y5 : Int, y5 = (gi (si (si (si (fc I 19 0 21 ((gi I 4 4) * 87).toNat 87) 4 4 (rem32 ((gi I 4 4) + 1) 20)) 4 5 (min 20 ((gi I 4 5) + 1))) 4 6 ((gi I 4 6) + 1)) 19 ((3 + (x1 * 14)) + 5).toNat) → ((0 ≤ ((3 + (x1 * 14)) + 3) ∧ ((3 + (x1 * 14)) + 3) < 87) ∧ ((0 ≤ ((3 + (x1 * 14)) + 4) ∧ ((3 + (x1 * 14)) + 4) < 87) ∧ (Q (some (vI y5)) (mem (P, some 5, some 22) (si (si (si (si (si (si (fc I 19 0 21 ((gi I 4 4) * 87).toNat 87) 4 4 (rem32 ((gi I 4 4) + 1) 20)) 4 5 (min 20 ((gi I 4 5) + 1))) 4 6 ((gi I 4 6) + 1)) 19 ((3 + (x1 * 14)) + 5).toNat 0) 19 ((3 + (x1 * 14)) + 3).toNat (-1)) 19 ((3 + (x1 * 14)) + 4).toNat 0) J))))))))) ∧ (¬ (0 ≤ x1 ∧ x1 < gi I 6 (2 : Int).toNat) → (Q (some (vI (-1))) (mem (P, some 5, some 22) (si I 73 2 ((gi I 73 2) + 1)) J))))) : WP k LAY m_X11_drop 0 [(0, vR (some 0)), (1, vI x1)] [] (mem (P, some 5, some 22) I J) Q := by
  refine st_aload_n (pc' := 1) dX11_drop_0 rfl rfl (j := 0) rfl ?_
  refine G_X11_33_0 dX11_drop_1 (pc' := 4) rfl rfl ?_
  refine G_X11_121_4 dX11_drop_4 (pc' := 7) rfl rfl ?_
  refine st_iconst (pc' := 8) dX11_drop_7 rfl ?_
  refine st_iload_n (pc' := 9) dX11_drop_8 rfl rfl (j := 1) rfl ?_
  obtain ⟨e1, h⟩ := h
  refine st_callV (pc' := 12) (kc := k - 1) (E' := LAY) (cal := m_X7_holds) (n := 2) (as := [vI 2, vI x1]) (S := []) dX11_drop_9 rfl l_X11_155 k_X7_holds rfl L_5 c_X7 rfl rfl (Nat.le_of_ble_eq_true rfl) (by omega) ⟨Nat.le_refl _, Nat.le_refl _, Nat.le_refl _, Nat.le_refl _⟩ (Q1 := fun r M' => WP k LAY m_X11_drop 12 [(0, vR (some 0)), (1, vI x1)] (r.toList ++ []) M' Q) (S_X7_holds_5 (by omega) (by decide) e1 ?_) (fun r M' q => q)
  change WP _ LAY m_X11_drop 12 [(0, vR (some 0)), (1, vI x1)] [vI (b2i (0 ≤ x1 ∧ x1 < gi I 6 (2 : Int).toNat))] (mem (P, some 5, some 22) I J) Q
  refine st_if_ne (tg := 21) (pc' := 15) dX11_drop_12 (by decide) rfl (b2i_in _) (fun c => ?_) (fun c => ?_)
  · replace h := h.1 (b2i_t.mp c)
    refine st_aload_n (pc' := 22) dX11_drop_21 rfl rfl (j := 0) rfl ?_
    refine G_X11_33_0 dX11_drop_22 (pc' := 25) rfl rfl ?_
    refine st_callV (pc' := 28) (kc := k - 1) (E' := LAY) (cal := m_X2_remember) (n := 0) (as := []) (S := []) dX11_drop_25 rfl l_X11_242 k_X2_remember rfl L_4 c_X2 rfl rfl (Nat.le_of_ble_eq_true rfl) (by omega) ⟨Nat.le_refl _, Nat.le_refl _, Nat.le_refl _, Nat.le_refl _⟩ (Q1 := fun r M' => WP k LAY m_X11_drop 28 [(0, vR (some 0)), (1, vI x1)] (r.toList ++ []) M' Q) (WPm.of k_X2_remember.1 (Nat.le_of_ble_eq_true rfl) (B_X2_remember_0 (by omega) ?_)) (fun r M' q => q)
    obtain ⟨e2, h⟩ := h
    refine ⟨e2, ?_⟩
    obtain ⟨e3, h⟩ := h
    refine ⟨e3, ?_⟩
    change WP _ LAY m_X11_drop 28 [(0, vR (some 0)), (1, vI x1)] [] (mem (P, some 5, some 22) (si (si (si (fc I 19 0 21 ((gi I 4 4) * 87).toNat 87) 4 4 (rem32 ((gi I 4 4) + 1) 20)) 4 5 (min 20 ((gi I 4 5) + 1))) 4 6 ((gi I 4 6) + 1)) J) Q
    refine st_aload_n (pc' := 29) dX11_drop_28 rfl rfl (j := 0) rfl ?_
    refine G_X11_33_0 dX11_drop_29 (pc' := 32) rfl rfl ?_
    refine st_iload_n (pc' := 33) dX11_drop_32 rfl rfl (j := 1) rfl ?_
    refine st_iconst (pc' := 34) dX11_drop_33 rfl ?_
    refine st_callV (pc' := 37) (kc := k - 1) (E' := LAY) (cal := m_X2_of) (n := 2) (as := [vI x1, vI 5]) (S := []) dX11_drop_34 rfl l_X11_183 k_X2_of rfl L_4 c_X2 rfl rfl (Nat.le_of_ble_eq_true rfl) (by omega) ⟨Nat.le_refl _, Nat.le_refl _, Nat.le_refl _, Nat.le_refl _⟩ (Q1 := fun r M' => WP k LAY m_X11_drop 37 [(0, vR (some 0)), (1, vI x1)] (r.toList ++ []) M' Q) (WPm.of k_X2_of.1 (Nat.le_of_ble_eq_true rfl) (B_X2_of_0 (by omega) ?_)) (fun r M' q => q)
    obtain ⟨e4, h⟩ := h
    refine ⟨e4, ?_⟩
    change WP _ LAY m_X11_drop 37 [(0, vR (some 0)), (1, vI x1)] [vI (gi (si (si (si (fc I 19 0 21 ((gi I 4 4) * 87).toNat 87) 4 4 (rem32 ((gi I 4 4) + 1) 20)) 4 5 (min 20 ((gi I 4 5) + 1))) 4 6 ((gi I 4 6) + 1)) 19 ((3 + (x1 * 14)) + 5).toNat)] (mem (P, some 5, some 22) (si (si (si (fc I 19 0 21 ((gi I 4 4) * 87).toNat 87) 4 4 (rem32 ((gi I 4 4) + 1) 20)) 4 5 (min 20 ((gi I 4 5) + 1))) 4 6 ((gi I 4 6) + 1)) J) Q
    obtain ⟨y5, hy5⟩ : ∃ y : Int, y = (gi (si (si (si (fc I 19 0 21 ((gi I 4 4) * 87).toNat 87) 4 4 (rem32 ((gi I 4 4) + 1) 20)) 4 5 (min 20 ((gi I 4 5) + 1))) 4 6 ((gi I 4 6) + 1)) 19 ((3 + (x1 * 14)) + 5).toNat) := ⟨_, rfl⟩
    rw [← hy5]
    replace h := h y5 hy5
    refine st_istore_n (pc' := 38) (L' := [(2, vI y5), (0, vR (some 0)), (1, vI x1)]) dX11_drop_37 rfl rfl (by decide) rfl ?_
    refine st_aload_n (pc' := 39) dX11_drop_38 rfl rfl (j := 1) rfl ?_
    refine G_X11_33_0 dX11_drop_39 (pc' := 42) rfl rfl ?_
    refine st_iload_n (pc' := 43) dX11_drop_42 rfl rfl (j := 2) rfl ?_
    refine st_iconst (pc' := 44) dX11_drop_43 rfl ?_
    refine st_iconst (pc' := 45) dX11_drop_44 rfl ?_
    refine st_callV (pc' := 48) (kc := k - 1) (E' := LAY) (cal := m_X2_set) (n := 3) (as := [vI x1, vI 5, vI 0]) (S := []) dX11_drop_45 rfl l_X11_245 k_X2_set rfl L_4 c_X2 rfl rfl (Nat.le_of_ble_eq_true rfl) (by omega) ⟨Nat.le_refl _, Nat.le_refl _, Nat.le_refl _, Nat.le_refl _⟩ (Q1 := fun r M' => WP k LAY m_X11_drop 48 [(2, vI y5), (0, vR (some 0)), (1, vI x1)] (r.toList ++ []) M' Q) (WPm.of k_X2_set.1 (Nat.le_of_ble_eq_true rfl) (B_X2_set_0 (by omega) ?_)) (fun r M' q => q)
    refine ⟨e4, ?_⟩
    change WP _ LAY m_X11_drop 48 [(2, vI y5), (0, vR (some 0)), (1, vI x1)] [] (mem (P, some 5, some 22) (si (si (si (si (fc I 19 0 21 ((gi I 4 4) * 87).toNat 87) 4 4 (rem32 ((gi I 4 4) + 1) 20)) 4 5 (min 20 ((gi I 4 5) + 1))) 4 6 ((gi I 4 6) + 1)) 19 ((3 + (x1 * 14)) + 5).toNat 0) J) Q
    refine st_aload_n (pc' := 49) dX11_drop_48 rfl rfl (j := 1) rfl ?_
    refine G_X11_33_0 dX11_drop_49 (pc' := 52) rfl rfl ?_
    refine st_iload_n (pc' := 53) dX11_drop_52 rfl rfl (j := 2) rfl ?_
    refine st_iconst (pc' := 54) dX11_drop_53 rfl ?_
    refine st_iconst (pc' := 55) dX11_drop_54 rfl ?_
    refine st_callV (pc' := 58) (kc := k - 1) (E' := LAY) (cal := m_X2_set) (n := 3) (as := [vI x1, vI 3, vI (-1)]) (S := []) dX11_drop_55 rfl l_X11_245 k_X2_set rfl L_4 c_X2 rfl rfl (Nat.le_of_ble_eq_true rfl) (by omega) ⟨Nat.le_refl _, Nat.le_refl _, Nat.le_refl _, Nat.le_refl _⟩ (Q1 := fun r M' => WP k LAY m_X11_drop 58 [(2, vI y5), (0, vR (some 0)), (1, vI x1)] (r.toList ++ []) M' Q) (WPm.of k_X2_set.1 (Nat.le_of_ble_eq_true rfl) (B_X2_set_0 (by omega) ?_)) (fun r M' q => q)
    obtain ⟨e6, h⟩ := h
    refine ⟨e6, ?_⟩
    change WP _ LAY m_X11_drop 58 [(2, vI y5), (0, vR (some 0)), (1, vI x1)] [] (mem (P, some 5, some 22) (si (si (si (si (si (fc I 19 0 21 ((gi I 4 4) * 87).toNat 87) 4 4 (rem32 ((gi I 4 4) + 1) 20)) 4 5 (min 20 ((gi I 4 5) + 1))) 4 6 ((gi I 4 6) + 1)) 19 ((3 + (x1 * 14)) + 5).toNat 0) 19 ((3 + (x1 * 14)) + 3).toNat (-1)) J) Q
    refine st_aload_n (pc' := 59) dX11_drop_58 rfl rfl (j := 1) rfl ?_
    refine G_X11_33_0 dX11_drop_59 (pc' := 62) rfl rfl ?_
    refine st_iload_n (pc' := 63) dX11_drop_62 rfl rfl (j := 2) rfl ?_
    refine st_iconst (pc' := 64) dX11_drop_63 rfl ?_
    refine st_iconst (pc' := 65) dX11_drop_64 rfl ?_
    refine st_callV (pc' := 68) (kc := k - 1) (E' := LAY) (cal := m_X2_set) (n := 3) (as := [vI x1, vI 4, vI 0]) (S := []) dX11_drop_65 rfl l_X11_245 k_X2_set rfl L_4 c_X2 rfl rfl (Nat.le_of_ble_eq_true rfl) (by omega) ⟨Nat.le_refl _, Nat.le_refl _, Nat.le_refl _, Nat.le_refl _⟩ (Q1 := fun r M' => WP k LAY m_X11_drop 68 [(2, vI y5), (0, vR (some 0)), (1, vI x1)] (r.toList ++ []) M' Q) (WPm.of k_X2_set.1 (Nat.le_of_ble_eq_true rfl) (B_X2_set_0 (by omega) ?_)) (fun r M' q => q)
    obtain ⟨e7, h⟩ := h
    refine ⟨e7, ?_⟩
    change WP _ LAY m_X11_drop 68 [(2, vI y5), (0, vR (some 0)), (1, vI x1)] [] (mem (P, some 5, some 22) (si (si (si (si (si (si (fc I 19 0 21 ((gi I 4 4) * 87).toNat 87) 4 4 (rem32 ((gi I 4 4) + 1) 20)) 4 5 (min 20 ((gi I 4 5) + 1))) 4 6 ((gi I 4 6) + 1)) 19 ((3 + (x1 * 14)) + 5).toNat 0) 19 ((3 + (x1 * 14)) + 3).toNat (-1)) 19 ((3 + (x1 * 14)) + 4).toNat 0) J) Q
    refine st_iload_n (pc' := 69) dX11_drop_68 rfl rfl (j := 0) rfl ?_
    exact st_iret (ty := .int) dX11_drop_69 rfl rfl rfl h
  · replace h := h.2 (b2i_f.mp c)
    refine st_aload_n (pc' := 16) dX11_drop_15 rfl rfl (j := 0) rfl ?_
    refine st_iconst (pc' := 17) dX11_drop_16 rfl ?_
    refine st_callV (pc' := 20) (kc := k - 1) (E' := LAY) (cal := m_X11_refuse) (n := 1) (as := [vI 2]) (S := []) dX11_drop_17 rfl l_X11_105 k_X11_refuse rfl L_0 c_X11 rfl rfl (Nat.le_of_ble_eq_true rfl) (by omega) ⟨Nat.le_refl _, Nat.le_refl _, Nat.le_refl _, Nat.le_refl _⟩ (Q1 := fun r M' => WP k LAY m_X11_drop 20 [(0, vR (some 0)), (1, vI x1)] (r.toList ++ []) M' Q) (WPm.of k_X11_refuse.1 (Nat.le_of_ble_eq_true rfl) (B_X11_refuse_0 (by omega) ?_)) (fun r M' q => q)
    refine ⟨by decide, ?_⟩
    change WP _ LAY m_X11_drop 20 [(0, vR (some 0)), (1, vI x1)] [vI (-1)] (mem (P, some 5, some 22) (si I 73 2 ((gi I 73 2) + 1)) J) Q
    exact st_iret (ty := .int) dX11_drop_20 rfl rfl rfl h
set_option maxRecDepth 20000 in
set_option maxHeartbeats 4000000 in
theorem B_X11_end_0 {k : Nat} {P : Option Nat} {I : Nat → Nat → Int32} {J : Nat → Nat → Int64} {x1 : Int} {Q : Option AV → Mem → Prop} (hk : 1 ≤ k) (h : inR x1 ∧ ((x1 < 0 → (Q (some (vI 0)) (mem (P, some 5, some 22) (si I 73 0 ((gi I 73 0) + 1)) J))) ∧ (¬ x1 < 0 → ((x1 ≤ (gi I 1 1) → (Q (some (vI 1)) (mem (P, some 5, some 22) (si I 1 1 x1) J))) ∧ (¬ x1 ≤ (gi I 1 1) → (Q (some (vI 0)) (mem (P, some 5, some 22) (si I 73 0 ((gi I 73 0) + 1)) J))))))) : WP k LAY m_X11_end 0 [(0, vR (some 0)), (1, vI x1)] [] (mem (P, some 5, some 22) I J) Q := by
  refine st_iload_n (pc' := 1) dX11_end_0 rfl rfl (j := 1) rfl ?_
  obtain ⟨e1, h⟩ := h
  refine st_if_lt (tg := 15) (pc' := 4) dX11_end_1 (by decide) rfl e1 (fun c => ?_) (fun c => ?_)
  · replace h := h.1 c
    refine st_aload_n (pc' := 16) dX11_end_15 rfl rfl (j := 0) rfl ?_
    refine st_iconst (pc' := 17) dX11_end_16 rfl ?_
    refine st_callV (pc' := 20) (kc := k - 1) (E' := LAY) (cal := m_X11_deny) (n := 1) (as := [vI 0]) (S := []) dX11_end_17 rfl l_X11_113 k_X11_deny rfl L_0 c_X11 rfl rfl (Nat.le_of_ble_eq_true rfl) (by omega) ⟨Nat.le_refl _, Nat.le_refl _, Nat.le_refl _, Nat.le_refl _⟩ (Q1 := fun r M' => WP k LAY m_X11_end 20 [(0, vR (some 0)), (1, vI x1)] (r.toList ++ []) M' Q) (WPm.of k_X11_deny.1 (Nat.le_of_ble_eq_true rfl) (B_X11_deny_0 (by omega) ?_)) (fun r M' q => q)
    refine ⟨by decide, ?_⟩
    change WP _ LAY m_X11_end 20 [(0, vR (some 0)), (1, vI x1)] [vI 0] (mem (P, some 5, some 22) (si I 73 0 ((gi I 73 0) + 1)) J) Q
    exact st_iret (ty := .boolean) dX11_end_20 rfl (by decide) rfl h
  · replace h := h.2 c
    refine st_iload_n (pc' := 5) dX11_end_4 rfl rfl (j := 1) rfl ?_
    refine st_aload_n (pc' := 6) dX11_end_5 rfl rfl (j := 0) rfl ?_
    refine G_X11_10_0 dX11_end_6 (pc' := 9) rfl rfl ?_
    refine G_X11_102_1 dX11_end_9 (pc' := 12) rfl rfl ?_
    refine st_icmp_le (tg := 21) (pc' := 15) dX11_end_12 (by decide) rfl e1 (gi_in _ _ _) (fun c => ?_) (fun c => ?_)
    · replace h := h.1 c
      refine st_aload_n (pc' := 22) dX11_end_21 rfl rfl (j := 0) rfl ?_
      refine G_X11_10_0 dX11_end_22 (pc' := 25) rfl rfl ?_
      refine st_iload_n (pc' := 26) dX11_end_25 rfl rfl (j := 1) rfl ?_
      refine P_X11_102_1 dX11_end_26 (pc' := 29) rfl rfl ?_
      refine st_iconst (pc' := 30) dX11_end_29 rfl ?_
      exact st_iret (ty := .boolean) dX11_end_30 rfl (by decide) rfl h
    · replace h := h.2 c
      refine st_aload_n (pc' := 16) dX11_end_15 rfl rfl (j := 0) rfl ?_
      refine st_iconst (pc' := 17) dX11_end_16 rfl ?_
      refine st_callV (pc' := 20) (kc := k - 1) (E' := LAY) (cal := m_X11_deny) (n := 1) (as := [vI 0]) (S := []) dX11_end_17 rfl l_X11_113 k_X11_deny rfl L_0 c_X11 rfl rfl (Nat.le_of_ble_eq_true rfl) (by omega) ⟨Nat.le_refl _, Nat.le_refl _, Nat.le_refl _, Nat.le_refl _⟩ (Q1 := fun r M' => WP k LAY m_X11_end 20 [(0, vR (some 0)), (1, vI x1)] (r.toList ++ []) M' Q) (WPm.of k_X11_deny.1 (Nat.le_of_ble_eq_true rfl) (B_X11_deny_0 (by omega) ?_)) (fun r M' q => q)
      refine ⟨by decide, ?_⟩
      change WP _ LAY m_X11_end 20 [(0, vR (some 0)), (1, vI x1)] [vI 0] (mem (P, some 5, some 22) (si I 73 0 ((gi I 73 0) + 1)) J) Q
      exact st_iret (ty := .boolean) dX11_end_20 rfl (by decide) rfl h
set_option maxRecDepth 20000 in
set_option maxHeartbeats 4000000 in
theorem B_X11_fault_0 {k : Nat} {P : Option Nat} {I : Nat → Nat → Int32} {J : Nat → Nat → Int64} {x1 : Int} {Q : Option AV → Mem → Prop} (hk : 0 ≤ k) (h : inR x1 ∧ ((x1 = 0 → (Q (some (vI (gi I 3 2))) (mem (P, some 5, some 22) I J))) ∧ (¬ x1 = 0 → ((x1 = 1 → (Q (some (vI (gi I 3 3))) (mem (P, some 5, some 22) I J))) ∧ (¬ x1 = 1 → (Q (some (vI (-1))) (mem (P, some 5, some 22) I J))))))) : WP k LAY m_X11_fault 0 [(0, vR (some 0)), (1, vI x1)] [] (mem (P, some 5, some 22) I J) Q := by
  refine st_iload_n (pc' := 1) dX11_fault_0 rfl rfl (j := 1) rfl ?_
  obtain ⟨e1, h⟩ := h
  by_cases c : x1 = 0
  · replace h := h.1 c
    refine st_lookup (pc' := 28) (off := 27) dX11_fault_1 e1 (by decide) (by rw [c]; decide) (by decide) ?_
    refine st_aload_n (pc' := 29) dX11_fault_28 rfl rfl (j := 0) rfl ?_
    refine G_X11_21_0 dX11_fault_29 (pc' := 32) rfl rfl ?_
    refine G_X11_127_3 dX11_fault_32 (pc' := 35) rfl rfl ?_
    exact st_iret (ty := .int) dX11_fault_35 rfl rfl rfl h
  replace h := h.2 c
  have c0 := c
  clear c
  by_cases c : x1 = 1
  · replace h := h.1 c
    refine st_lookup (pc' := 36) (off := 35) dX11_fault_1 e1 (by decide) (by rw [c]; decide) (by decide) ?_
    refine st_aload_n (pc' := 37) dX11_fault_36 rfl rfl (j := 0) rfl ?_
    refine G_X11_21_0 dX11_fault_37 (pc' := 40) rfl rfl ?_
    refine G_X11_130_3 dX11_fault_40 (pc' := 43) rfl rfl ?_
    exact st_iret (ty := .int) dX11_fault_43 rfl rfl rfl h
  replace h := h.2 c
  have c1 := c
  clear c
  refine st_lookup (pc' := 44) (off := 43) dX11_fault_1 e1 (by decide) (show Op.lookupswitch.offset [(0, 27), (1, 35)] 43 x1 = 43 by rw [osw_ne c0, osw_ne c1]; rfl) (by decide) ?_
  refine st_iconst (pc' := 45) dX11_fault_44 rfl ?_
  exact st_iret (ty := .int) dX11_fault_45 rfl rfl rfl h
set_option maxRecDepth 20000 in
set_option maxHeartbeats 4000000 in
theorem B_X11_feed_0 {k : Nat} {P : Option Nat} {I : Nat → Nat → Int32} {J : Nat → Nat → Int64} {x1 : Int} {x2 : Int} {x3 : Int} {x4 : Int} {x5 : Int} {Q : Option AV → Mem → Prop} (hk : 1 ≤ k) (h : inR ((gi I 1 1) + 20) ∧ ((((gi I 1 1) + 20) ≤ 1600 → (WPm (k - 1) LAY m_X10_put [vR (some 1), vI x1] (mem (P, some 5, some 22) I J) (retV (fun I3 J4 => WPm (k - 1) LAY m_X10_put [vR (some 1), vI x2] (mem (P, some 5, some 22) I3 J4) (retV (fun I6 J7 => WPm (k - 1) LAY m_X10_put [vR (some 1), vI x3] (mem (P, some 5, some 22) I6 J7) (retV (fun I9 J10 => WPm (k - 1) LAY m_X10_put [vR (some 1), vI x4] (mem (P, some 5, some 22) I9 J10) (retV (fun I12 J13 => WPm (k - 1) LAY m_X10_put [vR (some 1), vI x5] (mem (P, some 5, some 22) I12 J13) (retV (fun I15 J16 => Q (some (vI (gi I15 1 1))) (mem (P, some 5, some 22) I15 J16)) (P, some 5, some 22))) (P, some 5, some 22))) (P, some 5, some 22))) (P, some 5, some 22))) (P, some 5, some 22)))) ∧ (¬ ((gi I 1 1) + 20) ≤ 1600 → (Q (some (vI (-1))) (mem (P, some 5, some 22) (si I 73 0 ((gi I 73 0) + 1)) J))))) : WP k LAY m_X11_feed 0 [(0, vR (some 0)), (1, vI x1), (2, vI x2), (3, vI x3), (4, vI x4), (5, vI x5)] [] (mem (P, some 5, some 22) I J) Q := by
  refine st_aload_n (pc' := 1) dX11_feed_0 rfl rfl (j := 0) rfl ?_
  refine G_X11_10_0 dX11_feed_1 (pc' := 4) rfl rfl ?_
  refine G_X11_102_1 dX11_feed_4 (pc' := 7) rfl rfl ?_
  refine st_bipush (pc' := 9) dX11_feed_7 rfl (by decide) ?_
  refine st_iadd (pc' := 10) dX11_feed_9 rfl ?_
  refine st_sipush (pc' := 13) dX11_feed_10 rfl (by decide) ?_
  obtain ⟨e1, h⟩ := h
  refine st_icmp_le (tg := 22) (pc' := 16) dX11_feed_13 (by decide) rfl e1 (by decide) (fun c => ?_) (fun c => ?_)
  · replace h := h.1 c
    refine st_aload_n (pc' := 23) dX11_feed_22 rfl rfl (j := 0) rfl ?_
    refine G_X11_10_0 dX11_feed_23 (pc' := 26) rfl rfl ?_
    refine st_iload_n (pc' := 27) dX11_feed_26 rfl rfl (j := 1) rfl ?_
    refine st_callV (pc' := 30) (kc := k - 1) (E' := LAY) (cal := m_X10_put) (n := 1) (as := [vI x1]) (S := []) dX11_feed_27 rfl l_X11_109 k_X10_put rfl L_1 c_X10 rfl rfl (Nat.le_of_ble_eq_true rfl) (by omega) ⟨Nat.le_refl _, Nat.le_refl _, Nat.le_refl _, Nat.le_refl _⟩ h (fun r M' q => ?_)
    obtain ⟨I3, J4, rfl, rfl, h⟩ := q
    change WP _ LAY m_X11_feed 30 [(0, vR (some 0)), (1, vI x1), (2, vI x2), (3, vI x3), (4, vI x4), (5, vI x5)] [] (mem (P, some 5, some 22) I3 J4) Q
    refine st_aload_n (pc' := 31) dX11_feed_30 rfl rfl (j := 0) rfl ?_
    refine G_X11_10_0 dX11_feed_31 (pc' := 34) rfl rfl ?_
    refine st_iload_n (pc' := 35) dX11_feed_34 rfl rfl (j := 2) rfl ?_
    refine st_callV (pc' := 38) (kc := k - 1) (E' := LAY) (cal := m_X10_put) (n := 1) (as := [vI x2]) (S := []) dX11_feed_35 rfl l_X11_109 k_X10_put rfl L_1 c_X10 rfl rfl (Nat.le_of_ble_eq_true rfl) (by omega) ⟨Nat.le_refl _, Nat.le_refl _, Nat.le_refl _, Nat.le_refl _⟩ h (fun r M' q => ?_)
    obtain ⟨I6, J7, rfl, rfl, h⟩ := q
    change WP _ LAY m_X11_feed 38 [(0, vR (some 0)), (1, vI x1), (2, vI x2), (3, vI x3), (4, vI x4), (5, vI x5)] [] (mem (P, some 5, some 22) I6 J7) Q
    refine st_aload_n (pc' := 39) dX11_feed_38 rfl rfl (j := 0) rfl ?_
    refine G_X11_10_0 dX11_feed_39 (pc' := 42) rfl rfl ?_
    refine st_iload_n (pc' := 43) dX11_feed_42 rfl rfl (j := 3) rfl ?_
    refine st_callV (pc' := 46) (kc := k - 1) (E' := LAY) (cal := m_X10_put) (n := 1) (as := [vI x3]) (S := []) dX11_feed_43 rfl l_X11_109 k_X10_put rfl L_1 c_X10 rfl rfl (Nat.le_of_ble_eq_true rfl) (by omega) ⟨Nat.le_refl _, Nat.le_refl _, Nat.le_refl _, Nat.le_refl _⟩ h (fun r M' q => ?_)
    obtain ⟨I9, J10, rfl, rfl, h⟩ := q
    change WP _ LAY m_X11_feed 46 [(0, vR (some 0)), (1, vI x1), (2, vI x2), (3, vI x3), (4, vI x4), (5, vI x5)] [] (mem (P, some 5, some 22) I9 J10) Q
    refine st_aload_n (pc' := 47) dX11_feed_46 rfl rfl (j := 0) rfl ?_
    refine G_X11_10_0 dX11_feed_47 (pc' := 50) rfl rfl ?_
    refine st_iload (pc' := 52) dX11_feed_50 rfl (j := 4) rfl ?_
    refine st_callV (pc' := 55) (kc := k - 1) (E' := LAY) (cal := m_X10_put) (n := 1) (as := [vI x4]) (S := []) dX11_feed_52 rfl l_X11_109 k_X10_put rfl L_1 c_X10 rfl rfl (Nat.le_of_ble_eq_true rfl) (by omega) ⟨Nat.le_refl _, Nat.le_refl _, Nat.le_refl _, Nat.le_refl _⟩ h (fun r M' q => ?_)
    obtain ⟨I12, J13, rfl, rfl, h⟩ := q
    change WP _ LAY m_X11_feed 55 [(0, vR (some 0)), (1, vI x1), (2, vI x2), (3, vI x3), (4, vI x4), (5, vI x5)] [] (mem (P, some 5, some 22) I12 J13) Q
    refine st_aload_n (pc' := 56) dX11_feed_55 rfl rfl (j := 0) rfl ?_
    refine G_X11_10_0 dX11_feed_56 (pc' := 59) rfl rfl ?_
    refine st_iload (pc' := 61) dX11_feed_59 rfl (j := 5) rfl ?_
    refine st_callV (pc' := 64) (kc := k - 1) (E' := LAY) (cal := m_X10_put) (n := 1) (as := [vI x5]) (S := []) dX11_feed_61 rfl l_X11_109 k_X10_put rfl L_1 c_X10 rfl rfl (Nat.le_of_ble_eq_true rfl) (by omega) ⟨Nat.le_refl _, Nat.le_refl _, Nat.le_refl _, Nat.le_refl _⟩ h (fun r M' q => ?_)
    obtain ⟨I15, J16, rfl, rfl, h⟩ := q
    change WP _ LAY m_X11_feed 64 [(0, vR (some 0)), (1, vI x1), (2, vI x2), (3, vI x3), (4, vI x4), (5, vI x5)] [] (mem (P, some 5, some 22) I15 J16) Q
    refine st_aload_n (pc' := 65) dX11_feed_64 rfl rfl (j := 0) rfl ?_
    refine G_X11_10_0 dX11_feed_65 (pc' := 68) rfl rfl ?_
    refine G_X11_102_1 dX11_feed_68 (pc' := 71) rfl rfl ?_
    exact st_iret (ty := .int) dX11_feed_71 rfl rfl rfl h
  · replace h := h.2 c
    refine st_aload_n (pc' := 17) dX11_feed_16 rfl rfl (j := 0) rfl ?_
    refine st_iconst (pc' := 18) dX11_feed_17 rfl ?_
    refine st_callV (pc' := 21) (kc := k - 1) (E' := LAY) (cal := m_X11_refuse) (n := 1) (as := [vI 0]) (S := []) dX11_feed_18 rfl l_X11_105 k_X11_refuse rfl L_0 c_X11 rfl rfl (Nat.le_of_ble_eq_true rfl) (by omega) ⟨Nat.le_refl _, Nat.le_refl _, Nat.le_refl _, Nat.le_refl _⟩ (Q1 := fun r M' => WP k LAY m_X11_feed 21 [(0, vR (some 0)), (1, vI x1), (2, vI x2), (3, vI x3), (4, vI x4), (5, vI x5)] (r.toList ++ []) M' Q) (WPm.of k_X11_refuse.1 (Nat.le_of_ble_eq_true rfl) (B_X11_refuse_0 (by omega) ?_)) (fun r M' q => q)
    refine ⟨by decide, ?_⟩
    change WP _ LAY m_X11_feed 21 [(0, vR (some 0)), (1, vI x1), (2, vI x2), (3, vI x3), (4, vI x4), (5, vI x5)] [vI (-1)] (mem (P, some 5, some 22) (si I 73 0 ((gi I 73 0) + 1)) J) Q
    exact st_iret (ty := .int) dX11_feed_21 rfl rfl rfl h
set_option maxRecDepth 20000 in
set_option maxHeartbeats 4000000 in
theorem B_X11_has_0 {k : Nat} {P : Option Nat} {I : Nat → Nat → Int32} {J : Nat → Nat → Int64} {x1 : Int} {Q : Option AV → Mem → Prop} (hk : 2 ≤ k) (h : inR x1 ∧ ((x1 = 0 → (Q (some (vI (gi I 6 0))) (mem (P, some 5, some 22) I J))) ∧ (¬ x1 = 0 → ((x1 = 1 → (Q (some (vI (gi I 6 1))) (mem (P, some 5, some 22) I J))) ∧ (¬ x1 = 1 → ((x1 = 2 → (Q (some (vI (gi I 5 14))) (mem (P, some 5, some 22) I J))) ∧ (¬ x1 = 2 → ((x1 = 3 → (Q (some (vI (gi I 6 2))) (mem (P, some 5, some 22) I J))) ∧ (¬ x1 = 3 → ((x1 = 4 → (Q (some (vI (gi I 6 3))) (mem (P, some 5, some 22) I J))) ∧ (¬ x1 = 4 → ((x1 = 5 → (Q (some (vI (gi I 5 15))) (mem (P, some 5, some 22) I J))) ∧ (¬ x1 = 5 → ((x1 = 6 → (Q (some (vI (gi I 19 0))) (mem (P, some 5, some 22) I J))) ∧ (¬ x1 = 6 → ((x1 = 7 → (Q (some (vI (gi I 19 1))) (mem (P, some 5, some 22) I J))) ∧ (¬ x1 = 7 → ((x1 = 8 → (Q (some (vI (min 60 (gi I 19 2)))) (mem (P, some 5, some 22) I J))) ∧ (¬ x1 = 8 → ((x1 = 9 → (WPm (k - 1) LAY m_X2_knownByAll [vR (some 4)] (mem (P, some 5, some 22) I J) (retI (fun v2 I3 J4 => Q (some (vI v2)) (mem (P, some 5, some 22) I3 J4)) (P, some 5, some 22)))) ∧ (¬ x1 = 9 → ((x1 = 10 → (Q (some (vI (gi I 4 5))) (mem (P, some 5, some 22) I J))) ∧ (¬ x1 = 10 → ((x1 = 11 → (Q (some (vI (gi I 0 11))) (mem (P, some 5, some 22) I J))) ∧ (¬ x1 = 11 → (Q (some (vI (-1))) (mem (P, some 5, some 22) I J))))))))))))))))))))))))))) : WP k LAY m_X11_has 0 [(0, vR (some 0)), (1, vI x1)] [] (mem (P, some 5, some 22) I J) Q := by
  refine st_iload_n (pc' := 1) dX11_has_0 rfl rfl (j := 1) rfl ?_
  obtain ⟨e1, h⟩ := h
  by_cases c : x1 = 0
  · replace h := h.1 c
    refine st_tblIn (pc' := 64) (off := 63) dX11_has_1 e1 (by omega) (by rw [c]; rfl) (by decide) ?_
    refine st_aload_n (pc' := 65) dX11_has_64 rfl rfl (j := 0) rfl ?_
    refine G_X11_33_0 dX11_has_65 (pc' := 68) rfl rfl ?_
    refine G_X11_121_4 dX11_has_68 (pc' := 71) rfl rfl ?_
    refine G_X11_133_5 dX11_has_71 (pc' := 74) rfl rfl ?_
    refine st_iconst (pc' := 75) dX11_has_74 rfl ?_
    refine st_iaload (pc' := 76) (v := (gi I 6 0)) dX11_has_75 rfl L_6 (by decide) (by decide) (show gi I 6 0 = (gi I 6 0) from rfl) ?_
    exact st_iret (ty := .int) dX11_has_76 rfl rfl rfl h
  replace h := h.2 c
  have c0 := c
  clear c
  by_cases c : x1 = 1
  · replace h := h.1 c
    refine st_tblIn (pc' := 77) (off := 76) dX11_has_1 e1 (by omega) (by rw [c]; rfl) (by decide) ?_
    refine st_aload_n (pc' := 78) dX11_has_77 rfl rfl (j := 0) rfl ?_
    refine G_X11_33_0 dX11_has_78 (pc' := 81) rfl rfl ?_
    refine G_X11_121_4 dX11_has_81 (pc' := 84) rfl rfl ?_
    refine G_X11_133_5 dX11_has_84 (pc' := 87) rfl rfl ?_
    refine st_iconst (pc' := 88) dX11_has_87 rfl ?_
    refine st_iaload (pc' := 89) (v := (gi I 6 1)) dX11_has_88 rfl L_6 (by decide) (by decide) (show gi I 6 1 = (gi I 6 1) from rfl) ?_
    exact st_iret (ty := .int) dX11_has_89 rfl rfl rfl h
  replace h := h.2 c
  have c1 := c
  clear c
  by_cases c : x1 = 2
  · replace h := h.1 c
    refine st_tblIn (pc' := 90) (off := 89) dX11_has_1 e1 (by omega) (by rw [c]; rfl) (by decide) ?_
    refine st_aload_n (pc' := 91) dX11_has_90 rfl rfl (j := 0) rfl ?_
    refine G_X11_33_0 dX11_has_91 (pc' := 94) rfl rfl ?_
    refine G_X11_121_4 dX11_has_94 (pc' := 97) rfl rfl ?_
    refine G_X11_136_5 dX11_has_97 (pc' := 100) rfl rfl ?_
    exact st_iret (ty := .int) dX11_has_100 rfl rfl rfl h
  replace h := h.2 c
  have c2 := c
  clear c
  by_cases c : x1 = 3
  · replace h := h.1 c
    refine st_tblIn (pc' := 101) (off := 100) dX11_has_1 e1 (by omega) (by rw [c]; rfl) (by decide) ?_
    refine st_aload_n (pc' := 102) dX11_has_101 rfl rfl (j := 0) rfl ?_
    refine G_X11_33_0 dX11_has_102 (pc' := 105) rfl rfl ?_
    refine G_X11_121_4 dX11_has_105 (pc' := 108) rfl rfl ?_
    refine G_X11_133_5 dX11_has_108 (pc' := 111) rfl rfl ?_
    refine st_iconst (pc' := 112) dX11_has_111 rfl ?_
    refine st_iaload (pc' := 113) (v := (gi I 6 2)) dX11_has_112 rfl L_6 (by decide) (by decide) (show gi I 6 2 = (gi I 6 2) from rfl) ?_
    exact st_iret (ty := .int) dX11_has_113 rfl rfl rfl h
  replace h := h.2 c
  have c3 := c
  clear c
  by_cases c : x1 = 4
  · replace h := h.1 c
    refine st_tblIn (pc' := 114) (off := 113) dX11_has_1 e1 (by omega) (by rw [c]; rfl) (by decide) ?_
    refine st_aload_n (pc' := 115) dX11_has_114 rfl rfl (j := 0) rfl ?_
    refine G_X11_33_0 dX11_has_115 (pc' := 118) rfl rfl ?_
    refine G_X11_121_4 dX11_has_118 (pc' := 121) rfl rfl ?_
    refine G_X11_133_5 dX11_has_121 (pc' := 124) rfl rfl ?_
    refine st_iconst (pc' := 125) dX11_has_124 rfl ?_
    refine st_iaload (pc' := 126) (v := (gi I 6 3)) dX11_has_125 rfl L_6 (by decide) (by decide) (show gi I 6 3 = (gi I 6 3) from rfl) ?_
    exact st_iret (ty := .int) dX11_has_126 rfl rfl rfl h
  replace h := h.2 c
  have c4 := c
  clear c
  by_cases c : x1 = 5
  · replace h := h.1 c
    refine st_tblIn (pc' := 127) (off := 126) dX11_has_1 e1 (by omega) (by rw [c]; rfl) (by decide) ?_
    refine st_aload_n (pc' := 128) dX11_has_127 rfl rfl (j := 0) rfl ?_
    refine G_X11_33_0 dX11_has_128 (pc' := 131) rfl rfl ?_
    refine G_X11_121_4 dX11_has_131 (pc' := 134) rfl rfl ?_
    refine G_X11_139_5 dX11_has_134 (pc' := 137) rfl rfl ?_
    exact st_iret (ty := .int) dX11_has_137 rfl rfl rfl h
  replace h := h.2 c
  have c5 := c
  clear c
  by_cases c : x1 = 6
  · replace h := h.1 c
    refine st_tblIn (pc' := 138) (off := 137) dX11_has_1 e1 (by omega) (by rw [c]; rfl) (by decide) ?_
    refine st_aload_n (pc' := 139) dX11_has_138 rfl rfl (j := 0) rfl ?_
    refine G_X11_33_0 dX11_has_139 (pc' := 142) rfl rfl ?_
    refine G_X11_142_4 dX11_has_142 (pc' := 145) rfl rfl ?_
    refine st_iconst (pc' := 146) dX11_has_145 rfl ?_
    refine st_iaload (pc' := 147) (v := (gi I 19 0)) dX11_has_146 rfl L_19 (by decide) (by decide) (show gi I 19 0 = (gi I 19 0) from rfl) ?_
    exact st_iret (ty := .int) dX11_has_147 rfl rfl rfl h
  replace h := h.2 c
  have c6 := c
  clear c
  by_cases c : x1 = 7
  · replace h := h.1 c
    refine st_tblIn (pc' := 148) (off := 147) dX11_has_1 e1 (by omega) (by rw [c]; rfl) (by decide) ?_
    refine st_aload_n (pc' := 149) dX11_has_148 rfl rfl (j := 0) rfl ?_
    refine G_X11_33_0 dX11_has_149 (pc' := 152) rfl rfl ?_
    refine G_X11_142_4 dX11_has_152 (pc' := 155) rfl rfl ?_
    refine st_iconst (pc' := 156) dX11_has_155 rfl ?_
    refine st_iaload (pc' := 157) (v := (gi I 19 1)) dX11_has_156 rfl L_19 (by decide) (by decide) (show gi I 19 1 = (gi I 19 1) from rfl) ?_
    exact st_iret (ty := .int) dX11_has_157 rfl rfl rfl h
  replace h := h.2 c
  have c7 := c
  clear c
  by_cases c : x1 = 8
  · replace h := h.1 c
    refine st_tblIn (pc' := 158) (off := 157) dX11_has_1 e1 (by omega) (by rw [c]; rfl) (by decide) ?_
    refine st_aload_n (pc' := 159) dX11_has_158 rfl rfl (j := 0) rfl ?_
    refine G_X11_33_0 dX11_has_159 (pc' := 162) rfl rfl ?_
    refine st_callV (pc' := 165) (kc := k - 1) (E' := LAY) (cal := m_X2_toldAsKept) (n := 0) (as := []) (S := []) dX11_has_162 rfl l_X11_145 k_X2_toldAsKept rfl L_4 c_X2 rfl rfl (Nat.le_of_ble_eq_true rfl) (by omega) ⟨Nat.le_refl _, Nat.le_refl _, Nat.le_refl _, Nat.le_refl _⟩ (Q1 := fun r M' => WP k LAY m_X11_has 165 [(0, vR (some 0)), (1, vI x1)] (r.toList ++ []) M' Q) (WPm.of k_X2_toldAsKept.1 (Nat.le_of_ble_eq_true rfl) (B_X2_toldAsKept_0 (by omega) ?_)) (fun r M' q => q)
    change WP _ LAY m_X11_has 165 [(0, vR (some 0)), (1, vI x1)] [vI (min 60 (gi I 19 2))] (mem (P, some 5, some 22) I J) Q
    exact st_iret (ty := .int) dX11_has_165 rfl rfl rfl h
  replace h := h.2 c
  have c8 := c
  clear c
  by_cases c : x1 = 9
  · replace h := h.1 c
    refine st_tblIn (pc' := 166) (off := 165) dX11_has_1 e1 (by omega) (by rw [c]; rfl) (by decide) ?_
    refine st_aload_n (pc' := 167) dX11_has_166 rfl rfl (j := 0) rfl ?_
    refine G_X11_33_0 dX11_has_167 (pc' := 170) rfl rfl ?_
    refine st_callV (pc' := 173) (kc := k - 1) (E' := LAY) (cal := m_X2_knownByAll) (n := 0) (as := []) (S := []) dX11_has_170 rfl l_X11_149 k_X2_knownByAll rfl L_4 c_X2 rfl rfl (Nat.le_of_ble_eq_true rfl) (by omega) ⟨Nat.le_refl _, Nat.le_refl _, Nat.le_refl _, Nat.le_refl _⟩ h (fun r M' q => ?_)
    obtain ⟨v2, I3, J4, rfl, rfl, h⟩ := q
    change WP _ LAY m_X11_has 173 [(0, vR (some 0)), (1, vI x1)] [vI v2] (mem (P, some 5, some 22) I3 J4) Q
    exact st_iret (ty := .int) dX11_has_173 rfl rfl rfl h
  replace h := h.2 c
  have c9 := c
  clear c
  by_cases c : x1 = 10
  · replace h := h.1 c
    refine st_tblIn (pc' := 174) (off := 173) dX11_has_1 e1 (by omega) (by rw [c]; rfl) (by decide) ?_
    refine st_aload_n (pc' := 175) dX11_has_174 rfl rfl (j := 0) rfl ?_
    refine G_X11_33_0 dX11_has_175 (pc' := 178) rfl rfl ?_
    refine G_X11_152_4 dX11_has_178 (pc' := 181) rfl rfl ?_
    exact st_iret (ty := .int) dX11_has_181 rfl rfl rfl h
  replace h := h.2 c
  have c10 := c
  clear c
  by_cases c : x1 = 11
  · replace h := h.1 c
    refine st_tblIn (pc' := 182) (off := 181) dX11_has_1 e1 (by omega) (by rw [c]; rfl) (by decide) ?_
    refine st_aload_n (pc' := 183) dX11_has_182 rfl rfl (j := 0) rfl ?_
    refine G_X11_98_0 dX11_has_183 (pc' := 186) rfl rfl ?_
    exact st_iret (ty := .int) dX11_has_186 rfl rfl rfl h
  replace h := h.2 c
  have c11 := c
  clear c
  have go : WP k LAY m_X11_has 187 [(0, vR (some 0)), (1, vI x1)] [] (mem (P, some 5, some 22) I J) Q := by
    refine st_iconst (pc' := 188) dX11_has_187 rfl ?_
    exact st_iret (ty := .int) dX11_has_188 rfl rfl rfl h
  exact st_tblOut (pc' := 187) dX11_has_1 e1 (by omega) (by decide) go
set_option maxRecDepth 20000 in
set_option maxHeartbeats 4000000 in
theorem B_X11_image_0 {k : Nat} {P : Option Nat} {I : Nat → Nat → Int32} {J : Nat → Nat → Int64}  {Q : Option AV → Mem → Prop} (hk : 1 ≤ k) (h : WPm (k - 1) LAY m_X4_write [vR (some 70), vR (some 4)] (mem (P, some 5, some 22) I J) (retV (fun I2 J3 => Q (some (vI (gi I2 70 2))) (mem (P, some 5, some 22) I2 J3)) (P, some 5, some 22))) : WP k LAY m_X11_image 0 [(0, vR (some 0))] [] (mem (P, some 5, some 22) I J) Q := by
  refine st_aload_n (pc' := 1) dX11_image_0 rfl rfl (j := 0) rfl ?_
  refine G_X11_90_0 dX11_image_1 (pc' := 4) rfl rfl ?_
  refine st_aload_n (pc' := 5) dX11_image_4 rfl rfl (j := 0) rfl ?_
  refine G_X11_33_0 dX11_image_5 (pc' := 8) rfl rfl ?_
  refine st_callV (pc' := 11) (kc := k - 1) (E' := LAY) (cal := m_X4_write) (n := 1) (as := [vR (some 4)]) (S := []) dX11_image_8 rfl l_X11_344 k_X4_write rfl L_70 c_X4 rfl rfl (Nat.le_of_ble_eq_true rfl) (by omega) ⟨Nat.le_refl _, Nat.le_refl _, Nat.le_refl _, Nat.le_refl _⟩ h (fun r M' q => ?_)
  obtain ⟨I2, J3, rfl, rfl, h⟩ := q
  change WP _ LAY m_X11_image 11 [(0, vR (some 0))] [] (mem (P, some 5, some 22) I2 J3) Q
  refine st_aload_n (pc' := 12) dX11_image_11 rfl rfl (j := 0) rfl ?_
  refine G_X11_90_0 dX11_image_12 (pc' := 15) rfl rfl ?_
  refine G_X11_347_70 dX11_image_15 (pc' := 18) rfl rfl ?_
  exact st_iret (ty := .int) dX11_image_18 rfl rfl rfl h
set_option maxRecDepth 20000 in
set_option maxHeartbeats 4000000 in
theorem B_X11_index_0 {k : Nat} {P : Option Nat} {I : Nat → Nat → Int32} {J : Nat → Nat → Int64} {x1 : Int} {x2 : Int} {Q : Option AV → Mem → Prop} (hk : 1 ≤ k) (h : inR x1 ∧ ((¬ (0 ≤ x1 ∧ x1 < shl32 1 (gi I 6 1)) → (Q (some (vI (-1))) (mem (P, some 5, some 22) I J))) ∧ ((0 ≤ x1 ∧ x1 < shl32 1 (gi I 6 1)) → (inR x2 ∧ ((x2 < 0 → (Q (some (vI (-1))) (mem (P, some 5, some 22) I J))) ∧ (¬ x2 < 0 → ((x2 ≤ 1 → (WPm (k - 1) LAY m_X8_workOfAll [vR (some 51), vI x1, vI (-1)] (mem (P, some 5, some 22) I J) (retI (fun v3 I4 J5 => WP k LAY m_X11_index 44 [(0, vR (some 0)), (1, vI x1), (2, vI x2), (3, vI v3), (4, vI v3), (5, vI (-1)), (6, vI 0)] [] (mem (P, some 5, some 22) I4 J5) Q) (P, some 5, some 22)))) ∧ (¬ x2 ≤ 1 → (Q (some (vI (-1))) (mem (P, some 5, some 22) I J)))))))))) : WP k LAY m_X11_index 0 [(0, vR (some 0)), (1, vI x1), (2, vI x2)] [] (mem (P, some 5, some 22) I J) Q := by
  refine st_aload_n (pc' := 1) dX11_index_0 rfl rfl (j := 0) rfl ?_
  refine G_X11_33_0 dX11_index_1 (pc' := 4) rfl rfl ?_
  refine G_X11_121_4 dX11_index_4 (pc' := 7) rfl rfl ?_
  refine st_iload_n (pc' := 8) dX11_index_7 rfl rfl (j := 1) rfl ?_
  obtain ⟨e1, h⟩ := h
  refine st_callV (pc' := 11) (kc := k - 1) (E' := LAY) (cal := m_X7_isQuestion) (n := 1) (as := [vI x1]) (S := []) dX11_index_8 rfl l_X11_276 k_X7_isQuestion rfl L_5 c_X7 rfl rfl (Nat.le_of_ble_eq_true rfl) (by omega) ⟨Nat.le_refl _, Nat.le_refl _, Nat.le_refl _, Nat.le_refl _⟩ (Q1 := fun r M' => WP k LAY m_X11_index 11 [(0, vR (some 0)), (1, vI x1), (2, vI x2)] (r.toList ++ []) M' Q) (S_X7_isQuestion_5 (by omega) e1 ?_) (fun r M' q => q)
  change WP _ LAY m_X11_index 11 [(0, vR (some 0)), (1, vI x1), (2, vI x2)] [vI (b2i (0 ≤ x1 ∧ x1 < shl32 1 (gi I 6 1)))] (mem (P, some 5, some 22) I J) Q
  refine st_if_eq (tg := 23) (pc' := 14) dX11_index_11 (by decide) rfl (b2i_in _) (fun c => ?_) (fun c => ?_)
  · replace h := h.1 (b2i_f.mp c)
    refine st_iconst (pc' := 24) dX11_index_23 rfl ?_
    exact st_iret (ty := .int) dX11_index_24 rfl rfl rfl h
  · replace h := h.2 (b2i_t.mp c)
    refine st_iload_n (pc' := 15) dX11_index_14 rfl rfl (j := 2) rfl ?_
    obtain ⟨e2, h⟩ := h
    refine st_if_lt (tg := 23) (pc' := 18) dX11_index_15 (by decide) rfl e2 (fun c => ?_) (fun c => ?_)
    · replace h := h.1 c
      refine st_iconst (pc' := 24) dX11_index_23 rfl ?_
      exact st_iret (ty := .int) dX11_index_24 rfl rfl rfl h
    · replace h := h.2 c
      refine st_iload_n (pc' := 19) dX11_index_18 rfl rfl (j := 2) rfl ?_
      refine st_iconst (pc' := 20) dX11_index_19 rfl ?_
      refine st_icmp_le (tg := 25) (pc' := 23) dX11_index_20 (by decide) rfl e2 (by decide) (fun c => ?_) (fun c => ?_)
      · replace h := h.1 c
        refine st_aload_n (pc' := 26) dX11_index_25 rfl rfl (j := 0) rfl ?_
        refine G_X11_67_0 dX11_index_26 (pc' := 29) rfl rfl ?_
        refine st_iload_n (pc' := 30) dX11_index_29 rfl rfl (j := 1) rfl ?_
        refine st_iconst (pc' := 31) dX11_index_30 rfl ?_
        refine st_callV (pc' := 34) (kc := k - 1) (E' := LAY) (cal := m_X8_workOfAll) (n := 2) (as := [vI x1, vI (-1)]) (S := []) dX11_index_31 rfl l_X11_341 k_X8_workOfAll rfl L_51 c_X8 rfl rfl (Nat.le_of_ble_eq_true rfl) (by omega) ⟨Nat.le_refl _, Nat.le_refl _, Nat.le_refl _, Nat.le_refl _⟩ h (fun r M' q => ?_)
        obtain ⟨v3, I4, J5, rfl, rfl, h⟩ := q
        change WP _ LAY m_X11_index 34 [(0, vR (some 0)), (1, vI x1), (2, vI x2)] [vI v3] (mem (P, some 5, some 22) I4 J5) Q
        refine st_istore_n (pc' := 35) (L' := [(3, vI v3), (0, vR (some 0)), (1, vI x1), (2, vI x2)]) dX11_index_34 rfl rfl (by decide) rfl ?_
        refine st_iload_n (pc' := 36) dX11_index_35 rfl rfl (j := 0) rfl ?_
        refine st_istore (pc' := 38) (L' := [(4, vI v3), (3, vI v3), (0, vR (some 0)), (1, vI x1), (2, vI x2)]) dX11_index_36 rfl (by decide) rfl ?_
        refine st_iconst (pc' := 39) dX11_index_38 rfl ?_
        refine st_istore (pc' := 41) (L' := [(5, vI (-1)), (4, vI v3), (3, vI v3), (0, vR (some 0)), (1, vI x1), (2, vI x2)]) dX11_index_39 rfl (by decide) rfl ?_
        refine st_iconst (pc' := 42) dX11_index_41 rfl ?_
        refine st_istore (pc' := 44) (L' := [(6, vI 0), (5, vI (-1)), (4, vI v3), (3, vI v3), (0, vR (some 0)), (1, vI x1), (2, vI x2)]) dX11_index_42 rfl (by decide) rfl ?_
        refine WP_sub (L' := [(0, vR (some 0)), (1, vI x1), (2, vI x2), (3, vI v3), (4, vI v3), (5, vI (-1)), (6, vI 0)]) [4, 5, 6, 3, 2, 1, 0] rfl ?_
        exact h
      · replace h := h.2 c
        refine st_iconst (pc' := 24) dX11_index_23 rfl ?_
        exact st_iret (ty := .int) dX11_index_24 rfl rfl rfl h
set_option maxRecDepth 20000 in
set_option maxHeartbeats 4000000 in
theorem B_X11_index_44 {k : Nat} {P : Option Nat} {I : Nat → Nat → Int32} {J : Nat → Nat → Int64} {x1 : Int} {x2 : Int} {x3 : Int} {x4 : Int} {x5 : Int} {x6 : Int} {Q : Option AV → Mem → Prop} (hk : 1 ≤ k) (h : inR x6 ∧ (((gi I 6 1) ≤ x6 → (inR x5 ∧ ((x5 = (-1) → (Q (some (vI x5)) (mem (P, some 5, some 22) I J))) ∧ (¬ x5 = (-1) → (inR x2 ∧ ((¬ x2 = 0 → (Q (some (vI (x3 - x4))) (mem (P, some 5, some 22) I J))) ∧ (x2 = 0 → (Q (some (vI x5)) (mem (P, some 5, some 22) I J))))))))) ∧ (¬ (gi I 6 1) ≤ x6 → (((and32 x1 (shl32 1 x6)) = 0 → (WPm (k - 1) LAY m_X8_workOfAll [vR (some 51), vI x1, vI x6] (mem (P, some 5, some 22) I J) (retI (fun v4 I5 J6 => inR v4 ∧ (inR x4 ∧ ((x4 ≤ v4 → (WP k LAY m_X11_index 44 [(0, vR (some 0)), (1, vI x1), (2, vI x2), (3, vI x3), (4, vI x4), (5, vI x5), (6, vI (x6 + 1))] [] (mem (P, some 5, some 22) I5 J6) Q)) ∧ (¬ x4 ≤ v4 → (WP k LAY m_X11_index 44 [(0, vR (some 0)), (1, vI x1), (2, vI x2), (3, vI x3), (4, vI v4), (5, vI x6), (6, vI (x6 + 1))] [] (mem (P, some 5, some 22) I5 J6) Q))))) (P, some 5, some 22)))) ∧ (¬ (and32 x1 (shl32 1 x6)) = 0 → (inR x3 ∧ (inR x4 ∧ ((x4 ≤ x3 → (WP k LAY m_X11_index 44 [(0, vR (some 0)), (1, vI x1), (2, vI x2), (3, vI x3), (4, vI x4), (5, vI x5), (6, vI (x6 + 1))] [] (mem (P, some 5, some 22) I J) Q)) ∧ (¬ x4 ≤ x3 → (WP k LAY m_X11_index 44 [(0, vR (some 0)), (1, vI x1), (2, vI x2), (3, vI x3), (4, vI x3), (5, vI x6), (6, vI (x6 + 1))] [] (mem (P, some 5, some 22) I J) Q)))))))))) : WP k LAY m_X11_index 44 [(0, vR (some 0)), (1, vI x1), (2, vI x2), (3, vI x3), (4, vI x4), (5, vI x5), (6, vI x6)] [] (mem (P, some 5, some 22) I J) Q := by
  refine st_iload (pc' := 46) dX11_index_44 rfl (j := 6) rfl ?_
  refine st_aload_n (pc' := 47) dX11_index_46 rfl rfl (j := 0) rfl ?_
  refine G_X11_33_0 dX11_index_47 (pc' := 50) rfl rfl ?_
  refine G_X11_121_4 dX11_index_50 (pc' := 53) rfl rfl ?_
  refine G_X11_133_5 dX11_index_53 (pc' := 56) rfl rfl ?_
  refine st_iconst (pc' := 57) dX11_index_56 rfl ?_
  refine st_iaload (pc' := 58) (v := (gi I 6 1)) dX11_index_57 rfl L_6 (by decide) (by decide) (show gi I 6 1 = (gi I 6 1) from rfl) ?_
  obtain ⟨e1, h⟩ := h
  refine st_icmp_ge (tg := 107) (pc' := 61) dX11_index_58 (by decide) rfl e1 (gi_in _ _ _) (fun c => ?_) (fun c => ?_)
  · replace h := h.1 c
    refine st_iload (pc' := 109) dX11_index_107 rfl (j := 5) rfl ?_
    refine st_iconst (pc' := 110) dX11_index_109 rfl ?_
    obtain ⟨e2, h⟩ := h
    refine st_icmp_eq (tg := 117) (pc' := 113) dX11_index_110 (by decide) rfl e2 (by decide) (fun c => ?_) (fun c => ?_)
    · replace h := h.1 c
      refine st_iload (pc' := 119) dX11_index_117 rfl (j := 5) rfl ?_
      refine st_goto (pc' := 126) dX11_index_119 (by decide) ?_
      exact st_iret (ty := .int) dX11_index_126 rfl rfl rfl h
    · replace h := h.2 c
      refine st_iload_n (pc' := 114) dX11_index_113 rfl rfl (j := 2) rfl ?_
      obtain ⟨e3, h⟩ := h
      refine st_if_ne (tg := 122) (pc' := 117) dX11_index_114 (by decide) rfl e3 (fun c => ?_) (fun c => ?_)
      · replace h := h.1 c
        refine st_iload_n (pc' := 123) dX11_index_122 rfl rfl (j := 3) rfl ?_
        refine st_iload (pc' := 125) dX11_index_123 rfl (j := 4) rfl ?_
        refine st_isub (pc' := 126) dX11_index_125 rfl ?_
        exact st_iret (ty := .int) dX11_index_126 rfl rfl rfl h
      · replace h := h.2 c
        refine st_iload (pc' := 119) dX11_index_117 rfl (j := 5) rfl ?_
        refine st_goto (pc' := 126) dX11_index_119 (by decide) ?_
        exact st_iret (ty := .int) dX11_index_126 rfl rfl rfl h
  · replace h := h.2 c
    refine st_iload_n (pc' := 62) dX11_index_61 rfl rfl (j := 1) rfl ?_
    refine st_iconst (pc' := 63) dX11_index_62 rfl ?_
    refine st_iload (pc' := 65) dX11_index_63 rfl (j := 6) rfl ?_
    refine st_ishl (pc' := 66) (z := (shl32 1 x6)) dX11_index_65 rfl rfl ?_
    refine st_iand (pc' := 67) (z := (and32 x1 (shl32 1 x6))) dX11_index_66 rfl rfl ?_
    refine st_if_eq (tg := 74) (pc' := 70) dX11_index_67 (by decide) rfl (and32_in _ _) (fun c => ?_) (fun c => ?_)
    · replace h := h.1 c
      refine st_aload_n (pc' := 75) dX11_index_74 rfl rfl (j := 0) rfl ?_
      refine G_X11_67_0 dX11_index_75 (pc' := 78) rfl rfl ?_
      refine st_iload_n (pc' := 79) dX11_index_78 rfl rfl (j := 1) rfl ?_
      refine st_iload (pc' := 81) dX11_index_79 rfl (j := 6) rfl ?_
      refine st_callV (pc' := 84) (kc := k - 1) (E' := LAY) (cal := m_X8_workOfAll) (n := 2) (as := [vI x1, vI x6]) (S := []) dX11_index_81 rfl l_X11_341 k_X8_workOfAll rfl L_51 c_X8 rfl rfl (Nat.le_of_ble_eq_true rfl) (by omega) ⟨Nat.le_refl _, Nat.le_refl _, Nat.le_refl _, Nat.le_refl _⟩ h (fun r M' q => ?_)
      obtain ⟨v4, I5, J6, rfl, rfl, h⟩ := q
      change WP _ LAY m_X11_index 84 [(0, vR (some 0)), (1, vI x1), (2, vI x2), (3, vI x3), (4, vI x4), (5, vI x5), (6, vI x6)] [vI v4] (mem (P, some 5, some 22) I5 J6) Q
      refine st_istore (pc' := 86) (L' := [(7, vI v4), (0, vR (some 0)), (1, vI x1), (2, vI x2), (3, vI x3), (4, vI x4), (5, vI x5), (6, vI x6)]) dX11_index_84 rfl (by decide) rfl ?_
      refine st_iload (pc' := 88) dX11_index_86 rfl (j := 0) rfl ?_
      refine st_iload (pc' := 90) dX11_index_88 rfl (j := 5) rfl ?_
      obtain ⟨e7, h⟩ := h
      obtain ⟨e8, h⟩ := h
      refine st_icmp_ge (tg := 101) (pc' := 93) dX11_index_90 (by decide) rfl e7 e8 (fun c => ?_) (fun c => ?_)
      · replace h := h.1 c
        refine st_iinc (pc' := 104) (L' := [(6, vI (x6 + 1)), (7, vI v4), (0, vR (some 0)), (1, vI x1), (2, vI x2), (3, vI x3), (4, vI x4), (5, vI x5)]) (j := 7) dX11_index_101 rfl (by decide) rfl rfl ?_
        refine st_goto (pc' := 44) dX11_index_104 (by decide) ?_
        refine WP_sub (L' := [(0, vR (some 0)), (1, vI x1), (2, vI x2), (3, vI x3), (4, vI x4), (5, vI x5), (6, vI (x6 + 1))]) [2, 3, 4, 5, 6, 7, 0] rfl ?_
        exact h
      · replace h := h.2 c
        refine st_iload (pc' := 95) dX11_index_93 rfl (j := 0) rfl ?_
        refine st_istore (pc' := 97) (L' := [(4, vI v4), (7, vI v4), (0, vR (some 0)), (1, vI x1), (2, vI x2), (3, vI x3), (5, vI x5), (6, vI x6)]) dX11_index_95 rfl (by decide) rfl ?_
        refine st_iload (pc' := 99) dX11_index_97 rfl (j := 7) rfl ?_
        refine st_istore (pc' := 101) (L' := [(5, vI x6), (4, vI v4), (7, vI v4), (0, vR (some 0)), (1, vI x1), (2, vI x2), (3, vI x3), (6, vI x6)]) dX11_index_99 rfl (by decide) rfl ?_
        refine st_iinc (pc' := 104) (L' := [(6, vI (x6 + 1)), (5, vI x6), (4, vI v4), (7, vI v4), (0, vR (some 0)), (1, vI x1), (2, vI x2), (3, vI x3)]) (j := 7) dX11_index_101 rfl (by decide) rfl rfl ?_
        refine st_goto (pc' := 44) dX11_index_104 (by decide) ?_
        refine WP_sub (L' := [(0, vR (some 0)), (1, vI x1), (2, vI x2), (3, vI x3), (4, vI v4), (5, vI x6), (6, vI (x6 + 1))]) [4, 5, 6, 7, 2, 1, 0] rfl ?_
        exact h
    · replace h := h.2 c
      refine st_iload_n (pc' := 71) dX11_index_70 rfl rfl (j := 3) rfl ?_
      refine st_goto (pc' := 84) dX11_index_71 (by decide) ?_
      refine st_istore (pc' := 86) (L' := [(7, vI x3), (0, vR (some 0)), (1, vI x1), (2, vI x2), (3, vI x3), (4, vI x4), (5, vI x5), (6, vI x6)]) dX11_index_84 rfl (by decide) rfl ?_
      refine st_iload (pc' := 88) dX11_index_86 rfl (j := 0) rfl ?_
      refine st_iload (pc' := 90) dX11_index_88 rfl (j := 5) rfl ?_
      obtain ⟨e9, h⟩ := h
      obtain ⟨e10, h⟩ := h
      refine st_icmp_ge (tg := 101) (pc' := 93) dX11_index_90 (by decide) rfl e9 e10 (fun c => ?_) (fun c => ?_)
      · replace h := h.1 c
        refine st_iinc (pc' := 104) (L' := [(6, vI (x6 + 1)), (7, vI x3), (0, vR (some 0)), (1, vI x1), (2, vI x2), (3, vI x3), (4, vI x4), (5, vI x5)]) (j := 7) dX11_index_101 rfl (by decide) rfl rfl ?_
        refine st_goto (pc' := 44) dX11_index_104 (by decide) ?_
        refine WP_sub (L' := [(0, vR (some 0)), (1, vI x1), (2, vI x2), (3, vI x3), (4, vI x4), (5, vI x5), (6, vI (x6 + 1))]) [2, 3, 4, 5, 6, 7, 0] rfl ?_
        exact h
      · replace h := h.2 c
        refine st_iload (pc' := 95) dX11_index_93 rfl (j := 0) rfl ?_
        refine st_istore (pc' := 97) (L' := [(4, vI x3), (7, vI x3), (0, vR (some 0)), (1, vI x1), (2, vI x2), (3, vI x3), (5, vI x5), (6, vI x6)]) dX11_index_95 rfl (by decide) rfl ?_
        refine st_iload (pc' := 99) dX11_index_97 rfl (j := 7) rfl ?_
        refine st_istore (pc' := 101) (L' := [(5, vI x6), (4, vI x3), (7, vI x3), (0, vR (some 0)), (1, vI x1), (2, vI x2), (3, vI x3), (6, vI x6)]) dX11_index_99 rfl (by decide) rfl ?_
        refine st_iinc (pc' := 104) (L' := [(6, vI (x6 + 1)), (5, vI x6), (4, vI x3), (7, vI x3), (0, vR (some 0)), (1, vI x1), (2, vI x2), (3, vI x3)]) (j := 7) dX11_index_101 rfl (by decide) rfl rfl ?_
        refine st_goto (pc' := 44) dX11_index_104 (by decide) ?_
        refine WP_sub (L' := [(0, vR (some 0)), (1, vI x1), (2, vI x2), (3, vI x3), (4, vI x3), (5, vI x6), (6, vI (x6 + 1))]) [4, 5, 6, 7, 2, 1, 0] rfl ?_
        exact h
set_option maxRecDepth 20000 in
set_option maxHeartbeats 4000000 in
theorem B_X11_kept_0 {k : Nat} {P : Option Nat} {I : Nat → Nat → Int32} {J : Nat → Nat → Int64} {x1 : Int} {x2 : Int} {Q : Option AV → Mem → Prop} (hk : 2 ≤ k) (h : inR x1 ∧ ((x1 < 0 → (Q (some (vI (-1))) (mem (P, some 5, some 22) I J))) ∧ (¬ x1 < 0 → (inR (min 60 (gi I 19 2)) ∧ ((x1 < (min 60 (gi I 19 2)) → ((0 ≤ (((gi I 19 2) - (min 60 (gi I 19 2))) + x1) ∧ (((gi I 19 2) - (min 60 (gi I 19 2))) + x1) < 84) ∧ (inR x2 ∧ ((x2 = 0 → (Q (some (vI (shr32 (gi I 20 (((gi I 19 2) - (min 60 (gi I 19 2))) + x1).toNat) 7))) (mem (P, some 5, some 22) I J))) ∧ (¬ x2 = 0 → ((x2 = 1 → (Q (some (vI (and32 (shr32 (gi I 20 (((gi I 19 2) - (min 60 (gi I 19 2))) + x1).toNat) 4) 7))) (mem (P, some 5, some 22) I J))) ∧ (¬ x2 = 1 → ((x2 = 2 → (Q (some (vI (and32 (gi I 20 (((gi I 19 2) - (min 60 (gi I 19 2))) + x1).toNat) 15))) (mem (P, some 5, some 22) I J))) ∧ (¬ x2 = 2 → (Q (some (vI (-1))) (mem (P, some 5, some 22) I J))))))))))) ∧ (¬ x1 < (min 60 (gi I 19 2)) → (Q (some (vI (-1))) (mem (P, some 5, some 22) I J)))))))) : WP k LAY m_X11_kept 0 [(0, vR (some 0)), (1, vI x1), (2, vI x2)] [] (mem (P, some 5, some 22) I J) Q := by
  refine st_aload_n (pc' := 1) dX11_kept_0 rfl rfl (j := 0) rfl ?_
  refine G_X11_33_0 dX11_kept_1 (pc' := 4) rfl rfl ?_
  refine st_callV (pc' := 7) (kc := k - 1) (E' := LAY) (cal := m_X2_toldAsKept) (n := 0) (as := []) (S := []) dX11_kept_4 rfl l_X11_145 k_X2_toldAsKept rfl L_4 c_X2 rfl rfl (Nat.le_of_ble_eq_true rfl) (by omega) ⟨Nat.le_refl _, Nat.le_refl _, Nat.le_refl _, Nat.le_refl _⟩ (Q1 := fun r M' => WP k LAY m_X11_kept 7 [(0, vR (some 0)), (1, vI x1), (2, vI x2)] (r.toList ++ []) M' Q) (WPm.of k_X2_toldAsKept.1 (Nat.le_of_ble_eq_true rfl) (B_X2_toldAsKept_0 (by omega) ?_)) (fun r M' q => q)
  change WP _ LAY m_X11_kept 7 [(0, vR (some 0)), (1, vI x1), (2, vI x2)] [vI (min 60 (gi I 19 2))] (mem (P, some 5, some 22) I J) Q
  refine st_istore_n (pc' := 8) (L' := [(3, vI (min 60 (gi I 19 2))), (0, vR (some 0)), (1, vI x1), (2, vI x2)]) dX11_kept_7 rfl rfl (by decide) rfl ?_
  refine st_iload_n (pc' := 9) dX11_kept_8 rfl rfl (j := 2) rfl ?_
  obtain ⟨e1, h⟩ := h
  refine st_if_lt (tg := 17) (pc' := 12) dX11_kept_9 (by decide) rfl e1 (fun c => ?_) (fun c => ?_)
  · replace h := h.1 c
    refine st_iconst (pc' := 18) dX11_kept_17 rfl ?_
    exact st_iret (ty := .int) dX11_kept_18 rfl rfl rfl h
  · replace h := h.2 c
    refine st_iload_n (pc' := 13) dX11_kept_12 rfl rfl (j := 2) rfl ?_
    refine st_iload_n (pc' := 14) dX11_kept_13 rfl rfl (j := 0) rfl ?_
    obtain ⟨e2, h⟩ := h
    refine st_icmp_lt (tg := 19) (pc' := 17) dX11_kept_14 (by decide) rfl e1 e2 (fun c => ?_) (fun c => ?_)
    · replace h := h.1 c
      refine st_aload_n (pc' := 20) dX11_kept_19 rfl rfl (j := 1) rfl ?_
      refine G_X11_33_0 dX11_kept_20 (pc' := 23) rfl rfl ?_
      refine G_X11_273_4 dX11_kept_23 (pc' := 26) rfl rfl ?_
      refine st_aload_n (pc' := 27) dX11_kept_26 rfl rfl (j := 1) rfl ?_
      refine G_X11_33_0 dX11_kept_27 (pc' := 30) rfl rfl ?_
      refine G_X11_142_4 dX11_kept_30 (pc' := 33) rfl rfl ?_
      refine st_iconst (pc' := 34) dX11_kept_33 rfl ?_
      refine st_iaload (pc' := 35) (v := (gi I 19 2)) dX11_kept_34 rfl L_19 (by decide) (by decide) (show gi I 19 2 = (gi I 19 2) from rfl) ?_
      refine st_iload_n (pc' := 36) dX11_kept_35 rfl rfl (j := 0) rfl ?_
      refine st_isub (pc' := 37) dX11_kept_36 rfl ?_
      refine st_iload_n (pc' := 38) dX11_kept_37 rfl rfl (j := 2) rfl ?_
      refine st_iadd (pc' := 39) dX11_kept_38 rfl ?_
      obtain ⟨e3, h⟩ := h
      refine st_iaload (pc' := 40) (v := (gi I 20 (((gi I 19 2) - (min 60 (gi I 19 2))) + x1).toNat)) dX11_kept_39 rfl L_20 (by decide) e3 (show gi I 20 (((gi I 19 2) - (min 60 (gi I 19 2))) + x1).toNat = (gi I 20 (((gi I 19 2) - (min 60 (gi I 19 2))) + x1).toNat) from rfl) ?_
      refine st_istore (pc' := 42) (L' := [(4, vI (gi I 20 (((gi I 19 2) - (min 60 (gi I 19 2))) + x1).toNat)), (3, vI (min 60 (gi I 19 2))), (0, vR (some 0)), (1, vI x1), (2, vI x2)]) dX11_kept_40 rfl (by decide) rfl ?_
      refine st_iload_n (pc' := 43) dX11_kept_42 rfl rfl (j := 4) rfl ?_
      obtain ⟨e4, h⟩ := h
      by_cases c : x2 = 0
      · replace h := h.1 c
        refine st_tblIn (pc' := 68) (off := 25) dX11_kept_43 e4 (by omega) (by rw [c]; rfl) (by decide) ?_
        refine st_iload (pc' := 70) dX11_kept_68 rfl (j := 0) rfl ?_
        refine st_bipush (pc' := 72) dX11_kept_70 rfl (by decide) ?_
        refine st_ishr (pc' := 73) (z := (shr32 (gi I 20 (((gi I 19 2) - (min 60 (gi I 19 2))) + x1).toNat) 7)) dX11_kept_72 rfl rfl ?_
        exact st_iret (ty := .int) dX11_kept_73 rfl rfl rfl h
      replace h := h.2 c
      have c0 := c
      clear c
      by_cases c : x2 = 1
      · replace h := h.1 c
        refine st_tblIn (pc' := 74) (off := 31) dX11_kept_43 e4 (by omega) (by rw [c]; rfl) (by decide) ?_
        refine st_iload (pc' := 76) dX11_kept_74 rfl (j := 0) rfl ?_
        refine st_iconst (pc' := 77) dX11_kept_76 rfl ?_
        refine st_ishr (pc' := 78) (z := (shr32 (gi I 20 (((gi I 19 2) - (min 60 (gi I 19 2))) + x1).toNat) 4)) dX11_kept_77 rfl rfl ?_
        refine st_bipush (pc' := 80) dX11_kept_78 rfl (by decide) ?_
        refine st_iand (pc' := 81) (z := (and32 (shr32 (gi I 20 (((gi I 19 2) - (min 60 (gi I 19 2))) + x1).toNat) 4) 7)) dX11_kept_80 rfl rfl ?_
        exact st_iret (ty := .int) dX11_kept_81 rfl rfl rfl h
      replace h := h.2 c
      have c1 := c
      clear c
      by_cases c : x2 = 2
      · replace h := h.1 c
        refine st_tblIn (pc' := 82) (off := 39) dX11_kept_43 e4 (by omega) (by rw [c]; rfl) (by decide) ?_
        refine st_iload (pc' := 84) dX11_kept_82 rfl (j := 0) rfl ?_
        refine st_bipush (pc' := 86) dX11_kept_84 rfl (by decide) ?_
        refine st_iand (pc' := 87) (z := (and32 (gi I 20 (((gi I 19 2) - (min 60 (gi I 19 2))) + x1).toNat) 15)) dX11_kept_86 rfl rfl ?_
        exact st_iret (ty := .int) dX11_kept_87 rfl rfl rfl h
      replace h := h.2 c
      have c2 := c
      clear c
      have go : WP k LAY m_X11_kept 88 [(4, vI (gi I 20 (((gi I 19 2) - (min 60 (gi I 19 2))) + x1).toNat)), (3, vI (min 60 (gi I 19 2))), (0, vR (some 0)), (1, vI x1), (2, vI x2)] [] (mem (P, some 5, some 22) I J) Q := by
        refine st_iconst (pc' := 89) dX11_kept_88 rfl ?_
        exact st_iret (ty := .int) dX11_kept_89 rfl rfl rfl h
      exact st_tblOut (pc' := 88) dX11_kept_43 e4 (by omega) (by decide) go
    · replace h := h.2 c
      refine st_iconst (pc' := 18) dX11_kept_17 rfl ?_
      exact st_iret (ty := .int) dX11_kept_18 rfl rfl rfl h
set_option maxRecDepth 20000 in
set_option maxHeartbeats 4000000 in
theorem B_X11_letter_0 {k : Nat} {P : Option Nat} {I : Nat → Nat → Int32} {J : Nat → Nat → Int64} {x1 : Int} {x2 : Int} {x3 : Int} {Q : Option AV → Mem → Prop} (hk : 1 ≤ k) (h : inR x1 ∧ ((x1 < 0 → (Q (some (vI (-1))) (mem (P, some 5, some 22) I J))) ∧ (¬ x1 < 0 → ((4 ≤ x1 → (Q (some (vI (-1))) (mem (P, some 5, some 22) I J))) ∧ (¬ 4 ≤ x1 → (inR x3 ∧ ((x3 < 0 → (Q (some (vI (-1))) (mem (P, some 5, some 22) I J))) ∧ (¬ x3 < 0 → ((6 ≤ x3 → (Q (some (vI (-1))) (mem (P, some 5, some 22) I J))) ∧ (¬ 6 ≤ x3 → ((0 ≤ x1 ∧ x1 < 4) ∧ (inR x2 ∧ (((0 ≤ x2 ∧ x2 < gi I 6 (x1 : Int).toNat) → ((0 ≤ ((((firstN.getD (x1).toNat 0) + x2) * 6) + x3) ∧ ((((firstN.getD (x1).toNat 0) + x2) * 6) + x3) < 180) ∧ (Q (some (vI (gi I 7 ((((firstN.getD (x1).toNat 0) + x2) * 6) + x3).toNat))) (mem (P, some 5, some 22) I J)))) ∧ (¬ (0 ≤ x2 ∧ x2 < gi I 6 (x1 : Int).toNat) → (Q (some (vI (-1))) (mem (P, some 5, some 22) I J)))))))))))))))) : WP k LAY m_X11_letter 0 [(0, vR (some 0)), (1, vI x1), (2, vI x2), (3, vI x3)] [] (mem (P, some 5, some 22) I J) Q := by
  refine st_iload_n (pc' := 1) dX11_letter_0 rfl rfl (j := 1) rfl ?_
  obtain ⟨e1, h⟩ := h
  refine st_if_lt (tg := 34) (pc' := 4) dX11_letter_1 (by decide) rfl e1 (fun c => ?_) (fun c => ?_)
  · replace h := h.1 c
    refine st_iconst (pc' := 35) dX11_letter_34 rfl ?_
    exact st_iret (ty := .int) dX11_letter_35 rfl rfl rfl h
  · replace h := h.2 c
    refine st_iload_n (pc' := 5) dX11_letter_4 rfl rfl (j := 1) rfl ?_
    refine st_iconst (pc' := 6) dX11_letter_5 rfl ?_
    refine st_icmp_ge (tg := 34) (pc' := 9) dX11_letter_6 (by decide) rfl e1 (by decide) (fun c => ?_) (fun c => ?_)
    · replace h := h.1 c
      refine st_iconst (pc' := 35) dX11_letter_34 rfl ?_
      exact st_iret (ty := .int) dX11_letter_35 rfl rfl rfl h
    · replace h := h.2 c
      refine st_iload_n (pc' := 10) dX11_letter_9 rfl rfl (j := 3) rfl ?_
      obtain ⟨e2, h⟩ := h
      refine st_if_lt (tg := 34) (pc' := 13) dX11_letter_10 (by decide) rfl e2 (fun c => ?_) (fun c => ?_)
      · replace h := h.1 c
        refine st_iconst (pc' := 35) dX11_letter_34 rfl ?_
        exact st_iret (ty := .int) dX11_letter_35 rfl rfl rfl h
      · replace h := h.2 c
        refine st_iload_n (pc' := 14) dX11_letter_13 rfl rfl (j := 3) rfl ?_
        refine st_bipush (pc' := 16) dX11_letter_14 rfl (by decide) ?_
        refine st_icmp_ge (tg := 34) (pc' := 19) dX11_letter_16 (by decide) rfl e2 (by decide) (fun c => ?_) (fun c => ?_)
        · replace h := h.1 c
          refine st_iconst (pc' := 35) dX11_letter_34 rfl ?_
          exact st_iret (ty := .int) dX11_letter_35 rfl rfl rfl h
        · replace h := h.2 c
          refine st_aload_n (pc' := 20) dX11_letter_19 rfl rfl (j := 0) rfl ?_
          refine G_X11_33_0 dX11_letter_20 (pc' := 23) rfl rfl ?_
          refine G_X11_121_4 dX11_letter_23 (pc' := 26) rfl rfl ?_
          refine st_iload_n (pc' := 27) dX11_letter_26 rfl rfl (j := 1) rfl ?_
          refine st_iload_n (pc' := 28) dX11_letter_27 rfl rfl (j := 2) rfl ?_
          obtain ⟨e3, h⟩ := h
          obtain ⟨e4, h⟩ := h
          refine st_callV (pc' := 31) (kc := k - 1) (E' := LAY) (cal := m_X7_holds) (n := 2) (as := [vI x1, vI x2]) (S := []) dX11_letter_28 rfl l_X11_155 k_X7_holds rfl L_5 c_X7 rfl rfl (Nat.le_of_ble_eq_true rfl) (by omega) ⟨Nat.le_refl _, Nat.le_refl _, Nat.le_refl _, Nat.le_refl _⟩ (Q1 := fun r M' => WP k LAY m_X11_letter 31 [(0, vR (some 0)), (1, vI x1), (2, vI x2), (3, vI x3)] (r.toList ++ []) M' Q) (S_X7_holds_5 (by omega) e3 e4 ?_) (fun r M' q => q)
          change WP _ LAY m_X11_letter 31 [(0, vR (some 0)), (1, vI x1), (2, vI x2), (3, vI x3)] [vI (b2i (0 ≤ x2 ∧ x2 < gi I 6 (x1 : Int).toNat))] (mem (P, some 5, some 22) I J) Q
          refine st_if_ne (tg := 36) (pc' := 34) dX11_letter_31 (by decide) rfl (b2i_in _) (fun c => ?_) (fun c => ?_)
          · replace h := h.1 (b2i_t.mp c)
            refine st_aload_n (pc' := 37) dX11_letter_36 rfl rfl (j := 0) rfl ?_
            refine G_X11_33_0 dX11_letter_37 (pc' := 40) rfl rfl ?_
            refine G_X11_121_4 dX11_letter_40 (pc' := 43) rfl rfl ?_
            refine G_X11_159_5 dX11_letter_43 (pc' := 46) rfl rfl ?_
            refine st_getsF (pc' := 49) dX11_letter_46 rfl f_X11_162 ?_
            refine st_iload_n (pc' := 50) dX11_letter_49 rfl rfl (j := 1) rfl ?_
            refine st_fnld (pc' := 51) (v := (firstN.getD (x1).toNat 0)) dX11_letter_50 rfl e3 rfl ?_
            refine st_iload_n (pc' := 52) dX11_letter_51 rfl rfl (j := 2) rfl ?_
            refine st_iadd (pc' := 53) dX11_letter_52 rfl ?_
            refine st_bipush (pc' := 55) dX11_letter_53 rfl (by decide) ?_
            refine st_imul (pc' := 56) dX11_letter_55 rfl ?_
            refine st_iload_n (pc' := 57) dX11_letter_56 rfl rfl (j := 3) rfl ?_
            refine st_iadd (pc' := 58) dX11_letter_57 rfl ?_
            obtain ⟨e5, h⟩ := h
            refine st_iaload (pc' := 59) (v := (gi I 7 ((((firstN.getD (x1).toNat 0) + x2) * 6) + x3).toNat)) dX11_letter_58 rfl L_7 (by decide) e5 (show gi I 7 ((((firstN.getD (x1).toNat 0) + x2) * 6) + x3).toNat = (gi I 7 ((((firstN.getD (x1).toNat 0) + x2) * 6) + x3).toNat) from rfl) ?_
            exact st_iret (ty := .int) dX11_letter_59 rfl rfl rfl h
          · replace h := h.2 (b2i_f.mp c)
            refine st_iconst (pc' := 35) dX11_letter_34 rfl ?_
            exact st_iret (ty := .int) dX11_letter_35 rfl rfl rfl h
set_option maxRecDepth 20000 in
set_option maxHeartbeats 4000000 in
theorem B_X11_library_0 {k : Nat} {P : Option Nat} {I : Nat → Nat → Int32} {J : Nat → Nat → Int64}  {Q : Option AV → Mem → Prop} (hk : 1 ≤ k) (h : WPm (k - 1) LAY m_X3_parse [vR (some 3), vR (some 22)] (mem (P, some 5, some 22) I J) (retI (fun v1 I2 J3 => inR v1 ∧ ((¬ v1 = (-1) → (WPm (k - 1) LAY m_X2_open [vR (some 4), vR (some 22)] (mem (P, some 5, some 22) (si I2 1 1 0) J3) (retV (fun I6 J7 => Q (some (vI v1)) (mem (P, some 5, some 5) I6 J7)) (P, some 5, some 22)))) ∧ (v1 = (-1) → (Q (some (vI (-1))) (mem (P, some 5, some 22) (si (si I2 1 1 0) 73 1 ((gi (si I2 1 1 0) 73 1) + 1)) J3))))) (P, some 5, some 22))) : WP k LAY m_X11_library 0 [(0, vR (some 0))] [] (mem (P, some 5, some 22) I J) Q := by
  refine st_aload_n (pc' := 1) dX11_library_0 rfl rfl (j := 0) rfl ?_
  refine G_X11_21_0 dX11_library_1 (pc' := 4) rfl rfl ?_
  refine st_aload_n (pc' := 5) dX11_library_4 rfl rfl (j := 0) rfl ?_
  refine G_X11_37_0 dX11_library_5 (pc' := 8) rfl rfl ?_
  refine st_callV (pc' := 11) (kc := k - 1) (E' := LAY) (cal := m_X3_parse) (n := 1) (as := [vR (some 22)]) (S := []) dX11_library_8 rfl l_X11_117 k_X3_parse rfl L_3 c_X3 rfl rfl (Nat.le_of_ble_eq_true rfl) (by omega) ⟨Nat.le_refl _, Nat.le_refl _, Nat.le_refl _, Nat.le_refl _⟩ h (fun r M' q => ?_)
  obtain ⟨v1, I2, J3, rfl, rfl, h⟩ := q
  change WP _ LAY m_X11_library 11 [(0, vR (some 0))] [vI v1] (mem (P, some 5, some 22) I2 J3) Q
  refine st_istore_n (pc' := 12) (L' := [(1, vI v1), (0, vR (some 0))]) dX11_library_11 rfl rfl (by decide) rfl ?_
  refine st_aload_n (pc' := 13) dX11_library_12 rfl rfl (j := 1) rfl ?_
  refine G_X11_10_0 dX11_library_13 (pc' := 16) rfl rfl ?_
  refine st_iconst (pc' := 17) dX11_library_16 rfl ?_
  refine P_X11_102_1 dX11_library_17 (pc' := 20) rfl rfl ?_
  refine st_iload_n (pc' := 21) dX11_library_20 rfl rfl (j := 0) rfl ?_
  refine st_iconst (pc' := 22) dX11_library_21 rfl ?_
  obtain ⟨e4, h⟩ := h
  refine st_icmp_ne (tg := 31) (pc' := 25) dX11_library_22 (by decide) rfl e4 (by decide) (fun c => ?_) (fun c => ?_)
  · replace h := h.1 c
    refine st_aload_n (pc' := 32) dX11_library_31 rfl rfl (j := 1) rfl ?_
    refine G_X11_33_0 dX11_library_32 (pc' := 35) rfl rfl ?_
    refine G_X11_121_4 dX11_library_35 (pc' := 38) rfl rfl ?_
    refine st_astore_n (pc' := 39) (L' := [(2, vR (some 5)), (1, vI v1), (0, vR (some 0))]) dX11_library_38 rfl rfl (by decide) rfl ?_
    refine st_aload_n (pc' := 40) dX11_library_39 rfl rfl (j := 2) rfl ?_
    refine G_X11_33_0 dX11_library_40 (pc' := 43) rfl rfl ?_
    refine st_aload_n (pc' := 44) dX11_library_43 rfl rfl (j := 2) rfl ?_
    refine G_X11_37_0 dX11_library_44 (pc' := 47) rfl rfl ?_
    refine st_callV (pc' := 50) (kc := k - 1) (E' := LAY) (cal := m_X2_open) (n := 1) (as := [vR (some 22)]) (S := []) dX11_library_47 rfl l_X11_124 k_X2_open rfl L_4 c_X2 rfl rfl (Nat.le_of_ble_eq_true rfl) (by omega) ⟨Nat.le_refl _, Nat.le_refl _, Nat.le_refl _, Nat.le_refl _⟩ h (fun r M' q => ?_)
    obtain ⟨I6, J7, rfl, rfl, h⟩ := q
    change WP _ LAY m_X11_library 50 [(2, vR (some 5)), (1, vI v1), (0, vR (some 0))] [] (mem (P, some 5, some 22) I6 J7) Q
    refine st_aload_n (pc' := 51) dX11_library_50 rfl rfl (j := 2) rfl ?_
    refine st_aload_n (pc' := 52) dX11_library_51 rfl rfl (j := 0) rfl ?_
    refine P_X11_37_0 dX11_library_52 (pc' := 55) rfl rfl ?_
    change WP _ _ _ _ _ _ (mem (P, some 5, some 5) I6 J7) _
    refine st_iload_n (pc' := 56) dX11_library_55 rfl rfl (j := 1) rfl ?_
    exact st_iret (ty := .int) dX11_library_56 rfl rfl rfl h
  · replace h := h.2 c
    refine st_aload_n (pc' := 26) dX11_library_25 rfl rfl (j := 1) rfl ?_
    refine st_iconst (pc' := 27) dX11_library_26 rfl ?_
    refine st_callV (pc' := 30) (kc := k - 1) (E' := LAY) (cal := m_X11_refuse) (n := 1) (as := [vI 1]) (S := []) dX11_library_27 rfl l_X11_105 k_X11_refuse rfl L_0 c_X11 rfl rfl (Nat.le_of_ble_eq_true rfl) (by omega) ⟨Nat.le_refl _, Nat.le_refl _, Nat.le_refl _, Nat.le_refl _⟩ (Q1 := fun r M' => WP k LAY m_X11_library 30 [(1, vI v1), (0, vR (some 0))] (r.toList ++ []) M' Q) (WPm.of k_X11_refuse.1 (Nat.le_of_ble_eq_true rfl) (B_X11_refuse_0 (by omega) ?_)) (fun r M' q => q)
    refine ⟨by decide, ?_⟩
    change WP _ LAY m_X11_library 30 [(1, vI v1), (0, vR (some 0))] [vI (-1)] (mem (P, some 5, some 22) (si (si I2 1 1 0) 73 1 ((gi (si I2 1 1 0) 73 1) + 1)) J3) Q
    exact st_iret (ty := .int) dX11_library_30 rfl rfl rfl h
set_option maxRecDepth 20000 in
set_option maxHeartbeats 4000000 in
theorem B_X11_list_0 {k : Nat} {P : Option Nat} {I : Nat → Nat → Int32} {J : Nat → Nat → Int64} {x1 : Int} {x2 : Int} {Q : Option AV → Mem → Prop} (hk : 2 ≤ k) (h : inR x1 ∧ ((¬ (0 ≤ x1 ∧ x1 < gi I 6 (2 : Int).toNat) → (Q (some (vI 0)) (mem (P, some 5, some 22) (si I 73 2 ((gi I 73 2) + 1)) J))) ∧ ((0 ≤ x1 ∧ x1 < gi I 6 (2 : Int).toNat) → (inR x2 ∧ ((¬ (0 ≤ x2 ∧ x2 < gi I 6 (1 : Int).toNat) → (Q (some (vI 0)) (mem (P, some 5, some 22) (si I 73 2 ((gi I 73 2) + 1)) J))) ∧ ((0 ≤ x2 ∧ x2 < gi I 6 (1 : Int).toNat) → (WPm (k - 1) LAY m_X2_mayList [vR (some 4), vI x1, vI x2] (mem (P, some 5, some 22) I J) (retI (fun v3 I4 J5 => inR v3 ∧ ((¬ v3 = 0 → (((0 : Int) ≤ ((gi I4 4 4) * 87) ∧ ((gi I4 4 4) * 87) + 87 ≤ 1740) ∧ (inR ((gi I4 4 5) + 1) ∧ ((0 ≤ ((3 + (x1 * 14)) + 5) ∧ ((3 + (x1 * 14)) + 5) < 87) ∧ ((8 ≤ (gi (si (si (si (fc I4 19 0 21 ((gi I4 4 4) * 87).toNat 87) 4 4 (rem32 ((gi I4 4 4) + 1) 20)) 4 5 (min 20 ((gi I4 4 5) + 1))) 4 6 ((gi I4 4 6) + 1)) 19 ((3 + (x1 * 14)) + 5).toNat) → (Q (some (vI 1)) (mem (P, some 5, some 22) (si (si (si (fc I4 19 0 21 ((gi I4 4 4) * 87).toNat 87) 4 4 (rem32 ((gi I4 4 4) + 1) 20)) 4 5 (min 20 ((gi I4 4 5) + 1))) 4 6 ((gi I4 4 6) + 1)) J5))) ∧ (¬ 8 ≤ (gi (si (si (si (fc I4 19 0 21 ((gi I4 4 4) * 87).toNat 87) 4 4 (rem32 ((gi I4 4 4) + 1) 20)) 4 5 (min 20 ((gi I4 4 5) + 1))) 4 6 ((gi I4 4 6) + 1)) 19 ((3 + (x1 * 14)) + 5).toNat) → ((0 ≤ ((3 + (x1 * 14)) + (6 + (gi (si (si (si (fc I4 19 0 21 ((gi I4 4 4) * 87).toNat 87) 4 4 (rem32 ((gi I4 4 4) + 1) 20)) 4 5 (min 20 ((gi I4 4 5) + 1))) 4 6 ((gi I4 4 6) + 1)) 19 ((3 + (x1 * 14)) + 5).toNat))) ∧ ((3 + (x1 * 14)) + (6 + (gi (si (si (si (fc I4 19 0 21 ((gi I4 4 4) * 87).toNat 87) 4 4 (rem32 ((gi I4 4 4) + 1) 20)) 4 5 (min 20 ((gi I4 4 5) + 1))) 4 6 ((gi I4 4 6) + 1)) 19 ((3 + (x1 * 14)) + 5).toNat))) < 87) ∧ (Q (some (vI 1)) (mem (P, some 5, some 22) (si (si (si (si (si (fc I4 19 0 21 ((gi I4 4 4) * 87).toNat 87) 4 4 (rem32 ((gi I4 4 4) + 1) 20)) 4 5 (min 20 ((gi I4 4 5) + 1))) 4 6 ((gi I4 4 6) + 1)) 19 ((3 + (x1 * 14)) + (6 + (gi (si (si (si (fc I4 19 0 21 ((gi I4 4 4) * 87).toNat 87) 4 4 (rem32 ((gi I4 4 4) + 1) 20)) 4 5 (min 20 ((gi I4 4 5) + 1))) 4 6 ((gi I4 4 6) + 1)) 19 ((3 + (x1 * 14)) + 5).toNat))).toNat x2) 19 ((3 + (x1 * 14)) + 5).toNat ((gi (si (si (si (fc I4 19 0 21 ((gi I4 4 4) * 87).toNat 87) 4 4 (rem32 ((gi I4 4 4) + 1) 20)) 4 5 (min 20 ((gi I4 4 5) + 1))) 4 6 ((gi I4 4 6) + 1)) 19 ((3 + (x1 * 14)) + 5).toNat) + 1)) J5))))))))) ∧ (v3 = 0 → (Q (some (vI 0)) (mem (P, some 5, some 22) (si I4 73 2 ((gi I4 73 2) + 1)) J5))))) (P, some 5, some 22))))))))) : WP k LAY m_X11_list 0 [(0, vR (some 0)), (1, vI x1), (2, vI x2)] [] (mem (P, some 5, some 22) I J) Q := by
  refine st_aload_n (pc' := 1) dX11_list_0 rfl rfl (j := 0) rfl ?_
  refine G_X11_33_0 dX11_list_1 (pc' := 4) rfl rfl ?_
  refine G_X11_121_4 dX11_list_4 (pc' := 7) rfl rfl ?_
  refine st_iconst (pc' := 8) dX11_list_7 rfl ?_
  refine st_iload_n (pc' := 9) dX11_list_8 rfl rfl (j := 1) rfl ?_
  obtain ⟨e1, h⟩ := h
  refine st_callV (pc' := 12) (kc := k - 1) (E' := LAY) (cal := m_X7_holds) (n := 2) (as := [vI 2, vI x1]) (S := []) dX11_list_9 rfl l_X11_155 k_X7_holds rfl L_5 c_X7 rfl rfl (Nat.le_of_ble_eq_true rfl) (by omega) ⟨Nat.le_refl _, Nat.le_refl _, Nat.le_refl _, Nat.le_refl _⟩ (Q1 := fun r M' => WP k LAY m_X11_list 12 [(0, vR (some 0)), (1, vI x1), (2, vI x2)] (r.toList ++ []) M' Q) (S_X7_holds_5 (by omega) (by decide) e1 ?_) (fun r M' q => q)
  change WP _ LAY m_X11_list 12 [(0, vR (some 0)), (1, vI x1), (2, vI x2)] [vI (b2i (0 ≤ x1 ∧ x1 < gi I 6 (2 : Int).toNat))] (mem (P, some 5, some 22) I J) Q
  refine st_if_eq (tg := 42) (pc' := 15) dX11_list_12 (by decide) rfl (b2i_in _) (fun c => ?_) (fun c => ?_)
  · replace h := h.1 (b2i_f.mp c)
    refine st_aload_n (pc' := 43) dX11_list_42 rfl rfl (j := 0) rfl ?_
    refine st_iconst (pc' := 44) dX11_list_43 rfl ?_
    refine st_callV (pc' := 47) (kc := k - 1) (E' := LAY) (cal := m_X11_deny) (n := 1) (as := [vI 2]) (S := []) dX11_list_44 rfl l_X11_113 k_X11_deny rfl L_0 c_X11 rfl rfl (Nat.le_of_ble_eq_true rfl) (by omega) ⟨Nat.le_refl _, Nat.le_refl _, Nat.le_refl _, Nat.le_refl _⟩ (Q1 := fun r M' => WP k LAY m_X11_list 47 [(0, vR (some 0)), (1, vI x1), (2, vI x2)] (r.toList ++ []) M' Q) (WPm.of k_X11_deny.1 (Nat.le_of_ble_eq_true rfl) (B_X11_deny_0 (by omega) ?_)) (fun r M' q => q)
    refine ⟨by decide, ?_⟩
    change WP _ LAY m_X11_list 47 [(0, vR (some 0)), (1, vI x1), (2, vI x2)] [vI 0] (mem (P, some 5, some 22) (si I 73 2 ((gi I 73 2) + 1)) J) Q
    exact st_iret (ty := .boolean) dX11_list_47 rfl (by decide) rfl h
  · replace h := h.2 (b2i_t.mp c)
    refine st_aload_n (pc' := 16) dX11_list_15 rfl rfl (j := 0) rfl ?_
    refine G_X11_33_0 dX11_list_16 (pc' := 19) rfl rfl ?_
    refine G_X11_121_4 dX11_list_19 (pc' := 22) rfl rfl ?_
    refine st_iconst (pc' := 23) dX11_list_22 rfl ?_
    refine st_iload_n (pc' := 24) dX11_list_23 rfl rfl (j := 2) rfl ?_
    obtain ⟨e2, h⟩ := h
    refine st_callV (pc' := 27) (kc := k - 1) (E' := LAY) (cal := m_X7_holds) (n := 2) (as := [vI 1, vI x2]) (S := []) dX11_list_24 rfl l_X11_155 k_X7_holds rfl L_5 c_X7 rfl rfl (Nat.le_of_ble_eq_true rfl) (by omega) ⟨Nat.le_refl _, Nat.le_refl _, Nat.le_refl _, Nat.le_refl _⟩ (Q1 := fun r M' => WP k LAY m_X11_list 27 [(0, vR (some 0)), (1, vI x1), (2, vI x2)] (r.toList ++ []) M' Q) (S_X7_holds_5 (by omega) (by decide) e2 ?_) (fun r M' q => q)
    change WP _ LAY m_X11_list 27 [(0, vR (some 0)), (1, vI x1), (2, vI x2)] [vI (b2i (0 ≤ x2 ∧ x2 < gi I 6 (1 : Int).toNat))] (mem (P, some 5, some 22) I J) Q
    refine st_if_eq (tg := 42) (pc' := 30) dX11_list_27 (by decide) rfl (b2i_in _) (fun c => ?_) (fun c => ?_)
    · replace h := h.1 (b2i_f.mp c)
      refine st_aload_n (pc' := 43) dX11_list_42 rfl rfl (j := 0) rfl ?_
      refine st_iconst (pc' := 44) dX11_list_43 rfl ?_
      refine st_callV (pc' := 47) (kc := k - 1) (E' := LAY) (cal := m_X11_deny) (n := 1) (as := [vI 2]) (S := []) dX11_list_44 rfl l_X11_113 k_X11_deny rfl L_0 c_X11 rfl rfl (Nat.le_of_ble_eq_true rfl) (by omega) ⟨Nat.le_refl _, Nat.le_refl _, Nat.le_refl _, Nat.le_refl _⟩ (Q1 := fun r M' => WP k LAY m_X11_list 47 [(0, vR (some 0)), (1, vI x1), (2, vI x2)] (r.toList ++ []) M' Q) (WPm.of k_X11_deny.1 (Nat.le_of_ble_eq_true rfl) (B_X11_deny_0 (by omega) ?_)) (fun r M' q => q)
      refine ⟨by decide, ?_⟩
      change WP _ LAY m_X11_list 47 [(0, vR (some 0)), (1, vI x1), (2, vI x2)] [vI 0] (mem (P, some 5, some 22) (si I 73 2 ((gi I 73 2) + 1)) J) Q
      exact st_iret (ty := .boolean) dX11_list_47 rfl (by decide) rfl h
    · replace h := h.2 (b2i_t.mp c)
      refine st_aload_n (pc' := 31) dX11_list_30 rfl rfl (j := 0) rfl ?_
      refine G_X11_33_0 dX11_list_31 (pc' := 34) rfl rfl ?_
      refine st_iload_n (pc' := 35) dX11_list_34 rfl rfl (j := 1) rfl ?_
      refine st_iload_n (pc' := 36) dX11_list_35 rfl rfl (j := 2) rfl ?_
      refine st_callV (pc' := 39) (kc := k - 1) (E' := LAY) (cal := m_X2_mayList) (n := 2) (as := [vI x1, vI x2]) (S := []) dX11_list_36 rfl l_X11_249 k_X2_mayList rfl L_4 c_X2 rfl rfl (Nat.le_of_ble_eq_true rfl) (by omega) ⟨Nat.le_refl _, Nat.le_refl _, Nat.le_refl _, Nat.le_refl _⟩ h (fun r M' q => ?_)
      obtain ⟨v3, I4, J5, rfl, rfl, h⟩ := q
      change WP _ LAY m_X11_list 39 [(0, vR (some 0)), (1, vI x1), (2, vI x2)] [vI v3] (mem (P, some 5, some 22) I4 J5) Q
      obtain ⟨e6, h⟩ := h
      refine st_if_ne (tg := 48) (pc' := 42) dX11_list_39 (by decide) rfl e6 (fun c => ?_) (fun c => ?_)
      · replace h := h.1 c
        refine st_aload_n (pc' := 49) dX11_list_48 rfl rfl (j := 0) rfl ?_
        refine G_X11_33_0 dX11_list_49 (pc' := 52) rfl rfl ?_
        refine st_callV (pc' := 55) (kc := k - 1) (E' := LAY) (cal := m_X2_remember) (n := 0) (as := []) (S := []) dX11_list_52 rfl l_X11_242 k_X2_remember rfl L_4 c_X2 rfl rfl (Nat.le_of_ble_eq_true rfl) (by omega) ⟨Nat.le_refl _, Nat.le_refl _, Nat.le_refl _, Nat.le_refl _⟩ (Q1 := fun r M' => WP k LAY m_X11_list 55 [(0, vR (some 0)), (1, vI x1), (2, vI x2)] (r.toList ++ []) M' Q) (WPm.of k_X2_remember.1 (Nat.le_of_ble_eq_true rfl) (B_X2_remember_0 (by omega) ?_)) (fun r M' q => q)
        obtain ⟨e7, h⟩ := h
        refine ⟨e7, ?_⟩
        obtain ⟨e8, h⟩ := h
        refine ⟨e8, ?_⟩
        change WP _ LAY m_X11_list 55 [(0, vR (some 0)), (1, vI x1), (2, vI x2)] [] (mem (P, some 5, some 22) (si (si (si (fc I4 19 0 21 ((gi I4 4 4) * 87).toNat 87) 4 4 (rem32 ((gi I4 4 4) + 1) 20)) 4 5 (min 20 ((gi I4 4 5) + 1))) 4 6 ((gi I4 4 6) + 1)) J5) Q
        refine st_aload_n (pc' := 56) dX11_list_55 rfl rfl (j := 0) rfl ?_
        refine G_X11_33_0 dX11_list_56 (pc' := 59) rfl rfl ?_
        refine st_iload_n (pc' := 60) dX11_list_59 rfl rfl (j := 1) rfl ?_
        refine st_iload_n (pc' := 61) dX11_list_60 rfl rfl (j := 2) rfl ?_
        refine st_callV (pc' := 64) (kc := k - 1) (E' := LAY) (cal := m_X2_putBehind) (n := 2) (as := [vI x1, vI x2]) (S := []) dX11_list_61 rfl l_X11_252 k_X2_putBehind rfl L_4 c_X2 rfl rfl (Nat.le_of_ble_eq_true rfl) (by omega) ⟨Nat.le_refl _, Nat.le_refl _, Nat.le_refl _, Nat.le_refl _⟩ (Q1 := fun r M' => WP k LAY m_X11_list 64 [(0, vR (some 0)), (1, vI x1), (2, vI x2)] (r.toList ++ []) M' Q) (WPm.of k_X2_putBehind.1 (Nat.le_of_ble_eq_true rfl) (B_X2_putBehind_0 (by omega) ?_)) (fun r M' q => q)
        obtain ⟨e9, h⟩ := h
        refine ⟨e9, ?_⟩
        refine ⟨fun c => ?_, fun c => ?_⟩
        · replace h := h.1 c
          change WP _ LAY m_X11_list 64 [(0, vR (some 0)), (1, vI x1), (2, vI x2)] [] (mem (P, some 5, some 22) (si (si (si (fc I4 19 0 21 ((gi I4 4 4) * 87).toNat 87) 4 4 (rem32 ((gi I4 4 4) + 1) 20)) 4 5 (min 20 ((gi I4 4 5) + 1))) 4 6 ((gi I4 4 6) + 1)) J5) Q
          refine st_iconst (pc' := 65) dX11_list_64 rfl ?_
          exact st_iret (ty := .boolean) dX11_list_65 rfl (by decide) rfl h
        · replace h := h.2 c
          obtain ⟨e10, h⟩ := h
          refine ⟨e10, ?_⟩
          change WP _ LAY m_X11_list 64 [(0, vR (some 0)), (1, vI x1), (2, vI x2)] [] (mem (P, some 5, some 22) (si (si (si (si (si (fc I4 19 0 21 ((gi I4 4 4) * 87).toNat 87) 4 4 (rem32 ((gi I4 4 4) + 1) 20)) 4 5 (min 20 ((gi I4 4 5) + 1))) 4 6 ((gi I4 4 6) + 1)) 19 ((3 + (x1 * 14)) + (6 + (gi (si (si (si (fc I4 19 0 21 ((gi I4 4 4) * 87).toNat 87) 4 4 (rem32 ((gi I4 4 4) + 1) 20)) 4 5 (min 20 ((gi I4 4 5) + 1))) 4 6 ((gi I4 4 6) + 1)) 19 ((3 + (x1 * 14)) + 5).toNat))).toNat x2) 19 ((3 + (x1 * 14)) + 5).toNat ((gi (si (si (si (fc I4 19 0 21 ((gi I4 4 4) * 87).toNat 87) 4 4 (rem32 ((gi I4 4 4) + 1) 20)) 4 5 (min 20 ((gi I4 4 5) + 1))) 4 6 ((gi I4 4 6) + 1)) 19 ((3 + (x1 * 14)) + 5).toNat) + 1)) J5) Q
          refine st_iconst (pc' := 65) dX11_list_64 rfl ?_
          exact st_iret (ty := .boolean) dX11_list_65 rfl (by decide) rfl h
      · replace h := h.2 c
        refine st_aload_n (pc' := 43) dX11_list_42 rfl rfl (j := 0) rfl ?_
        refine st_iconst (pc' := 44) dX11_list_43 rfl ?_
        refine st_callV (pc' := 47) (kc := k - 1) (E' := LAY) (cal := m_X11_deny) (n := 1) (as := [vI 2]) (S := []) dX11_list_44 rfl l_X11_113 k_X11_deny rfl L_0 c_X11 rfl rfl (Nat.le_of_ble_eq_true rfl) (by omega) ⟨Nat.le_refl _, Nat.le_refl _, Nat.le_refl _, Nat.le_refl _⟩ (Q1 := fun r M' => WP k LAY m_X11_list 47 [(0, vR (some 0)), (1, vI x1), (2, vI x2)] (r.toList ++ []) M' Q) (WPm.of k_X11_deny.1 (Nat.le_of_ble_eq_true rfl) (B_X11_deny_0 (by omega) ?_)) (fun r M' q => q)
        refine ⟨by decide, ?_⟩
        change WP _ LAY m_X11_list 47 [(0, vR (some 0)), (1, vI x1), (2, vI x2)] [vI 0] (mem (P, some 5, some 22) (si I4 73 2 ((gi I4 73 2) + 1)) J5) Q
        exact st_iret (ty := .boolean) dX11_list_47 rfl (by decide) rfl h
set_option maxRecDepth 20000 in
set_option maxHeartbeats 4000000 in
theorem B_X11_mayTell_0 {k : Nat} {P : Option Nat} {I : Nat → Nat → Int32} {J : Nat → Nat → Int64} {x1 : Int} {x2 : Int} {x3 : Int} {Q : Option AV → Mem → Prop} (hk : 2 ≤ k) (h : (0 ≤ ((3 + (x1 * 14)) + 0) ∧ ((3 + (x1 * 14)) + 0) < 87) ∧ ((0 ≤ ((3 + (x2 * 14)) + 0) ∧ ((3 + (x2 * 14)) + 0) < 87) ∧ ((¬ (gi I 19 ((3 + (x1 * 14)) + 0).toNat) = (gi I 19 ((3 + (x2 * 14)) + 0).toNat) → (Q (some (vI 0)) (mem (P, some 5, some 22) I J))) ∧ ((gi I 19 ((3 + (x1 * 14)) + 0).toNat) = (gi I 19 ((3 + (x2 * 14)) + 0).toNat) → ((0 ≤ ((3 + (x1 * 14)) + 1) ∧ ((3 + (x1 * 14)) + 1) < 87) ∧ ((¬ (and32 (gi I 19 ((3 + (x1 * 14)) + 1).toNat) (shl32 1 x3)) = 0 → ((0 ≤ ((3 + (x2 * 14)) + 1) ∧ ((3 + (x2 * 14)) + 1) < 87) ∧ ((0 ≤ ((3 + (x2 * 14)) + 2) ∧ ((3 + (x2 * 14)) + 2) < 87) ∧ (∀ y6 : Int, y6 = (or32 (gi I 19 ((3 + (x2 * 14)) + 1).toNat) (gi I 19 ((3 + (x2 * 14)) + 2).toNat)) → ((¬ (and32 y6 (shl32 1 x3)) = 0 → (Q (some (vI 0)) (mem (P, some 5, some 22) I J))) ∧ ((and32 y6 (shl32 1 x3)) = 0 → ((0 ≤ x3 ∧ x3 < 14) ∧ (((and32 (gi I 11 (x3 : Int).toNat) (xor32 y6 (-1)) = 0) → (WPm (k - 1) LAY m_X9_setNow [vR (some 36), vI x2] (mem (P, some 5, some 22) I J) (retV (fun I9 J10 => WPm (k - 1) LAY m_X9_mayHear [vR (some 36), vI x3] (mem (P, some 5, some 22) I9 J10) (retI (fun v11 I12 J13 => (v11 = 0 ∨ v11 = 1) ∧ (Q (some (vI v11)) (mem (P, some 5, some 22) I12 J13))) (P, some 5, some 22))) (P, some 5, some 22)))) ∧ (¬ (and32 (gi I 11 (x3 : Int).toNat) (xor32 y6 (-1)) = 0) → (Q (some (vI 0)) (mem (P, some 5, some 22) I J))))))))))) ∧ ((and32 (gi I 19 ((3 + (x1 * 14)) + 1).toNat) (shl32 1 x3)) = 0 → (Q (some (vI 0)) (mem (P, some 5, some 22) I J))))))))) : WP k LAY m_X11_mayTell 0 [(0, vR (some 0)), (1, vI x1), (2, vI x2), (3, vI x3)] [] (mem (P, some 5, some 22) I J) Q := by
  refine st_iconst (pc' := 1) dX11_mayTell_0 rfl ?_
  refine st_iload_n (pc' := 2) dX11_mayTell_1 rfl rfl (j := 3) rfl ?_
  refine st_ishl (pc' := 3) (z := (shl32 1 x3)) dX11_mayTell_2 rfl rfl ?_
  refine st_istore (pc' := 5) (L' := [(4, vI (shl32 1 x3)), (0, vR (some 0)), (1, vI x1), (2, vI x2), (3, vI x3)]) dX11_mayTell_3 rfl (by decide) rfl ?_
  refine st_aload_n (pc' := 6) dX11_mayTell_5 rfl rfl (j := 1) rfl ?_
  refine G_X11_33_0 dX11_mayTell_6 (pc' := 9) rfl rfl ?_
  refine st_iload_n (pc' := 10) dX11_mayTell_9 rfl rfl (j := 2) rfl ?_
  refine st_iconst (pc' := 11) dX11_mayTell_10 rfl ?_
  refine st_callV (pc' := 14) (kc := k - 1) (E' := LAY) (cal := m_X2_of) (n := 2) (as := [vI x1, vI 0]) (S := []) dX11_mayTell_11 rfl l_X11_183 k_X2_of rfl L_4 c_X2 rfl rfl (Nat.le_of_ble_eq_true rfl) (by omega) ⟨Nat.le_refl _, Nat.le_refl _, Nat.le_refl _, Nat.le_refl _⟩ (Q1 := fun r M' => WP k LAY m_X11_mayTell 14 [(4, vI (shl32 1 x3)), (0, vR (some 0)), (1, vI x1), (2, vI x2), (3, vI x3)] (r.toList ++ []) M' Q) (WPm.of k_X2_of.1 (Nat.le_of_ble_eq_true rfl) (B_X2_of_0 (by omega) ?_)) (fun r M' q => q)
  obtain ⟨e1, h⟩ := h
  refine ⟨e1, ?_⟩
  change WP _ LAY m_X11_mayTell 14 [(4, vI (shl32 1 x3)), (0, vR (some 0)), (1, vI x1), (2, vI x2), (3, vI x3)] [vI (gi I 19 ((3 + (x1 * 14)) + 0).toNat)] (mem (P, some 5, some 22) I J) Q
  refine st_aload_n (pc' := 15) dX11_mayTell_14 rfl rfl (j := 1) rfl ?_
  refine G_X11_33_0 dX11_mayTell_15 (pc' := 18) rfl rfl ?_
  refine st_iload_n (pc' := 19) dX11_mayTell_18 rfl rfl (j := 3) rfl ?_
  refine st_iconst (pc' := 20) dX11_mayTell_19 rfl ?_
  refine st_callV (pc' := 23) (kc := k - 1) (E' := LAY) (cal := m_X2_of) (n := 2) (as := [vI x2, vI 0]) (S := [vI (gi I 19 ((3 + (x1 * 14)) + 0).toNat)]) dX11_mayTell_20 rfl l_X11_183 k_X2_of rfl L_4 c_X2 rfl rfl (Nat.le_of_ble_eq_true rfl) (by omega) ⟨Nat.le_refl _, Nat.le_refl _, Nat.le_refl _, Nat.le_refl _⟩ (Q1 := fun r M' => WP k LAY m_X11_mayTell 23 [(4, vI (shl32 1 x3)), (0, vR (some 0)), (1, vI x1), (2, vI x2), (3, vI x3)] (r.toList ++ [vI (gi I 19 ((3 + (x1 * 14)) + 0).toNat)]) M' Q) (WPm.of k_X2_of.1 (Nat.le_of_ble_eq_true rfl) (B_X2_of_0 (by omega) ?_)) (fun r M' q => q)
  obtain ⟨e2, h⟩ := h
  refine ⟨e2, ?_⟩
  change WP _ LAY m_X11_mayTell 23 [(4, vI (shl32 1 x3)), (0, vR (some 0)), (1, vI x1), (2, vI x2), (3, vI x3)] [vI (gi I 19 ((3 + (x2 * 14)) + 0).toNat), vI (gi I 19 ((3 + (x1 * 14)) + 0).toNat)] (mem (P, some 5, some 22) I J) Q
  refine st_icmp_ne (tg := 41) (pc' := 26) dX11_mayTell_23 (by decide) rfl (gi_in _ _ _) (gi_in _ _ _) (fun c => ?_) (fun c => ?_)
  · replace h := h.1 c
    refine st_iconst (pc' := 42) dX11_mayTell_41 rfl ?_
    exact st_iret (ty := .boolean) dX11_mayTell_42 rfl (by decide) rfl h
  · replace h := h.2 c
    refine st_aload_n (pc' := 27) dX11_mayTell_26 rfl rfl (j := 1) rfl ?_
    refine G_X11_33_0 dX11_mayTell_27 (pc' := 30) rfl rfl ?_
    refine st_iload_n (pc' := 31) dX11_mayTell_30 rfl rfl (j := 2) rfl ?_
    refine st_iconst (pc' := 32) dX11_mayTell_31 rfl ?_
    refine st_callV (pc' := 35) (kc := k - 1) (E' := LAY) (cal := m_X2_of) (n := 2) (as := [vI x1, vI 1]) (S := []) dX11_mayTell_32 rfl l_X11_183 k_X2_of rfl L_4 c_X2 rfl rfl (Nat.le_of_ble_eq_true rfl) (by omega) ⟨Nat.le_refl _, Nat.le_refl _, Nat.le_refl _, Nat.le_refl _⟩ (Q1 := fun r M' => WP k LAY m_X11_mayTell 35 [(4, vI (shl32 1 x3)), (0, vR (some 0)), (1, vI x1), (2, vI x2), (3, vI x3)] (r.toList ++ []) M' Q) (WPm.of k_X2_of.1 (Nat.le_of_ble_eq_true rfl) (B_X2_of_0 (by omega) ?_)) (fun r M' q => q)
    obtain ⟨e3, h⟩ := h
    refine ⟨e3, ?_⟩
    change WP _ LAY m_X11_mayTell 35 [(4, vI (shl32 1 x3)), (0, vR (some 0)), (1, vI x1), (2, vI x2), (3, vI x3)] [vI (gi I 19 ((3 + (x1 * 14)) + 1).toNat)] (mem (P, some 5, some 22) I J) Q
    refine st_iload (pc' := 37) dX11_mayTell_35 rfl (j := 0) rfl ?_
    refine st_iand (pc' := 38) (z := (and32 (gi I 19 ((3 + (x1 * 14)) + 1).toNat) (shl32 1 x3))) dX11_mayTell_37 rfl rfl ?_
    refine st_if_ne (tg := 43) (pc' := 41) dX11_mayTell_38 (by decide) rfl (and32_in _ _) (fun c => ?_) (fun c => ?_)
    · replace h := h.1 c
      refine st_aload_n (pc' := 44) dX11_mayTell_43 rfl rfl (j := 1) rfl ?_
      refine G_X11_33_0 dX11_mayTell_44 (pc' := 47) rfl rfl ?_
      refine st_iload_n (pc' := 48) dX11_mayTell_47 rfl rfl (j := 3) rfl ?_
      refine st_callV (pc' := 51) (kc := k - 1) (E' := LAY) (cal := m_X2_known) (n := 1) (as := [vI x2]) (S := []) dX11_mayTell_48 rfl l_X11_360 k_X2_known rfl L_4 c_X2 rfl rfl (Nat.le_of_ble_eq_true rfl) (by omega) ⟨Nat.le_refl _, Nat.le_refl _, Nat.le_refl _, Nat.le_refl _⟩ (Q1 := fun r M' => WP k LAY m_X11_mayTell 51 [(4, vI (shl32 1 x3)), (0, vR (some 0)), (1, vI x1), (2, vI x2), (3, vI x3)] (r.toList ++ []) M' Q) (WPm.of k_X2_known.1 (Nat.le_of_ble_eq_true rfl) (B_X2_known_0 (by omega) ?_)) (fun r M' q => q)
      obtain ⟨e4, h⟩ := h
      refine ⟨e4, ?_⟩
      obtain ⟨e5, h⟩ := h
      refine ⟨e5, ?_⟩
      change WP _ LAY m_X11_mayTell 51 [(4, vI (shl32 1 x3)), (0, vR (some 0)), (1, vI x1), (2, vI x2), (3, vI x3)] [vI (or32 (gi I 19 ((3 + (x2 * 14)) + 1).toNat) (gi I 19 ((3 + (x2 * 14)) + 2).toNat))] (mem (P, some 5, some 22) I J) Q
      obtain ⟨y6, hy6⟩ : ∃ y : Int, y = (or32 (gi I 19 ((3 + (x2 * 14)) + 1).toNat) (gi I 19 ((3 + (x2 * 14)) + 2).toNat)) := ⟨_, rfl⟩
      rw [← hy6]
      replace h := h y6 hy6
      refine st_istore (pc' := 53) (L' := [(5, vI y6), (4, vI (shl32 1 x3)), (0, vR (some 0)), (1, vI x1), (2, vI x2), (3, vI x3)]) dX11_mayTell_51 rfl (by decide) rfl ?_
      refine st_iload (pc' := 55) dX11_mayTell_53 rfl (j := 0) rfl ?_
      refine st_iload (pc' := 57) dX11_mayTell_55 rfl (j := 1) rfl ?_
      refine st_iand (pc' := 58) (z := (and32 y6 (shl32 1 x3))) dX11_mayTell_57 rfl rfl ?_
      refine st_if_ne (tg := 77) (pc' := 61) dX11_mayTell_58 (by decide) rfl (and32_in _ _) (fun c => ?_) (fun c => ?_)
      · replace h := h.1 c
        refine st_iconst (pc' := 78) dX11_mayTell_77 rfl ?_
        exact st_iret (ty := .boolean) dX11_mayTell_78 rfl (by decide) rfl h
      · replace h := h.2 c
        refine st_aload_n (pc' := 62) dX11_mayTell_61 rfl rfl (j := 2) rfl ?_
        refine G_X11_33_0 dX11_mayTell_62 (pc' := 65) rfl rfl ?_
        refine G_X11_121_4 dX11_mayTell_65 (pc' := 68) rfl rfl ?_
        refine st_iload (pc' := 70) dX11_mayTell_68 rfl (j := 0) rfl ?_
        refine st_iload_n (pc' := 71) dX11_mayTell_70 rfl rfl (j := 5) rfl ?_
        obtain ⟨e7, h⟩ := h
        refine st_callV (pc' := 74) (kc := k - 1) (E' := LAY) (cal := m_X7_mayRead) (n := 2) (as := [vI y6, vI x3]) (S := []) dX11_mayTell_71 rfl l_X11_363 k_X7_mayRead rfl L_5 c_X7 rfl rfl (Nat.le_of_ble_eq_true rfl) (by omega) ⟨Nat.le_refl _, Nat.le_refl _, Nat.le_refl _, Nat.le_refl _⟩ (Q1 := fun r M' => WP k LAY m_X11_mayTell 74 [(5, vI y6), (4, vI (shl32 1 x3)), (0, vR (some 0)), (1, vI x1), (2, vI x2), (3, vI x3)] (r.toList ++ []) M' Q) (S_X7_mayRead_5 (by omega) e7 ?_) (fun r M' q => q)
        change WP _ LAY m_X11_mayTell 74 [(5, vI y6), (4, vI (shl32 1 x3)), (0, vR (some 0)), (1, vI x1), (2, vI x2), (3, vI x3)] [vI (b2i (and32 (gi I 11 (x3 : Int).toNat) (xor32 y6 (-1)) = 0))] (mem (P, some 5, some 22) I J) Q
        refine st_if_ne (tg := 79) (pc' := 77) dX11_mayTell_74 (by decide) rfl (b2i_in _) (fun c => ?_) (fun c => ?_)
        · replace h := h.1 (b2i_t.mp c)
          refine st_aload_n (pc' := 80) dX11_mayTell_79 rfl rfl (j := 2) rfl ?_
          refine G_X11_46_0 dX11_mayTell_80 (pc' := 83) rfl rfl ?_
          refine st_iload_n (pc' := 84) dX11_mayTell_83 rfl rfl (j := 4) rfl ?_
          refine st_callV (pc' := 87) (kc := k - 1) (E' := LAY) (cal := m_X9_setNow) (n := 1) (as := [vI x2]) (S := []) dX11_mayTell_84 rfl l_X11_205 k_X9_setNow rfl L_36 c_X9 rfl rfl (Nat.le_of_ble_eq_true rfl) (by omega) ⟨Nat.le_refl _, Nat.le_refl _, Nat.le_refl _, Nat.le_refl _⟩ h (fun r M' q => ?_)
          obtain ⟨I9, J10, rfl, rfl, h⟩ := q
          change WP _ LAY m_X11_mayTell 87 [(5, vI y6), (4, vI (shl32 1 x3)), (0, vR (some 0)), (1, vI x1), (2, vI x2), (3, vI x3)] [] (mem (P, some 5, some 22) I9 J10) Q
          refine st_aload_n (pc' := 88) dX11_mayTell_87 rfl rfl (j := 2) rfl ?_
          refine G_X11_46_0 dX11_mayTell_88 (pc' := 91) rfl rfl ?_
          refine st_iload_n (pc' := 92) dX11_mayTell_91 rfl rfl (j := 5) rfl ?_
          refine st_callV (pc' := 95) (kc := k - 1) (E' := LAY) (cal := m_X9_mayHear) (n := 1) (as := [vI x3]) (S := []) dX11_mayTell_92 rfl l_X11_366 k_X9_mayHear rfl L_36 c_X9 rfl rfl (Nat.le_of_ble_eq_true rfl) (by omega) ⟨Nat.le_refl _, Nat.le_refl _, Nat.le_refl _, Nat.le_refl _⟩ h (fun r M' q => ?_)
          obtain ⟨v11, I12, J13, rfl, rfl, h⟩ := q
          change WP _ LAY m_X11_mayTell 95 [(5, vI y6), (4, vI (shl32 1 x3)), (0, vR (some 0)), (1, vI x1), (2, vI x2), (3, vI x3)] [vI v11] (mem (P, some 5, some 22) I12 J13) Q
          obtain ⟨e14, h⟩ := h
          exact st_iret (ty := .boolean) dX11_mayTell_95 rfl (nar_b e14) rfl h
        · replace h := h.2 (b2i_f.mp c)
          refine st_iconst (pc' := 78) dX11_mayTell_77 rfl ?_
          exact st_iret (ty := .boolean) dX11_mayTell_78 rfl (by decide) rfl h
    · replace h := h.2 c
      refine st_iconst (pc' := 42) dX11_mayTell_41 rfl ?_
      exact st_iret (ty := .boolean) dX11_mayTell_42 rfl (by decide) rfl h
set_option maxRecDepth 20000 in
set_option maxHeartbeats 4000000 in
theorem B_X11_most_0 {k : Nat} {P : Option Nat} {I : Nat → Nat → Int32} {J : Nat → Nat → Int64} {x1 : Int} {x2 : Int} {x3 : Int} {Q : Option AV → Mem → Prop} (hk : 1 ≤ k) (h : inR x1 ∧ ((¬ (0 ≤ x1 ∧ x1 < gi I 6 (2 : Int).toNat) → (Q (some (vI (-1))) (mem (P, some 5, some 22) I J))) ∧ ((0 ≤ x1 ∧ x1 < gi I 6 (2 : Int).toNat) → (inR x2 ∧ ((x2 < 0 → (Q (some (vI (-1))) (mem (P, some 5, some 22) I J))) ∧ (¬ x2 < 0 → ((x2 ≤ 99 → (inR x3 ∧ ((x3 < 0 → (Q (some (vI (-1))) (mem (P, some 5, some 22) I J))) ∧ (¬ x3 < 0 → ((x3 ≤ 2 → (WPm (k - 1) LAY m_X8_findMost [vR (some 51), vI x1, vI x2] (mem (P, some 5, some 22) I J) (retV (fun I5 J6 => (x3 = 0 → (Q (some (vI (gi I5 51 4))) (mem (P, some 5, some 22) I5 J6))) ∧ (¬ x3 = 0 → ((x3 = 1 → (Q (some (vI (gi I5 51 5))) (mem (P, some 5, some 22) I5 J6))) ∧ (¬ x3 = 1 → (Q (some (vI (gi I5 51 6))) (mem (P, some 5, some 22) I5 J6)))))) (P, some 5, some 22)))) ∧ (¬ x3 ≤ 2 → (Q (some (vI (-1))) (mem (P, some 5, some 22) I J)))))))) ∧ (¬ x2 ≤ 99 → (Q (some (vI (-1))) (mem (P, some 5, some 22) I J)))))))))) : WP k LAY m_X11_most 0 [(0, vR (some 0)), (1, vI x1), (2, vI x2), (3, vI x3)] [] (mem (P, some 5, some 22) I J) Q := by
  refine st_aload_n (pc' := 1) dX11_most_0 rfl rfl (j := 0) rfl ?_
  refine G_X11_33_0 dX11_most_1 (pc' := 4) rfl rfl ?_
  refine G_X11_121_4 dX11_most_4 (pc' := 7) rfl rfl ?_
  refine st_iconst (pc' := 8) dX11_most_7 rfl ?_
  refine st_iload_n (pc' := 9) dX11_most_8 rfl rfl (j := 1) rfl ?_
  obtain ⟨e1, h⟩ := h
  refine st_callV (pc' := 12) (kc := k - 1) (E' := LAY) (cal := m_X7_holds) (n := 2) (as := [vI 2, vI x1]) (S := []) dX11_most_9 rfl l_X11_155 k_X7_holds rfl L_5 c_X7 rfl rfl (Nat.le_of_ble_eq_true rfl) (by omega) ⟨Nat.le_refl _, Nat.le_refl _, Nat.le_refl _, Nat.le_refl _⟩ (Q1 := fun r M' => WP k LAY m_X11_most 12 [(0, vR (some 0)), (1, vI x1), (2, vI x2), (3, vI x3)] (r.toList ++ []) M' Q) (S_X7_holds_5 (by omega) (by decide) e1 ?_) (fun r M' q => q)
  change WP _ LAY m_X11_most 12 [(0, vR (some 0)), (1, vI x1), (2, vI x2), (3, vI x3)] [vI (b2i (0 ≤ x1 ∧ x1 < gi I 6 (2 : Int).toNat))] (mem (P, some 5, some 22) I J) Q
  refine st_if_eq (tg := 25) (pc' := 15) dX11_most_12 (by decide) rfl (b2i_in _) (fun c => ?_) (fun c => ?_)
  · replace h := h.1 (b2i_f.mp c)
    refine st_iconst (pc' := 26) dX11_most_25 rfl ?_
    exact st_iret (ty := .int) dX11_most_26 rfl rfl rfl h
  · replace h := h.2 (b2i_t.mp c)
    refine st_iload_n (pc' := 16) dX11_most_15 rfl rfl (j := 2) rfl ?_
    obtain ⟨e2, h⟩ := h
    refine st_if_lt (tg := 25) (pc' := 19) dX11_most_16 (by decide) rfl e2 (fun c => ?_) (fun c => ?_)
    · replace h := h.1 c
      refine st_iconst (pc' := 26) dX11_most_25 rfl ?_
      exact st_iret (ty := .int) dX11_most_26 rfl rfl rfl h
    · replace h := h.2 c
      refine st_iload_n (pc' := 20) dX11_most_19 rfl rfl (j := 2) rfl ?_
      refine st_bipush (pc' := 22) dX11_most_20 rfl (by decide) ?_
      refine st_icmp_le (tg := 27) (pc' := 25) dX11_most_22 (by decide) rfl e2 (by decide) (fun c => ?_) (fun c => ?_)
      · replace h := h.1 c
        refine st_iload_n (pc' := 28) dX11_most_27 rfl rfl (j := 3) rfl ?_
        obtain ⟨e3, h⟩ := h
        refine st_if_lt (tg := 36) (pc' := 31) dX11_most_28 (by decide) rfl e3 (fun c => ?_) (fun c => ?_)
        · replace h := h.1 c
          refine st_iconst (pc' := 37) dX11_most_36 rfl ?_
          exact st_iret (ty := .int) dX11_most_37 rfl rfl rfl h
        · replace h := h.2 c
          refine st_iload_n (pc' := 32) dX11_most_31 rfl rfl (j := 3) rfl ?_
          refine st_iconst (pc' := 33) dX11_most_32 rfl ?_
          refine st_icmp_le (tg := 38) (pc' := 36) dX11_most_33 (by decide) rfl e3 (by decide) (fun c => ?_) (fun c => ?_)
          · replace h := h.1 c
            refine st_aload_n (pc' := 39) dX11_most_38 rfl rfl (j := 0) rfl ?_
            refine G_X11_67_0 dX11_most_39 (pc' := 42) rfl rfl ?_
            refine st_iload_n (pc' := 43) dX11_most_42 rfl rfl (j := 1) rfl ?_
            refine st_iload_n (pc' := 44) dX11_most_43 rfl rfl (j := 2) rfl ?_
            refine st_callV (pc' := 47) (kc := k - 1) (E' := LAY) (cal := m_X8_findMost) (n := 2) (as := [vI x1, vI x2]) (S := []) dX11_most_44 rfl l_X11_317 k_X8_findMost rfl L_51 c_X8 rfl rfl (Nat.le_of_ble_eq_true rfl) (by omega) ⟨Nat.le_refl _, Nat.le_refl _, Nat.le_refl _, Nat.le_refl _⟩ h (fun r M' q => ?_)
            obtain ⟨I5, J6, rfl, rfl, h⟩ := q
            change WP _ LAY m_X11_most 47 [(0, vR (some 0)), (1, vI x1), (2, vI x2), (3, vI x3)] [] (mem (P, some 5, some 22) I5 J6) Q
            refine st_iload_n (pc' := 48) dX11_most_47 rfl rfl (j := 3) rfl ?_
            by_cases c : x3 = 0
            · replace h := h.1 c
              refine st_lookup (pc' := 76) (off := 28) dX11_most_48 e3 (by decide) (by rw [c]; decide) (by decide) ?_
              refine st_aload_n (pc' := 77) dX11_most_76 rfl rfl (j := 0) rfl ?_
              refine G_X11_67_0 dX11_most_77 (pc' := 80) rfl rfl ?_
              refine G_X11_320_51 dX11_most_80 (pc' := 83) rfl rfl ?_
              exact st_iret (ty := .int) dX11_most_83 rfl rfl rfl h
            replace h := h.2 c
            have c0 := c
            clear c
            by_cases c : x3 = 1
            · replace h := h.1 c
              refine st_lookup (pc' := 84) (off := 36) dX11_most_48 e3 (by decide) (by rw [c]; decide) (by decide) ?_
              refine st_aload_n (pc' := 85) dX11_most_84 rfl rfl (j := 0) rfl ?_
              refine G_X11_67_0 dX11_most_85 (pc' := 88) rfl rfl ?_
              refine G_X11_323_51 dX11_most_88 (pc' := 91) rfl rfl ?_
              exact st_iret (ty := .int) dX11_most_91 rfl rfl rfl h
            replace h := h.2 c
            have c1 := c
            clear c
            refine st_lookup (pc' := 92) (off := 44) dX11_most_48 e3 (by decide) (show Op.lookupswitch.offset [(0, 28), (1, 36)] 44 x3 = 44 by rw [osw_ne c0, osw_ne c1]; rfl) (by decide) ?_
            refine st_aload_n (pc' := 93) dX11_most_92 rfl rfl (j := 0) rfl ?_
            refine G_X11_67_0 dX11_most_93 (pc' := 96) rfl rfl ?_
            refine G_X11_326_51 dX11_most_96 (pc' := 99) rfl rfl ?_
            exact st_iret (ty := .int) dX11_most_99 rfl rfl rfl h
          · replace h := h.2 c
            refine st_iconst (pc' := 37) dX11_most_36 rfl ?_
            exact st_iret (ty := .int) dX11_most_37 rfl rfl rfl h
      · replace h := h.2 c
        refine st_iconst (pc' := 26) dX11_most_25 rfl ?_
        exact st_iret (ty := .int) dX11_most_26 rfl rfl rfl h
set_option maxRecDepth 20000 in
set_option maxHeartbeats 4000000 in
theorem B_X11_passNight_0 {k : Nat} {P : Option Nat} {I : Nat → Nat → Int32} {J : Nat → Nat → Int64} {x1 : Int} {Q : Option AV → Mem → Prop} (hk : 1 ≤ k) (h : WPm (k - 1) LAY m_X1_foresee [vR (some 42), vI x1] (mem (P, some 5, some 22) I J) (retV (fun I2 J3 => WPm (k - 1) LAY m_X1_happen [vR (some 42)] (mem (P, some 5, some 22) I2 J3) (retV (fun I5 J6 => WPm (k - 1) LAY m_X1_allRead [vR (some 42)] (mem (P, some 5, some 22) I5 J6) (retI (fun v7 I8 J9 => Q (some (vI v7)) (mem (P, some 5, some 22) I8 J9)) (P, some 5, some 22))) (P, some 5, some 22))) (P, some 5, some 22))) : WP k LAY m_X11_passNight 0 [(0, vR (some 0)), (1, vI x1)] [] (mem (P, some 5, some 22) I J) Q := by
  refine st_aload_n (pc' := 1) dX11_passNight_0 rfl rfl (j := 0) rfl ?_
  refine G_X11_60_0 dX11_passNight_1 (pc' := 4) rfl rfl ?_
  refine st_iload_n (pc' := 5) dX11_passNight_4 rfl rfl (j := 1) rfl ?_
  refine st_callV (pc' := 8) (kc := k - 1) (E' := LAY) (cal := m_X1_foresee) (n := 1) (as := [vI x1]) (S := []) dX11_passNight_5 rfl l_X11_214 k_X1_foresee rfl L_42 c_X1 rfl rfl (Nat.le_of_ble_eq_true rfl) (by omega) ⟨Nat.le_refl _, Nat.le_refl _, Nat.le_refl _, Nat.le_refl _⟩ h (fun r M' q => ?_)
  obtain ⟨I2, J3, rfl, rfl, h⟩ := q
  change WP _ LAY m_X11_passNight 8 [(0, vR (some 0)), (1, vI x1)] [] (mem (P, some 5, some 22) I2 J3) Q
  refine st_aload_n (pc' := 9) dX11_passNight_8 rfl rfl (j := 0) rfl ?_
  refine G_X11_60_0 dX11_passNight_9 (pc' := 12) rfl rfl ?_
  refine st_callV (pc' := 15) (kc := k - 1) (E' := LAY) (cal := m_X1_happen) (n := 0) (as := []) (S := []) dX11_passNight_12 rfl l_X11_369 k_X1_happen rfl L_42 c_X1 rfl rfl (Nat.le_of_ble_eq_true rfl) (by omega) ⟨Nat.le_refl _, Nat.le_refl _, Nat.le_refl _, Nat.le_refl _⟩ h (fun r M' q => ?_)
  obtain ⟨I5, J6, rfl, rfl, h⟩ := q
  change WP _ LAY m_X11_passNight 15 [(0, vR (some 0)), (1, vI x1)] [] (mem (P, some 5, some 22) I5 J6) Q
  refine st_aload_n (pc' := 16) dX11_passNight_15 rfl rfl (j := 0) rfl ?_
  refine G_X11_60_0 dX11_passNight_16 (pc' := 19) rfl rfl ?_
  refine st_callV (pc' := 22) (kc := k - 1) (E' := LAY) (cal := m_X1_allRead) (n := 0) (as := []) (S := []) dX11_passNight_19 rfl l_X11_230 k_X1_allRead rfl L_42 c_X1 rfl rfl (Nat.le_of_ble_eq_true rfl) (by omega) ⟨Nat.le_refl _, Nat.le_refl _, Nat.le_refl _, Nat.le_refl _⟩ h (fun r M' q => ?_)
  obtain ⟨v7, I8, J9, rfl, rfl, h⟩ := q
  change WP _ LAY m_X11_passNight 22 [(0, vR (some 0)), (1, vI x1)] [vI v7] (mem (P, some 5, some 22) I8 J9) Q
  exact st_iret (ty := .int) dX11_passNight_22 rfl rfl rfl h
set_option maxRecDepth 20000 in
set_option maxHeartbeats 4000000 in
theorem B_X11_night_0 {k : Nat} {P : Option Nat} {I : Nat → Nat → Int32} {J : Nat → Nat → Int64}  {Q : Option AV → Mem → Prop} (hk : 2 ≤ k) (h : ((gi I 19 0) < 999 → (((0 : Int) ≤ ((gi I 4 4) * 87) ∧ ((gi I 4 4) * 87) + 87 ≤ 1740) ∧ (inR ((gi I 4 5) + 1) ∧ (WPm (k - 1) LAY m_X11_passNight [vR (some 0), vI (-1)] (mem (P, some 5, some 22) (si (si (si (fc I 19 0 21 ((gi I 4 4) * 87).toNat 87) 4 4 (rem32 ((gi I 4 4) + 1) 20)) 4 5 (min 20 ((gi I 4 5) + 1))) 4 6 ((gi I 4 6) + 1)) J) (retI (fun v3 I4 J5 => Q (some (vI v3)) (mem (P, some 5, some 22) I4 J5)) (P, some 5, some 22)))))) ∧ (¬ (gi I 19 0) < 999 → (Q (some (vI (-1))) (mem (P, some 5, some 22) (si I 73 3 ((gi I 73 3) + 1)) J)))) : WP k LAY m_X11_night 0 [(0, vR (some 0))] [] (mem (P, some 5, some 22) I J) Q := by
  refine st_aload_n (pc' := 1) dX11_night_0 rfl rfl (j := 0) rfl ?_
  refine G_X11_33_0 dX11_night_1 (pc' := 4) rfl rfl ?_
  refine G_X11_142_4 dX11_night_4 (pc' := 7) rfl rfl ?_
  refine st_iconst (pc' := 8) dX11_night_7 rfl ?_
  refine st_iaload (pc' := 9) (v := (gi I 19 0)) dX11_night_8 rfl L_19 (by decide) (by decide) (show gi I 19 0 = (gi I 19 0) from rfl) ?_
  refine st_sipush (pc' := 12) dX11_night_9 rfl (by decide) ?_
  refine st_icmp_lt (tg := 21) (pc' := 15) dX11_night_12 (by decide) rfl (gi_in _ _ _) (by decide) (fun c => ?_) (fun c => ?_)
  · replace h := h.1 c
    refine st_aload_n (pc' := 22) dX11_night_21 rfl rfl (j := 0) rfl ?_
    refine G_X11_33_0 dX11_night_22 (pc' := 25) rfl rfl ?_
    refine st_callV (pc' := 28) (kc := k - 1) (E' := LAY) (cal := m_X2_remember) (n := 0) (as := []) (S := []) dX11_night_25 rfl l_X11_242 k_X2_remember rfl L_4 c_X2 rfl rfl (Nat.le_of_ble_eq_true rfl) (by omega) ⟨Nat.le_refl _, Nat.le_refl _, Nat.le_refl _, Nat.le_refl _⟩ (Q1 := fun r M' => WP k LAY m_X11_night 28 [(0, vR (some 0))] (r.toList ++ []) M' Q) (WPm.of k_X2_remember.1 (Nat.le_of_ble_eq_true rfl) (B_X2_remember_0 (by omega) ?_)) (fun r M' q => q)
    obtain ⟨e1, h⟩ := h
    refine ⟨e1, ?_⟩
    obtain ⟨e2, h⟩ := h
    refine ⟨e2, ?_⟩
    change WP _ LAY m_X11_night 28 [(0, vR (some 0))] [] (mem (P, some 5, some 22) (si (si (si (fc I 19 0 21 ((gi I 4 4) * 87).toNat 87) 4 4 (rem32 ((gi I 4 4) + 1) 20)) 4 5 (min 20 ((gi I 4 5) + 1))) 4 6 ((gi I 4 6) + 1)) J) Q
    refine st_aload_n (pc' := 29) dX11_night_28 rfl rfl (j := 0) rfl ?_
    refine st_iconst (pc' := 30) dX11_night_29 rfl ?_
    refine st_callV (pc' := 33) (kc := k - 1) (E' := LAY) (cal := m_X11_passNight) (n := 1) (as := [vI (-1)]) (S := []) dX11_night_30 rfl l_X11_263 k_X11_passNight rfl L_0 c_X11 rfl rfl (Nat.le_of_ble_eq_true rfl) (by omega) ⟨Nat.le_refl _, Nat.le_refl _, Nat.le_refl _, Nat.le_refl _⟩ h (fun r M' q => ?_)
    obtain ⟨v3, I4, J5, rfl, rfl, h⟩ := q
    change WP _ LAY m_X11_night 33 [(0, vR (some 0))] [vI v3] (mem (P, some 5, some 22) I4 J5) Q
    exact st_iret (ty := .int) dX11_night_33 rfl rfl rfl h
  · replace h := h.2 c
    refine st_aload_n (pc' := 16) dX11_night_15 rfl rfl (j := 0) rfl ?_
    refine st_iconst (pc' := 17) dX11_night_16 rfl ?_
    refine st_callV (pc' := 20) (kc := k - 1) (E' := LAY) (cal := m_X11_refuse) (n := 1) (as := [vI 3]) (S := []) dX11_night_17 rfl l_X11_105 k_X11_refuse rfl L_0 c_X11 rfl rfl (Nat.le_of_ble_eq_true rfl) (by omega) ⟨Nat.le_refl _, Nat.le_refl _, Nat.le_refl _, Nat.le_refl _⟩ (Q1 := fun r M' => WP k LAY m_X11_night 20 [(0, vR (some 0))] (r.toList ++ []) M' Q) (WPm.of k_X11_refuse.1 (Nat.le_of_ble_eq_true rfl) (B_X11_refuse_0 (by omega) ?_)) (fun r M' q => q)
    refine ⟨by decide, ?_⟩
    change WP _ LAY m_X11_night 20 [(0, vR (some 0))] [vI (-1)] (mem (P, some 5, some 22) (si I 73 3 ((gi I 73 3) + 1)) J) Q
    exact st_iret (ty := .int) dX11_night_20 rfl rfl rfl h
set_option maxRecDepth 20000 in
set_option maxHeartbeats 4000000 in
theorem B_X11_octet_0 {k : Nat} {P : Option Nat} {I : Nat → Nat → Int32} {J : Nat → Nat → Int64} {x1 : Int} {Q : Option AV → Mem → Prop} (hk : 0 ≤ k) (h : inR x1 ∧ ((x1 < 0 → (Q (some (vI (-1))) (mem (P, some 5, some 22) I J))) ∧ (¬ x1 < 0 → (((gi I 70 2) ≤ x1 → (Q (some (vI (-1))) (mem (P, some 5, some 22) I J))) ∧ (¬ (gi I 70 2) ≤ x1 → ((0 ≤ x1 ∧ x1 < 107) ∧ (Q (some (vI (gi I 71 (x1).toNat))) (mem (P, some 5, some 22) I J)))))))) : WP k LAY m_X11_octet 0 [(0, vR (some 0)), (1, vI x1)] [] (mem (P, some 5, some 22) I J) Q := by
  refine st_iload_n (pc' := 1) dX11_octet_0 rfl rfl (j := 1) rfl ?_
  obtain ⟨e1, h⟩ := h
  refine st_if_lt (tg := 27) (pc' := 4) dX11_octet_1 (by decide) rfl e1 (fun c => ?_) (fun c => ?_)
  · replace h := h.1 c
    refine st_iconst (pc' := 28) dX11_octet_27 rfl ?_
    exact st_iret (ty := .int) dX11_octet_28 rfl rfl rfl h
  · replace h := h.2 c
    refine st_iload_n (pc' := 5) dX11_octet_4 rfl rfl (j := 1) rfl ?_
    refine st_aload_n (pc' := 6) dX11_octet_5 rfl rfl (j := 0) rfl ?_
    refine G_X11_90_0 dX11_octet_6 (pc' := 9) rfl rfl ?_
    refine G_X11_347_70 dX11_octet_9 (pc' := 12) rfl rfl ?_
    refine st_icmp_ge (tg := 27) (pc' := 15) dX11_octet_12 (by decide) rfl e1 (gi_in _ _ _) (fun c => ?_) (fun c => ?_)
    · replace h := h.1 c
      refine st_iconst (pc' := 28) dX11_octet_27 rfl ?_
      exact st_iret (ty := .int) dX11_octet_28 rfl rfl rfl h
    · replace h := h.2 c
      refine st_aload_n (pc' := 16) dX11_octet_15 rfl rfl (j := 0) rfl ?_
      refine G_X11_90_0 dX11_octet_16 (pc' := 19) rfl rfl ?_
      refine G_X11_348_70 dX11_octet_19 (pc' := 22) rfl rfl ?_
      refine st_iload_n (pc' := 23) dX11_octet_22 rfl rfl (j := 1) rfl ?_
      obtain ⟨e2, h⟩ := h
      refine st_iaload (pc' := 24) (v := (gi I 71 (x1).toNat)) dX11_octet_23 rfl L_71 (by decide) e2 (show gi I 71 (x1).toNat = (gi I 71 (x1).toNat) from rfl) ?_
      refine st_goto (pc' := 28) dX11_octet_24 (by decide) ?_
      exact st_iret (ty := .int) dX11_octet_28 rfl rfl rfl h
set_option maxRecDepth 20000 in
set_option maxHeartbeats 4000000 in
theorem B_X11_on_0 {k : Nat} {P : Option Nat} {I : Nat → Nat → Int32} {J : Nat → Nat → Int64}  {Q : Option AV → Mem → Prop} (hk : 2 ≤ k) (h : WPm (k - 1) LAY m_X4_read [vR (some 70), vR (some 1), vR (some 5)] (mem (P, some 5, some 22) I J) (retI (fun v1 I2 J3 => inR v1 ∧ ((¬ v1 = 0 → (Q (some (vI 1)) (mem (P, some 5, some 22) (si (si (si (fc (si I2 1 1 0) 72 0 19 0 87) 4 4 0) 4 5 0) 4 6 ((gi (fc (si I2 1 1 0) 72 0 19 0 87) 4 6) + 1)) J3))) ∧ (v1 = 0 → (Q (some (vI 0)) (mem (P, some 5, some 22) (si (si I2 1 1 0) 73 5 ((gi (si I2 1 1 0) 73 5) + 1)) J3))))) (P, some 5, some 22))) : WP k LAY m_X11_on 0 [(0, vR (some 0))] [] (mem (P, some 5, some 22) I J) Q := by
  refine st_aload_n (pc' := 1) dX11_on_0 rfl rfl (j := 0) rfl ?_
  refine G_X11_90_0 dX11_on_1 (pc' := 4) rfl rfl ?_
  refine st_aload_n (pc' := 5) dX11_on_4 rfl rfl (j := 0) rfl ?_
  refine G_X11_10_0 dX11_on_5 (pc' := 8) rfl rfl ?_
  refine st_aload_n (pc' := 9) dX11_on_8 rfl rfl (j := 0) rfl ?_
  refine G_X11_33_0 dX11_on_9 (pc' := 12) rfl rfl ?_
  refine G_X11_121_4 dX11_on_12 (pc' := 15) rfl rfl ?_
  refine st_callV (pc' := 18) (kc := k - 1) (E' := LAY) (cal := m_X4_read) (n := 2) (as := [vR (some 1), vR (some 5)]) (S := []) dX11_on_15 rfl l_X11_351 k_X4_read rfl L_70 c_X4 rfl rfl (Nat.le_of_ble_eq_true rfl) (by omega) ⟨Nat.le_refl _, Nat.le_refl _, Nat.le_refl _, Nat.le_refl _⟩ h (fun r M' q => ?_)
  obtain ⟨v1, I2, J3, rfl, rfl, h⟩ := q
  change WP _ LAY m_X11_on 18 [(0, vR (some 0))] [vI v1] (mem (P, some 5, some 22) I2 J3) Q
  refine st_istore_n (pc' := 19) (L' := [(1, vI v1), (0, vR (some 0))]) dX11_on_18 rfl rfl (by decide) rfl ?_
  refine st_aload_n (pc' := 20) dX11_on_19 rfl rfl (j := 1) rfl ?_
  refine G_X11_10_0 dX11_on_20 (pc' := 23) rfl rfl ?_
  refine st_iconst (pc' := 24) dX11_on_23 rfl ?_
  refine P_X11_102_1 dX11_on_24 (pc' := 27) rfl rfl ?_
  refine st_iload_n (pc' := 28) dX11_on_27 rfl rfl (j := 0) rfl ?_
  obtain ⟨e4, h⟩ := h
  refine st_if_ne (tg := 37) (pc' := 31) dX11_on_28 (by decide) rfl e4 (fun c => ?_) (fun c => ?_)
  · replace h := h.1 c
    refine st_aload_n (pc' := 38) dX11_on_37 rfl rfl (j := 1) rfl ?_
    refine G_X11_33_0 dX11_on_38 (pc' := 41) rfl rfl ?_
    refine st_aload_n (pc' := 42) dX11_on_41 rfl rfl (j := 1) rfl ?_
    refine G_X11_90_0 dX11_on_42 (pc' := 45) rfl rfl ?_
    refine G_X11_355_70 dX11_on_45 (pc' := 48) rfl rfl ?_
    refine st_callV (pc' := 51) (kc := k - 1) (E' := LAY) (cal := m_X2_become) (n := 1) (as := [vR (some 72)]) (S := []) dX11_on_48 rfl l_X11_356 k_X2_become rfl L_4 c_X2 rfl rfl (Nat.le_of_ble_eq_true rfl) (by omega) ⟨Nat.le_refl _, Nat.le_refl _, Nat.le_refl _, Nat.le_refl _⟩ (Q1 := fun r M' => WP k LAY m_X11_on 51 [(1, vI v1), (0, vR (some 0))] (r.toList ++ []) M' Q) (WPm.of k_X2_become.1 (Nat.le_of_ble_eq_true rfl) (B_X2_become_0 (by omega) ?_)) (fun r M' q => q)
    change WP _ LAY m_X11_on 51 [(1, vI v1), (0, vR (some 0))] [] (mem (P, some 5, some 22) (si (si (si (fc (si I2 1 1 0) 72 0 19 0 87) 4 4 0) 4 5 0) 4 6 ((gi (fc (si I2 1 1 0) 72 0 19 0 87) 4 6) + 1)) J3) Q
    refine st_iconst (pc' := 52) dX11_on_51 rfl ?_
    exact st_iret (ty := .boolean) dX11_on_52 rfl (by decide) rfl h
  · replace h := h.2 c
    refine st_aload_n (pc' := 32) dX11_on_31 rfl rfl (j := 1) rfl ?_
    refine st_iconst (pc' := 33) dX11_on_32 rfl ?_
    refine st_callV (pc' := 36) (kc := k - 1) (E' := LAY) (cal := m_X11_deny) (n := 1) (as := [vI 5]) (S := []) dX11_on_33 rfl l_X11_113 k_X11_deny rfl L_0 c_X11 rfl rfl (Nat.le_of_ble_eq_true rfl) (by omega) ⟨Nat.le_refl _, Nat.le_refl _, Nat.le_refl _, Nat.le_refl _⟩ (Q1 := fun r M' => WP k LAY m_X11_on 36 [(1, vI v1), (0, vR (some 0))] (r.toList ++ []) M' Q) (WPm.of k_X11_deny.1 (Nat.le_of_ble_eq_true rfl) (B_X11_deny_0 (by omega) ?_)) (fun r M' q => q)
    refine ⟨by decide, ?_⟩
    change WP _ LAY m_X11_on 36 [(1, vI v1), (0, vR (some 0))] [vI 0] (mem (P, some 5, some 22) (si (si I2 1 1 0) 73 5 ((gi (si I2 1 1 0) 73 5) + 1)) J3) Q
    exact st_iret (ty := .boolean) dX11_on_36 rfl (by decide) rfl h
set_option maxRecDepth 20000 in
set_option maxHeartbeats 4000000 in
theorem B_X11_page_0 {k : Nat} {P : Option Nat} {I : Nat → Nat → Int32} {J : Nat → Nat → Int64} {x1 : Int} {x2 : Int} {Q : Option AV → Mem → Prop} (hk : 1 ≤ k) (h : inR x1 ∧ (((0 ≤ x1 ∧ x1 < gi I 6 (1 : Int).toNat) → (inR x2 ∧ ((x2 = 0 → ((0 ≤ x1 ∧ x1 < 14) ∧ (Q (some (vI (gi I 8 (x1).toNat))) (mem (P, some 5, some 22) I J)))) ∧ (¬ x2 = 0 → ((x2 = 1 → ((0 ≤ x1 ∧ x1 < 14) ∧ (Q (some (vI (gi I 9 (x1).toNat))) (mem (P, some 5, some 22) I J)))) ∧ (¬ x2 = 1 → ((x2 = 2 → ((0 ≤ x1 ∧ x1 < 14) ∧ (Q (some (vI (gi I 10 (x1).toNat))) (mem (P, some 5, some 22) I J)))) ∧ (¬ x2 = 2 → ((x2 = 3 → ((0 ≤ x1 ∧ x1 < 14) ∧ (Q (some (vI (gi I 11 (x1).toNat))) (mem (P, some 5, some 22) I J)))) ∧ (¬ x2 = 3 → ((x2 = 4 → ((0 ≤ x1 ∧ x1 < 14) ∧ (Q (some (vI (gi I 12 (x1).toNat))) (mem (P, some 5, some 22) I J)))) ∧ (¬ x2 = 4 → ((x2 = 5 → (WPm (k - 1) LAY m_X2_knownBy [vR (some 4), vI x1] (mem (P, some 5, some 22) I J) (retI (fun v8 I9 J10 => Q (some (vI v8)) (mem (P, some 5, some 22) I9 J10)) (P, some 5, some 22)))) ∧ (¬ x2 = 5 → (Q (some (vI (-1))) (mem (P, some 5, some 22) I J)))))))))))))))) ∧ (¬ (0 ≤ x1 ∧ x1 < gi I 6 (1 : Int).toNat) → (Q (some (vI (-1))) (mem (P, some 5, some 22) I J))))) : WP k LAY m_X11_page 0 [(0, vR (some 0)), (1, vI x1), (2, vI x2)] [] (mem (P, some 5, some 22) I J) Q := by
  refine st_aload_n (pc' := 1) dX11_page_0 rfl rfl (j := 0) rfl ?_
  refine G_X11_33_0 dX11_page_1 (pc' := 4) rfl rfl ?_
  refine G_X11_121_4 dX11_page_4 (pc' := 7) rfl rfl ?_
  refine st_astore_n (pc' := 8) (L' := [(3, vR (some 5)), (0, vR (some 0)), (1, vI x1), (2, vI x2)]) dX11_page_7 rfl rfl (by decide) rfl ?_
  refine st_aload_n (pc' := 9) dX11_page_8 rfl rfl (j := 0) rfl ?_
  refine st_iconst (pc' := 10) dX11_page_9 rfl ?_
  refine st_iload_n (pc' := 11) dX11_page_10 rfl rfl (j := 2) rfl ?_
  obtain ⟨e1, h⟩ := h
  refine st_callV (pc' := 14) (kc := k - 1) (E' := LAY) (cal := m_X7_holds) (n := 2) (as := [vI 1, vI x1]) (S := []) dX11_page_11 rfl l_X11_155 k_X7_holds rfl L_5 c_X7 rfl rfl (Nat.le_of_ble_eq_true rfl) (by omega) ⟨Nat.le_refl _, Nat.le_refl _, Nat.le_refl _, Nat.le_refl _⟩ (Q1 := fun r M' => WP k LAY m_X11_page 14 [(3, vR (some 5)), (0, vR (some 0)), (1, vI x1), (2, vI x2)] (r.toList ++ []) M' Q) (S_X7_holds_5 (by omega) (by decide) e1 ?_) (fun r M' q => q)
  change WP _ LAY m_X11_page 14 [(3, vR (some 5)), (0, vR (some 0)), (1, vI x1), (2, vI x2)] [vI (b2i (0 ≤ x1 ∧ x1 < gi I 6 (1 : Int).toNat))] (mem (P, some 5, some 22) I J) Q
  refine st_if_ne (tg := 19) (pc' := 17) dX11_page_14 (by decide) rfl (b2i_in _) (fun c => ?_) (fun c => ?_)
  · replace h := h.1 (b2i_t.mp c)
    refine st_iload_n (pc' := 20) dX11_page_19 rfl rfl (j := 3) rfl ?_
    obtain ⟨e2, h⟩ := h
    by_cases c : x2 = 0
    · replace h := h.1 c
      refine st_tblIn (pc' := 60) (off := 40) dX11_page_20 e2 (by omega) (by rw [c]; rfl) (by decide) ?_
      refine st_aload_n (pc' := 61) dX11_page_60 rfl rfl (j := 0) rfl ?_
      refine G_X11_165_5 dX11_page_61 (pc' := 64) rfl rfl ?_
      refine st_iload_n (pc' := 65) dX11_page_64 rfl rfl (j := 2) rfl ?_
      obtain ⟨e3, h⟩ := h
      refine st_iaload (pc' := 66) (v := (gi I 8 (x1).toNat)) dX11_page_65 rfl L_8 (by decide) e3 (show gi I 8 (x1).toNat = (gi I 8 (x1).toNat) from rfl) ?_
      exact st_iret (ty := .int) dX11_page_66 rfl rfl rfl h
    replace h := h.2 c
    have c0 := c
    clear c
    by_cases c : x2 = 1
    · replace h := h.1 c
      refine st_tblIn (pc' := 67) (off := 47) dX11_page_20 e2 (by omega) (by rw [c]; rfl) (by decide) ?_
      refine st_aload_n (pc' := 68) dX11_page_67 rfl rfl (j := 0) rfl ?_
      refine G_X11_168_5 dX11_page_68 (pc' := 71) rfl rfl ?_
      refine st_iload_n (pc' := 72) dX11_page_71 rfl rfl (j := 2) rfl ?_
      obtain ⟨e4, h⟩ := h
      refine st_iaload (pc' := 73) (v := (gi I 9 (x1).toNat)) dX11_page_72 rfl L_9 (by decide) e4 (show gi I 9 (x1).toNat = (gi I 9 (x1).toNat) from rfl) ?_
      exact st_iret (ty := .int) dX11_page_73 rfl rfl rfl h
    replace h := h.2 c
    have c1 := c
    clear c
    by_cases c : x2 = 2
    · replace h := h.1 c
      refine st_tblIn (pc' := 74) (off := 54) dX11_page_20 e2 (by omega) (by rw [c]; rfl) (by decide) ?_
      refine st_aload_n (pc' := 75) dX11_page_74 rfl rfl (j := 0) rfl ?_
      refine G_X11_171_5 dX11_page_75 (pc' := 78) rfl rfl ?_
      refine st_iload_n (pc' := 79) dX11_page_78 rfl rfl (j := 2) rfl ?_
      obtain ⟨e5, h⟩ := h
      refine st_iaload (pc' := 80) (v := (gi I 10 (x1).toNat)) dX11_page_79 rfl L_10 (by decide) e5 (show gi I 10 (x1).toNat = (gi I 10 (x1).toNat) from rfl) ?_
      exact st_iret (ty := .int) dX11_page_80 rfl rfl rfl h
    replace h := h.2 c
    have c2 := c
    clear c
    by_cases c : x2 = 3
    · replace h := h.1 c
      refine st_tblIn (pc' := 81) (off := 61) dX11_page_20 e2 (by omega) (by rw [c]; rfl) (by decide) ?_
      refine st_aload_n (pc' := 82) dX11_page_81 rfl rfl (j := 0) rfl ?_
      refine G_X11_174_5 dX11_page_82 (pc' := 85) rfl rfl ?_
      refine st_iload_n (pc' := 86) dX11_page_85 rfl rfl (j := 2) rfl ?_
      obtain ⟨e6, h⟩ := h
      refine st_iaload (pc' := 87) (v := (gi I 11 (x1).toNat)) dX11_page_86 rfl L_11 (by decide) e6 (show gi I 11 (x1).toNat = (gi I 11 (x1).toNat) from rfl) ?_
      exact st_iret (ty := .int) dX11_page_87 rfl rfl rfl h
    replace h := h.2 c
    have c3 := c
    clear c
    by_cases c : x2 = 4
    · replace h := h.1 c
      refine st_tblIn (pc' := 88) (off := 68) dX11_page_20 e2 (by omega) (by rw [c]; rfl) (by decide) ?_
      refine st_aload_n (pc' := 89) dX11_page_88 rfl rfl (j := 0) rfl ?_
      refine G_X11_177_5 dX11_page_89 (pc' := 92) rfl rfl ?_
      refine st_iload_n (pc' := 93) dX11_page_92 rfl rfl (j := 2) rfl ?_
      obtain ⟨e7, h⟩ := h
      refine st_iaload (pc' := 94) (v := (gi I 12 (x1).toNat)) dX11_page_93 rfl L_12 (by decide) e7 (show gi I 12 (x1).toNat = (gi I 12 (x1).toNat) from rfl) ?_
      exact st_iret (ty := .int) dX11_page_94 rfl rfl rfl h
    replace h := h.2 c
    have c4 := c
    clear c
    by_cases c : x2 = 5
    · replace h := h.1 c
      refine st_tblIn (pc' := 95) (off := 75) dX11_page_20 e2 (by omega) (by rw [c]; rfl) (by decide) ?_
      refine st_aload_n (pc' := 96) dX11_page_95 rfl rfl (j := 1) rfl ?_
      refine G_X11_33_0 dX11_page_96 (pc' := 99) rfl rfl ?_
      refine st_iload_n (pc' := 100) dX11_page_99 rfl rfl (j := 2) rfl ?_
      refine st_callV (pc' := 103) (kc := k - 1) (E' := LAY) (cal := m_X2_knownBy) (n := 1) (as := [vI x1]) (S := []) dX11_page_100 rfl l_X11_180 k_X2_knownBy rfl L_4 c_X2 rfl rfl (Nat.le_of_ble_eq_true rfl) (by omega) ⟨Nat.le_refl _, Nat.le_refl _, Nat.le_refl _, Nat.le_refl _⟩ h (fun r M' q => ?_)
      obtain ⟨v8, I9, J10, rfl, rfl, h⟩ := q
      change WP _ LAY m_X11_page 103 [(3, vR (some 5)), (0, vR (some 0)), (1, vI x1), (2, vI x2)] [vI v8] (mem (P, some 5, some 22) I9 J10) Q
      exact st_iret (ty := .int) dX11_page_103 rfl rfl rfl h
    replace h := h.2 c
    have c5 := c
    clear c
    have go : WP k LAY m_X11_page 104 [(3, vR (some 5)), (0, vR (some 0)), (1, vI x1), (2, vI x2)] [] (mem (P, some 5, some 22) I J) Q := by
      refine st_iconst (pc' := 105) dX11_page_104 rfl ?_
      exact st_iret (ty := .int) dX11_page_105 rfl rfl rfl h
    exact st_tblOut (pc' := 104) dX11_page_20 e2 (by omega) (by decide) go
  · replace h := h.2 (b2i_f.mp c)
    refine st_iconst (pc' := 18) dX11_page_17 rfl ?_
    exact st_iret (ty := .int) dX11_page_18 rfl rfl rfl h
set_option maxRecDepth 20000 in
set_option maxHeartbeats 4000000 in
theorem B_X11_reader_0 {k : Nat} {P : Option Nat} {I : Nat → Nat → Int32} {J : Nat → Nat → Int64} {x1 : Int} {x2 : Int} {Q : Option AV → Mem → Prop} (hk : 2 ≤ k) (h : inR x1 ∧ (((0 ≤ x1 ∧ x1 < gi I 6 (2 : Int).toNat) → (inR x2 ∧ ((x2 = 0 → ((0 ≤ ((3 + (x1 * 14)) + 0) ∧ ((3 + (x1 * 14)) + 0) < 87) ∧ (Q (some (vI (gi I 19 ((3 + (x1 * 14)) + 0).toNat))) (mem (P, some 5, some 22) I J)))) ∧ (¬ x2 = 0 → ((x2 = 1 → ((0 ≤ x1 ∧ x1 < 6) ∧ (Q (some (vI (gi I 13 (x1).toNat))) (mem (P, some 5, some 22) I J)))) ∧ (¬ x2 = 1 → ((x2 = 2 → ((0 ≤ x1 ∧ x1 < 6) ∧ (Q (some (vI (gi I 14 (x1).toNat))) (mem (P, some 5, some 22) I J)))) ∧ (¬ x2 = 2 → ((x2 = 3 → ((0 ≤ ((3 + (x1 * 14)) + 1) ∧ ((3 + (x1 * 14)) + 1) < 87) ∧ (Q (some (vI (gi I 19 ((3 + (x1 * 14)) + 1).toNat))) (mem (P, some 5, some 22) I J)))) ∧ (¬ x2 = 3 → ((x2 = 4 → ((0 ≤ ((3 + (x1 * 14)) + 2) ∧ ((3 + (x1 * 14)) + 2) < 87) ∧ (Q (some (vI (gi I 19 ((3 + (x1 * 14)) + 2).toNat))) (mem (P, some 5, some 22) I J)))) ∧ (¬ x2 = 4 → ((x2 = 5 → ((0 ≤ ((3 + (x1 * 14)) + 3) ∧ ((3 + (x1 * 14)) + 3) < 87) ∧ (Q (some (vI (gi I 19 ((3 + (x1 * 14)) + 3).toNat))) (mem (P, some 5, some 22) I J)))) ∧ (¬ x2 = 5 → ((x2 = 6 → ((0 ≤ ((3 + (x1 * 14)) + 4) ∧ ((3 + (x1 * 14)) + 4) < 87) ∧ (Q (some (vI (gi I 19 ((3 + (x1 * 14)) + 4).toNat))) (mem (P, some 5, some 22) I J)))) ∧ (¬ x2 = 6 → ((x2 = 7 → ((0 ≤ ((3 + (x1 * 14)) + 5) ∧ ((3 + (x1 * 14)) + 5) < 87) ∧ (Q (some (vI (gi I 19 ((3 + (x1 * 14)) + 5).toNat))) (mem (P, some 5, some 22) I J)))) ∧ (¬ x2 = 7 → ((10 ≤ x2 → (inR (x2 - 10) ∧ (((x2 - 10) < 0 → (Q (some (vI (-1))) (mem (P, some 5, some 22) I J))) ∧ (¬ (x2 - 10) < 0 → ((0 ≤ ((3 + (x1 * 14)) + 5) ∧ ((3 + (x1 * 14)) + 5) < 87) ∧ (((gi I 19 ((3 + (x1 * 14)) + 5).toNat) ≤ (x2 - 10) → (Q (some (vI (-1))) (mem (P, some 5, some 22) I J))) ∧ (¬ (gi I 19 ((3 + (x1 * 14)) + 5).toNat) ≤ (x2 - 10) → ((0 ≤ ((3 + (x1 * 14)) + (6 + (x2 - 10))) ∧ ((3 + (x1 * 14)) + (6 + (x2 - 10))) < 87) ∧ (Q (some (vI (gi I 19 ((3 + (x1 * 14)) + (6 + (x2 - 10))).toNat))) (mem (P, some 5, some 22) I J)))))))))) ∧ (¬ 10 ≤ x2 → (Q (some (vI (-1))) (mem (P, some 5, some 22) I J)))))))))))))))))))))) ∧ (¬ (0 ≤ x1 ∧ x1 < gi I 6 (2 : Int).toNat) → (Q (some (vI (-1))) (mem (P, some 5, some 22) I J))))) : WP k LAY m_X11_reader 0 [(0, vR (some 0)), (1, vI x1), (2, vI x2)] [] (mem (P, some 5, some 22) I J) Q := by
  refine st_aload_n (pc' := 1) dX11_reader_0 rfl rfl (j := 0) rfl ?_
  refine G_X11_33_0 dX11_reader_1 (pc' := 4) rfl rfl ?_
  refine G_X11_121_4 dX11_reader_4 (pc' := 7) rfl rfl ?_
  refine st_astore_n (pc' := 8) (L' := [(3, vR (some 5)), (0, vR (some 0)), (1, vI x1), (2, vI x2)]) dX11_reader_7 rfl rfl (by decide) rfl ?_
  refine st_aload_n (pc' := 9) dX11_reader_8 rfl rfl (j := 0) rfl ?_
  refine st_iconst (pc' := 10) dX11_reader_9 rfl ?_
  refine st_iload_n (pc' := 11) dX11_reader_10 rfl rfl (j := 2) rfl ?_
  obtain ⟨e1, h⟩ := h
  refine st_callV (pc' := 14) (kc := k - 1) (E' := LAY) (cal := m_X7_holds) (n := 2) (as := [vI 2, vI x1]) (S := []) dX11_reader_11 rfl l_X11_155 k_X7_holds rfl L_5 c_X7 rfl rfl (Nat.le_of_ble_eq_true rfl) (by omega) ⟨Nat.le_refl _, Nat.le_refl _, Nat.le_refl _, Nat.le_refl _⟩ (Q1 := fun r M' => WP k LAY m_X11_reader 14 [(3, vR (some 5)), (0, vR (some 0)), (1, vI x1), (2, vI x2)] (r.toList ++ []) M' Q) (S_X7_holds_5 (by omega) (by decide) e1 ?_) (fun r M' q => q)
  change WP _ LAY m_X11_reader 14 [(3, vR (some 5)), (0, vR (some 0)), (1, vI x1), (2, vI x2)] [vI (b2i (0 ≤ x1 ∧ x1 < gi I 6 (2 : Int).toNat))] (mem (P, some 5, some 22) I J) Q
  refine st_if_ne (tg := 19) (pc' := 17) dX11_reader_14 (by decide) rfl (b2i_in _) (fun c => ?_) (fun c => ?_)
  · replace h := h.1 (b2i_t.mp c)
    refine st_iload_n (pc' := 20) dX11_reader_19 rfl rfl (j := 3) rfl ?_
    obtain ⟨e2, h⟩ := h
    by_cases c : x2 = 0
    · replace h := h.1 c
      refine st_tblIn (pc' := 68) (off := 48) dX11_reader_20 e2 (by omega) (by rw [c]; rfl) (by decide) ?_
      refine st_aload_n (pc' := 69) dX11_reader_68 rfl rfl (j := 1) rfl ?_
      refine G_X11_33_0 dX11_reader_69 (pc' := 72) rfl rfl ?_
      refine st_iload_n (pc' := 73) dX11_reader_72 rfl rfl (j := 2) rfl ?_
      refine st_iconst (pc' := 74) dX11_reader_73 rfl ?_
      refine st_callV (pc' := 77) (kc := k - 1) (E' := LAY) (cal := m_X2_of) (n := 2) (as := [vI x1, vI 0]) (S := []) dX11_reader_74 rfl l_X11_183 k_X2_of rfl L_4 c_X2 rfl rfl (Nat.le_of_ble_eq_true rfl) (by omega) ⟨Nat.le_refl _, Nat.le_refl _, Nat.le_refl _, Nat.le_refl _⟩ (Q1 := fun r M' => WP k LAY m_X11_reader 77 [(3, vR (some 5)), (0, vR (some 0)), (1, vI x1), (2, vI x2)] (r.toList ++ []) M' Q) (WPm.of k_X2_of.1 (Nat.le_of_ble_eq_true rfl) (B_X2_of_0 (by omega) ?_)) (fun r M' q => q)
      obtain ⟨e3, h⟩ := h
      refine ⟨e3, ?_⟩
      change WP _ LAY m_X11_reader 77 [(3, vR (some 5)), (0, vR (some 0)), (1, vI x1), (2, vI x2)] [vI (gi I 19 ((3 + (x1 * 14)) + 0).toNat)] (mem (P, some 5, some 22) I J) Q
      exact st_iret (ty := .int) dX11_reader_77 rfl rfl rfl h
    replace h := h.2 c
    have c0 := c
    clear c
    by_cases c : x2 = 1
    · replace h := h.1 c
      refine st_tblIn (pc' := 78) (off := 58) dX11_reader_20 e2 (by omega) (by rw [c]; rfl) (by decide) ?_
      refine st_aload_n (pc' := 79) dX11_reader_78 rfl rfl (j := 0) rfl ?_
      refine G_X11_187_5 dX11_reader_79 (pc' := 82) rfl rfl ?_
      refine st_iload_n (pc' := 83) dX11_reader_82 rfl rfl (j := 2) rfl ?_
      obtain ⟨e4, h⟩ := h
      refine st_iaload (pc' := 84) (v := (gi I 13 (x1).toNat)) dX11_reader_83 rfl L_13 (by decide) e4 (show gi I 13 (x1).toNat = (gi I 13 (x1).toNat) from rfl) ?_
      exact st_iret (ty := .int) dX11_reader_84 rfl rfl rfl h
    replace h := h.2 c
    have c1 := c
    clear c
    by_cases c : x2 = 2
    · replace h := h.1 c
      refine st_tblIn (pc' := 85) (off := 65) dX11_reader_20 e2 (by omega) (by rw [c]; rfl) (by decide) ?_
      refine st_aload_n (pc' := 86) dX11_reader_85 rfl rfl (j := 0) rfl ?_
      refine G_X11_190_5 dX11_reader_86 (pc' := 89) rfl rfl ?_
      refine st_iload_n (pc' := 90) dX11_reader_89 rfl rfl (j := 2) rfl ?_
      obtain ⟨e5, h⟩ := h
      refine st_iaload (pc' := 91) (v := (gi I 14 (x1).toNat)) dX11_reader_90 rfl L_14 (by decide) e5 (show gi I 14 (x1).toNat = (gi I 14 (x1).toNat) from rfl) ?_
      exact st_iret (ty := .int) dX11_reader_91 rfl rfl rfl h
    replace h := h.2 c
    have c2 := c
    clear c
    by_cases c : x2 = 3
    · replace h := h.1 c
      refine st_tblIn (pc' := 92) (off := 72) dX11_reader_20 e2 (by omega) (by rw [c]; rfl) (by decide) ?_
      refine st_aload_n (pc' := 93) dX11_reader_92 rfl rfl (j := 1) rfl ?_
      refine G_X11_33_0 dX11_reader_93 (pc' := 96) rfl rfl ?_
      refine st_iload_n (pc' := 97) dX11_reader_96 rfl rfl (j := 2) rfl ?_
      refine st_iconst (pc' := 98) dX11_reader_97 rfl ?_
      refine st_callV (pc' := 101) (kc := k - 1) (E' := LAY) (cal := m_X2_of) (n := 2) (as := [vI x1, vI 1]) (S := []) dX11_reader_98 rfl l_X11_183 k_X2_of rfl L_4 c_X2 rfl rfl (Nat.le_of_ble_eq_true rfl) (by omega) ⟨Nat.le_refl _, Nat.le_refl _, Nat.le_refl _, Nat.le_refl _⟩ (Q1 := fun r M' => WP k LAY m_X11_reader 101 [(3, vR (some 5)), (0, vR (some 0)), (1, vI x1), (2, vI x2)] (r.toList ++ []) M' Q) (WPm.of k_X2_of.1 (Nat.le_of_ble_eq_true rfl) (B_X2_of_0 (by omega) ?_)) (fun r M' q => q)
      obtain ⟨e6, h⟩ := h
      refine ⟨e6, ?_⟩
      change WP _ LAY m_X11_reader 101 [(3, vR (some 5)), (0, vR (some 0)), (1, vI x1), (2, vI x2)] [vI (gi I 19 ((3 + (x1 * 14)) + 1).toNat)] (mem (P, some 5, some 22) I J) Q
      exact st_iret (ty := .int) dX11_reader_101 rfl rfl rfl h
    replace h := h.2 c
    have c3 := c
    clear c
    by_cases c : x2 = 4
    · replace h := h.1 c
      refine st_tblIn (pc' := 102) (off := 82) dX11_reader_20 e2 (by omega) (by rw [c]; rfl) (by decide) ?_
      refine st_aload_n (pc' := 103) dX11_reader_102 rfl rfl (j := 1) rfl ?_
      refine G_X11_33_0 dX11_reader_103 (pc' := 106) rfl rfl ?_
      refine st_iload_n (pc' := 107) dX11_reader_106 rfl rfl (j := 2) rfl ?_
      refine st_iconst (pc' := 108) dX11_reader_107 rfl ?_
      refine st_callV (pc' := 111) (kc := k - 1) (E' := LAY) (cal := m_X2_of) (n := 2) (as := [vI x1, vI 2]) (S := []) dX11_reader_108 rfl l_X11_183 k_X2_of rfl L_4 c_X2 rfl rfl (Nat.le_of_ble_eq_true rfl) (by omega) ⟨Nat.le_refl _, Nat.le_refl _, Nat.le_refl _, Nat.le_refl _⟩ (Q1 := fun r M' => WP k LAY m_X11_reader 111 [(3, vR (some 5)), (0, vR (some 0)), (1, vI x1), (2, vI x2)] (r.toList ++ []) M' Q) (WPm.of k_X2_of.1 (Nat.le_of_ble_eq_true rfl) (B_X2_of_0 (by omega) ?_)) (fun r M' q => q)
      obtain ⟨e7, h⟩ := h
      refine ⟨e7, ?_⟩
      change WP _ LAY m_X11_reader 111 [(3, vR (some 5)), (0, vR (some 0)), (1, vI x1), (2, vI x2)] [vI (gi I 19 ((3 + (x1 * 14)) + 2).toNat)] (mem (P, some 5, some 22) I J) Q
      exact st_iret (ty := .int) dX11_reader_111 rfl rfl rfl h
    replace h := h.2 c
    have c4 := c
    clear c
    by_cases c : x2 = 5
    · replace h := h.1 c
      refine st_tblIn (pc' := 112) (off := 92) dX11_reader_20 e2 (by omega) (by rw [c]; rfl) (by decide) ?_
      refine st_aload_n (pc' := 113) dX11_reader_112 rfl rfl (j := 1) rfl ?_
      refine G_X11_33_0 dX11_reader_113 (pc' := 116) rfl rfl ?_
      refine st_iload_n (pc' := 117) dX11_reader_116 rfl rfl (j := 2) rfl ?_
      refine st_iconst (pc' := 118) dX11_reader_117 rfl ?_
      refine st_callV (pc' := 121) (kc := k - 1) (E' := LAY) (cal := m_X2_of) (n := 2) (as := [vI x1, vI 3]) (S := []) dX11_reader_118 rfl l_X11_183 k_X2_of rfl L_4 c_X2 rfl rfl (Nat.le_of_ble_eq_true rfl) (by omega) ⟨Nat.le_refl _, Nat.le_refl _, Nat.le_refl _, Nat.le_refl _⟩ (Q1 := fun r M' => WP k LAY m_X11_reader 121 [(3, vR (some 5)), (0, vR (some 0)), (1, vI x1), (2, vI x2)] (r.toList ++ []) M' Q) (WPm.of k_X2_of.1 (Nat.le_of_ble_eq_true rfl) (B_X2_of_0 (by omega) ?_)) (fun r M' q => q)
      obtain ⟨e8, h⟩ := h
      refine ⟨e8, ?_⟩
      change WP _ LAY m_X11_reader 121 [(3, vR (some 5)), (0, vR (some 0)), (1, vI x1), (2, vI x2)] [vI (gi I 19 ((3 + (x1 * 14)) + 3).toNat)] (mem (P, some 5, some 22) I J) Q
      exact st_iret (ty := .int) dX11_reader_121 rfl rfl rfl h
    replace h := h.2 c
    have c5 := c
    clear c
    by_cases c : x2 = 6
    · replace h := h.1 c
      refine st_tblIn (pc' := 122) (off := 102) dX11_reader_20 e2 (by omega) (by rw [c]; rfl) (by decide) ?_
      refine st_aload_n (pc' := 123) dX11_reader_122 rfl rfl (j := 1) rfl ?_
      refine G_X11_33_0 dX11_reader_123 (pc' := 126) rfl rfl ?_
      refine st_iload_n (pc' := 127) dX11_reader_126 rfl rfl (j := 2) rfl ?_
      refine st_iconst (pc' := 128) dX11_reader_127 rfl ?_
      refine st_callV (pc' := 131) (kc := k - 1) (E' := LAY) (cal := m_X2_of) (n := 2) (as := [vI x1, vI 4]) (S := []) dX11_reader_128 rfl l_X11_183 k_X2_of rfl L_4 c_X2 rfl rfl (Nat.le_of_ble_eq_true rfl) (by omega) ⟨Nat.le_refl _, Nat.le_refl _, Nat.le_refl _, Nat.le_refl _⟩ (Q1 := fun r M' => WP k LAY m_X11_reader 131 [(3, vR (some 5)), (0, vR (some 0)), (1, vI x1), (2, vI x2)] (r.toList ++ []) M' Q) (WPm.of k_X2_of.1 (Nat.le_of_ble_eq_true rfl) (B_X2_of_0 (by omega) ?_)) (fun r M' q => q)
      obtain ⟨e9, h⟩ := h
      refine ⟨e9, ?_⟩
      change WP _ LAY m_X11_reader 131 [(3, vR (some 5)), (0, vR (some 0)), (1, vI x1), (2, vI x2)] [vI (gi I 19 ((3 + (x1 * 14)) + 4).toNat)] (mem (P, some 5, some 22) I J) Q
      exact st_iret (ty := .int) dX11_reader_131 rfl rfl rfl h
    replace h := h.2 c
    have c6 := c
    clear c
    by_cases c : x2 = 7
    · replace h := h.1 c
      refine st_tblIn (pc' := 132) (off := 112) dX11_reader_20 e2 (by omega) (by rw [c]; rfl) (by decide) ?_
      refine st_aload_n (pc' := 133) dX11_reader_132 rfl rfl (j := 1) rfl ?_
      refine G_X11_33_0 dX11_reader_133 (pc' := 136) rfl rfl ?_
      refine st_iload_n (pc' := 137) dX11_reader_136 rfl rfl (j := 2) rfl ?_
      refine st_iconst (pc' := 138) dX11_reader_137 rfl ?_
      refine st_callV (pc' := 141) (kc := k - 1) (E' := LAY) (cal := m_X2_of) (n := 2) (as := [vI x1, vI 5]) (S := []) dX11_reader_138 rfl l_X11_183 k_X2_of rfl L_4 c_X2 rfl rfl (Nat.le_of_ble_eq_true rfl) (by omega) ⟨Nat.le_refl _, Nat.le_refl _, Nat.le_refl _, Nat.le_refl _⟩ (Q1 := fun r M' => WP k LAY m_X11_reader 141 [(3, vR (some 5)), (0, vR (some 0)), (1, vI x1), (2, vI x2)] (r.toList ++ []) M' Q) (WPm.of k_X2_of.1 (Nat.le_of_ble_eq_true rfl) (B_X2_of_0 (by omega) ?_)) (fun r M' q => q)
      obtain ⟨e10, h⟩ := h
      refine ⟨e10, ?_⟩
      change WP _ LAY m_X11_reader 141 [(3, vR (some 5)), (0, vR (some 0)), (1, vI x1), (2, vI x2)] [vI (gi I 19 ((3 + (x1 * 14)) + 5).toNat)] (mem (P, some 5, some 22) I J) Q
      exact st_iret (ty := .int) dX11_reader_141 rfl rfl rfl h
    replace h := h.2 c
    have c7 := c
    clear c
    have go : WP k LAY m_X11_reader 142 [(3, vR (some 5)), (0, vR (some 0)), (1, vI x1), (2, vI x2)] [] (mem (P, some 5, some 22) I J) Q := by
      refine st_iload_n (pc' := 143) dX11_reader_142 rfl rfl (j := 3) rfl ?_
      refine st_bipush (pc' := 145) dX11_reader_143 rfl (by decide) ?_
      refine st_icmp_ge (tg := 152) (pc' := 148) dX11_reader_145 (by decide) rfl e2 (by decide) (fun c => ?_) (fun c => ?_)
      · replace h := h.1 c
        refine st_aload_n (pc' := 153) dX11_reader_152 rfl rfl (j := 1) rfl ?_
        refine G_X11_33_0 dX11_reader_153 (pc' := 156) rfl rfl ?_
        refine st_iload_n (pc' := 157) dX11_reader_156 rfl rfl (j := 2) rfl ?_
        refine st_iload_n (pc' := 158) dX11_reader_157 rfl rfl (j := 3) rfl ?_
        refine st_bipush (pc' := 160) dX11_reader_158 rfl (by decide) ?_
        refine st_isub (pc' := 161) dX11_reader_160 rfl ?_
        refine st_callV (pc' := 164) (kc := k - 1) (E' := LAY) (cal := m_X2_listed) (n := 2) (as := [vI x1, vI (x2 - 10)]) (S := []) dX11_reader_161 rfl l_X11_193 k_X2_listed rfl L_4 c_X2 rfl rfl (Nat.le_of_ble_eq_true rfl) (by omega) ⟨Nat.le_refl _, Nat.le_refl _, Nat.le_refl _, Nat.le_refl _⟩ (Q1 := fun r M' => WP k LAY m_X11_reader 164 [(3, vR (some 5)), (0, vR (some 0)), (1, vI x1), (2, vI x2)] (r.toList ++ []) M' Q) (WPm.of k_X2_listed.1 (Nat.le_of_ble_eq_true rfl) (B_X2_listed_0 (by omega) ?_)) (fun r M' q => q)
        obtain ⟨e11, h⟩ := h
        refine ⟨e11, ?_⟩
        refine ⟨fun c => ?_, fun c => ?_⟩
        · replace h := h.1 c
          change WP _ LAY m_X11_reader 164 [(3, vR (some 5)), (0, vR (some 0)), (1, vI x1), (2, vI x2)] [vI (-1)] (mem (P, some 5, some 22) I J) Q
          exact st_iret (ty := .int) dX11_reader_164 rfl rfl rfl h
        · replace h := h.2 c
          obtain ⟨e12, h⟩ := h
          refine ⟨e12, ?_⟩
          refine ⟨fun c => ?_, fun c => ?_⟩
          · replace h := h.1 c
            change WP _ LAY m_X11_reader 164 [(3, vR (some 5)), (0, vR (some 0)), (1, vI x1), (2, vI x2)] [vI (-1)] (mem (P, some 5, some 22) I J) Q
            exact st_iret (ty := .int) dX11_reader_164 rfl rfl rfl h
          · replace h := h.2 c
            obtain ⟨e13, h⟩ := h
            refine ⟨e13, ?_⟩
            change WP _ LAY m_X11_reader 164 [(3, vR (some 5)), (0, vR (some 0)), (1, vI x1), (2, vI x2)] [vI (gi I 19 ((3 + (x1 * 14)) + (6 + (x2 - 10))).toNat)] (mem (P, some 5, some 22) I J) Q
            exact st_iret (ty := .int) dX11_reader_164 rfl rfl rfl h
      · replace h := h.2 c
        refine st_iconst (pc' := 149) dX11_reader_148 rfl ?_
        refine st_goto (pc' := 164) dX11_reader_149 (by decide) ?_
        exact st_iret (ty := .int) dX11_reader_164 rfl rfl rfl h
    exact st_tblOut (pc' := 142) dX11_reader_20 e2 (by omega) (by decide) go
  · replace h := h.2 (b2i_f.mp c)
    refine st_iconst (pc' := 18) dX11_reader_17 rfl ?_
    exact st_iret (ty := .int) dX11_reader_18 rfl rfl rfl h
set_option maxRecDepth 20000 in
set_option maxHeartbeats 4000000 in
theorem B_X11_scholar_0 {k : Nat} {P : Option Nat} {I : Nat → Nat → Int32} {J : Nat → Nat → Int64} {x1 : Int} {Q : Option AV → Mem → Prop} (hk : 1 ≤ k) (h : inR x1 ∧ (((0 ≤ x1 ∧ x1 < shl32 1 (gi I 6 1)) → (WP k LAY m_X11_scholar 23 [(0, vR (some 0)), (1, vI x1), (2, vI (-1)), (3, vI 0), (4, vI 0)] [] (mem (P, some 5, some 22) I J) Q)) ∧ (¬ (0 ≤ x1 ∧ x1 < shl32 1 (gi I 6 1)) → (Q (some (vI (-1))) (mem (P, some 5, some 22) I J))))) : WP k LAY m_X11_scholar 0 [(0, vR (some 0)), (1, vI x1)] [] (mem (P, some 5, some 22) I J) Q := by
  refine st_aload_n (pc' := 1) dX11_scholar_0 rfl rfl (j := 0) rfl ?_
  refine G_X11_33_0 dX11_scholar_1 (pc' := 4) rfl rfl ?_
  refine G_X11_121_4 dX11_scholar_4 (pc' := 7) rfl rfl ?_
  refine st_iload_n (pc' := 8) dX11_scholar_7 rfl rfl (j := 1) rfl ?_
  obtain ⟨e1, h⟩ := h
  refine st_callV (pc' := 11) (kc := k - 1) (E' := LAY) (cal := m_X7_isQuestion) (n := 1) (as := [vI x1]) (S := []) dX11_scholar_8 rfl l_X11_276 k_X7_isQuestion rfl L_5 c_X7 rfl rfl (Nat.le_of_ble_eq_true rfl) (by omega) ⟨Nat.le_refl _, Nat.le_refl _, Nat.le_refl _, Nat.le_refl _⟩ (Q1 := fun r M' => WP k LAY m_X11_scholar 11 [(0, vR (some 0)), (1, vI x1)] (r.toList ++ []) M' Q) (S_X7_isQuestion_5 (by omega) e1 ?_) (fun r M' q => q)
  change WP _ LAY m_X11_scholar 11 [(0, vR (some 0)), (1, vI x1)] [vI (b2i (0 ≤ x1 ∧ x1 < shl32 1 (gi I 6 1)))] (mem (P, some 5, some 22) I J) Q
  refine st_if_ne (tg := 16) (pc' := 14) dX11_scholar_11 (by decide) rfl (b2i_in _) (fun c => ?_) (fun c => ?_)
  · replace h := h.1 (b2i_t.mp c)
    refine st_iconst (pc' := 17) dX11_scholar_16 rfl ?_
    refine st_istore_n (pc' := 18) (L' := [(2, vI (-1)), (0, vR (some 0)), (1, vI x1)]) dX11_scholar_17 rfl rfl (by decide) rfl ?_
    refine st_iconst (pc' := 19) dX11_scholar_18 rfl ?_
    refine st_istore_n (pc' := 20) (L' := [(3, vI 0), (2, vI (-1)), (0, vR (some 0)), (1, vI x1)]) dX11_scholar_19 rfl rfl (by decide) rfl ?_
    refine st_iconst (pc' := 21) dX11_scholar_20 rfl ?_
    refine st_istore (pc' := 23) (L' := [(4, vI 0), (3, vI 0), (2, vI (-1)), (0, vR (some 0)), (1, vI x1)]) dX11_scholar_21 rfl (by decide) rfl ?_
    refine WP_sub (L' := [(0, vR (some 0)), (1, vI x1), (2, vI (-1)), (3, vI 0), (4, vI 0)]) [3, 4, 2, 1, 0] rfl ?_
    exact h
  · replace h := h.2 (b2i_f.mp c)
    refine st_iconst (pc' := 15) dX11_scholar_14 rfl ?_
    exact st_iret (ty := .int) dX11_scholar_15 rfl rfl rfl h
set_option maxRecDepth 20000 in
set_option maxHeartbeats 4000000 in
theorem B_X11_scholar_23 {k : Nat} {P : Option Nat} {I : Nat → Nat → Int32} {J : Nat → Nat → Int64} {x1 : Int} {x2 : Int} {x3 : Int} {x4 : Int} {Q : Option AV → Mem → Prop} (hk : 1 ≤ k) (h : inR x4 ∧ (((gi I 6 2) ≤ x4 → (Q (some (vI x2)) (mem (P, some 5, some 22) I J))) ∧ (¬ (gi I 6 2) ≤ x4 → (WPm (k - 1) LAY m_X8_nightsOf [vR (some 51), vI x4, vI x1] (mem (P, some 5, some 22) I J) (retI (fun v2 I3 J4 => inR v2 ∧ ((v2 = (-1) → (WP k LAY m_X11_scholar 23 [(0, vR (some 0)), (1, vI x1), (2, vI x2), (3, vI x3), (4, vI (x4 + 1))] [] (mem (P, some 5, some 22) I3 J4) Q)) ∧ (¬ v2 = (-1) → (inR x2 ∧ ((x2 = (-1) → (WP k LAY m_X11_scholar 23 [(0, vR (some 0)), (1, vI x1), (2, vI x4), (3, vI v2), (4, vI (x4 + 1))] [] (mem (P, some 5, some 22) I3 J4) Q)) ∧ (¬ x2 = (-1) → (inR x3 ∧ ((x3 ≤ v2 → (WP k LAY m_X11_scholar 23 [(0, vR (some 0)), (1, vI x1), (2, vI x2), (3, vI x3), (4, vI (x4 + 1))] [] (mem (P, some 5, some 22) I3 J4) Q)) ∧ (¬ x3 ≤ v2 → (WP k LAY m_X11_scholar 23 [(0, vR (some 0)), (1, vI x1), (2, vI x4), (3, vI v2), (4, vI (x4 + 1))] [] (mem (P, some 5, some 22) I3 J4) Q)))))))))) (P, some 5, some 22)))))) : WP k LAY m_X11_scholar 23 [(0, vR (some 0)), (1, vI x1), (2, vI x2), (3, vI x3), (4, vI x4)] [] (mem (P, some 5, some 22) I J) Q := by
  refine st_iload (pc' := 25) dX11_scholar_23 rfl (j := 4) rfl ?_
  refine st_aload_n (pc' := 26) dX11_scholar_25 rfl rfl (j := 0) rfl ?_
  refine G_X11_33_0 dX11_scholar_26 (pc' := 29) rfl rfl ?_
  refine G_X11_121_4 dX11_scholar_29 (pc' := 32) rfl rfl ?_
  refine G_X11_133_5 dX11_scholar_32 (pc' := 35) rfl rfl ?_
  refine st_iconst (pc' := 36) dX11_scholar_35 rfl ?_
  refine st_iaload (pc' := 37) (v := (gi I 6 2)) dX11_scholar_36 rfl L_6 (by decide) (by decide) (show gi I 6 2 = (gi I 6 2) from rfl) ?_
  obtain ⟨e1, h⟩ := h
  refine st_icmp_ge (tg := 81) (pc' := 40) dX11_scholar_37 (by decide) rfl e1 (gi_in _ _ _) (fun c => ?_) (fun c => ?_)
  · replace h := h.1 c
    refine st_iload_n (pc' := 82) dX11_scholar_81 rfl rfl (j := 2) rfl ?_
    exact st_iret (ty := .int) dX11_scholar_82 rfl rfl rfl h
  · replace h := h.2 c
    refine st_aload_n (pc' := 41) dX11_scholar_40 rfl rfl (j := 0) rfl ?_
    refine G_X11_67_0 dX11_scholar_41 (pc' := 44) rfl rfl ?_
    refine st_iload (pc' := 46) dX11_scholar_44 rfl (j := 4) rfl ?_
    refine st_iload_n (pc' := 47) dX11_scholar_46 rfl rfl (j := 1) rfl ?_
    refine st_callV (pc' := 50) (kc := k - 1) (E' := LAY) (cal := m_X8_nightsOf) (n := 2) (as := [vI x4, vI x1]) (S := []) dX11_scholar_47 rfl l_X11_283 k_X8_nightsOf rfl L_51 c_X8 rfl rfl (Nat.le_of_ble_eq_true rfl) (by omega) ⟨Nat.le_refl _, Nat.le_refl _, Nat.le_refl _, Nat.le_refl _⟩ h (fun r M' q => ?_)
    obtain ⟨v2, I3, J4, rfl, rfl, h⟩ := q
    change WP _ LAY m_X11_scholar 50 [(0, vR (some 0)), (1, vI x1), (2, vI x2), (3, vI x3), (4, vI x4)] [vI v2] (mem (P, some 5, some 22) I3 J4) Q
    refine st_istore (pc' := 52) (L' := [(5, vI v2), (0, vR (some 0)), (1, vI x1), (2, vI x2), (3, vI x3), (4, vI x4)]) dX11_scholar_50 rfl (by decide) rfl ?_
    refine st_iload (pc' := 54) dX11_scholar_52 rfl (j := 0) rfl ?_
    refine st_iconst (pc' := 55) dX11_scholar_54 rfl ?_
    obtain ⟨e5, h⟩ := h
    refine st_icmp_eq (tg := 75) (pc' := 58) dX11_scholar_55 (by decide) rfl e5 (by decide) (fun c => ?_) (fun c => ?_)
    · replace h := h.1 c
      refine st_iinc (pc' := 78) (L' := [(4, vI (x4 + 1)), (5, vI v2), (0, vR (some 0)), (1, vI x1), (2, vI x2), (3, vI x3)]) (j := 5) dX11_scholar_75 rfl (by decide) rfl rfl ?_
      refine st_goto (pc' := 23) dX11_scholar_78 (by decide) ?_
      refine WP_sub (L' := [(0, vR (some 0)), (1, vI x1), (2, vI x2), (3, vI x3), (4, vI (x4 + 1))]) [2, 3, 4, 5, 0] rfl ?_
      exact h
    · replace h := h.2 c
      refine st_iload_n (pc' := 59) dX11_scholar_58 rfl rfl (j := 3) rfl ?_
      refine st_iconst (pc' := 60) dX11_scholar_59 rfl ?_
      obtain ⟨e6, h⟩ := h
      refine st_icmp_eq (tg := 69) (pc' := 63) dX11_scholar_60 (by decide) rfl e6 (by decide) (fun c => ?_) (fun c => ?_)
      · replace h := h.1 c
        refine st_iload (pc' := 71) dX11_scholar_69 rfl (j := 5) rfl ?_
        refine st_istore_n (pc' := 72) (L' := [(2, vI x4), (5, vI v2), (0, vR (some 0)), (1, vI x1), (3, vI x3), (4, vI x4)]) dX11_scholar_71 rfl rfl (by decide) rfl ?_
        refine st_iload (pc' := 74) dX11_scholar_72 rfl (j := 1) rfl ?_
        refine st_istore_n (pc' := 75) (L' := [(3, vI v2), (2, vI x4), (5, vI v2), (0, vR (some 0)), (1, vI x1), (4, vI x4)]) dX11_scholar_74 rfl rfl (by decide) rfl ?_
        refine st_iinc (pc' := 78) (L' := [(4, vI (x4 + 1)), (3, vI v2), (2, vI x4), (5, vI v2), (0, vR (some 0)), (1, vI x1)]) (j := 5) dX11_scholar_75 rfl (by decide) rfl rfl ?_
        refine st_goto (pc' := 23) dX11_scholar_78 (by decide) ?_
        refine WP_sub (L' := [(0, vR (some 0)), (1, vI x1), (2, vI x4), (3, vI v2), (4, vI (x4 + 1))]) [4, 5, 2, 1, 0] rfl ?_
        exact h
      · replace h := h.2 c
        refine st_iload (pc' := 65) dX11_scholar_63 rfl (j := 0) rfl ?_
        refine st_iload_n (pc' := 66) dX11_scholar_65 rfl rfl (j := 4) rfl ?_
        obtain ⟨e7, h⟩ := h
        refine st_icmp_ge (tg := 75) (pc' := 69) dX11_scholar_66 (by decide) rfl e5 e7 (fun c => ?_) (fun c => ?_)
        · replace h := h.1 c
          refine st_iinc (pc' := 78) (L' := [(4, vI (x4 + 1)), (5, vI v2), (0, vR (some 0)), (1, vI x1), (2, vI x2), (3, vI x3)]) (j := 5) dX11_scholar_75 rfl (by decide) rfl rfl ?_
          refine st_goto (pc' := 23) dX11_scholar_78 (by decide) ?_
          refine WP_sub (L' := [(0, vR (some 0)), (1, vI x1), (2, vI x2), (3, vI x3), (4, vI (x4 + 1))]) [2, 3, 4, 5, 0] rfl ?_
          exact h
        · replace h := h.2 c
          refine st_iload (pc' := 71) dX11_scholar_69 rfl (j := 5) rfl ?_
          refine st_istore_n (pc' := 72) (L' := [(2, vI x4), (5, vI v2), (0, vR (some 0)), (1, vI x1), (3, vI x3), (4, vI x4)]) dX11_scholar_71 rfl rfl (by decide) rfl ?_
          refine st_iload (pc' := 74) dX11_scholar_72 rfl (j := 1) rfl ?_
          refine st_istore_n (pc' := 75) (L' := [(3, vI v2), (2, vI x4), (5, vI v2), (0, vR (some 0)), (1, vI x1), (4, vI x4)]) dX11_scholar_74 rfl rfl (by decide) rfl ?_
          refine st_iinc (pc' := 78) (L' := [(4, vI (x4 + 1)), (3, vI v2), (2, vI x4), (5, vI v2), (0, vR (some 0)), (1, vI x1)]) (j := 5) dX11_scholar_75 rfl (by decide) rfl rfl ?_
          refine st_goto (pc' := 23) dX11_scholar_78 (by decide) ?_
          refine WP_sub (L' := [(0, vR (some 0)), (1, vI x1), (2, vI x4), (3, vI v2), (4, vI (x4 + 1))]) [4, 5, 2, 1, 0] rfl ?_
          exact h
set_option maxRecDepth 20000 in
set_option maxHeartbeats 4000000 in
theorem B_X11_seat_0 {k : Nat} {P : Option Nat} {I : Nat → Nat → Int32} {J : Nat → Nat → Int64} {x1 : Int} {x2 : Int} {Q : Option AV → Mem → Prop} (hk : 2 ≤ k) (h : inR x1 ∧ ((¬ (0 ≤ x1 ∧ x1 < gi I 6 (2 : Int).toNat) → (Q (some (vI 0)) (mem (P, some 5, some 22) (si I 73 2 ((gi I 73 2) + 1)) J))) ∧ ((0 ≤ x1 ∧ x1 < gi I 6 (2 : Int).toNat) → (inR x2 ∧ ((¬ (0 ≤ x2 ∧ x2 < gi I 6 (3 : Int).toNat) → (Q (some (vI 0)) (mem (P, some 5, some 22) (si I 73 2 ((gi I 73 2) + 1)) J))) ∧ ((0 ≤ x2 ∧ x2 < gi I 6 (3 : Int).toNat) → ((0 ≤ ((3 + (x1 * 14)) + 0) ∧ ((3 + (x1 * 14)) + 0) < 87) ∧ ((¬ (gi I 19 ((3 + (x1 * 14)) + 0).toNat) = x2 → (((0 : Int) ≤ ((gi I 4 4) * 87) ∧ ((gi I 4 4) * 87) + 87 ≤ 1740) ∧ (inR ((gi I 4 5) + 1) ∧ (Q (some (vI 1)) (mem (P, some 5, some 22) (si (si (si (si (fc I 19 0 21 ((gi I 4 4) * 87).toNat 87) 4 4 (rem32 ((gi I 4 4) + 1) 20)) 4 5 (min 20 ((gi I 4 5) + 1))) 4 6 ((gi I 4 6) + 1)) 19 ((3 + (x1 * 14)) + 0).toNat x2) J))))) ∧ ((gi I 19 ((3 + (x1 * 14)) + 0).toNat) = x2 → (Q (some (vI 0)) (mem (P, some 5, some 22) (si I 73 2 ((gi I 73 2) + 1)) J))))))))))) : WP k LAY m_X11_seat 0 [(0, vR (some 0)), (1, vI x1), (2, vI x2)] [] (mem (P, some 5, some 22) I J) Q := by
  refine st_aload_n (pc' := 1) dX11_seat_0 rfl rfl (j := 0) rfl ?_
  refine G_X11_33_0 dX11_seat_1 (pc' := 4) rfl rfl ?_
  refine G_X11_121_4 dX11_seat_4 (pc' := 7) rfl rfl ?_
  refine st_iconst (pc' := 8) dX11_seat_7 rfl ?_
  refine st_iload_n (pc' := 9) dX11_seat_8 rfl rfl (j := 1) rfl ?_
  obtain ⟨e1, h⟩ := h
  refine st_callV (pc' := 12) (kc := k - 1) (E' := LAY) (cal := m_X7_holds) (n := 2) (as := [vI 2, vI x1]) (S := []) dX11_seat_9 rfl l_X11_155 k_X7_holds rfl L_5 c_X7 rfl rfl (Nat.le_of_ble_eq_true rfl) (by omega) ⟨Nat.le_refl _, Nat.le_refl _, Nat.le_refl _, Nat.le_refl _⟩ (Q1 := fun r M' => WP k LAY m_X11_seat 12 [(0, vR (some 0)), (1, vI x1), (2, vI x2)] (r.toList ++ []) M' Q) (S_X7_holds_5 (by omega) (by decide) e1 ?_) (fun r M' q => q)
  change WP _ LAY m_X11_seat 12 [(0, vR (some 0)), (1, vI x1), (2, vI x2)] [vI (b2i (0 ≤ x1 ∧ x1 < gi I 6 (2 : Int).toNat))] (mem (P, some 5, some 22) I J) Q
  refine st_if_eq (tg := 43) (pc' := 15) dX11_seat_12 (by decide) rfl (b2i_in _) (fun c => ?_) (fun c => ?_)
  · replace h := h.1 (b2i_f.mp c)
    refine st_aload_n (pc' := 44) dX11_seat_43 rfl rfl (j := 0) rfl ?_
    refine st_iconst (pc' := 45) dX11_seat_44 rfl ?_
    refine st_callV (pc' := 48) (kc := k - 1) (E' := LAY) (cal := m_X11_deny) (n := 1) (as := [vI 2]) (S := []) dX11_seat_45 rfl l_X11_113 k_X11_deny rfl L_0 c_X11 rfl rfl (Nat.le_of_ble_eq_true rfl) (by omega) ⟨Nat.le_refl _, Nat.le_refl _, Nat.le_refl _, Nat.le_refl _⟩ (Q1 := fun r M' => WP k LAY m_X11_seat 48 [(0, vR (some 0)), (1, vI x1), (2, vI x2)] (r.toList ++ []) M' Q) (WPm.of k_X11_deny.1 (Nat.le_of_ble_eq_true rfl) (B_X11_deny_0 (by omega) ?_)) (fun r M' q => q)
    refine ⟨by decide, ?_⟩
    change WP _ LAY m_X11_seat 48 [(0, vR (some 0)), (1, vI x1), (2, vI x2)] [vI 0] (mem (P, some 5, some 22) (si I 73 2 ((gi I 73 2) + 1)) J) Q
    exact st_iret (ty := .boolean) dX11_seat_48 rfl (by decide) rfl h
  · replace h := h.2 (b2i_t.mp c)
    refine st_aload_n (pc' := 16) dX11_seat_15 rfl rfl (j := 0) rfl ?_
    refine G_X11_33_0 dX11_seat_16 (pc' := 19) rfl rfl ?_
    refine G_X11_121_4 dX11_seat_19 (pc' := 22) rfl rfl ?_
    refine st_iconst (pc' := 23) dX11_seat_22 rfl ?_
    refine st_iload_n (pc' := 24) dX11_seat_23 rfl rfl (j := 2) rfl ?_
    obtain ⟨e2, h⟩ := h
    refine st_callV (pc' := 27) (kc := k - 1) (E' := LAY) (cal := m_X7_holds) (n := 2) (as := [vI 3, vI x2]) (S := []) dX11_seat_24 rfl l_X11_155 k_X7_holds rfl L_5 c_X7 rfl rfl (Nat.le_of_ble_eq_true rfl) (by omega) ⟨Nat.le_refl _, Nat.le_refl _, Nat.le_refl _, Nat.le_refl _⟩ (Q1 := fun r M' => WP k LAY m_X11_seat 27 [(0, vR (some 0)), (1, vI x1), (2, vI x2)] (r.toList ++ []) M' Q) (S_X7_holds_5 (by omega) (by decide) e2 ?_) (fun r M' q => q)
    change WP _ LAY m_X11_seat 27 [(0, vR (some 0)), (1, vI x1), (2, vI x2)] [vI (b2i (0 ≤ x2 ∧ x2 < gi I 6 (3 : Int).toNat))] (mem (P, some 5, some 22) I J) Q
    refine st_if_eq (tg := 43) (pc' := 30) dX11_seat_27 (by decide) rfl (b2i_in _) (fun c => ?_) (fun c => ?_)
    · replace h := h.1 (b2i_f.mp c)
      refine st_aload_n (pc' := 44) dX11_seat_43 rfl rfl (j := 0) rfl ?_
      refine st_iconst (pc' := 45) dX11_seat_44 rfl ?_
      refine st_callV (pc' := 48) (kc := k - 1) (E' := LAY) (cal := m_X11_deny) (n := 1) (as := [vI 2]) (S := []) dX11_seat_45 rfl l_X11_113 k_X11_deny rfl L_0 c_X11 rfl rfl (Nat.le_of_ble_eq_true rfl) (by omega) ⟨Nat.le_refl _, Nat.le_refl _, Nat.le_refl _, Nat.le_refl _⟩ (Q1 := fun r M' => WP k LAY m_X11_seat 48 [(0, vR (some 0)), (1, vI x1), (2, vI x2)] (r.toList ++ []) M' Q) (WPm.of k_X11_deny.1 (Nat.le_of_ble_eq_true rfl) (B_X11_deny_0 (by omega) ?_)) (fun r M' q => q)
      refine ⟨by decide, ?_⟩
      change WP _ LAY m_X11_seat 48 [(0, vR (some 0)), (1, vI x1), (2, vI x2)] [vI 0] (mem (P, some 5, some 22) (si I 73 2 ((gi I 73 2) + 1)) J) Q
      exact st_iret (ty := .boolean) dX11_seat_48 rfl (by decide) rfl h
    · replace h := h.2 (b2i_t.mp c)
      refine st_aload_n (pc' := 31) dX11_seat_30 rfl rfl (j := 0) rfl ?_
      refine G_X11_33_0 dX11_seat_31 (pc' := 34) rfl rfl ?_
      refine st_iload_n (pc' := 35) dX11_seat_34 rfl rfl (j := 1) rfl ?_
      refine st_iconst (pc' := 36) dX11_seat_35 rfl ?_
      refine st_callV (pc' := 39) (kc := k - 1) (E' := LAY) (cal := m_X2_of) (n := 2) (as := [vI x1, vI 0]) (S := []) dX11_seat_36 rfl l_X11_183 k_X2_of rfl L_4 c_X2 rfl rfl (Nat.le_of_ble_eq_true rfl) (by omega) ⟨Nat.le_refl _, Nat.le_refl _, Nat.le_refl _, Nat.le_refl _⟩ (Q1 := fun r M' => WP k LAY m_X11_seat 39 [(0, vR (some 0)), (1, vI x1), (2, vI x2)] (r.toList ++ []) M' Q) (WPm.of k_X2_of.1 (Nat.le_of_ble_eq_true rfl) (B_X2_of_0 (by omega) ?_)) (fun r M' q => q)
      obtain ⟨e3, h⟩ := h
      refine ⟨e3, ?_⟩
      change WP _ LAY m_X11_seat 39 [(0, vR (some 0)), (1, vI x1), (2, vI x2)] [vI (gi I 19 ((3 + (x1 * 14)) + 0).toNat)] (mem (P, some 5, some 22) I J) Q
      refine st_iload_n (pc' := 40) dX11_seat_39 rfl rfl (j := 2) rfl ?_
      refine st_icmp_ne (tg := 49) (pc' := 43) dX11_seat_40 (by decide) rfl (gi_in _ _ _) e2 (fun c => ?_) (fun c => ?_)
      · replace h := h.1 c
        refine st_aload_n (pc' := 50) dX11_seat_49 rfl rfl (j := 0) rfl ?_
        refine G_X11_33_0 dX11_seat_50 (pc' := 53) rfl rfl ?_
        refine st_callV (pc' := 56) (kc := k - 1) (E' := LAY) (cal := m_X2_remember) (n := 0) (as := []) (S := []) dX11_seat_53 rfl l_X11_242 k_X2_remember rfl L_4 c_X2 rfl rfl (Nat.le_of_ble_eq_true rfl) (by omega) ⟨Nat.le_refl _, Nat.le_refl _, Nat.le_refl _, Nat.le_refl _⟩ (Q1 := fun r M' => WP k LAY m_X11_seat 56 [(0, vR (some 0)), (1, vI x1), (2, vI x2)] (r.toList ++ []) M' Q) (WPm.of k_X2_remember.1 (Nat.le_of_ble_eq_true rfl) (B_X2_remember_0 (by omega) ?_)) (fun r M' q => q)
        obtain ⟨e4, h⟩ := h
        refine ⟨e4, ?_⟩
        obtain ⟨e5, h⟩ := h
        refine ⟨e5, ?_⟩
        change WP _ LAY m_X11_seat 56 [(0, vR (some 0)), (1, vI x1), (2, vI x2)] [] (mem (P, some 5, some 22) (si (si (si (fc I 19 0 21 ((gi I 4 4) * 87).toNat 87) 4 4 (rem32 ((gi I 4 4) + 1) 20)) 4 5 (min 20 ((gi I 4 5) + 1))) 4 6 ((gi I 4 6) + 1)) J) Q
        refine st_aload_n (pc' := 57) dX11_seat_56 rfl rfl (j := 0) rfl ?_
        refine G_X11_33_0 dX11_seat_57 (pc' := 60) rfl rfl ?_
        refine st_iload_n (pc' := 61) dX11_seat_60 rfl rfl (j := 1) rfl ?_
        refine st_iconst (pc' := 62) dX11_seat_61 rfl ?_
        refine st_iload_n (pc' := 63) dX11_seat_62 rfl rfl (j := 2) rfl ?_
        refine st_callV (pc' := 66) (kc := k - 1) (E' := LAY) (cal := m_X2_set) (n := 3) (as := [vI x1, vI 0, vI x2]) (S := []) dX11_seat_63 rfl l_X11_245 k_X2_set rfl L_4 c_X2 rfl rfl (Nat.le_of_ble_eq_true rfl) (by omega) ⟨Nat.le_refl _, Nat.le_refl _, Nat.le_refl _, Nat.le_refl _⟩ (Q1 := fun r M' => WP k LAY m_X11_seat 66 [(0, vR (some 0)), (1, vI x1), (2, vI x2)] (r.toList ++ []) M' Q) (WPm.of k_X2_set.1 (Nat.le_of_ble_eq_true rfl) (B_X2_set_0 (by omega) ?_)) (fun r M' q => q)
        refine ⟨e3, ?_⟩
        change WP _ LAY m_X11_seat 66 [(0, vR (some 0)), (1, vI x1), (2, vI x2)] [] (mem (P, some 5, some 22) (si (si (si (si (fc I 19 0 21 ((gi I 4 4) * 87).toNat 87) 4 4 (rem32 ((gi I 4 4) + 1) 20)) 4 5 (min 20 ((gi I 4 5) + 1))) 4 6 ((gi I 4 6) + 1)) 19 ((3 + (x1 * 14)) + 0).toNat x2) J) Q
        refine st_iconst (pc' := 67) dX11_seat_66 rfl ?_
        exact st_iret (ty := .boolean) dX11_seat_67 rfl (by decide) rfl h
      · replace h := h.2 c
        refine st_aload_n (pc' := 44) dX11_seat_43 rfl rfl (j := 0) rfl ?_
        refine st_iconst (pc' := 45) dX11_seat_44 rfl ?_
        refine st_callV (pc' := 48) (kc := k - 1) (E' := LAY) (cal := m_X11_deny) (n := 1) (as := [vI 2]) (S := []) dX11_seat_45 rfl l_X11_113 k_X11_deny rfl L_0 c_X11 rfl rfl (Nat.le_of_ble_eq_true rfl) (by omega) ⟨Nat.le_refl _, Nat.le_refl _, Nat.le_refl _, Nat.le_refl _⟩ (Q1 := fun r M' => WP k LAY m_X11_seat 48 [(0, vR (some 0)), (1, vI x1), (2, vI x2)] (r.toList ++ []) M' Q) (WPm.of k_X11_deny.1 (Nat.le_of_ble_eq_true rfl) (B_X11_deny_0 (by omega) ?_)) (fun r M' q => q)
        refine ⟨by decide, ?_⟩
        change WP _ LAY m_X11_seat 48 [(0, vR (some 0)), (1, vI x1), (2, vI x2)] [vI 0] (mem (P, some 5, some 22) (si I 73 2 ((gi I 73 2) + 1)) J) Q
        exact st_iret (ty := .boolean) dX11_seat_48 rfl (by decide) rfl h
set_option maxRecDepth 20000 in
set_option maxHeartbeats 4000000 in
theorem B_X11_seated_0 {k : Nat} {P : Option Nat} {I : Nat → Nat → Int32} {J : Nat → Nat → Int64} {x1 : Int} {Q : Option AV → Mem → Prop} (hk : 1 ≤ k) (h : inR x1 ∧ ((x1 = (-1) → (((gi I 6 2) = 0 → (Q (some (vI (-1))) (mem (P, some 5, some 22) I J))) ∧ (¬ (gi I 6 2) = 0 → (WPm (k - 1) LAY m_X5_find [vR (some 63)] (mem (P, some 5, some 22) I J) (retV (fun I3 J4 => (¬ x1 = (-1) → ((¬ x1 = 20 → (((gi I3 6 3) ≤ 0 → (Q (some (vI 0)) (mem (P, some 5, some 22) I3 J4))) ∧ (¬ (gi I3 6 3) ≤ 0 → ((0 ≤ x1 ∧ x1 < 6) ∧ (((gi I3 67 (x1).toNat) ≤ 0 → (Q (some (vI 0)) (mem (P, some 5, some 22) I3 J4))) ∧ (¬ (gi I3 67 (x1).toNat) ≤ 0 → (¬ (gi I3 67 (x1).toNat) = 0 ∧ (¬ (gi I3 6 3) = 0 ∧ (Q (some (vI (rem32 (div32 (gi I3 63 12) (gi I3 67 (x1).toNat)) (gi I3 6 3)))) (mem (P, some 5, some 22) I3 J4)))))))))) ∧ (x1 = 20 → (Q (some (vI (gi I3 63 11))) (mem (P, some 5, some 22) I3 J4))))) ∧ (x1 = (-1) → (Q (some (vI (gi I3 63 10))) (mem (P, some 5, some 22) I3 J4)))) (P, some 5, some 22)))))) ∧ (¬ x1 = (-1) → ((x1 = 20 → (((gi I 6 2) = 0 → (Q (some (vI (-1))) (mem (P, some 5, some 22) I J))) ∧ (¬ (gi I 6 2) = 0 → (WPm (k - 1) LAY m_X5_find [vR (some 63)] (mem (P, some 5, some 22) I J) (retV (fun I9 J10 => (¬ x1 = (-1) → ((¬ x1 = 20 → (((gi I9 6 3) ≤ 0 → (Q (some (vI 0)) (mem (P, some 5, some 22) I9 J10))) ∧ (¬ (gi I9 6 3) ≤ 0 → ((0 ≤ x1 ∧ x1 < 6) ∧ (((gi I9 67 (x1).toNat) ≤ 0 → (Q (some (vI 0)) (mem (P, some 5, some 22) I9 J10))) ∧ (¬ (gi I9 67 (x1).toNat) ≤ 0 → (¬ (gi I9 67 (x1).toNat) = 0 ∧ (¬ (gi I9 6 3) = 0 ∧ (Q (some (vI (rem32 (div32 (gi I9 63 12) (gi I9 67 (x1).toNat)) (gi I9 6 3)))) (mem (P, some 5, some 22) I9 J10)))))))))) ∧ (x1 = 20 → (Q (some (vI (gi I9 63 11))) (mem (P, some 5, some 22) I9 J10))))) ∧ (x1 = (-1) → (Q (some (vI (gi I9 63 10))) (mem (P, some 5, some 22) I9 J10)))) (P, some 5, some 22)))))) ∧ (¬ x1 = 20 → ((x1 < 0 → (((gi I 6 2) = 0 → (Q (some (vI (-1))) (mem (P, some 5, some 22) I J))) ∧ (¬ (gi I 6 2) = 0 → (Q (some (vI (-1))) (mem (P, some 5, some 22) I J))))) ∧ (¬ x1 < 0 → (((gi I 6 2) ≤ x1 → (((gi I 6 2) = 0 → (Q (some (vI (-1))) (mem (P, some 5, some 22) I J))) ∧ (¬ (gi I 6 2) = 0 → (Q (some (vI (-1))) (mem (P, some 5, some 22) I J))))) ∧ (¬ (gi I 6 2) ≤ x1 → (((gi I 6 2) = 0 → (Q (some (vI (-1))) (mem (P, some 5, some 22) I J))) ∧ (¬ (gi I 6 2) = 0 → (WPm (k - 1) LAY m_X5_find [vR (some 63)] (mem (P, some 5, some 22) I J) (retV (fun I15 J16 => (¬ x1 = (-1) → ((¬ x1 = 20 → (((gi I15 6 3) ≤ 0 → (Q (some (vI 0)) (mem (P, some 5, some 22) I15 J16))) ∧ (¬ (gi I15 6 3) ≤ 0 → ((0 ≤ x1 ∧ x1 < 6) ∧ (((gi I15 67 (x1).toNat) ≤ 0 → (Q (some (vI 0)) (mem (P, some 5, some 22) I15 J16))) ∧ (¬ (gi I15 67 (x1).toNat) ≤ 0 → (¬ (gi I15 67 (x1).toNat) = 0 ∧ (¬ (gi I15 6 3) = 0 ∧ (Q (some (vI (rem32 (div32 (gi I15 63 12) (gi I15 67 (x1).toNat)) (gi I15 6 3)))) (mem (P, some 5, some 22) I15 J16)))))))))) ∧ (x1 = 20 → (Q (some (vI (gi I15 63 11))) (mem (P, some 5, some 22) I15 J16))))) ∧ (x1 = (-1) → (Q (some (vI (gi I15 63 10))) (mem (P, some 5, some 22) I15 J16)))) (P, some 5, some 22)))))))))))))) : WP k LAY m_X11_seated 0 [(0, vR (some 0)), (1, vI x1)] [] (mem (P, some 5, some 22) I J) Q := by
  refine st_aload_n (pc' := 1) dX11_seated_0 rfl rfl (j := 0) rfl ?_
  refine G_X11_33_0 dX11_seated_1 (pc' := 4) rfl rfl ?_
  refine G_X11_121_4 dX11_seated_4 (pc' := 7) rfl rfl ?_
  refine G_X11_133_5 dX11_seated_7 (pc' := 10) rfl rfl ?_
  refine st_iconst (pc' := 11) dX11_seated_10 rfl ?_
  refine st_iaload (pc' := 12) (v := (gi I 6 2)) dX11_seated_11 rfl L_6 (by decide) (by decide) (show gi I 6 2 = (gi I 6 2) from rfl) ?_
  refine st_istore_n (pc' := 13) (L' := [(2, vI (gi I 6 2)), (0, vR (some 0)), (1, vI x1)]) dX11_seated_12 rfl rfl (by decide) rfl ?_
  refine st_iload_n (pc' := 14) dX11_seated_13 rfl rfl (j := 2) rfl ?_
  refine st_iconst (pc' := 15) dX11_seated_14 rfl ?_
  obtain ⟨e1, h⟩ := h
  refine st_icmp_eq (tg := 33) (pc' := 18) dX11_seated_15 (by decide) rfl e1 (by decide) (fun c => ?_) (fun c => ?_)
  · replace h := h.1 c
    refine st_iconst (pc' := 34) dX11_seated_33 rfl ?_
    refine st_goto (pc' := 38) dX11_seated_34 (by decide) ?_
    refine st_istore_n (pc' := 39) (L' := [(3, vI 1), (2, vI (gi I 6 2)), (0, vR (some 0)), (1, vI x1)]) dX11_seated_38 rfl rfl (by decide) rfl ?_
    refine st_iload_n (pc' := 40) dX11_seated_39 rfl rfl (j := 1) rfl ?_
    refine st_if_eq (tg := 47) (pc' := 43) dX11_seated_40 (by decide) rfl (gi_in _ _ _) (fun c => ?_) (fun c => ?_)
    · replace h := h.1 c
      refine st_iconst (pc' := 48) dX11_seated_47 rfl ?_
      exact st_iret (ty := .int) dX11_seated_48 rfl rfl rfl h
    · replace h := h.2 c
      refine st_iload_n (pc' := 44) dX11_seated_43 rfl rfl (j := 0) rfl ?_
      refine st_if_ne (tg := 49) (pc' := 47) dX11_seated_44 (by decide) rfl (by decide) (fun c => ?_) (fun c => ?_)
      · refine st_aload_n (pc' := 50) dX11_seated_49 rfl rfl (j := 2) rfl ?_
        refine G_X11_83_0 dX11_seated_50 (pc' := 53) rfl rfl ?_
        refine st_callV (pc' := 56) (kc := k - 1) (E' := LAY) (cal := m_X5_find) (n := 0) (as := []) (S := []) dX11_seated_53 rfl l_X11_306 k_X5_find rfl L_63 c_X5 rfl rfl (Nat.le_of_ble_eq_true rfl) (by omega) ⟨Nat.le_refl _, Nat.le_refl _, Nat.le_refl _, Nat.le_refl _⟩ h (fun r M' q => ?_)
        obtain ⟨I3, J4, rfl, rfl, h⟩ := q
        change WP _ LAY m_X11_seated 56 [(3, vI 1), (2, vI (gi I 6 2)), (0, vR (some 0)), (1, vI x1)] [] (mem (P, some 5, some 22) I3 J4) Q
        refine st_iload_n (pc' := 57) dX11_seated_56 rfl rfl (j := 3) rfl ?_
        refine st_iconst (pc' := 58) dX11_seated_57 rfl ?_
        refine st_icmp_ne (tg := 69) (pc' := 61) dX11_seated_58 (by decide) rfl e1 (by decide) (fun c => ?_) (fun c => ?_)
        · replace h := h.1 c
          refine st_iload_n (pc' := 70) dX11_seated_69 rfl rfl (j := 3) rfl ?_
          refine st_bipush (pc' := 72) dX11_seated_70 rfl (by decide) ?_
          refine st_icmp_ne (tg := 85) (pc' := 75) dX11_seated_72 (by decide) rfl e1 (by decide) (fun c => ?_) (fun c => ?_)
          · replace h := h.1 c
            refine st_aload_n (pc' := 86) dX11_seated_85 rfl rfl (j := 2) rfl ?_
            refine G_X11_83_0 dX11_seated_86 (pc' := 89) rfl rfl ?_
            refine st_iload_n (pc' := 90) dX11_seated_89 rfl rfl (j := 3) rfl ?_
            refine st_callV (pc' := 93) (kc := k - 1) (E' := LAY) (cal := m_X5_tableOf) (n := 1) (as := [vI x1]) (S := []) dX11_seated_90 rfl l_X11_314 k_X5_tableOf rfl L_63 c_X5 rfl rfl (Nat.le_of_ble_eq_true rfl) (by omega) ⟨Nat.le_refl _, Nat.le_refl _, Nat.le_refl _, Nat.le_refl _⟩ (Q1 := fun r M' => WP k LAY m_X11_seated 93 [(3, vI 1), (2, vI (gi I 6 2)), (0, vR (some 0)), (1, vI x1)] (r.toList ++ []) M' Q) (WPm.of k_X5_tableOf.1 (Nat.le_of_ble_eq_true rfl) (B_X5_tableOf_0 (by omega) ?_)) (fun r M' q => q)
            refine ⟨fun c => ?_, fun c => ?_⟩
            · replace h := h.1 c
              change WP _ LAY m_X11_seated 93 [(3, vI 1), (2, vI (gi I 6 2)), (0, vR (some 0)), (1, vI x1)] [vI 0] (mem (P, some 5, some 22) I3 J4) Q
              exact st_iret (ty := .int) dX11_seated_93 rfl rfl rfl h
            · replace h := h.2 c
              obtain ⟨e5, h⟩ := h
              refine ⟨e5, ?_⟩
              refine ⟨fun c => ?_, fun c => ?_⟩
              · replace h := h.1 c
                change WP _ LAY m_X11_seated 93 [(3, vI 1), (2, vI (gi I 6 2)), (0, vR (some 0)), (1, vI x1)] [vI 0] (mem (P, some 5, some 22) I3 J4) Q
                exact st_iret (ty := .int) dX11_seated_93 rfl rfl rfl h
              · replace h := h.2 c
                obtain ⟨e6, h⟩ := h
                refine ⟨e6, ?_⟩
                obtain ⟨e7, h⟩ := h
                refine ⟨e7, ?_⟩
                change WP _ LAY m_X11_seated 93 [(3, vI 1), (2, vI (gi I 6 2)), (0, vR (some 0)), (1, vI x1)] [vI (rem32 (div32 (gi I3 63 12) (gi I3 67 (x1).toNat)) (gi I3 6 3))] (mem (P, some 5, some 22) I3 J4) Q
                exact st_iret (ty := .int) dX11_seated_93 rfl rfl rfl h
          · replace h := h.2 c
            refine st_aload_n (pc' := 76) dX11_seated_75 rfl rfl (j := 2) rfl ?_
            refine G_X11_83_0 dX11_seated_76 (pc' := 79) rfl rfl ?_
            refine st_callV (pc' := 82) (kc := k - 1) (E' := LAY) (cal := m_X5_waxSaved) (n := 0) (as := []) (S := []) dX11_seated_79 rfl l_X11_311 k_X5_waxSaved rfl L_63 c_X5 rfl rfl (Nat.le_of_ble_eq_true rfl) (by omega) ⟨Nat.le_refl _, Nat.le_refl _, Nat.le_refl _, Nat.le_refl _⟩ (Q1 := fun r M' => WP k LAY m_X11_seated 82 [(3, vI 1), (2, vI (gi I 6 2)), (0, vR (some 0)), (1, vI x1)] (r.toList ++ []) M' Q) (WPm.of k_X5_waxSaved.1 (Nat.le_of_ble_eq_true rfl) (B_X5_waxSaved_0 (by omega) ?_)) (fun r M' q => q)
            change WP _ LAY m_X11_seated 82 [(3, vI 1), (2, vI (gi I 6 2)), (0, vR (some 0)), (1, vI x1)] [vI (gi I3 63 11)] (mem (P, some 5, some 22) I3 J4) Q
            refine st_goto (pc' := 93) dX11_seated_82 (by decide) ?_
            exact st_iret (ty := .int) dX11_seated_93 rfl rfl rfl h
        · replace h := h.2 c
          refine st_aload_n (pc' := 62) dX11_seated_61 rfl rfl (j := 2) rfl ?_
          refine G_X11_83_0 dX11_seated_62 (pc' := 65) rfl rfl ?_
          refine st_callV (pc' := 68) (kc := k - 1) (E' := LAY) (cal := m_X5_pagesRead) (n := 0) (as := []) (S := []) dX11_seated_65 rfl l_X11_308 k_X5_pagesRead rfl L_63 c_X5 rfl rfl (Nat.le_of_ble_eq_true rfl) (by omega) ⟨Nat.le_refl _, Nat.le_refl _, Nat.le_refl _, Nat.le_refl _⟩ (Q1 := fun r M' => WP k LAY m_X11_seated 68 [(3, vI 1), (2, vI (gi I 6 2)), (0, vR (some 0)), (1, vI x1)] (r.toList ++ []) M' Q) (WPm.of k_X5_pagesRead.1 (Nat.le_of_ble_eq_true rfl) (B_X5_pagesRead_0 (by omega) ?_)) (fun r M' q => q)
          change WP _ LAY m_X11_seated 68 [(3, vI 1), (2, vI (gi I 6 2)), (0, vR (some 0)), (1, vI x1)] [vI (gi I3 63 10)] (mem (P, some 5, some 22) I3 J4) Q
          exact st_iret (ty := .int) dX11_seated_68 rfl rfl rfl h
      · exact absurd c (by decide)
  · replace h := h.2 c
    refine st_iload_n (pc' := 19) dX11_seated_18 rfl rfl (j := 2) rfl ?_
    refine st_bipush (pc' := 21) dX11_seated_19 rfl (by decide) ?_
    refine st_icmp_eq (tg := 33) (pc' := 24) dX11_seated_21 (by decide) rfl e1 (by decide) (fun c => ?_) (fun c => ?_)
    · replace h := h.1 c
      refine st_iconst (pc' := 34) dX11_seated_33 rfl ?_
      refine st_goto (pc' := 38) dX11_seated_34 (by decide) ?_
      refine st_istore_n (pc' := 39) (L' := [(3, vI 1), (2, vI (gi I 6 2)), (0, vR (some 0)), (1, vI x1)]) dX11_seated_38 rfl rfl (by decide) rfl ?_
      refine st_iload_n (pc' := 40) dX11_seated_39 rfl rfl (j := 1) rfl ?_
      refine st_if_eq (tg := 47) (pc' := 43) dX11_seated_40 (by decide) rfl (gi_in _ _ _) (fun c => ?_) (fun c => ?_)
      · replace h := h.1 c
        refine st_iconst (pc' := 48) dX11_seated_47 rfl ?_
        exact st_iret (ty := .int) dX11_seated_48 rfl rfl rfl h
      · replace h := h.2 c
        refine st_iload_n (pc' := 44) dX11_seated_43 rfl rfl (j := 0) rfl ?_
        refine st_if_ne (tg := 49) (pc' := 47) dX11_seated_44 (by decide) rfl (by decide) (fun c => ?_) (fun c => ?_)
        · refine st_aload_n (pc' := 50) dX11_seated_49 rfl rfl (j := 2) rfl ?_
          refine G_X11_83_0 dX11_seated_50 (pc' := 53) rfl rfl ?_
          refine st_callV (pc' := 56) (kc := k - 1) (E' := LAY) (cal := m_X5_find) (n := 0) (as := []) (S := []) dX11_seated_53 rfl l_X11_306 k_X5_find rfl L_63 c_X5 rfl rfl (Nat.le_of_ble_eq_true rfl) (by omega) ⟨Nat.le_refl _, Nat.le_refl _, Nat.le_refl _, Nat.le_refl _⟩ h (fun r M' q => ?_)
          obtain ⟨I9, J10, rfl, rfl, h⟩ := q
          change WP _ LAY m_X11_seated 56 [(3, vI 1), (2, vI (gi I 6 2)), (0, vR (some 0)), (1, vI x1)] [] (mem (P, some 5, some 22) I9 J10) Q
          refine st_iload_n (pc' := 57) dX11_seated_56 rfl rfl (j := 3) rfl ?_
          refine st_iconst (pc' := 58) dX11_seated_57 rfl ?_
          refine st_icmp_ne (tg := 69) (pc' := 61) dX11_seated_58 (by decide) rfl e1 (by decide) (fun c => ?_) (fun c => ?_)
          · replace h := h.1 c
            refine st_iload_n (pc' := 70) dX11_seated_69 rfl rfl (j := 3) rfl ?_
            refine st_bipush (pc' := 72) dX11_seated_70 rfl (by decide) ?_
            refine st_icmp_ne (tg := 85) (pc' := 75) dX11_seated_72 (by decide) rfl e1 (by decide) (fun c => ?_) (fun c => ?_)
            · replace h := h.1 c
              refine st_aload_n (pc' := 86) dX11_seated_85 rfl rfl (j := 2) rfl ?_
              refine G_X11_83_0 dX11_seated_86 (pc' := 89) rfl rfl ?_
              refine st_iload_n (pc' := 90) dX11_seated_89 rfl rfl (j := 3) rfl ?_
              refine st_callV (pc' := 93) (kc := k - 1) (E' := LAY) (cal := m_X5_tableOf) (n := 1) (as := [vI x1]) (S := []) dX11_seated_90 rfl l_X11_314 k_X5_tableOf rfl L_63 c_X5 rfl rfl (Nat.le_of_ble_eq_true rfl) (by omega) ⟨Nat.le_refl _, Nat.le_refl _, Nat.le_refl _, Nat.le_refl _⟩ (Q1 := fun r M' => WP k LAY m_X11_seated 93 [(3, vI 1), (2, vI (gi I 6 2)), (0, vR (some 0)), (1, vI x1)] (r.toList ++ []) M' Q) (WPm.of k_X5_tableOf.1 (Nat.le_of_ble_eq_true rfl) (B_X5_tableOf_0 (by omega) ?_)) (fun r M' q => q)
              refine ⟨fun c => ?_, fun c => ?_⟩
              · replace h := h.1 c
                change WP _ LAY m_X11_seated 93 [(3, vI 1), (2, vI (gi I 6 2)), (0, vR (some 0)), (1, vI x1)] [vI 0] (mem (P, some 5, some 22) I9 J10) Q
                exact st_iret (ty := .int) dX11_seated_93 rfl rfl rfl h
              · replace h := h.2 c
                obtain ⟨e11, h⟩ := h
                refine ⟨e11, ?_⟩
                refine ⟨fun c => ?_, fun c => ?_⟩
                · replace h := h.1 c
                  change WP _ LAY m_X11_seated 93 [(3, vI 1), (2, vI (gi I 6 2)), (0, vR (some 0)), (1, vI x1)] [vI 0] (mem (P, some 5, some 22) I9 J10) Q
                  exact st_iret (ty := .int) dX11_seated_93 rfl rfl rfl h
                · replace h := h.2 c
                  obtain ⟨e12, h⟩ := h
                  refine ⟨e12, ?_⟩
                  obtain ⟨e13, h⟩ := h
                  refine ⟨e13, ?_⟩
                  change WP _ LAY m_X11_seated 93 [(3, vI 1), (2, vI (gi I 6 2)), (0, vR (some 0)), (1, vI x1)] [vI (rem32 (div32 (gi I9 63 12) (gi I9 67 (x1).toNat)) (gi I9 6 3))] (mem (P, some 5, some 22) I9 J10) Q
                  exact st_iret (ty := .int) dX11_seated_93 rfl rfl rfl h
            · replace h := h.2 c
              refine st_aload_n (pc' := 76) dX11_seated_75 rfl rfl (j := 2) rfl ?_
              refine G_X11_83_0 dX11_seated_76 (pc' := 79) rfl rfl ?_
              refine st_callV (pc' := 82) (kc := k - 1) (E' := LAY) (cal := m_X5_waxSaved) (n := 0) (as := []) (S := []) dX11_seated_79 rfl l_X11_311 k_X5_waxSaved rfl L_63 c_X5 rfl rfl (Nat.le_of_ble_eq_true rfl) (by omega) ⟨Nat.le_refl _, Nat.le_refl _, Nat.le_refl _, Nat.le_refl _⟩ (Q1 := fun r M' => WP k LAY m_X11_seated 82 [(3, vI 1), (2, vI (gi I 6 2)), (0, vR (some 0)), (1, vI x1)] (r.toList ++ []) M' Q) (WPm.of k_X5_waxSaved.1 (Nat.le_of_ble_eq_true rfl) (B_X5_waxSaved_0 (by omega) ?_)) (fun r M' q => q)
              change WP _ LAY m_X11_seated 82 [(3, vI 1), (2, vI (gi I 6 2)), (0, vR (some 0)), (1, vI x1)] [vI (gi I9 63 11)] (mem (P, some 5, some 22) I9 J10) Q
              refine st_goto (pc' := 93) dX11_seated_82 (by decide) ?_
              exact st_iret (ty := .int) dX11_seated_93 rfl rfl rfl h
          · replace h := h.2 c
            refine st_aload_n (pc' := 62) dX11_seated_61 rfl rfl (j := 2) rfl ?_
            refine G_X11_83_0 dX11_seated_62 (pc' := 65) rfl rfl ?_
            refine st_callV (pc' := 68) (kc := k - 1) (E' := LAY) (cal := m_X5_pagesRead) (n := 0) (as := []) (S := []) dX11_seated_65 rfl l_X11_308 k_X5_pagesRead rfl L_63 c_X5 rfl rfl (Nat.le_of_ble_eq_true rfl) (by omega) ⟨Nat.le_refl _, Nat.le_refl _, Nat.le_refl _, Nat.le_refl _⟩ (Q1 := fun r M' => WP k LAY m_X11_seated 68 [(3, vI 1), (2, vI (gi I 6 2)), (0, vR (some 0)), (1, vI x1)] (r.toList ++ []) M' Q) (WPm.of k_X5_pagesRead.1 (Nat.le_of_ble_eq_true rfl) (B_X5_pagesRead_0 (by omega) ?_)) (fun r M' q => q)
            change WP _ LAY m_X11_seated 68 [(3, vI 1), (2, vI (gi I 6 2)), (0, vR (some 0)), (1, vI x1)] [vI (gi I9 63 10)] (mem (P, some 5, some 22) I9 J10) Q
            exact st_iret (ty := .int) dX11_seated_68 rfl rfl rfl h
        · exact absurd c (by decide)
    · replace h := h.2 c
      refine st_iload_n (pc' := 25) dX11_seated_24 rfl rfl (j := 2) rfl ?_
      refine st_if_lt (tg := 37) (pc' := 28) dX11_seated_25 (by decide) rfl e1 (fun c => ?_) (fun c => ?_)
      · replace h := h.1 c
        refine st_iconst (pc' := 38) dX11_seated_37 rfl ?_
        refine st_istore_n (pc' := 39) (L' := [(3, vI 0), (2, vI (gi I 6 2)), (0, vR (some 0)), (1, vI x1)]) dX11_seated_38 rfl rfl (by decide) rfl ?_
        refine st_iload_n (pc' := 40) dX11_seated_39 rfl rfl (j := 1) rfl ?_
        refine st_if_eq (tg := 47) (pc' := 43) dX11_seated_40 (by decide) rfl (gi_in _ _ _) (fun c => ?_) (fun c => ?_)
        · replace h := h.1 c
          refine st_iconst (pc' := 48) dX11_seated_47 rfl ?_
          exact st_iret (ty := .int) dX11_seated_48 rfl rfl rfl h
        · replace h := h.2 c
          refine st_iload_n (pc' := 44) dX11_seated_43 rfl rfl (j := 0) rfl ?_
          refine st_if_ne (tg := 49) (pc' := 47) dX11_seated_44 (by decide) rfl (by decide) (fun c => ?_) (fun c => ?_)
          · exact absurd c (by decide)
          · refine st_iconst (pc' := 48) dX11_seated_47 rfl ?_
            exact st_iret (ty := .int) dX11_seated_48 rfl rfl rfl h
      · replace h := h.2 c
        refine st_iload_n (pc' := 29) dX11_seated_28 rfl rfl (j := 2) rfl ?_
        refine st_iload_n (pc' := 30) dX11_seated_29 rfl rfl (j := 0) rfl ?_
        refine st_icmp_ge (tg := 37) (pc' := 33) dX11_seated_30 (by decide) rfl e1 (gi_in _ _ _) (fun c => ?_) (fun c => ?_)
        · replace h := h.1 c
          refine st_iconst (pc' := 38) dX11_seated_37 rfl ?_
          refine st_istore_n (pc' := 39) (L' := [(3, vI 0), (2, vI (gi I 6 2)), (0, vR (some 0)), (1, vI x1)]) dX11_seated_38 rfl rfl (by decide) rfl ?_
          refine st_iload_n (pc' := 40) dX11_seated_39 rfl rfl (j := 1) rfl ?_
          refine st_if_eq (tg := 47) (pc' := 43) dX11_seated_40 (by decide) rfl (gi_in _ _ _) (fun c => ?_) (fun c => ?_)
          · replace h := h.1 c
            refine st_iconst (pc' := 48) dX11_seated_47 rfl ?_
            exact st_iret (ty := .int) dX11_seated_48 rfl rfl rfl h
          · replace h := h.2 c
            refine st_iload_n (pc' := 44) dX11_seated_43 rfl rfl (j := 0) rfl ?_
            refine st_if_ne (tg := 49) (pc' := 47) dX11_seated_44 (by decide) rfl (by decide) (fun c => ?_) (fun c => ?_)
            · exact absurd c (by decide)
            · refine st_iconst (pc' := 48) dX11_seated_47 rfl ?_
              exact st_iret (ty := .int) dX11_seated_48 rfl rfl rfl h
        · replace h := h.2 c
          refine st_iconst (pc' := 34) dX11_seated_33 rfl ?_
          refine st_goto (pc' := 38) dX11_seated_34 (by decide) ?_
          refine st_istore_n (pc' := 39) (L' := [(3, vI 1), (2, vI (gi I 6 2)), (0, vR (some 0)), (1, vI x1)]) dX11_seated_38 rfl rfl (by decide) rfl ?_
          refine st_iload_n (pc' := 40) dX11_seated_39 rfl rfl (j := 1) rfl ?_
          refine st_if_eq (tg := 47) (pc' := 43) dX11_seated_40 (by decide) rfl (gi_in _ _ _) (fun c => ?_) (fun c => ?_)
          · replace h := h.1 c
            refine st_iconst (pc' := 48) dX11_seated_47 rfl ?_
            exact st_iret (ty := .int) dX11_seated_48 rfl rfl rfl h
          · replace h := h.2 c
            refine st_iload_n (pc' := 44) dX11_seated_43 rfl rfl (j := 0) rfl ?_
            refine st_if_ne (tg := 49) (pc' := 47) dX11_seated_44 (by decide) rfl (by decide) (fun c => ?_) (fun c => ?_)
            · refine st_aload_n (pc' := 50) dX11_seated_49 rfl rfl (j := 2) rfl ?_
              refine G_X11_83_0 dX11_seated_50 (pc' := 53) rfl rfl ?_
              refine st_callV (pc' := 56) (kc := k - 1) (E' := LAY) (cal := m_X5_find) (n := 0) (as := []) (S := []) dX11_seated_53 rfl l_X11_306 k_X5_find rfl L_63 c_X5 rfl rfl (Nat.le_of_ble_eq_true rfl) (by omega) ⟨Nat.le_refl _, Nat.le_refl _, Nat.le_refl _, Nat.le_refl _⟩ h (fun r M' q => ?_)
              obtain ⟨I15, J16, rfl, rfl, h⟩ := q
              change WP _ LAY m_X11_seated 56 [(3, vI 1), (2, vI (gi I 6 2)), (0, vR (some 0)), (1, vI x1)] [] (mem (P, some 5, some 22) I15 J16) Q
              refine st_iload_n (pc' := 57) dX11_seated_56 rfl rfl (j := 3) rfl ?_
              refine st_iconst (pc' := 58) dX11_seated_57 rfl ?_
              refine st_icmp_ne (tg := 69) (pc' := 61) dX11_seated_58 (by decide) rfl e1 (by decide) (fun c => ?_) (fun c => ?_)
              · replace h := h.1 c
                refine st_iload_n (pc' := 70) dX11_seated_69 rfl rfl (j := 3) rfl ?_
                refine st_bipush (pc' := 72) dX11_seated_70 rfl (by decide) ?_
                refine st_icmp_ne (tg := 85) (pc' := 75) dX11_seated_72 (by decide) rfl e1 (by decide) (fun c => ?_) (fun c => ?_)
                · replace h := h.1 c
                  refine st_aload_n (pc' := 86) dX11_seated_85 rfl rfl (j := 2) rfl ?_
                  refine G_X11_83_0 dX11_seated_86 (pc' := 89) rfl rfl ?_
                  refine st_iload_n (pc' := 90) dX11_seated_89 rfl rfl (j := 3) rfl ?_
                  refine st_callV (pc' := 93) (kc := k - 1) (E' := LAY) (cal := m_X5_tableOf) (n := 1) (as := [vI x1]) (S := []) dX11_seated_90 rfl l_X11_314 k_X5_tableOf rfl L_63 c_X5 rfl rfl (Nat.le_of_ble_eq_true rfl) (by omega) ⟨Nat.le_refl _, Nat.le_refl _, Nat.le_refl _, Nat.le_refl _⟩ (Q1 := fun r M' => WP k LAY m_X11_seated 93 [(3, vI 1), (2, vI (gi I 6 2)), (0, vR (some 0)), (1, vI x1)] (r.toList ++ []) M' Q) (WPm.of k_X5_tableOf.1 (Nat.le_of_ble_eq_true rfl) (B_X5_tableOf_0 (by omega) ?_)) (fun r M' q => q)
                  refine ⟨fun c => ?_, fun c => ?_⟩
                  · replace h := h.1 c
                    change WP _ LAY m_X11_seated 93 [(3, vI 1), (2, vI (gi I 6 2)), (0, vR (some 0)), (1, vI x1)] [vI 0] (mem (P, some 5, some 22) I15 J16) Q
                    exact st_iret (ty := .int) dX11_seated_93 rfl rfl rfl h
                  · replace h := h.2 c
                    obtain ⟨e17, h⟩ := h
                    refine ⟨e17, ?_⟩
                    refine ⟨fun c => ?_, fun c => ?_⟩
                    · replace h := h.1 c
                      change WP _ LAY m_X11_seated 93 [(3, vI 1), (2, vI (gi I 6 2)), (0, vR (some 0)), (1, vI x1)] [vI 0] (mem (P, some 5, some 22) I15 J16) Q
                      exact st_iret (ty := .int) dX11_seated_93 rfl rfl rfl h
                    · replace h := h.2 c
                      obtain ⟨e18, h⟩ := h
                      refine ⟨e18, ?_⟩
                      obtain ⟨e19, h⟩ := h
                      refine ⟨e19, ?_⟩
                      change WP _ LAY m_X11_seated 93 [(3, vI 1), (2, vI (gi I 6 2)), (0, vR (some 0)), (1, vI x1)] [vI (rem32 (div32 (gi I15 63 12) (gi I15 67 (x1).toNat)) (gi I15 6 3))] (mem (P, some 5, some 22) I15 J16) Q
                      exact st_iret (ty := .int) dX11_seated_93 rfl rfl rfl h
                · replace h := h.2 c
                  refine st_aload_n (pc' := 76) dX11_seated_75 rfl rfl (j := 2) rfl ?_
                  refine G_X11_83_0 dX11_seated_76 (pc' := 79) rfl rfl ?_
                  refine st_callV (pc' := 82) (kc := k - 1) (E' := LAY) (cal := m_X5_waxSaved) (n := 0) (as := []) (S := []) dX11_seated_79 rfl l_X11_311 k_X5_waxSaved rfl L_63 c_X5 rfl rfl (Nat.le_of_ble_eq_true rfl) (by omega) ⟨Nat.le_refl _, Nat.le_refl _, Nat.le_refl _, Nat.le_refl _⟩ (Q1 := fun r M' => WP k LAY m_X11_seated 82 [(3, vI 1), (2, vI (gi I 6 2)), (0, vR (some 0)), (1, vI x1)] (r.toList ++ []) M' Q) (WPm.of k_X5_waxSaved.1 (Nat.le_of_ble_eq_true rfl) (B_X5_waxSaved_0 (by omega) ?_)) (fun r M' q => q)
                  change WP _ LAY m_X11_seated 82 [(3, vI 1), (2, vI (gi I 6 2)), (0, vR (some 0)), (1, vI x1)] [vI (gi I15 63 11)] (mem (P, some 5, some 22) I15 J16) Q
                  refine st_goto (pc' := 93) dX11_seated_82 (by decide) ?_
                  exact st_iret (ty := .int) dX11_seated_93 rfl rfl rfl h
              · replace h := h.2 c
                refine st_aload_n (pc' := 62) dX11_seated_61 rfl rfl (j := 2) rfl ?_
                refine G_X11_83_0 dX11_seated_62 (pc' := 65) rfl rfl ?_
                refine st_callV (pc' := 68) (kc := k - 1) (E' := LAY) (cal := m_X5_pagesRead) (n := 0) (as := []) (S := []) dX11_seated_65 rfl l_X11_308 k_X5_pagesRead rfl L_63 c_X5 rfl rfl (Nat.le_of_ble_eq_true rfl) (by omega) ⟨Nat.le_refl _, Nat.le_refl _, Nat.le_refl _, Nat.le_refl _⟩ (Q1 := fun r M' => WP k LAY m_X11_seated 68 [(3, vI 1), (2, vI (gi I 6 2)), (0, vR (some 0)), (1, vI x1)] (r.toList ++ []) M' Q) (WPm.of k_X5_pagesRead.1 (Nat.le_of_ble_eq_true rfl) (B_X5_pagesRead_0 (by omega) ?_)) (fun r M' q => q)
                change WP _ LAY m_X11_seated 68 [(3, vI 1), (2, vI (gi I 6 2)), (0, vR (some 0)), (1, vI x1)] [vI (gi I15 63 10)] (mem (P, some 5, some 22) I15 J16) Q
                exact st_iret (ty := .int) dX11_seated_68 rfl rfl rfl h
            · exact absurd c (by decide)
set_option maxRecDepth 20000 in
set_option maxHeartbeats 4000000 in
theorem B_X11_seed_0 {k : Nat} {P : Option Nat} {I : Nat → Nat → Int32} {J : Nat → Nat → Int64} {x1 : Int} {Q : Option AV → Mem → Prop} (hk : 1 ≤ k) (h : inR x1 ∧ ((0 ≤ x1 → (Q (some (vI 1)) (mem (P, some 5, some 22) (si I 0 11 x1) J))) ∧ (¬ 0 ≤ x1 → (Q (some (vI 0)) (mem (P, some 5, some 22) (si I 73 5 ((gi I 73 5) + 1)) J))))) : WP k LAY m_X11_seed 0 [(0, vR (some 0)), (1, vI x1)] [] (mem (P, some 5, some 22) I J) Q := by
  refine st_iload_n (pc' := 1) dX11_seed_0 rfl rfl (j := 1) rfl ?_
  obtain ⟨e1, h⟩ := h
  refine st_if_ge (tg := 10) (pc' := 4) dX11_seed_1 (by decide) rfl e1 (fun c => ?_) (fun c => ?_)
  · replace h := h.1 c
    refine st_aload_n (pc' := 11) dX11_seed_10 rfl rfl (j := 0) rfl ?_
    refine st_iload_n (pc' := 12) dX11_seed_11 rfl rfl (j := 1) rfl ?_
    refine P_X11_98_0 dX11_seed_12 (pc' := 15) rfl rfl ?_
    refine st_iconst (pc' := 16) dX11_seed_15 rfl ?_
    exact st_iret (ty := .boolean) dX11_seed_16 rfl (by decide) rfl h
  · replace h := h.2 c
    refine st_aload_n (pc' := 5) dX11_seed_4 rfl rfl (j := 0) rfl ?_
    refine st_iconst (pc' := 6) dX11_seed_5 rfl ?_
    refine st_callV (pc' := 9) (kc := k - 1) (E' := LAY) (cal := m_X11_deny) (n := 1) (as := [vI 5]) (S := []) dX11_seed_6 rfl l_X11_113 k_X11_deny rfl L_0 c_X11 rfl rfl (Nat.le_of_ble_eq_true rfl) (by omega) ⟨Nat.le_refl _, Nat.le_refl _, Nat.le_refl _, Nat.le_refl _⟩ (Q1 := fun r M' => WP k LAY m_X11_seed 9 [(0, vR (some 0)), (1, vI x1)] (r.toList ++ []) M' Q) (WPm.of k_X11_deny.1 (Nat.le_of_ble_eq_true rfl) (B_X11_deny_0 (by omega) ?_)) (fun r M' q => q)
    refine ⟨by decide, ?_⟩
    change WP _ LAY m_X11_seed 9 [(0, vR (some 0)), (1, vI x1)] [vI 0] (mem (P, some 5, some 22) (si I 73 5 ((gi I 73 5) + 1)) J) Q
    exact st_iret (ty := .boolean) dX11_seed_9 rfl (by decide) rfl h
set_option maxRecDepth 20000 in
set_option maxHeartbeats 4000000 in
theorem B_X11_shared_0 {k : Nat} {P : Option Nat} {I : Nat → Nat → Int32} {J : Nat → Nat → Int64} {x1 : Int} {x2 : Int} {Q : Option AV → Mem → Prop} (hk : 1 ≤ k) (h : inR x1 ∧ ((¬ (0 ≤ x1 ∧ x1 < shl32 1 (gi I 6 1)) → (Q (some (vI (-1))) (mem (P, some 5, some 22) I J))) ∧ ((0 ≤ x1 ∧ x1 < shl32 1 (gi I 6 1)) → ((x1 = 0 → (Q (some (vI (-1))) (mem (P, some 5, some 22) I J))) ∧ (¬ x1 = 0 → (((bc32 x1) ≤ 8 → (inR x2 ∧ ((x2 < 0 → ((x2 = (-1) → (WPm (k - 1) LAY m_X6_find [vR (some 54), vI x1] (mem (P, some 5, some 22) I J) (retV (fun I4 J5 => ((gi I4 54 3) = (-1) → (Q (some (vI (gi I4 54 3))) (mem (P, some 5, some 22) I4 J5))) ∧ (¬ (gi I4 54 3) = (-1) → ((¬ x2 = (-1) → ((¬ x2 = 20 → (WPm (k - 1) LAY m_X6_readerOf [vR (some 54), vI x2] (mem (P, some 5, some 22) I4 J5) (retI (fun v6 I7 J8 => Q (some (vI v6)) (mem (P, some 5, some 22) I7 J8)) (P, some 5, some 22)))) ∧ (x2 = 20 → (Q (some (vI (gi I4 54 4))) (mem (P, some 5, some 22) I4 J5))))) ∧ (x2 = (-1) → (Q (some (vI (gi I4 54 3))) (mem (P, some 5, some 22) I4 J5)))))) (P, some 5, some 22)))) ∧ (¬ x2 = (-1) → ((x2 = 20 → (WPm (k - 1) LAY m_X6_find [vR (some 54), vI x1] (mem (P, some 5, some 22) I J) (retV (fun I10 J11 => ((gi I10 54 3) = (-1) → (Q (some (vI (gi I10 54 3))) (mem (P, some 5, some 22) I10 J11))) ∧ (¬ (gi I10 54 3) = (-1) → ((¬ x2 = (-1) → ((¬ x2 = 20 → (WPm (k - 1) LAY m_X6_readerOf [vR (some 54), vI x2] (mem (P, some 5, some 22) I10 J11) (retI (fun v12 I13 J14 => Q (some (vI v12)) (mem (P, some 5, some 22) I13 J14)) (P, some 5, some 22)))) ∧ (x2 = 20 → (Q (some (vI (gi I10 54 4))) (mem (P, some 5, some 22) I10 J11))))) ∧ (x2 = (-1) → (Q (some (vI (gi I10 54 3))) (mem (P, some 5, some 22) I10 J11)))))) (P, some 5, some 22)))) ∧ (¬ x2 = 20 → (Q (some (vI (-1))) (mem (P, some 5, some 22) I J))))))) ∧ (¬ x2 < 0 → ((14 ≤ x2 → ((x2 = (-1) → (WPm (k - 1) LAY m_X6_find [vR (some 54), vI x1] (mem (P, some 5, some 22) I J) (retV (fun I16 J17 => ((gi I16 54 3) = (-1) → (Q (some (vI (gi I16 54 3))) (mem (P, some 5, some 22) I16 J17))) ∧ (¬ (gi I16 54 3) = (-1) → ((¬ x2 = (-1) → ((¬ x2 = 20 → (WPm (k - 1) LAY m_X6_readerOf [vR (some 54), vI x2] (mem (P, some 5, some 22) I16 J17) (retI (fun v18 I19 J20 => Q (some (vI v18)) (mem (P, some 5, some 22) I19 J20)) (P, some 5, some 22)))) ∧ (x2 = 20 → (Q (some (vI (gi I16 54 4))) (mem (P, some 5, some 22) I16 J17))))) ∧ (x2 = (-1) → (Q (some (vI (gi I16 54 3))) (mem (P, some 5, some 22) I16 J17)))))) (P, some 5, some 22)))) ∧ (¬ x2 = (-1) → ((x2 = 20 → (WPm (k - 1) LAY m_X6_find [vR (some 54), vI x1] (mem (P, some 5, some 22) I J) (retV (fun I22 J23 => ((gi I22 54 3) = (-1) → (Q (some (vI (gi I22 54 3))) (mem (P, some 5, some 22) I22 J23))) ∧ (¬ (gi I22 54 3) = (-1) → ((¬ x2 = (-1) → ((¬ x2 = 20 → (WPm (k - 1) LAY m_X6_readerOf [vR (some 54), vI x2] (mem (P, some 5, some 22) I22 J23) (retI (fun v24 I25 J26 => Q (some (vI v24)) (mem (P, some 5, some 22) I25 J26)) (P, some 5, some 22)))) ∧ (x2 = 20 → (Q (some (vI (gi I22 54 4))) (mem (P, some 5, some 22) I22 J23))))) ∧ (x2 = (-1) → (Q (some (vI (gi I22 54 3))) (mem (P, some 5, some 22) I22 J23)))))) (P, some 5, some 22)))) ∧ (¬ x2 = 20 → (Q (some (vI (-1))) (mem (P, some 5, some 22) I J))))))) ∧ (¬ 14 ≤ x2 → (((and32 x1 (shl32 1 x2)) = 0 → ((x2 = (-1) → (WPm (k - 1) LAY m_X6_find [vR (some 54), vI x1] (mem (P, some 5, some 22) I J) (retV (fun I28 J29 => ((gi I28 54 3) = (-1) → (Q (some (vI (gi I28 54 3))) (mem (P, some 5, some 22) I28 J29))) ∧ (¬ (gi I28 54 3) = (-1) → ((¬ x2 = (-1) → ((¬ x2 = 20 → (WPm (k - 1) LAY m_X6_readerOf [vR (some 54), vI x2] (mem (P, some 5, some 22) I28 J29) (retI (fun v30 I31 J32 => Q (some (vI v30)) (mem (P, some 5, some 22) I31 J32)) (P, some 5, some 22)))) ∧ (x2 = 20 → (Q (some (vI (gi I28 54 4))) (mem (P, some 5, some 22) I28 J29))))) ∧ (x2 = (-1) → (Q (some (vI (gi I28 54 3))) (mem (P, some 5, some 22) I28 J29)))))) (P, some 5, some 22)))) ∧ (¬ x2 = (-1) → ((x2 = 20 → (WPm (k - 1) LAY m_X6_find [vR (some 54), vI x1] (mem (P, some 5, some 22) I J) (retV (fun I34 J35 => ((gi I34 54 3) = (-1) → (Q (some (vI (gi I34 54 3))) (mem (P, some 5, some 22) I34 J35))) ∧ (¬ (gi I34 54 3) = (-1) → ((¬ x2 = (-1) → ((¬ x2 = 20 → (WPm (k - 1) LAY m_X6_readerOf [vR (some 54), vI x2] (mem (P, some 5, some 22) I34 J35) (retI (fun v36 I37 J38 => Q (some (vI v36)) (mem (P, some 5, some 22) I37 J38)) (P, some 5, some 22)))) ∧ (x2 = 20 → (Q (some (vI (gi I34 54 4))) (mem (P, some 5, some 22) I34 J35))))) ∧ (x2 = (-1) → (Q (some (vI (gi I34 54 3))) (mem (P, some 5, some 22) I34 J35)))))) (P, some 5, some 22)))) ∧ (¬ x2 = 20 → (Q (some (vI (-1))) (mem (P, some 5, some 22) I J))))))) ∧ (¬ (and32 x1 (shl32 1 x2)) = 0 → ((x2 = (-1) → (WPm (k - 1) LAY m_X6_find [vR (some 54), vI x1] (mem (P, some 5, some 22) I J) (retV (fun I40 J41 => ((gi I40 54 3) = (-1) → (Q (some (vI (gi I40 54 3))) (mem (P, some 5, some 22) I40 J41))) ∧ (¬ (gi I40 54 3) = (-1) → ((¬ x2 = (-1) → ((¬ x2 = 20 → (WPm (k - 1) LAY m_X6_readerOf [vR (some 54), vI x2] (mem (P, some 5, some 22) I40 J41) (retI (fun v42 I43 J44 => Q (some (vI v42)) (mem (P, some 5, some 22) I43 J44)) (P, some 5, some 22)))) ∧ (x2 = 20 → (Q (some (vI (gi I40 54 4))) (mem (P, some 5, some 22) I40 J41))))) ∧ (x2 = (-1) → (Q (some (vI (gi I40 54 3))) (mem (P, some 5, some 22) I40 J41)))))) (P, some 5, some 22)))) ∧ (¬ x2 = (-1) → ((x2 = 20 → (WPm (k - 1) LAY m_X6_find [vR (some 54), vI x1] (mem (P, some 5, some 22) I J) (retV (fun I46 J47 => ((gi I46 54 3) = (-1) → (Q (some (vI (gi I46 54 3))) (mem (P, some 5, some 22) I46 J47))) ∧ (¬ (gi I46 54 3) = (-1) → ((¬ x2 = (-1) → ((¬ x2 = 20 → (WPm (k - 1) LAY m_X6_readerOf [vR (some 54), vI x2] (mem (P, some 5, some 22) I46 J47) (retI (fun v48 I49 J50 => Q (some (vI v48)) (mem (P, some 5, some 22) I49 J50)) (P, some 5, some 22)))) ∧ (x2 = 20 → (Q (some (vI (gi I46 54 4))) (mem (P, some 5, some 22) I46 J47))))) ∧ (x2 = (-1) → (Q (some (vI (gi I46 54 3))) (mem (P, some 5, some 22) I46 J47)))))) (P, some 5, some 22)))) ∧ (¬ x2 = 20 → (WPm (k - 1) LAY m_X6_find [vR (some 54), vI x1] (mem (P, some 5, some 22) I J) (retV (fun I52 J53 => ((gi I52 54 3) = (-1) → (Q (some (vI (gi I52 54 3))) (mem (P, some 5, some 22) I52 J53))) ∧ (¬ (gi I52 54 3) = (-1) → ((¬ x2 = (-1) → ((¬ x2 = 20 → (WPm (k - 1) LAY m_X6_readerOf [vR (some 54), vI x2] (mem (P, some 5, some 22) I52 J53) (retI (fun v54 I55 J56 => Q (some (vI v54)) (mem (P, some 5, some 22) I55 J56)) (P, some 5, some 22)))) ∧ (x2 = 20 → (Q (some (vI (gi I52 54 4))) (mem (P, some 5, some 22) I52 J53))))) ∧ (x2 = (-1) → (Q (some (vI (gi I52 54 3))) (mem (P, some 5, some 22) I52 J53)))))) (P, some 5, some 22))))))))))))))) ∧ (¬ (bc32 x1) ≤ 8 → (Q (some (vI (-1))) (mem (P, some 5, some 22) I J))))))))) : WP k LAY m_X11_shared 0 [(0, vR (some 0)), (1, vI x1), (2, vI x2)] [] (mem (P, some 5, some 22) I J) Q := by
  refine st_aload_n (pc' := 1) dX11_shared_0 rfl rfl (j := 0) rfl ?_
  refine G_X11_33_0 dX11_shared_1 (pc' := 4) rfl rfl ?_
  refine G_X11_121_4 dX11_shared_4 (pc' := 7) rfl rfl ?_
  refine st_iload_n (pc' := 8) dX11_shared_7 rfl rfl (j := 1) rfl ?_
  obtain ⟨e1, h⟩ := h
  refine st_callV (pc' := 11) (kc := k - 1) (E' := LAY) (cal := m_X7_isQuestion) (n := 1) (as := [vI x1]) (S := []) dX11_shared_8 rfl l_X11_276 k_X7_isQuestion rfl L_5 c_X7 rfl rfl (Nat.le_of_ble_eq_true rfl) (by omega) ⟨Nat.le_refl _, Nat.le_refl _, Nat.le_refl _, Nat.le_refl _⟩ (Q1 := fun r M' => WP k LAY m_X11_shared 11 [(0, vR (some 0)), (1, vI x1), (2, vI x2)] (r.toList ++ []) M' Q) (S_X7_isQuestion_5 (by omega) e1 ?_) (fun r M' q => q)
  change WP _ LAY m_X11_shared 11 [(0, vR (some 0)), (1, vI x1), (2, vI x2)] [vI (b2i (0 ≤ x1 ∧ x1 < shl32 1 (gi I 6 1)))] (mem (P, some 5, some 22) I J) Q
  refine st_if_eq (tg := 27) (pc' := 14) dX11_shared_11 (by decide) rfl (b2i_in _) (fun c => ?_) (fun c => ?_)
  · replace h := h.1 (b2i_f.mp c)
    refine st_iconst (pc' := 28) dX11_shared_27 rfl ?_
    exact st_iret (ty := .int) dX11_shared_28 rfl rfl rfl h
  · replace h := h.2 (b2i_t.mp c)
    refine st_iload_n (pc' := 15) dX11_shared_14 rfl rfl (j := 1) rfl ?_
    refine st_if_eq (tg := 27) (pc' := 18) dX11_shared_15 (by decide) rfl e1 (fun c => ?_) (fun c => ?_)
    · replace h := h.1 c
      refine st_iconst (pc' := 28) dX11_shared_27 rfl ?_
      exact st_iret (ty := .int) dX11_shared_28 rfl rfl rfl h
    · replace h := h.2 c
      refine st_iload_n (pc' := 19) dX11_shared_18 rfl rfl (j := 1) rfl ?_
      refine st_callS (pc' := 22) (kc := k - 1) (E' := LAY) (cal := m_J6_bitCount_0f7a4) (n := 1) (as := [vI x1]) (S := []) dX11_shared_19 rfl l_X11_289 k_J6_bitCount_0f7a4 rfl rfl (Nat.le_of_ble_eq_true rfl) (by omega) ⟨Nat.le_refl _, Nat.le_refl _, Nat.le_refl _, Nat.le_refl _⟩ (Q1 := fun r M' => WP k LAY m_X11_shared 22 [(0, vR (some 0)), (1, vI x1), (2, vI x2)] (r.toList ++ []) M' Q) (S_J6_bitCount (by omega)  ?_) (fun r M' q => q)
      change WP _ LAY m_X11_shared 22 [(0, vR (some 0)), (1, vI x1), (2, vI x2)] [vI (bc32 x1)] (mem (P, some 5, some 22) I J) Q
      refine st_bipush (pc' := 24) dX11_shared_22 rfl (by decide) ?_
      refine st_icmp_le (tg := 29) (pc' := 27) dX11_shared_24 (by decide) rfl (bc32_in _) (by decide) (fun c => ?_) (fun c => ?_)
      · replace h := h.1 c
        refine st_iload_n (pc' := 30) dX11_shared_29 rfl rfl (j := 2) rfl ?_
        obtain ⟨e2, h⟩ := h
        refine st_if_lt (tg := 51) (pc' := 33) dX11_shared_30 (by decide) rfl e2 (fun c => ?_) (fun c => ?_)
        · replace h := h.1 c
          refine st_iconst (pc' := 52) dX11_shared_51 rfl ?_
          refine st_istore_n (pc' := 53) (L' := [(3, vI 0), (0, vR (some 0)), (1, vI x1), (2, vI x2)]) dX11_shared_52 rfl rfl (by decide) rfl ?_
          refine st_iload_n (pc' := 54) dX11_shared_53 rfl rfl (j := 3) rfl ?_
          refine st_iconst (pc' := 55) dX11_shared_54 rfl ?_
          refine st_icmp_eq (tg := 70) (pc' := 58) dX11_shared_55 (by decide) rfl e2 (by decide) (fun c => ?_) (fun c => ?_)
          · replace h := h.1 c
            refine st_aload_n (pc' := 71) dX11_shared_70 rfl rfl (j := 1) rfl ?_
            refine G_X11_76_0 dX11_shared_71 (pc' := 74) rfl rfl ?_
            refine st_iload_n (pc' := 75) dX11_shared_74 rfl rfl (j := 2) rfl ?_
            refine st_callV (pc' := 78) (kc := k - 1) (E' := LAY) (cal := m_X6_find) (n := 1) (as := [vI x1]) (S := []) dX11_shared_75 rfl l_X11_294 k_X6_find rfl L_54 c_X6 rfl rfl (Nat.le_of_ble_eq_true rfl) (by omega) ⟨Nat.le_refl _, Nat.le_refl _, Nat.le_refl _, Nat.le_refl _⟩ h (fun r M' q => ?_)
            obtain ⟨I4, J5, rfl, rfl, h⟩ := q
            change WP _ LAY m_X11_shared 78 [(3, vI 0), (0, vR (some 0)), (1, vI x1), (2, vI x2)] [] (mem (P, some 5, some 22) I4 J5) Q
            refine st_aload_n (pc' := 79) dX11_shared_78 rfl rfl (j := 1) rfl ?_
            refine G_X11_76_0 dX11_shared_79 (pc' := 82) rfl rfl ?_
            refine G_X11_297_54 dX11_shared_82 (pc' := 85) rfl rfl ?_
            refine st_iconst (pc' := 86) dX11_shared_85 rfl ?_
            refine st_icmp_eq (tg := 94) (pc' := 89) dX11_shared_86 (by decide) rfl (gi_in _ _ _) (by decide) (fun c => ?_) (fun c => ?_)
            · replace h := h.1 c
              refine st_aload_n (pc' := 95) dX11_shared_94 rfl rfl (j := 1) rfl ?_
              refine G_X11_76_0 dX11_shared_95 (pc' := 98) rfl rfl ?_
              refine G_X11_297_54 dX11_shared_98 (pc' := 101) rfl rfl ?_
              exact st_iret (ty := .int) dX11_shared_101 rfl rfl rfl h
            · replace h := h.2 c
              refine st_iload_n (pc' := 90) dX11_shared_89 rfl rfl (j := 3) rfl ?_
              refine st_iconst (pc' := 91) dX11_shared_90 rfl ?_
              refine st_icmp_ne (tg := 102) (pc' := 94) dX11_shared_91 (by decide) rfl e2 (by decide) (fun c => ?_) (fun c => ?_)
              · replace h := h.1 c
                refine st_iload_n (pc' := 103) dX11_shared_102 rfl rfl (j := 3) rfl ?_
                refine st_bipush (pc' := 105) dX11_shared_103 rfl (by decide) ?_
                refine st_icmp_ne (tg := 118) (pc' := 108) dX11_shared_105 (by decide) rfl e2 (by decide) (fun c => ?_) (fun c => ?_)
                · replace h := h.1 c
                  refine st_aload_n (pc' := 119) dX11_shared_118 rfl rfl (j := 1) rfl ?_
                  refine G_X11_76_0 dX11_shared_119 (pc' := 122) rfl rfl ?_
                  refine st_iload_n (pc' := 123) dX11_shared_122 rfl rfl (j := 3) rfl ?_
                  refine st_callV (pc' := 126) (kc := k - 1) (E' := LAY) (cal := m_X6_readerOf) (n := 1) (as := [vI x2]) (S := []) dX11_shared_123 rfl l_X11_303 k_X6_readerOf rfl L_54 c_X6 rfl rfl (Nat.le_of_ble_eq_true rfl) (by omega) ⟨Nat.le_refl _, Nat.le_refl _, Nat.le_refl _, Nat.le_refl _⟩ h (fun r M' q => ?_)
                  obtain ⟨v6, I7, J8, rfl, rfl, h⟩ := q
                  change WP _ LAY m_X11_shared 126 [(3, vI 0), (0, vR (some 0)), (1, vI x1), (2, vI x2)] [vI v6] (mem (P, some 5, some 22) I7 J8) Q
                  exact st_iret (ty := .int) dX11_shared_126 rfl rfl rfl h
                · replace h := h.2 c
                  refine st_aload_n (pc' := 109) dX11_shared_108 rfl rfl (j := 1) rfl ?_
                  refine G_X11_76_0 dX11_shared_109 (pc' := 112) rfl rfl ?_
                  refine G_X11_300_54 dX11_shared_112 (pc' := 115) rfl rfl ?_
                  refine st_goto (pc' := 126) dX11_shared_115 (by decide) ?_
                  exact st_iret (ty := .int) dX11_shared_126 rfl rfl rfl h
              · replace h := h.2 c
                refine st_aload_n (pc' := 95) dX11_shared_94 rfl rfl (j := 1) rfl ?_
                refine G_X11_76_0 dX11_shared_95 (pc' := 98) rfl rfl ?_
                refine G_X11_297_54 dX11_shared_98 (pc' := 101) rfl rfl ?_
                exact st_iret (ty := .int) dX11_shared_101 rfl rfl rfl h
          · replace h := h.2 c
            refine st_iload_n (pc' := 59) dX11_shared_58 rfl rfl (j := 3) rfl ?_
            refine st_bipush (pc' := 61) dX11_shared_59 rfl (by decide) ?_
            refine st_icmp_eq (tg := 70) (pc' := 64) dX11_shared_61 (by decide) rfl e2 (by decide) (fun c => ?_) (fun c => ?_)
            · replace h := h.1 c
              refine st_aload_n (pc' := 71) dX11_shared_70 rfl rfl (j := 1) rfl ?_
              refine G_X11_76_0 dX11_shared_71 (pc' := 74) rfl rfl ?_
              refine st_iload_n (pc' := 75) dX11_shared_74 rfl rfl (j := 2) rfl ?_
              refine st_callV (pc' := 78) (kc := k - 1) (E' := LAY) (cal := m_X6_find) (n := 1) (as := [vI x1]) (S := []) dX11_shared_75 rfl l_X11_294 k_X6_find rfl L_54 c_X6 rfl rfl (Nat.le_of_ble_eq_true rfl) (by omega) ⟨Nat.le_refl _, Nat.le_refl _, Nat.le_refl _, Nat.le_refl _⟩ h (fun r M' q => ?_)
              obtain ⟨I10, J11, rfl, rfl, h⟩ := q
              change WP _ LAY m_X11_shared 78 [(3, vI 0), (0, vR (some 0)), (1, vI x1), (2, vI x2)] [] (mem (P, some 5, some 22) I10 J11) Q
              refine st_aload_n (pc' := 79) dX11_shared_78 rfl rfl (j := 1) rfl ?_
              refine G_X11_76_0 dX11_shared_79 (pc' := 82) rfl rfl ?_
              refine G_X11_297_54 dX11_shared_82 (pc' := 85) rfl rfl ?_
              refine st_iconst (pc' := 86) dX11_shared_85 rfl ?_
              refine st_icmp_eq (tg := 94) (pc' := 89) dX11_shared_86 (by decide) rfl (gi_in _ _ _) (by decide) (fun c => ?_) (fun c => ?_)
              · replace h := h.1 c
                refine st_aload_n (pc' := 95) dX11_shared_94 rfl rfl (j := 1) rfl ?_
                refine G_X11_76_0 dX11_shared_95 (pc' := 98) rfl rfl ?_
                refine G_X11_297_54 dX11_shared_98 (pc' := 101) rfl rfl ?_
                exact st_iret (ty := .int) dX11_shared_101 rfl rfl rfl h
              · replace h := h.2 c
                refine st_iload_n (pc' := 90) dX11_shared_89 rfl rfl (j := 3) rfl ?_
                refine st_iconst (pc' := 91) dX11_shared_90 rfl ?_
                refine st_icmp_ne (tg := 102) (pc' := 94) dX11_shared_91 (by decide) rfl e2 (by decide) (fun c => ?_) (fun c => ?_)
                · replace h := h.1 c
                  refine st_iload_n (pc' := 103) dX11_shared_102 rfl rfl (j := 3) rfl ?_
                  refine st_bipush (pc' := 105) dX11_shared_103 rfl (by decide) ?_
                  refine st_icmp_ne (tg := 118) (pc' := 108) dX11_shared_105 (by decide) rfl e2 (by decide) (fun c => ?_) (fun c => ?_)
                  · replace h := h.1 c
                    refine st_aload_n (pc' := 119) dX11_shared_118 rfl rfl (j := 1) rfl ?_
                    refine G_X11_76_0 dX11_shared_119 (pc' := 122) rfl rfl ?_
                    refine st_iload_n (pc' := 123) dX11_shared_122 rfl rfl (j := 3) rfl ?_
                    refine st_callV (pc' := 126) (kc := k - 1) (E' := LAY) (cal := m_X6_readerOf) (n := 1) (as := [vI x2]) (S := []) dX11_shared_123 rfl l_X11_303 k_X6_readerOf rfl L_54 c_X6 rfl rfl (Nat.le_of_ble_eq_true rfl) (by omega) ⟨Nat.le_refl _, Nat.le_refl _, Nat.le_refl _, Nat.le_refl _⟩ h (fun r M' q => ?_)
                    obtain ⟨v12, I13, J14, rfl, rfl, h⟩ := q
                    change WP _ LAY m_X11_shared 126 [(3, vI 0), (0, vR (some 0)), (1, vI x1), (2, vI x2)] [vI v12] (mem (P, some 5, some 22) I13 J14) Q
                    exact st_iret (ty := .int) dX11_shared_126 rfl rfl rfl h
                  · replace h := h.2 c
                    refine st_aload_n (pc' := 109) dX11_shared_108 rfl rfl (j := 1) rfl ?_
                    refine G_X11_76_0 dX11_shared_109 (pc' := 112) rfl rfl ?_
                    refine G_X11_300_54 dX11_shared_112 (pc' := 115) rfl rfl ?_
                    refine st_goto (pc' := 126) dX11_shared_115 (by decide) ?_
                    exact st_iret (ty := .int) dX11_shared_126 rfl rfl rfl h
                · replace h := h.2 c
                  refine st_aload_n (pc' := 95) dX11_shared_94 rfl rfl (j := 1) rfl ?_
                  refine G_X11_76_0 dX11_shared_95 (pc' := 98) rfl rfl ?_
                  refine G_X11_297_54 dX11_shared_98 (pc' := 101) rfl rfl ?_
                  exact st_iret (ty := .int) dX11_shared_101 rfl rfl rfl h
            · replace h := h.2 c
              refine st_iload_n (pc' := 65) dX11_shared_64 rfl rfl (j := 0) rfl ?_
              refine st_if_ne (tg := 70) (pc' := 68) dX11_shared_65 (by decide) rfl (by decide) (fun c => ?_) (fun c => ?_)
              · exact absurd c (by decide)
              · refine st_iconst (pc' := 69) dX11_shared_68 rfl ?_
                exact st_iret (ty := .int) dX11_shared_69 rfl rfl rfl h
        · replace h := h.2 c
          refine st_iload_n (pc' := 34) dX11_shared_33 rfl rfl (j := 2) rfl ?_
          refine st_bipush (pc' := 36) dX11_shared_34 rfl (by decide) ?_
          refine st_icmp_ge (tg := 51) (pc' := 39) dX11_shared_36 (by decide) rfl e2 (by decide) (fun c => ?_) (fun c => ?_)
          · replace h := h.1 c
            refine st_iconst (pc' := 52) dX11_shared_51 rfl ?_
            refine st_istore_n (pc' := 53) (L' := [(3, vI 0), (0, vR (some 0)), (1, vI x1), (2, vI x2)]) dX11_shared_52 rfl rfl (by decide) rfl ?_
            refine st_iload_n (pc' := 54) dX11_shared_53 rfl rfl (j := 3) rfl ?_
            refine st_iconst (pc' := 55) dX11_shared_54 rfl ?_
            refine st_icmp_eq (tg := 70) (pc' := 58) dX11_shared_55 (by decide) rfl e2 (by decide) (fun c => ?_) (fun c => ?_)
            · replace h := h.1 c
              refine st_aload_n (pc' := 71) dX11_shared_70 rfl rfl (j := 1) rfl ?_
              refine G_X11_76_0 dX11_shared_71 (pc' := 74) rfl rfl ?_
              refine st_iload_n (pc' := 75) dX11_shared_74 rfl rfl (j := 2) rfl ?_
              refine st_callV (pc' := 78) (kc := k - 1) (E' := LAY) (cal := m_X6_find) (n := 1) (as := [vI x1]) (S := []) dX11_shared_75 rfl l_X11_294 k_X6_find rfl L_54 c_X6 rfl rfl (Nat.le_of_ble_eq_true rfl) (by omega) ⟨Nat.le_refl _, Nat.le_refl _, Nat.le_refl _, Nat.le_refl _⟩ h (fun r M' q => ?_)
              obtain ⟨I16, J17, rfl, rfl, h⟩ := q
              change WP _ LAY m_X11_shared 78 [(3, vI 0), (0, vR (some 0)), (1, vI x1), (2, vI x2)] [] (mem (P, some 5, some 22) I16 J17) Q
              refine st_aload_n (pc' := 79) dX11_shared_78 rfl rfl (j := 1) rfl ?_
              refine G_X11_76_0 dX11_shared_79 (pc' := 82) rfl rfl ?_
              refine G_X11_297_54 dX11_shared_82 (pc' := 85) rfl rfl ?_
              refine st_iconst (pc' := 86) dX11_shared_85 rfl ?_
              refine st_icmp_eq (tg := 94) (pc' := 89) dX11_shared_86 (by decide) rfl (gi_in _ _ _) (by decide) (fun c => ?_) (fun c => ?_)
              · replace h := h.1 c
                refine st_aload_n (pc' := 95) dX11_shared_94 rfl rfl (j := 1) rfl ?_
                refine G_X11_76_0 dX11_shared_95 (pc' := 98) rfl rfl ?_
                refine G_X11_297_54 dX11_shared_98 (pc' := 101) rfl rfl ?_
                exact st_iret (ty := .int) dX11_shared_101 rfl rfl rfl h
              · replace h := h.2 c
                refine st_iload_n (pc' := 90) dX11_shared_89 rfl rfl (j := 3) rfl ?_
                refine st_iconst (pc' := 91) dX11_shared_90 rfl ?_
                refine st_icmp_ne (tg := 102) (pc' := 94) dX11_shared_91 (by decide) rfl e2 (by decide) (fun c => ?_) (fun c => ?_)
                · replace h := h.1 c
                  refine st_iload_n (pc' := 103) dX11_shared_102 rfl rfl (j := 3) rfl ?_
                  refine st_bipush (pc' := 105) dX11_shared_103 rfl (by decide) ?_
                  refine st_icmp_ne (tg := 118) (pc' := 108) dX11_shared_105 (by decide) rfl e2 (by decide) (fun c => ?_) (fun c => ?_)
                  · replace h := h.1 c
                    refine st_aload_n (pc' := 119) dX11_shared_118 rfl rfl (j := 1) rfl ?_
                    refine G_X11_76_0 dX11_shared_119 (pc' := 122) rfl rfl ?_
                    refine st_iload_n (pc' := 123) dX11_shared_122 rfl rfl (j := 3) rfl ?_
                    refine st_callV (pc' := 126) (kc := k - 1) (E' := LAY) (cal := m_X6_readerOf) (n := 1) (as := [vI x2]) (S := []) dX11_shared_123 rfl l_X11_303 k_X6_readerOf rfl L_54 c_X6 rfl rfl (Nat.le_of_ble_eq_true rfl) (by omega) ⟨Nat.le_refl _, Nat.le_refl _, Nat.le_refl _, Nat.le_refl _⟩ h (fun r M' q => ?_)
                    obtain ⟨v18, I19, J20, rfl, rfl, h⟩ := q
                    change WP _ LAY m_X11_shared 126 [(3, vI 0), (0, vR (some 0)), (1, vI x1), (2, vI x2)] [vI v18] (mem (P, some 5, some 22) I19 J20) Q
                    exact st_iret (ty := .int) dX11_shared_126 rfl rfl rfl h
                  · replace h := h.2 c
                    refine st_aload_n (pc' := 109) dX11_shared_108 rfl rfl (j := 1) rfl ?_
                    refine G_X11_76_0 dX11_shared_109 (pc' := 112) rfl rfl ?_
                    refine G_X11_300_54 dX11_shared_112 (pc' := 115) rfl rfl ?_
                    refine st_goto (pc' := 126) dX11_shared_115 (by decide) ?_
                    exact st_iret (ty := .int) dX11_shared_126 rfl rfl rfl h
                · replace h := h.2 c
                  refine st_aload_n (pc' := 95) dX11_shared_94 rfl rfl (j := 1) rfl ?_
                  refine G_X11_76_0 dX11_shared_95 (pc' := 98) rfl rfl ?_
                  refine G_X11_297_54 dX11_shared_98 (pc' := 101) rfl rfl ?_
                  exact st_iret (ty := .int) dX11_shared_101 rfl rfl rfl h
            · replace h := h.2 c
              refine st_iload_n (pc' := 59) dX11_shared_58 rfl rfl (j := 3) rfl ?_
              refine st_bipush (pc' := 61) dX11_shared_59 rfl (by decide) ?_
              refine st_icmp_eq (tg := 70) (pc' := 64) dX11_shared_61 (by decide) rfl e2 (by decide) (fun c => ?_) (fun c => ?_)
              · replace h := h.1 c
                refine st_aload_n (pc' := 71) dX11_shared_70 rfl rfl (j := 1) rfl ?_
                refine G_X11_76_0 dX11_shared_71 (pc' := 74) rfl rfl ?_
                refine st_iload_n (pc' := 75) dX11_shared_74 rfl rfl (j := 2) rfl ?_
                refine st_callV (pc' := 78) (kc := k - 1) (E' := LAY) (cal := m_X6_find) (n := 1) (as := [vI x1]) (S := []) dX11_shared_75 rfl l_X11_294 k_X6_find rfl L_54 c_X6 rfl rfl (Nat.le_of_ble_eq_true rfl) (by omega) ⟨Nat.le_refl _, Nat.le_refl _, Nat.le_refl _, Nat.le_refl _⟩ h (fun r M' q => ?_)
                obtain ⟨I22, J23, rfl, rfl, h⟩ := q
                change WP _ LAY m_X11_shared 78 [(3, vI 0), (0, vR (some 0)), (1, vI x1), (2, vI x2)] [] (mem (P, some 5, some 22) I22 J23) Q
                refine st_aload_n (pc' := 79) dX11_shared_78 rfl rfl (j := 1) rfl ?_
                refine G_X11_76_0 dX11_shared_79 (pc' := 82) rfl rfl ?_
                refine G_X11_297_54 dX11_shared_82 (pc' := 85) rfl rfl ?_
                refine st_iconst (pc' := 86) dX11_shared_85 rfl ?_
                refine st_icmp_eq (tg := 94) (pc' := 89) dX11_shared_86 (by decide) rfl (gi_in _ _ _) (by decide) (fun c => ?_) (fun c => ?_)
                · replace h := h.1 c
                  refine st_aload_n (pc' := 95) dX11_shared_94 rfl rfl (j := 1) rfl ?_
                  refine G_X11_76_0 dX11_shared_95 (pc' := 98) rfl rfl ?_
                  refine G_X11_297_54 dX11_shared_98 (pc' := 101) rfl rfl ?_
                  exact st_iret (ty := .int) dX11_shared_101 rfl rfl rfl h
                · replace h := h.2 c
                  refine st_iload_n (pc' := 90) dX11_shared_89 rfl rfl (j := 3) rfl ?_
                  refine st_iconst (pc' := 91) dX11_shared_90 rfl ?_
                  refine st_icmp_ne (tg := 102) (pc' := 94) dX11_shared_91 (by decide) rfl e2 (by decide) (fun c => ?_) (fun c => ?_)
                  · replace h := h.1 c
                    refine st_iload_n (pc' := 103) dX11_shared_102 rfl rfl (j := 3) rfl ?_
                    refine st_bipush (pc' := 105) dX11_shared_103 rfl (by decide) ?_
                    refine st_icmp_ne (tg := 118) (pc' := 108) dX11_shared_105 (by decide) rfl e2 (by decide) (fun c => ?_) (fun c => ?_)
                    · replace h := h.1 c
                      refine st_aload_n (pc' := 119) dX11_shared_118 rfl rfl (j := 1) rfl ?_
                      refine G_X11_76_0 dX11_shared_119 (pc' := 122) rfl rfl ?_
                      refine st_iload_n (pc' := 123) dX11_shared_122 rfl rfl (j := 3) rfl ?_
                      refine st_callV (pc' := 126) (kc := k - 1) (E' := LAY) (cal := m_X6_readerOf) (n := 1) (as := [vI x2]) (S := []) dX11_shared_123 rfl l_X11_303 k_X6_readerOf rfl L_54 c_X6 rfl rfl (Nat.le_of_ble_eq_true rfl) (by omega) ⟨Nat.le_refl _, Nat.le_refl _, Nat.le_refl _, Nat.le_refl _⟩ h (fun r M' q => ?_)
                      obtain ⟨v24, I25, J26, rfl, rfl, h⟩ := q
                      change WP _ LAY m_X11_shared 126 [(3, vI 0), (0, vR (some 0)), (1, vI x1), (2, vI x2)] [vI v24] (mem (P, some 5, some 22) I25 J26) Q
                      exact st_iret (ty := .int) dX11_shared_126 rfl rfl rfl h
                    · replace h := h.2 c
                      refine st_aload_n (pc' := 109) dX11_shared_108 rfl rfl (j := 1) rfl ?_
                      refine G_X11_76_0 dX11_shared_109 (pc' := 112) rfl rfl ?_
                      refine G_X11_300_54 dX11_shared_112 (pc' := 115) rfl rfl ?_
                      refine st_goto (pc' := 126) dX11_shared_115 (by decide) ?_
                      exact st_iret (ty := .int) dX11_shared_126 rfl rfl rfl h
                  · replace h := h.2 c
                    refine st_aload_n (pc' := 95) dX11_shared_94 rfl rfl (j := 1) rfl ?_
                    refine G_X11_76_0 dX11_shared_95 (pc' := 98) rfl rfl ?_
                    refine G_X11_297_54 dX11_shared_98 (pc' := 101) rfl rfl ?_
                    exact st_iret (ty := .int) dX11_shared_101 rfl rfl rfl h
              · replace h := h.2 c
                refine st_iload_n (pc' := 65) dX11_shared_64 rfl rfl (j := 0) rfl ?_
                refine st_if_ne (tg := 70) (pc' := 68) dX11_shared_65 (by decide) rfl (by decide) (fun c => ?_) (fun c => ?_)
                · exact absurd c (by decide)
                · refine st_iconst (pc' := 69) dX11_shared_68 rfl ?_
                  exact st_iret (ty := .int) dX11_shared_69 rfl rfl rfl h
          · replace h := h.2 c
            refine st_iload_n (pc' := 40) dX11_shared_39 rfl rfl (j := 1) rfl ?_
            refine st_iconst (pc' := 41) dX11_shared_40 rfl ?_
            refine st_iload_n (pc' := 42) dX11_shared_41 rfl rfl (j := 2) rfl ?_
            refine st_ishl (pc' := 43) (z := (shl32 1 x2)) dX11_shared_42 rfl rfl ?_
            refine st_iand (pc' := 44) (z := (and32 x1 (shl32 1 x2))) dX11_shared_43 rfl rfl ?_
            refine st_if_eq (tg := 51) (pc' := 47) dX11_shared_44 (by decide) rfl (and32_in _ _) (fun c => ?_) (fun c => ?_)
            · replace h := h.1 c
              refine st_iconst (pc' := 52) dX11_shared_51 rfl ?_
              refine st_istore_n (pc' := 53) (L' := [(3, vI 0), (0, vR (some 0)), (1, vI x1), (2, vI x2)]) dX11_shared_52 rfl rfl (by decide) rfl ?_
              refine st_iload_n (pc' := 54) dX11_shared_53 rfl rfl (j := 3) rfl ?_
              refine st_iconst (pc' := 55) dX11_shared_54 rfl ?_
              refine st_icmp_eq (tg := 70) (pc' := 58) dX11_shared_55 (by decide) rfl e2 (by decide) (fun c => ?_) (fun c => ?_)
              · replace h := h.1 c
                refine st_aload_n (pc' := 71) dX11_shared_70 rfl rfl (j := 1) rfl ?_
                refine G_X11_76_0 dX11_shared_71 (pc' := 74) rfl rfl ?_
                refine st_iload_n (pc' := 75) dX11_shared_74 rfl rfl (j := 2) rfl ?_
                refine st_callV (pc' := 78) (kc := k - 1) (E' := LAY) (cal := m_X6_find) (n := 1) (as := [vI x1]) (S := []) dX11_shared_75 rfl l_X11_294 k_X6_find rfl L_54 c_X6 rfl rfl (Nat.le_of_ble_eq_true rfl) (by omega) ⟨Nat.le_refl _, Nat.le_refl _, Nat.le_refl _, Nat.le_refl _⟩ h (fun r M' q => ?_)
                obtain ⟨I28, J29, rfl, rfl, h⟩ := q
                change WP _ LAY m_X11_shared 78 [(3, vI 0), (0, vR (some 0)), (1, vI x1), (2, vI x2)] [] (mem (P, some 5, some 22) I28 J29) Q
                refine st_aload_n (pc' := 79) dX11_shared_78 rfl rfl (j := 1) rfl ?_
                refine G_X11_76_0 dX11_shared_79 (pc' := 82) rfl rfl ?_
                refine G_X11_297_54 dX11_shared_82 (pc' := 85) rfl rfl ?_
                refine st_iconst (pc' := 86) dX11_shared_85 rfl ?_
                refine st_icmp_eq (tg := 94) (pc' := 89) dX11_shared_86 (by decide) rfl (gi_in _ _ _) (by decide) (fun c => ?_) (fun c => ?_)
                · replace h := h.1 c
                  refine st_aload_n (pc' := 95) dX11_shared_94 rfl rfl (j := 1) rfl ?_
                  refine G_X11_76_0 dX11_shared_95 (pc' := 98) rfl rfl ?_
                  refine G_X11_297_54 dX11_shared_98 (pc' := 101) rfl rfl ?_
                  exact st_iret (ty := .int) dX11_shared_101 rfl rfl rfl h
                · replace h := h.2 c
                  refine st_iload_n (pc' := 90) dX11_shared_89 rfl rfl (j := 3) rfl ?_
                  refine st_iconst (pc' := 91) dX11_shared_90 rfl ?_
                  refine st_icmp_ne (tg := 102) (pc' := 94) dX11_shared_91 (by decide) rfl e2 (by decide) (fun c => ?_) (fun c => ?_)
                  · replace h := h.1 c
                    refine st_iload_n (pc' := 103) dX11_shared_102 rfl rfl (j := 3) rfl ?_
                    refine st_bipush (pc' := 105) dX11_shared_103 rfl (by decide) ?_
                    refine st_icmp_ne (tg := 118) (pc' := 108) dX11_shared_105 (by decide) rfl e2 (by decide) (fun c => ?_) (fun c => ?_)
                    · replace h := h.1 c
                      refine st_aload_n (pc' := 119) dX11_shared_118 rfl rfl (j := 1) rfl ?_
                      refine G_X11_76_0 dX11_shared_119 (pc' := 122) rfl rfl ?_
                      refine st_iload_n (pc' := 123) dX11_shared_122 rfl rfl (j := 3) rfl ?_
                      refine st_callV (pc' := 126) (kc := k - 1) (E' := LAY) (cal := m_X6_readerOf) (n := 1) (as := [vI x2]) (S := []) dX11_shared_123 rfl l_X11_303 k_X6_readerOf rfl L_54 c_X6 rfl rfl (Nat.le_of_ble_eq_true rfl) (by omega) ⟨Nat.le_refl _, Nat.le_refl _, Nat.le_refl _, Nat.le_refl _⟩ h (fun r M' q => ?_)
                      obtain ⟨v30, I31, J32, rfl, rfl, h⟩ := q
                      change WP _ LAY m_X11_shared 126 [(3, vI 0), (0, vR (some 0)), (1, vI x1), (2, vI x2)] [vI v30] (mem (P, some 5, some 22) I31 J32) Q
                      exact st_iret (ty := .int) dX11_shared_126 rfl rfl rfl h
                    · replace h := h.2 c
                      refine st_aload_n (pc' := 109) dX11_shared_108 rfl rfl (j := 1) rfl ?_
                      refine G_X11_76_0 dX11_shared_109 (pc' := 112) rfl rfl ?_
                      refine G_X11_300_54 dX11_shared_112 (pc' := 115) rfl rfl ?_
                      refine st_goto (pc' := 126) dX11_shared_115 (by decide) ?_
                      exact st_iret (ty := .int) dX11_shared_126 rfl rfl rfl h
                  · replace h := h.2 c
                    refine st_aload_n (pc' := 95) dX11_shared_94 rfl rfl (j := 1) rfl ?_
                    refine G_X11_76_0 dX11_shared_95 (pc' := 98) rfl rfl ?_
                    refine G_X11_297_54 dX11_shared_98 (pc' := 101) rfl rfl ?_
                    exact st_iret (ty := .int) dX11_shared_101 rfl rfl rfl h
              · replace h := h.2 c
                refine st_iload_n (pc' := 59) dX11_shared_58 rfl rfl (j := 3) rfl ?_
                refine st_bipush (pc' := 61) dX11_shared_59 rfl (by decide) ?_
                refine st_icmp_eq (tg := 70) (pc' := 64) dX11_shared_61 (by decide) rfl e2 (by decide) (fun c => ?_) (fun c => ?_)
                · replace h := h.1 c
                  refine st_aload_n (pc' := 71) dX11_shared_70 rfl rfl (j := 1) rfl ?_
                  refine G_X11_76_0 dX11_shared_71 (pc' := 74) rfl rfl ?_
                  refine st_iload_n (pc' := 75) dX11_shared_74 rfl rfl (j := 2) rfl ?_
                  refine st_callV (pc' := 78) (kc := k - 1) (E' := LAY) (cal := m_X6_find) (n := 1) (as := [vI x1]) (S := []) dX11_shared_75 rfl l_X11_294 k_X6_find rfl L_54 c_X6 rfl rfl (Nat.le_of_ble_eq_true rfl) (by omega) ⟨Nat.le_refl _, Nat.le_refl _, Nat.le_refl _, Nat.le_refl _⟩ h (fun r M' q => ?_)
                  obtain ⟨I34, J35, rfl, rfl, h⟩ := q
                  change WP _ LAY m_X11_shared 78 [(3, vI 0), (0, vR (some 0)), (1, vI x1), (2, vI x2)] [] (mem (P, some 5, some 22) I34 J35) Q
                  refine st_aload_n (pc' := 79) dX11_shared_78 rfl rfl (j := 1) rfl ?_
                  refine G_X11_76_0 dX11_shared_79 (pc' := 82) rfl rfl ?_
                  refine G_X11_297_54 dX11_shared_82 (pc' := 85) rfl rfl ?_
                  refine st_iconst (pc' := 86) dX11_shared_85 rfl ?_
                  refine st_icmp_eq (tg := 94) (pc' := 89) dX11_shared_86 (by decide) rfl (gi_in _ _ _) (by decide) (fun c => ?_) (fun c => ?_)
                  · replace h := h.1 c
                    refine st_aload_n (pc' := 95) dX11_shared_94 rfl rfl (j := 1) rfl ?_
                    refine G_X11_76_0 dX11_shared_95 (pc' := 98) rfl rfl ?_
                    refine G_X11_297_54 dX11_shared_98 (pc' := 101) rfl rfl ?_
                    exact st_iret (ty := .int) dX11_shared_101 rfl rfl rfl h
                  · replace h := h.2 c
                    refine st_iload_n (pc' := 90) dX11_shared_89 rfl rfl (j := 3) rfl ?_
                    refine st_iconst (pc' := 91) dX11_shared_90 rfl ?_
                    refine st_icmp_ne (tg := 102) (pc' := 94) dX11_shared_91 (by decide) rfl e2 (by decide) (fun c => ?_) (fun c => ?_)
                    · replace h := h.1 c
                      refine st_iload_n (pc' := 103) dX11_shared_102 rfl rfl (j := 3) rfl ?_
                      refine st_bipush (pc' := 105) dX11_shared_103 rfl (by decide) ?_
                      refine st_icmp_ne (tg := 118) (pc' := 108) dX11_shared_105 (by decide) rfl e2 (by decide) (fun c => ?_) (fun c => ?_)
                      · replace h := h.1 c
                        refine st_aload_n (pc' := 119) dX11_shared_118 rfl rfl (j := 1) rfl ?_
                        refine G_X11_76_0 dX11_shared_119 (pc' := 122) rfl rfl ?_
                        refine st_iload_n (pc' := 123) dX11_shared_122 rfl rfl (j := 3) rfl ?_
                        refine st_callV (pc' := 126) (kc := k - 1) (E' := LAY) (cal := m_X6_readerOf) (n := 1) (as := [vI x2]) (S := []) dX11_shared_123 rfl l_X11_303 k_X6_readerOf rfl L_54 c_X6 rfl rfl (Nat.le_of_ble_eq_true rfl) (by omega) ⟨Nat.le_refl _, Nat.le_refl _, Nat.le_refl _, Nat.le_refl _⟩ h (fun r M' q => ?_)
                        obtain ⟨v36, I37, J38, rfl, rfl, h⟩ := q
                        change WP _ LAY m_X11_shared 126 [(3, vI 0), (0, vR (some 0)), (1, vI x1), (2, vI x2)] [vI v36] (mem (P, some 5, some 22) I37 J38) Q
                        exact st_iret (ty := .int) dX11_shared_126 rfl rfl rfl h
                      · replace h := h.2 c
                        refine st_aload_n (pc' := 109) dX11_shared_108 rfl rfl (j := 1) rfl ?_
                        refine G_X11_76_0 dX11_shared_109 (pc' := 112) rfl rfl ?_
                        refine G_X11_300_54 dX11_shared_112 (pc' := 115) rfl rfl ?_
                        refine st_goto (pc' := 126) dX11_shared_115 (by decide) ?_
                        exact st_iret (ty := .int) dX11_shared_126 rfl rfl rfl h
                    · replace h := h.2 c
                      refine st_aload_n (pc' := 95) dX11_shared_94 rfl rfl (j := 1) rfl ?_
                      refine G_X11_76_0 dX11_shared_95 (pc' := 98) rfl rfl ?_
                      refine G_X11_297_54 dX11_shared_98 (pc' := 101) rfl rfl ?_
                      exact st_iret (ty := .int) dX11_shared_101 rfl rfl rfl h
                · replace h := h.2 c
                  refine st_iload_n (pc' := 65) dX11_shared_64 rfl rfl (j := 0) rfl ?_
                  refine st_if_ne (tg := 70) (pc' := 68) dX11_shared_65 (by decide) rfl (by decide) (fun c => ?_) (fun c => ?_)
                  · exact absurd c (by decide)
                  · refine st_iconst (pc' := 69) dX11_shared_68 rfl ?_
                    exact st_iret (ty := .int) dX11_shared_69 rfl rfl rfl h
            · replace h := h.2 c
              refine st_iconst (pc' := 48) dX11_shared_47 rfl ?_
              refine st_goto (pc' := 52) dX11_shared_48 (by decide) ?_
              refine st_istore_n (pc' := 53) (L' := [(3, vI 1), (0, vR (some 0)), (1, vI x1), (2, vI x2)]) dX11_shared_52 rfl rfl (by decide) rfl ?_
              refine st_iload_n (pc' := 54) dX11_shared_53 rfl rfl (j := 3) rfl ?_
              refine st_iconst (pc' := 55) dX11_shared_54 rfl ?_
              refine st_icmp_eq (tg := 70) (pc' := 58) dX11_shared_55 (by decide) rfl e2 (by decide) (fun c => ?_) (fun c => ?_)
              · replace h := h.1 c
                refine st_aload_n (pc' := 71) dX11_shared_70 rfl rfl (j := 1) rfl ?_
                refine G_X11_76_0 dX11_shared_71 (pc' := 74) rfl rfl ?_
                refine st_iload_n (pc' := 75) dX11_shared_74 rfl rfl (j := 2) rfl ?_
                refine st_callV (pc' := 78) (kc := k - 1) (E' := LAY) (cal := m_X6_find) (n := 1) (as := [vI x1]) (S := []) dX11_shared_75 rfl l_X11_294 k_X6_find rfl L_54 c_X6 rfl rfl (Nat.le_of_ble_eq_true rfl) (by omega) ⟨Nat.le_refl _, Nat.le_refl _, Nat.le_refl _, Nat.le_refl _⟩ h (fun r M' q => ?_)
                obtain ⟨I40, J41, rfl, rfl, h⟩ := q
                change WP _ LAY m_X11_shared 78 [(3, vI 1), (0, vR (some 0)), (1, vI x1), (2, vI x2)] [] (mem (P, some 5, some 22) I40 J41) Q
                refine st_aload_n (pc' := 79) dX11_shared_78 rfl rfl (j := 1) rfl ?_
                refine G_X11_76_0 dX11_shared_79 (pc' := 82) rfl rfl ?_
                refine G_X11_297_54 dX11_shared_82 (pc' := 85) rfl rfl ?_
                refine st_iconst (pc' := 86) dX11_shared_85 rfl ?_
                refine st_icmp_eq (tg := 94) (pc' := 89) dX11_shared_86 (by decide) rfl (gi_in _ _ _) (by decide) (fun c => ?_) (fun c => ?_)
                · replace h := h.1 c
                  refine st_aload_n (pc' := 95) dX11_shared_94 rfl rfl (j := 1) rfl ?_
                  refine G_X11_76_0 dX11_shared_95 (pc' := 98) rfl rfl ?_
                  refine G_X11_297_54 dX11_shared_98 (pc' := 101) rfl rfl ?_
                  exact st_iret (ty := .int) dX11_shared_101 rfl rfl rfl h
                · replace h := h.2 c
                  refine st_iload_n (pc' := 90) dX11_shared_89 rfl rfl (j := 3) rfl ?_
                  refine st_iconst (pc' := 91) dX11_shared_90 rfl ?_
                  refine st_icmp_ne (tg := 102) (pc' := 94) dX11_shared_91 (by decide) rfl e2 (by decide) (fun c => ?_) (fun c => ?_)
                  · replace h := h.1 c
                    refine st_iload_n (pc' := 103) dX11_shared_102 rfl rfl (j := 3) rfl ?_
                    refine st_bipush (pc' := 105) dX11_shared_103 rfl (by decide) ?_
                    refine st_icmp_ne (tg := 118) (pc' := 108) dX11_shared_105 (by decide) rfl e2 (by decide) (fun c => ?_) (fun c => ?_)
                    · replace h := h.1 c
                      refine st_aload_n (pc' := 119) dX11_shared_118 rfl rfl (j := 1) rfl ?_
                      refine G_X11_76_0 dX11_shared_119 (pc' := 122) rfl rfl ?_
                      refine st_iload_n (pc' := 123) dX11_shared_122 rfl rfl (j := 3) rfl ?_
                      refine st_callV (pc' := 126) (kc := k - 1) (E' := LAY) (cal := m_X6_readerOf) (n := 1) (as := [vI x2]) (S := []) dX11_shared_123 rfl l_X11_303 k_X6_readerOf rfl L_54 c_X6 rfl rfl (Nat.le_of_ble_eq_true rfl) (by omega) ⟨Nat.le_refl _, Nat.le_refl _, Nat.le_refl _, Nat.le_refl _⟩ h (fun r M' q => ?_)
                      obtain ⟨v42, I43, J44, rfl, rfl, h⟩ := q
                      change WP _ LAY m_X11_shared 126 [(3, vI 1), (0, vR (some 0)), (1, vI x1), (2, vI x2)] [vI v42] (mem (P, some 5, some 22) I43 J44) Q
                      exact st_iret (ty := .int) dX11_shared_126 rfl rfl rfl h
                    · replace h := h.2 c
                      refine st_aload_n (pc' := 109) dX11_shared_108 rfl rfl (j := 1) rfl ?_
                      refine G_X11_76_0 dX11_shared_109 (pc' := 112) rfl rfl ?_
                      refine G_X11_300_54 dX11_shared_112 (pc' := 115) rfl rfl ?_
                      refine st_goto (pc' := 126) dX11_shared_115 (by decide) ?_
                      exact st_iret (ty := .int) dX11_shared_126 rfl rfl rfl h
                  · replace h := h.2 c
                    refine st_aload_n (pc' := 95) dX11_shared_94 rfl rfl (j := 1) rfl ?_
                    refine G_X11_76_0 dX11_shared_95 (pc' := 98) rfl rfl ?_
                    refine G_X11_297_54 dX11_shared_98 (pc' := 101) rfl rfl ?_
                    exact st_iret (ty := .int) dX11_shared_101 rfl rfl rfl h
              · replace h := h.2 c
                refine st_iload_n (pc' := 59) dX11_shared_58 rfl rfl (j := 3) rfl ?_
                refine st_bipush (pc' := 61) dX11_shared_59 rfl (by decide) ?_
                refine st_icmp_eq (tg := 70) (pc' := 64) dX11_shared_61 (by decide) rfl e2 (by decide) (fun c => ?_) (fun c => ?_)
                · replace h := h.1 c
                  refine st_aload_n (pc' := 71) dX11_shared_70 rfl rfl (j := 1) rfl ?_
                  refine G_X11_76_0 dX11_shared_71 (pc' := 74) rfl rfl ?_
                  refine st_iload_n (pc' := 75) dX11_shared_74 rfl rfl (j := 2) rfl ?_
                  refine st_callV (pc' := 78) (kc := k - 1) (E' := LAY) (cal := m_X6_find) (n := 1) (as := [vI x1]) (S := []) dX11_shared_75 rfl l_X11_294 k_X6_find rfl L_54 c_X6 rfl rfl (Nat.le_of_ble_eq_true rfl) (by omega) ⟨Nat.le_refl _, Nat.le_refl _, Nat.le_refl _, Nat.le_refl _⟩ h (fun r M' q => ?_)
                  obtain ⟨I46, J47, rfl, rfl, h⟩ := q
                  change WP _ LAY m_X11_shared 78 [(3, vI 1), (0, vR (some 0)), (1, vI x1), (2, vI x2)] [] (mem (P, some 5, some 22) I46 J47) Q
                  refine st_aload_n (pc' := 79) dX11_shared_78 rfl rfl (j := 1) rfl ?_
                  refine G_X11_76_0 dX11_shared_79 (pc' := 82) rfl rfl ?_
                  refine G_X11_297_54 dX11_shared_82 (pc' := 85) rfl rfl ?_
                  refine st_iconst (pc' := 86) dX11_shared_85 rfl ?_
                  refine st_icmp_eq (tg := 94) (pc' := 89) dX11_shared_86 (by decide) rfl (gi_in _ _ _) (by decide) (fun c => ?_) (fun c => ?_)
                  · replace h := h.1 c
                    refine st_aload_n (pc' := 95) dX11_shared_94 rfl rfl (j := 1) rfl ?_
                    refine G_X11_76_0 dX11_shared_95 (pc' := 98) rfl rfl ?_
                    refine G_X11_297_54 dX11_shared_98 (pc' := 101) rfl rfl ?_
                    exact st_iret (ty := .int) dX11_shared_101 rfl rfl rfl h
                  · replace h := h.2 c
                    refine st_iload_n (pc' := 90) dX11_shared_89 rfl rfl (j := 3) rfl ?_
                    refine st_iconst (pc' := 91) dX11_shared_90 rfl ?_
                    refine st_icmp_ne (tg := 102) (pc' := 94) dX11_shared_91 (by decide) rfl e2 (by decide) (fun c => ?_) (fun c => ?_)
                    · replace h := h.1 c
                      refine st_iload_n (pc' := 103) dX11_shared_102 rfl rfl (j := 3) rfl ?_
                      refine st_bipush (pc' := 105) dX11_shared_103 rfl (by decide) ?_
                      refine st_icmp_ne (tg := 118) (pc' := 108) dX11_shared_105 (by decide) rfl e2 (by decide) (fun c => ?_) (fun c => ?_)
                      · replace h := h.1 c
                        refine st_aload_n (pc' := 119) dX11_shared_118 rfl rfl (j := 1) rfl ?_
                        refine G_X11_76_0 dX11_shared_119 (pc' := 122) rfl rfl ?_
                        refine st_iload_n (pc' := 123) dX11_shared_122 rfl rfl (j := 3) rfl ?_
                        refine st_callV (pc' := 126) (kc := k - 1) (E' := LAY) (cal := m_X6_readerOf) (n := 1) (as := [vI x2]) (S := []) dX11_shared_123 rfl l_X11_303 k_X6_readerOf rfl L_54 c_X6 rfl rfl (Nat.le_of_ble_eq_true rfl) (by omega) ⟨Nat.le_refl _, Nat.le_refl _, Nat.le_refl _, Nat.le_refl _⟩ h (fun r M' q => ?_)
                        obtain ⟨v48, I49, J50, rfl, rfl, h⟩ := q
                        change WP _ LAY m_X11_shared 126 [(3, vI 1), (0, vR (some 0)), (1, vI x1), (2, vI x2)] [vI v48] (mem (P, some 5, some 22) I49 J50) Q
                        exact st_iret (ty := .int) dX11_shared_126 rfl rfl rfl h
                      · replace h := h.2 c
                        refine st_aload_n (pc' := 109) dX11_shared_108 rfl rfl (j := 1) rfl ?_
                        refine G_X11_76_0 dX11_shared_109 (pc' := 112) rfl rfl ?_
                        refine G_X11_300_54 dX11_shared_112 (pc' := 115) rfl rfl ?_
                        refine st_goto (pc' := 126) dX11_shared_115 (by decide) ?_
                        exact st_iret (ty := .int) dX11_shared_126 rfl rfl rfl h
                    · replace h := h.2 c
                      refine st_aload_n (pc' := 95) dX11_shared_94 rfl rfl (j := 1) rfl ?_
                      refine G_X11_76_0 dX11_shared_95 (pc' := 98) rfl rfl ?_
                      refine G_X11_297_54 dX11_shared_98 (pc' := 101) rfl rfl ?_
                      exact st_iret (ty := .int) dX11_shared_101 rfl rfl rfl h
                · replace h := h.2 c
                  refine st_iload_n (pc' := 65) dX11_shared_64 rfl rfl (j := 0) rfl ?_
                  refine st_if_ne (tg := 70) (pc' := 68) dX11_shared_65 (by decide) rfl (by decide) (fun c => ?_) (fun c => ?_)
                  · refine st_aload_n (pc' := 71) dX11_shared_70 rfl rfl (j := 1) rfl ?_
                    refine G_X11_76_0 dX11_shared_71 (pc' := 74) rfl rfl ?_
                    refine st_iload_n (pc' := 75) dX11_shared_74 rfl rfl (j := 2) rfl ?_
                    refine st_callV (pc' := 78) (kc := k - 1) (E' := LAY) (cal := m_X6_find) (n := 1) (as := [vI x1]) (S := []) dX11_shared_75 rfl l_X11_294 k_X6_find rfl L_54 c_X6 rfl rfl (Nat.le_of_ble_eq_true rfl) (by omega) ⟨Nat.le_refl _, Nat.le_refl _, Nat.le_refl _, Nat.le_refl _⟩ h (fun r M' q => ?_)
                    obtain ⟨I52, J53, rfl, rfl, h⟩ := q
                    change WP _ LAY m_X11_shared 78 [(3, vI 1), (0, vR (some 0)), (1, vI x1), (2, vI x2)] [] (mem (P, some 5, some 22) I52 J53) Q
                    refine st_aload_n (pc' := 79) dX11_shared_78 rfl rfl (j := 1) rfl ?_
                    refine G_X11_76_0 dX11_shared_79 (pc' := 82) rfl rfl ?_
                    refine G_X11_297_54 dX11_shared_82 (pc' := 85) rfl rfl ?_
                    refine st_iconst (pc' := 86) dX11_shared_85 rfl ?_
                    refine st_icmp_eq (tg := 94) (pc' := 89) dX11_shared_86 (by decide) rfl (gi_in _ _ _) (by decide) (fun c => ?_) (fun c => ?_)
                    · replace h := h.1 c
                      refine st_aload_n (pc' := 95) dX11_shared_94 rfl rfl (j := 1) rfl ?_
                      refine G_X11_76_0 dX11_shared_95 (pc' := 98) rfl rfl ?_
                      refine G_X11_297_54 dX11_shared_98 (pc' := 101) rfl rfl ?_
                      exact st_iret (ty := .int) dX11_shared_101 rfl rfl rfl h
                    · replace h := h.2 c
                      refine st_iload_n (pc' := 90) dX11_shared_89 rfl rfl (j := 3) rfl ?_
                      refine st_iconst (pc' := 91) dX11_shared_90 rfl ?_
                      refine st_icmp_ne (tg := 102) (pc' := 94) dX11_shared_91 (by decide) rfl e2 (by decide) (fun c => ?_) (fun c => ?_)
                      · replace h := h.1 c
                        refine st_iload_n (pc' := 103) dX11_shared_102 rfl rfl (j := 3) rfl ?_
                        refine st_bipush (pc' := 105) dX11_shared_103 rfl (by decide) ?_
                        refine st_icmp_ne (tg := 118) (pc' := 108) dX11_shared_105 (by decide) rfl e2 (by decide) (fun c => ?_) (fun c => ?_)
                        · replace h := h.1 c
                          refine st_aload_n (pc' := 119) dX11_shared_118 rfl rfl (j := 1) rfl ?_
                          refine G_X11_76_0 dX11_shared_119 (pc' := 122) rfl rfl ?_
                          refine st_iload_n (pc' := 123) dX11_shared_122 rfl rfl (j := 3) rfl ?_
                          refine st_callV (pc' := 126) (kc := k - 1) (E' := LAY) (cal := m_X6_readerOf) (n := 1) (as := [vI x2]) (S := []) dX11_shared_123 rfl l_X11_303 k_X6_readerOf rfl L_54 c_X6 rfl rfl (Nat.le_of_ble_eq_true rfl) (by omega) ⟨Nat.le_refl _, Nat.le_refl _, Nat.le_refl _, Nat.le_refl _⟩ h (fun r M' q => ?_)
                          obtain ⟨v54, I55, J56, rfl, rfl, h⟩ := q
                          change WP _ LAY m_X11_shared 126 [(3, vI 1), (0, vR (some 0)), (1, vI x1), (2, vI x2)] [vI v54] (mem (P, some 5, some 22) I55 J56) Q
                          exact st_iret (ty := .int) dX11_shared_126 rfl rfl rfl h
                        · replace h := h.2 c
                          refine st_aload_n (pc' := 109) dX11_shared_108 rfl rfl (j := 1) rfl ?_
                          refine G_X11_76_0 dX11_shared_109 (pc' := 112) rfl rfl ?_
                          refine G_X11_300_54 dX11_shared_112 (pc' := 115) rfl rfl ?_
                          refine st_goto (pc' := 126) dX11_shared_115 (by decide) ?_
                          exact st_iret (ty := .int) dX11_shared_126 rfl rfl rfl h
                      · replace h := h.2 c
                        refine st_aload_n (pc' := 95) dX11_shared_94 rfl rfl (j := 1) rfl ?_
                        refine G_X11_76_0 dX11_shared_95 (pc' := 98) rfl rfl ?_
                        refine G_X11_297_54 dX11_shared_98 (pc' := 101) rfl rfl ?_
                        exact st_iret (ty := .int) dX11_shared_101 rfl rfl rfl h
                  · exact absurd c (by decide)
      · replace h := h.2 c
        refine st_iconst (pc' := 28) dX11_shared_27 rfl ?_
        exact st_iret (ty := .int) dX11_shared_28 rfl rfl rfl h
set_option maxRecDepth 20000 in
set_option maxHeartbeats 4000000 in
theorem B_X11_status_0 {k : Nat} {P : Option Nat} {I : Nat → Nat → Int32} {J : Nat → Nat → Int64} {x1 : Int} {Q : Option AV → Mem → Prop} (hk : 0 ≤ k) (h : inR x1 ∧ ((x1 < 0 → (Q (some (vI (-1))) (mem (P, some 5, some 22) I J))) ∧ (¬ x1 < 0 → ((6 ≤ x1 → (Q (some (vI (-1))) (mem (P, some 5, some 22) I J))) ∧ (¬ 6 ≤ x1 → ((0 ≤ x1 ∧ x1 < 6) ∧ (Q (some (vI (gi I 73 (x1).toNat))) (mem (P, some 5, some 22) I J)))))))) : WP k LAY m_X11_status 0 [(0, vR (some 0)), (1, vI x1)] [] (mem (P, some 5, some 22) I J) Q := by
  refine st_iload_n (pc' := 1) dX11_status_0 rfl rfl (j := 1) rfl ?_
  obtain ⟨e1, h⟩ := h
  refine st_if_lt (tg := 19) (pc' := 4) dX11_status_1 (by decide) rfl e1 (fun c => ?_) (fun c => ?_)
  · replace h := h.1 c
    refine st_iconst (pc' := 20) dX11_status_19 rfl ?_
    exact st_iret (ty := .int) dX11_status_20 rfl rfl rfl h
  · replace h := h.2 c
    refine st_iload_n (pc' := 5) dX11_status_4 rfl rfl (j := 1) rfl ?_
    refine st_bipush (pc' := 7) dX11_status_5 rfl (by decide) ?_
    refine st_icmp_ge (tg := 19) (pc' := 10) dX11_status_7 (by decide) rfl e1 (by decide) (fun c => ?_) (fun c => ?_)
    · replace h := h.1 c
      refine st_iconst (pc' := 20) dX11_status_19 rfl ?_
      exact st_iret (ty := .int) dX11_status_20 rfl rfl rfl h
    · replace h := h.2 c
      refine st_aload_n (pc' := 11) dX11_status_10 rfl rfl (j := 0) rfl ?_
      refine G_X11_94_0 dX11_status_11 (pc' := 14) rfl rfl ?_
      refine st_iload_n (pc' := 15) dX11_status_14 rfl rfl (j := 1) rfl ?_
      obtain ⟨e2, h⟩ := h
      refine st_iaload (pc' := 16) (v := (gi I 73 (x1).toNat)) dX11_status_15 rfl L_73 (by decide) e2 (show gi I 73 (x1).toNat = (gi I 73 (x1).toNat) from rfl) ?_
      refine st_goto (pc' := 20) dX11_status_16 (by decide) ?_
      exact st_iret (ty := .int) dX11_status_20 rfl rfl rfl h
set_option maxRecDepth 20000 in
set_option maxHeartbeats 4000000 in
theorem B_X11_table_0 {k : Nat} {P : Option Nat} {I : Nat → Nat → Int32} {J : Nat → Nat → Int64} {x1 : Int} {x2 : Int} {Q : Option AV → Mem → Prop} (hk : 1 ≤ k) (h : inR x1 ∧ (((0 ≤ x1 ∧ x1 < gi I 6 (3 : Int).toNat) → (inR x2 ∧ ((x2 = 0 → ((0 ≤ x1 ∧ x1 < 5) ∧ (Q (some (vI (gi I 15 (x1).toNat))) (mem (P, some 5, some 22) I J)))) ∧ (¬ x2 = 0 → ((x2 = 1 → (WPm (k - 1) LAY m_X2_sittingAt [vR (some 4), vI x1] (mem (P, some 5, some 22) I J) (retI (fun v4 I5 J6 => Q (some (vI v4)) (mem (P, some 5, some 22) I5 J6)) (P, some 5, some 22)))) ∧ (¬ x2 = 1 → ((x2 = 2 → ((0 ≤ x1 ∧ x1 < 5) ∧ (WPm (k - 1) LAY m_X9_lightAt [vR (some 36), vI x1, vI (gi I 15 (x1).toNat)] (mem (P, some 5, some 22) I J) (retI (fun v8 I9 J10 => Q (some (vI v8)) (mem (P, some 5, some 22) I9 J10)) (P, some 5, some 22))))) ∧ (¬ x2 = 2 → (Q (some (vI (-1))) (mem (P, some 5, some 22) I J)))))))))) ∧ (¬ (0 ≤ x1 ∧ x1 < gi I 6 (3 : Int).toNat) → (Q (some (vI (-1))) (mem (P, some 5, some 22) I J))))) : WP k LAY m_X11_table 0 [(0, vR (some 0)), (1, vI x1), (2, vI x2)] [] (mem (P, some 5, some 22) I J) Q := by
  refine st_aload_n (pc' := 1) dX11_table_0 rfl rfl (j := 0) rfl ?_
  refine G_X11_33_0 dX11_table_1 (pc' := 4) rfl rfl ?_
  refine G_X11_121_4 dX11_table_4 (pc' := 7) rfl rfl ?_
  refine st_iconst (pc' := 8) dX11_table_7 rfl ?_
  refine st_iload_n (pc' := 9) dX11_table_8 rfl rfl (j := 1) rfl ?_
  obtain ⟨e1, h⟩ := h
  refine st_callV (pc' := 12) (kc := k - 1) (E' := LAY) (cal := m_X7_holds) (n := 2) (as := [vI 3, vI x1]) (S := []) dX11_table_9 rfl l_X11_155 k_X7_holds rfl L_5 c_X7 rfl rfl (Nat.le_of_ble_eq_true rfl) (by omega) ⟨Nat.le_refl _, Nat.le_refl _, Nat.le_refl _, Nat.le_refl _⟩ (Q1 := fun r M' => WP k LAY m_X11_table 12 [(0, vR (some 0)), (1, vI x1), (2, vI x2)] (r.toList ++ []) M' Q) (S_X7_holds_5 (by omega) (by decide) e1 ?_) (fun r M' q => q)
  change WP _ LAY m_X11_table 12 [(0, vR (some 0)), (1, vI x1), (2, vI x2)] [vI (b2i (0 ≤ x1 ∧ x1 < gi I 6 (3 : Int).toNat))] (mem (P, some 5, some 22) I J) Q
  refine st_if_ne (tg := 17) (pc' := 15) dX11_table_12 (by decide) rfl (b2i_in _) (fun c => ?_) (fun c => ?_)
  · replace h := h.1 (b2i_t.mp c)
    refine st_iload_n (pc' := 18) dX11_table_17 rfl rfl (j := 2) rfl ?_
    obtain ⟨e2, h⟩ := h
    by_cases c : x2 = 0
    · replace h := h.1 c
      refine st_tblIn (pc' := 44) (off := 26) dX11_table_18 e2 (by omega) (by rw [c]; rfl) (by decide) ?_
      refine st_aload_n (pc' := 45) dX11_table_44 rfl rfl (j := 0) rfl ?_
      refine G_X11_33_0 dX11_table_45 (pc' := 48) rfl rfl ?_
      refine G_X11_121_4 dX11_table_48 (pc' := 51) rfl rfl ?_
      refine G_X11_196_5 dX11_table_51 (pc' := 54) rfl rfl ?_
      refine st_iload_n (pc' := 55) dX11_table_54 rfl rfl (j := 1) rfl ?_
      obtain ⟨e3, h⟩ := h
      refine st_iaload (pc' := 56) (v := (gi I 15 (x1).toNat)) dX11_table_55 rfl L_15 (by decide) e3 (show gi I 15 (x1).toNat = (gi I 15 (x1).toNat) from rfl) ?_
      exact st_iret (ty := .int) dX11_table_56 rfl rfl rfl h
    replace h := h.2 c
    have c0 := c
    clear c
    by_cases c : x2 = 1
    · replace h := h.1 c
      refine st_tblIn (pc' := 57) (off := 39) dX11_table_18 e2 (by omega) (by rw [c]; rfl) (by decide) ?_
      refine st_aload_n (pc' := 58) dX11_table_57 rfl rfl (j := 0) rfl ?_
      refine G_X11_33_0 dX11_table_58 (pc' := 61) rfl rfl ?_
      refine st_iload_n (pc' := 62) dX11_table_61 rfl rfl (j := 1) rfl ?_
      refine st_callV (pc' := 65) (kc := k - 1) (E' := LAY) (cal := m_X2_sittingAt) (n := 1) (as := [vI x1]) (S := []) dX11_table_62 rfl l_X11_199 k_X2_sittingAt rfl L_4 c_X2 rfl rfl (Nat.le_of_ble_eq_true rfl) (by omega) ⟨Nat.le_refl _, Nat.le_refl _, Nat.le_refl _, Nat.le_refl _⟩ h (fun r M' q => ?_)
      obtain ⟨v4, I5, J6, rfl, rfl, h⟩ := q
      change WP _ LAY m_X11_table 65 [(0, vR (some 0)), (1, vI x1), (2, vI x2)] [vI v4] (mem (P, some 5, some 22) I5 J6) Q
      exact st_iret (ty := .int) dX11_table_65 rfl rfl rfl h
    replace h := h.2 c
    have c1 := c
    clear c
    by_cases c : x2 = 2
    · replace h := h.1 c
      refine st_tblIn (pc' := 66) (off := 48) dX11_table_18 e2 (by omega) (by rw [c]; rfl) (by decide) ?_
      refine st_aload_n (pc' := 67) dX11_table_66 rfl rfl (j := 0) rfl ?_
      refine G_X11_46_0 dX11_table_67 (pc' := 70) rfl rfl ?_
      refine st_iload_n (pc' := 71) dX11_table_70 rfl rfl (j := 1) rfl ?_
      refine st_aload_n (pc' := 72) dX11_table_71 rfl rfl (j := 0) rfl ?_
      refine G_X11_33_0 dX11_table_72 (pc' := 75) rfl rfl ?_
      refine G_X11_121_4 dX11_table_75 (pc' := 78) rfl rfl ?_
      refine G_X11_196_5 dX11_table_78 (pc' := 81) rfl rfl ?_
      refine st_iload_n (pc' := 82) dX11_table_81 rfl rfl (j := 1) rfl ?_
      obtain ⟨e7, h⟩ := h
      refine st_iaload (pc' := 83) (v := (gi I 15 (x1).toNat)) dX11_table_82 rfl L_15 (by decide) e7 (show gi I 15 (x1).toNat = (gi I 15 (x1).toNat) from rfl) ?_
      refine st_callV (pc' := 86) (kc := k - 1) (E' := LAY) (cal := m_X9_lightAt) (n := 2) (as := [vI x1, vI (gi I 15 (x1).toNat)]) (S := []) dX11_table_83 rfl l_X11_202 k_X9_lightAt rfl L_36 c_X9 rfl rfl (Nat.le_of_ble_eq_true rfl) (by omega) ⟨Nat.le_refl _, Nat.le_refl _, Nat.le_refl _, Nat.le_refl _⟩ h (fun r M' q => ?_)
      obtain ⟨v8, I9, J10, rfl, rfl, h⟩ := q
      change WP _ LAY m_X11_table 86 [(0, vR (some 0)), (1, vI x1), (2, vI x2)] [vI v8] (mem (P, some 5, some 22) I9 J10) Q
      exact st_iret (ty := .int) dX11_table_86 rfl rfl rfl h
    replace h := h.2 c
    have c2 := c
    clear c
    have go : WP k LAY m_X11_table 87 [(0, vR (some 0)), (1, vI x1), (2, vI x2)] [] (mem (P, some 5, some 22) I J) Q := by
      refine st_iconst (pc' := 88) dX11_table_87 rfl ?_
      exact st_iret (ty := .int) dX11_table_88 rfl rfl rfl h
    exact st_tblOut (pc' := 87) dX11_table_18 e2 (by omega) (by decide) go
  · replace h := h.2 (b2i_f.mp c)
    refine st_iconst (pc' := 16) dX11_table_15 rfl ?_
    exact st_iret (ty := .int) dX11_table_16 rfl rfl rfl h
set_option maxRecDepth 20000 in
set_option maxHeartbeats 4000000 in
theorem B_X11_takes_0 {k : Nat} {P : Option Nat} {I : Nat → Nat → Int32} {J : Nat → Nat → Int64} {x1 : Int} {x2 : Int} {Q : Option AV → Mem → Prop} (hk : 1 ≤ k) (h : inR x1 ∧ ((¬ (0 ≤ x1 ∧ x1 < gi I 6 (2 : Int).toNat) → (Q (some (vI (-1))) (mem (P, some 5, some 22) I J))) ∧ ((0 ≤ x1 ∧ x1 < gi I 6 (2 : Int).toNat) → (inR x2 ∧ (((0 ≤ x2 ∧ x2 < gi I 6 (1 : Int).toNat) → (WPm (k - 1) LAY m_X9_setNow [vR (some 36), vI x1] (mem (P, some 5, some 22) I J) (retV (fun I4 J5 => WPm (k - 1) LAY m_X9_pageMinutes [vR (some 36), vI x2] (mem (P, some 5, some 22) I4 J5) (retI (fun v6 I7 J8 => Q (some (vI v6)) (mem (P, some 5, some 22) I7 J8)) (P, some 5, some 22))) (P, some 5, some 22)))) ∧ (¬ (0 ≤ x2 ∧ x2 < gi I 6 (1 : Int).toNat) → (Q (some (vI (-1))) (mem (P, some 5, some 22) I J)))))))) : WP k LAY m_X11_takes 0 [(0, vR (some 0)), (1, vI x1), (2, vI x2)] [] (mem (P, some 5, some 22) I J) Q := by
  refine st_aload_n (pc' := 1) dX11_takes_0 rfl rfl (j := 0) rfl ?_
  refine G_X11_33_0 dX11_takes_1 (pc' := 4) rfl rfl ?_
  refine G_X11_121_4 dX11_takes_4 (pc' := 7) rfl rfl ?_
  refine st_iconst (pc' := 8) dX11_takes_7 rfl ?_
  refine st_iload_n (pc' := 9) dX11_takes_8 rfl rfl (j := 1) rfl ?_
  obtain ⟨e1, h⟩ := h
  refine st_callV (pc' := 12) (kc := k - 1) (E' := LAY) (cal := m_X7_holds) (n := 2) (as := [vI 2, vI x1]) (S := []) dX11_takes_9 rfl l_X11_155 k_X7_holds rfl L_5 c_X7 rfl rfl (Nat.le_of_ble_eq_true rfl) (by omega) ⟨Nat.le_refl _, Nat.le_refl _, Nat.le_refl _, Nat.le_refl _⟩ (Q1 := fun r M' => WP k LAY m_X11_takes 12 [(0, vR (some 0)), (1, vI x1), (2, vI x2)] (r.toList ++ []) M' Q) (S_X7_holds_5 (by omega) (by decide) e1 ?_) (fun r M' q => q)
  change WP _ LAY m_X11_takes 12 [(0, vR (some 0)), (1, vI x1), (2, vI x2)] [vI (b2i (0 ≤ x1 ∧ x1 < gi I 6 (2 : Int).toNat))] (mem (P, some 5, some 22) I J) Q
  refine st_if_eq (tg := 30) (pc' := 15) dX11_takes_12 (by decide) rfl (b2i_in _) (fun c => ?_) (fun c => ?_)
  · replace h := h.1 (b2i_f.mp c)
    refine st_iconst (pc' := 31) dX11_takes_30 rfl ?_
    exact st_iret (ty := .int) dX11_takes_31 rfl rfl rfl h
  · replace h := h.2 (b2i_t.mp c)
    refine st_aload_n (pc' := 16) dX11_takes_15 rfl rfl (j := 0) rfl ?_
    refine G_X11_33_0 dX11_takes_16 (pc' := 19) rfl rfl ?_
    refine G_X11_121_4 dX11_takes_19 (pc' := 22) rfl rfl ?_
    refine st_iconst (pc' := 23) dX11_takes_22 rfl ?_
    refine st_iload_n (pc' := 24) dX11_takes_23 rfl rfl (j := 2) rfl ?_
    obtain ⟨e2, h⟩ := h
    refine st_callV (pc' := 27) (kc := k - 1) (E' := LAY) (cal := m_X7_holds) (n := 2) (as := [vI 1, vI x2]) (S := []) dX11_takes_24 rfl l_X11_155 k_X7_holds rfl L_5 c_X7 rfl rfl (Nat.le_of_ble_eq_true rfl) (by omega) ⟨Nat.le_refl _, Nat.le_refl _, Nat.le_refl _, Nat.le_refl _⟩ (Q1 := fun r M' => WP k LAY m_X11_takes 27 [(0, vR (some 0)), (1, vI x1), (2, vI x2)] (r.toList ++ []) M' Q) (S_X7_holds_5 (by omega) (by decide) e2 ?_) (fun r M' q => q)
    change WP _ LAY m_X11_takes 27 [(0, vR (some 0)), (1, vI x1), (2, vI x2)] [vI (b2i (0 ≤ x2 ∧ x2 < gi I 6 (1 : Int).toNat))] (mem (P, some 5, some 22) I J) Q
    refine st_if_ne (tg := 32) (pc' := 30) dX11_takes_27 (by decide) rfl (b2i_in _) (fun c => ?_) (fun c => ?_)
    · replace h := h.1 (b2i_t.mp c)
      refine st_aload_n (pc' := 33) dX11_takes_32 rfl rfl (j := 0) rfl ?_
      refine G_X11_46_0 dX11_takes_33 (pc' := 36) rfl rfl ?_
      refine st_iload_n (pc' := 37) dX11_takes_36 rfl rfl (j := 1) rfl ?_
      refine st_callV (pc' := 40) (kc := k - 1) (E' := LAY) (cal := m_X9_setNow) (n := 1) (as := [vI x1]) (S := []) dX11_takes_37 rfl l_X11_205 k_X9_setNow rfl L_36 c_X9 rfl rfl (Nat.le_of_ble_eq_true rfl) (by omega) ⟨Nat.le_refl _, Nat.le_refl _, Nat.le_refl _, Nat.le_refl _⟩ h (fun r M' q => ?_)
      obtain ⟨I4, J5, rfl, rfl, h⟩ := q
      change WP _ LAY m_X11_takes 40 [(0, vR (some 0)), (1, vI x1), (2, vI x2)] [] (mem (P, some 5, some 22) I4 J5) Q
      refine st_aload_n (pc' := 41) dX11_takes_40 rfl rfl (j := 0) rfl ?_
      refine G_X11_46_0 dX11_takes_41 (pc' := 44) rfl rfl ?_
      refine st_iload_n (pc' := 45) dX11_takes_44 rfl rfl (j := 2) rfl ?_
      refine st_callV (pc' := 48) (kc := k - 1) (E' := LAY) (cal := m_X9_pageMinutes) (n := 1) (as := [vI x2]) (S := []) dX11_takes_45 rfl l_X11_208 k_X9_pageMinutes rfl L_36 c_X9 rfl rfl (Nat.le_of_ble_eq_true rfl) (by omega) ⟨Nat.le_refl _, Nat.le_refl _, Nat.le_refl _, Nat.le_refl _⟩ h (fun r M' q => ?_)
      obtain ⟨v6, I7, J8, rfl, rfl, h⟩ := q
      change WP _ LAY m_X11_takes 48 [(0, vR (some 0)), (1, vI x1), (2, vI x2)] [vI v6] (mem (P, some 5, some 22) I7 J8) Q
      exact st_iret (ty := .int) dX11_takes_48 rfl rfl rfl h
    · replace h := h.2 (b2i_f.mp c)
      refine st_iconst (pc' := 31) dX11_takes_30 rfl ?_
      exact st_iret (ty := .int) dX11_takes_31 rfl rfl rfl h
set_option maxRecDepth 20000 in
set_option maxHeartbeats 4000000 in
theorem B_X11_tell_0 {k : Nat} {P : Option Nat} {I : Nat → Nat → Int32} {J : Nat → Nat → Int64} {x1 : Int} {x2 : Int} {x3 : Int} {Q : Option AV → Mem → Prop} (hk : 2 ≤ k) (h : inR x1 ∧ ((¬ (0 ≤ x1 ∧ x1 < gi I 6 (2 : Int).toNat) → (Q (some (vI 0)) (mem (P, some 5, some 22) (si I 73 2 ((gi I 73 2) + 1)) J))) ∧ ((0 ≤ x1 ∧ x1 < gi I 6 (2 : Int).toNat) → (inR x2 ∧ ((¬ (0 ≤ x2 ∧ x2 < gi I 6 (2 : Int).toNat) → (Q (some (vI 0)) (mem (P, some 5, some 22) (si I 73 2 ((gi I 73 2) + 1)) J))) ∧ ((0 ≤ x2 ∧ x2 < gi I 6 (2 : Int).toNat) → (inR x3 ∧ ((¬ (0 ≤ x3 ∧ x3 < gi I 6 (1 : Int).toNat) → (Q (some (vI 0)) (mem (P, some 5, some 22) (si I 73 2 ((gi I 73 2) + 1)) J))) ∧ ((0 ≤ x3 ∧ x3 < gi I 6 (1 : Int).toNat) → (WPm (k - 1) LAY m_X11_mayTell [vR (some 0), vI x1, vI x2, vI x3] (mem (P, some 5, some 22) I J) (retI (fun v4 I5 J6 => inR v4 ∧ ((¬ v4 = 0 → (((0 : Int) ≤ ((gi I5 4 4) * 87) ∧ ((gi I5 4 4) * 87) + 87 ≤ 1740) ∧ (inR ((gi I5 4 5) + 1) ∧ ((0 ≤ ((3 + (x2 * 14)) + 2) ∧ ((3 + (x2 * 14)) + 2) < 87) ∧ (WPm (k - 1) LAY m_X2_strike [vR (some 4), vI x2, vI x3] (mem (P, some 5, some 22) (si (si (si (si (fc I5 19 0 21 ((gi I5 4 4) * 87).toNat 87) 4 4 (rem32 ((gi I5 4 4) + 1) 20)) 4 5 (min 20 ((gi I5 4 5) + 1))) 4 6 ((gi I5 4 6) + 1)) 19 ((3 + (x2 * 14)) + 2).toNat (or32 (gi (si (si (si (fc I5 19 0 21 ((gi I5 4 4) * 87).toNat 87) 4 4 (rem32 ((gi I5 4 4) + 1) 20)) 4 5 (min 20 ((gi I5 4 5) + 1))) 4 6 ((gi I5 4 6) + 1)) 19 ((3 + (x2 * 14)) + 2).toNat) (shl32 1 x3))) J6) (retV (fun I12 J13 => Q (some (vI 1)) (mem (P, some 5, some 22) I12 J13)) (P, some 5, some 22))))))) ∧ (v4 = 0 → (Q (some (vI 0)) (mem (P, some 5, some 22) (si I5 73 2 ((gi I5 73 2) + 1)) J6))))) (P, some 5, some 22)))))))))))) : WP k LAY m_X11_tell 0 [(0, vR (some 0)), (1, vI x1), (2, vI x2), (3, vI x3)] [] (mem (P, some 5, some 22) I J) Q := by
  refine st_aload_n (pc' := 1) dX11_tell_0 rfl rfl (j := 0) rfl ?_
  refine G_X11_33_0 dX11_tell_1 (pc' := 4) rfl rfl ?_
  refine G_X11_121_4 dX11_tell_4 (pc' := 7) rfl rfl ?_
  refine st_iconst (pc' := 8) dX11_tell_7 rfl ?_
  refine st_iload_n (pc' := 9) dX11_tell_8 rfl rfl (j := 1) rfl ?_
  obtain ⟨e1, h⟩ := h
  refine st_callV (pc' := 12) (kc := k - 1) (E' := LAY) (cal := m_X7_holds) (n := 2) (as := [vI 2, vI x1]) (S := []) dX11_tell_9 rfl l_X11_155 k_X7_holds rfl L_5 c_X7 rfl rfl (Nat.le_of_ble_eq_true rfl) (by omega) ⟨Nat.le_refl _, Nat.le_refl _, Nat.le_refl _, Nat.le_refl _⟩ (Q1 := fun r M' => WP k LAY m_X11_tell 12 [(0, vR (some 0)), (1, vI x1), (2, vI x2), (3, vI x3)] (r.toList ++ []) M' Q) (S_X7_holds_5 (by omega) (by decide) e1 ?_) (fun r M' q => q)
  change WP _ LAY m_X11_tell 12 [(0, vR (some 0)), (1, vI x1), (2, vI x2), (3, vI x3)] [vI (b2i (0 ≤ x1 ∧ x1 < gi I 6 (2 : Int).toNat))] (mem (P, some 5, some 22) I J) Q
  refine st_if_eq (tg := 55) (pc' := 15) dX11_tell_12 (by decide) rfl (b2i_in _) (fun c => ?_) (fun c => ?_)
  · replace h := h.1 (b2i_f.mp c)
    refine st_aload_n (pc' := 56) dX11_tell_55 rfl rfl (j := 0) rfl ?_
    refine st_iconst (pc' := 57) dX11_tell_56 rfl ?_
    refine st_callV (pc' := 60) (kc := k - 1) (E' := LAY) (cal := m_X11_deny) (n := 1) (as := [vI 2]) (S := []) dX11_tell_57 rfl l_X11_113 k_X11_deny rfl L_0 c_X11 rfl rfl (Nat.le_of_ble_eq_true rfl) (by omega) ⟨Nat.le_refl _, Nat.le_refl _, Nat.le_refl _, Nat.le_refl _⟩ (Q1 := fun r M' => WP k LAY m_X11_tell 60 [(0, vR (some 0)), (1, vI x1), (2, vI x2), (3, vI x3)] (r.toList ++ []) M' Q) (WPm.of k_X11_deny.1 (Nat.le_of_ble_eq_true rfl) (B_X11_deny_0 (by omega) ?_)) (fun r M' q => q)
    refine ⟨by decide, ?_⟩
    change WP _ LAY m_X11_tell 60 [(0, vR (some 0)), (1, vI x1), (2, vI x2), (3, vI x3)] [vI 0] (mem (P, some 5, some 22) (si I 73 2 ((gi I 73 2) + 1)) J) Q
    exact st_iret (ty := .boolean) dX11_tell_60 rfl (by decide) rfl h
  · replace h := h.2 (b2i_t.mp c)
    refine st_aload_n (pc' := 16) dX11_tell_15 rfl rfl (j := 0) rfl ?_
    refine G_X11_33_0 dX11_tell_16 (pc' := 19) rfl rfl ?_
    refine G_X11_121_4 dX11_tell_19 (pc' := 22) rfl rfl ?_
    refine st_iconst (pc' := 23) dX11_tell_22 rfl ?_
    refine st_iload_n (pc' := 24) dX11_tell_23 rfl rfl (j := 2) rfl ?_
    obtain ⟨e2, h⟩ := h
    refine st_callV (pc' := 27) (kc := k - 1) (E' := LAY) (cal := m_X7_holds) (n := 2) (as := [vI 2, vI x2]) (S := []) dX11_tell_24 rfl l_X11_155 k_X7_holds rfl L_5 c_X7 rfl rfl (Nat.le_of_ble_eq_true rfl) (by omega) ⟨Nat.le_refl _, Nat.le_refl _, Nat.le_refl _, Nat.le_refl _⟩ (Q1 := fun r M' => WP k LAY m_X11_tell 27 [(0, vR (some 0)), (1, vI x1), (2, vI x2), (3, vI x3)] (r.toList ++ []) M' Q) (S_X7_holds_5 (by omega) (by decide) e2 ?_) (fun r M' q => q)
    change WP _ LAY m_X11_tell 27 [(0, vR (some 0)), (1, vI x1), (2, vI x2), (3, vI x3)] [vI (b2i (0 ≤ x2 ∧ x2 < gi I 6 (2 : Int).toNat))] (mem (P, some 5, some 22) I J) Q
    refine st_if_eq (tg := 55) (pc' := 30) dX11_tell_27 (by decide) rfl (b2i_in _) (fun c => ?_) (fun c => ?_)
    · replace h := h.1 (b2i_f.mp c)
      refine st_aload_n (pc' := 56) dX11_tell_55 rfl rfl (j := 0) rfl ?_
      refine st_iconst (pc' := 57) dX11_tell_56 rfl ?_
      refine st_callV (pc' := 60) (kc := k - 1) (E' := LAY) (cal := m_X11_deny) (n := 1) (as := [vI 2]) (S := []) dX11_tell_57 rfl l_X11_113 k_X11_deny rfl L_0 c_X11 rfl rfl (Nat.le_of_ble_eq_true rfl) (by omega) ⟨Nat.le_refl _, Nat.le_refl _, Nat.le_refl _, Nat.le_refl _⟩ (Q1 := fun r M' => WP k LAY m_X11_tell 60 [(0, vR (some 0)), (1, vI x1), (2, vI x2), (3, vI x3)] (r.toList ++ []) M' Q) (WPm.of k_X11_deny.1 (Nat.le_of_ble_eq_true rfl) (B_X11_deny_0 (by omega) ?_)) (fun r M' q => q)
      refine ⟨by decide, ?_⟩
      change WP _ LAY m_X11_tell 60 [(0, vR (some 0)), (1, vI x1), (2, vI x2), (3, vI x3)] [vI 0] (mem (P, some 5, some 22) (si I 73 2 ((gi I 73 2) + 1)) J) Q
      exact st_iret (ty := .boolean) dX11_tell_60 rfl (by decide) rfl h
    · replace h := h.2 (b2i_t.mp c)
      refine st_aload_n (pc' := 31) dX11_tell_30 rfl rfl (j := 0) rfl ?_
      refine G_X11_33_0 dX11_tell_31 (pc' := 34) rfl rfl ?_
      refine G_X11_121_4 dX11_tell_34 (pc' := 37) rfl rfl ?_
      refine st_iconst (pc' := 38) dX11_tell_37 rfl ?_
      refine st_iload_n (pc' := 39) dX11_tell_38 rfl rfl (j := 3) rfl ?_
      obtain ⟨e3, h⟩ := h
      refine st_callV (pc' := 42) (kc := k - 1) (E' := LAY) (cal := m_X7_holds) (n := 2) (as := [vI 1, vI x3]) (S := []) dX11_tell_39 rfl l_X11_155 k_X7_holds rfl L_5 c_X7 rfl rfl (Nat.le_of_ble_eq_true rfl) (by omega) ⟨Nat.le_refl _, Nat.le_refl _, Nat.le_refl _, Nat.le_refl _⟩ (Q1 := fun r M' => WP k LAY m_X11_tell 42 [(0, vR (some 0)), (1, vI x1), (2, vI x2), (3, vI x3)] (r.toList ++ []) M' Q) (S_X7_holds_5 (by omega) (by decide) e3 ?_) (fun r M' q => q)
      change WP _ LAY m_X11_tell 42 [(0, vR (some 0)), (1, vI x1), (2, vI x2), (3, vI x3)] [vI (b2i (0 ≤ x3 ∧ x3 < gi I 6 (1 : Int).toNat))] (mem (P, some 5, some 22) I J) Q
      refine st_if_eq (tg := 55) (pc' := 45) dX11_tell_42 (by decide) rfl (b2i_in _) (fun c => ?_) (fun c => ?_)
      · replace h := h.1 (b2i_f.mp c)
        refine st_aload_n (pc' := 56) dX11_tell_55 rfl rfl (j := 0) rfl ?_
        refine st_iconst (pc' := 57) dX11_tell_56 rfl ?_
        refine st_callV (pc' := 60) (kc := k - 1) (E' := LAY) (cal := m_X11_deny) (n := 1) (as := [vI 2]) (S := []) dX11_tell_57 rfl l_X11_113 k_X11_deny rfl L_0 c_X11 rfl rfl (Nat.le_of_ble_eq_true rfl) (by omega) ⟨Nat.le_refl _, Nat.le_refl _, Nat.le_refl _, Nat.le_refl _⟩ (Q1 := fun r M' => WP k LAY m_X11_tell 60 [(0, vR (some 0)), (1, vI x1), (2, vI x2), (3, vI x3)] (r.toList ++ []) M' Q) (WPm.of k_X11_deny.1 (Nat.le_of_ble_eq_true rfl) (B_X11_deny_0 (by omega) ?_)) (fun r M' q => q)
        refine ⟨by decide, ?_⟩
        change WP _ LAY m_X11_tell 60 [(0, vR (some 0)), (1, vI x1), (2, vI x2), (3, vI x3)] [vI 0] (mem (P, some 5, some 22) (si I 73 2 ((gi I 73 2) + 1)) J) Q
        exact st_iret (ty := .boolean) dX11_tell_60 rfl (by decide) rfl h
      · replace h := h.2 (b2i_t.mp c)
        refine st_aload_n (pc' := 46) dX11_tell_45 rfl rfl (j := 0) rfl ?_
        refine st_iload_n (pc' := 47) dX11_tell_46 rfl rfl (j := 1) rfl ?_
        refine st_iload_n (pc' := 48) dX11_tell_47 rfl rfl (j := 2) rfl ?_
        refine st_iload_n (pc' := 49) dX11_tell_48 rfl rfl (j := 3) rfl ?_
        refine st_callV (pc' := 52) (kc := k - 1) (E' := LAY) (cal := m_X11_mayTell) (n := 3) (as := [vI x1, vI x2, vI x3]) (S := []) dX11_tell_49 rfl l_X11_256 k_X11_mayTell rfl L_0 c_X11 rfl rfl (Nat.le_of_ble_eq_true rfl) (by omega) ⟨Nat.le_refl _, Nat.le_refl _, Nat.le_refl _, Nat.le_refl _⟩ h (fun r M' q => ?_)
        obtain ⟨v4, I5, J6, rfl, rfl, h⟩ := q
        change WP _ LAY m_X11_tell 52 [(0, vR (some 0)), (1, vI x1), (2, vI x2), (3, vI x3)] [vI v4] (mem (P, some 5, some 22) I5 J6) Q
        obtain ⟨e7, h⟩ := h
        refine st_if_ne (tg := 61) (pc' := 55) dX11_tell_52 (by decide) rfl e7 (fun c => ?_) (fun c => ?_)
        · replace h := h.1 c
          refine st_aload_n (pc' := 62) dX11_tell_61 rfl rfl (j := 0) rfl ?_
          refine G_X11_33_0 dX11_tell_62 (pc' := 65) rfl rfl ?_
          refine st_callV (pc' := 68) (kc := k - 1) (E' := LAY) (cal := m_X2_remember) (n := 0) (as := []) (S := []) dX11_tell_65 rfl l_X11_242 k_X2_remember rfl L_4 c_X2 rfl rfl (Nat.le_of_ble_eq_true rfl) (by omega) ⟨Nat.le_refl _, Nat.le_refl _, Nat.le_refl _, Nat.le_refl _⟩ (Q1 := fun r M' => WP k LAY m_X11_tell 68 [(0, vR (some 0)), (1, vI x1), (2, vI x2), (3, vI x3)] (r.toList ++ []) M' Q) (WPm.of k_X2_remember.1 (Nat.le_of_ble_eq_true rfl) (B_X2_remember_0 (by omega) ?_)) (fun r M' q => q)
          obtain ⟨e8, h⟩ := h
          refine ⟨e8, ?_⟩
          obtain ⟨e9, h⟩ := h
          refine ⟨e9, ?_⟩
          change WP _ LAY m_X11_tell 68 [(0, vR (some 0)), (1, vI x1), (2, vI x2), (3, vI x3)] [] (mem (P, some 5, some 22) (si (si (si (fc I5 19 0 21 ((gi I5 4 4) * 87).toNat 87) 4 4 (rem32 ((gi I5 4 4) + 1) 20)) 4 5 (min 20 ((gi I5 4 5) + 1))) 4 6 ((gi I5 4 6) + 1)) J6) Q
          refine st_aload_n (pc' := 69) dX11_tell_68 rfl rfl (j := 0) rfl ?_
          refine G_X11_33_0 dX11_tell_69 (pc' := 72) rfl rfl ?_
          refine st_iload_n (pc' := 73) dX11_tell_72 rfl rfl (j := 2) rfl ?_
          refine st_iconst (pc' := 74) dX11_tell_73 rfl ?_
          refine st_aload_n (pc' := 75) dX11_tell_74 rfl rfl (j := 0) rfl ?_
          refine G_X11_33_0 dX11_tell_75 (pc' := 78) rfl rfl ?_
          refine st_iload_n (pc' := 79) dX11_tell_78 rfl rfl (j := 2) rfl ?_
          refine st_iconst (pc' := 80) dX11_tell_79 rfl ?_
          refine st_callV (pc' := 83) (kc := k - 1) (E' := LAY) (cal := m_X2_of) (n := 2) (as := [vI x2, vI 2]) (S := [vI 2, vI x2, vR (some 4)]) dX11_tell_80 rfl l_X11_183 k_X2_of rfl L_4 c_X2 rfl rfl (Nat.le_of_ble_eq_true rfl) (by omega) ⟨Nat.le_refl _, Nat.le_refl _, Nat.le_refl _, Nat.le_refl _⟩ (Q1 := fun r M' => WP k LAY m_X11_tell 83 [(0, vR (some 0)), (1, vI x1), (2, vI x2), (3, vI x3)] (r.toList ++ [vI 2, vI x2, vR (some 4)]) M' Q) (WPm.of k_X2_of.1 (Nat.le_of_ble_eq_true rfl) (B_X2_of_0 (by omega) ?_)) (fun r M' q => q)
          obtain ⟨e10, h⟩ := h
          refine ⟨e10, ?_⟩
          change WP _ LAY m_X11_tell 83 [(0, vR (some 0)), (1, vI x1), (2, vI x2), (3, vI x3)] [vI (gi (si (si (si (fc I5 19 0 21 ((gi I5 4 4) * 87).toNat 87) 4 4 (rem32 ((gi I5 4 4) + 1) 20)) 4 5 (min 20 ((gi I5 4 5) + 1))) 4 6 ((gi I5 4 6) + 1)) 19 ((3 + (x2 * 14)) + 2).toNat), vI 2, vI x2, vR (some 4)] (mem (P, some 5, some 22) (si (si (si (fc I5 19 0 21 ((gi I5 4 4) * 87).toNat 87) 4 4 (rem32 ((gi I5 4 4) + 1) 20)) 4 5 (min 20 ((gi I5 4 5) + 1))) 4 6 ((gi I5 4 6) + 1)) J6) Q
          refine st_iconst (pc' := 84) dX11_tell_83 rfl ?_
          refine st_iload_n (pc' := 85) dX11_tell_84 rfl rfl (j := 3) rfl ?_
          refine st_ishl (pc' := 86) (z := (shl32 1 x3)) dX11_tell_85 rfl rfl ?_
          refine st_ior (pc' := 87) (z := (or32 (gi (si (si (si (fc I5 19 0 21 ((gi I5 4 4) * 87).toNat 87) 4 4 (rem32 ((gi I5 4 4) + 1) 20)) 4 5 (min 20 ((gi I5 4 5) + 1))) 4 6 ((gi I5 4 6) + 1)) 19 ((3 + (x2 * 14)) + 2).toNat) (shl32 1 x3))) dX11_tell_86 rfl rfl ?_
          refine st_callV (pc' := 90) (kc := k - 1) (E' := LAY) (cal := m_X2_set) (n := 3) (as := [vI x2, vI 2, vI (or32 (gi (si (si (si (fc I5 19 0 21 ((gi I5 4 4) * 87).toNat 87) 4 4 (rem32 ((gi I5 4 4) + 1) 20)) 4 5 (min 20 ((gi I5 4 5) + 1))) 4 6 ((gi I5 4 6) + 1)) 19 ((3 + (x2 * 14)) + 2).toNat) (shl32 1 x3))]) (S := []) dX11_tell_87 rfl l_X11_245 k_X2_set rfl L_4 c_X2 rfl rfl (Nat.le_of_ble_eq_true rfl) (by omega) ⟨Nat.le_refl _, Nat.le_refl _, Nat.le_refl _, Nat.le_refl _⟩ (Q1 := fun r M' => WP k LAY m_X11_tell 90 [(0, vR (some 0)), (1, vI x1), (2, vI x2), (3, vI x3)] (r.toList ++ []) M' Q) (WPm.of k_X2_set.1 (Nat.le_of_ble_eq_true rfl) (B_X2_set_0 (by omega) ?_)) (fun r M' q => q)
          refine ⟨e10, ?_⟩
          change WP _ LAY m_X11_tell 90 [(0, vR (some 0)), (1, vI x1), (2, vI x2), (3, vI x3)] [] (mem (P, some 5, some 22) (si (si (si (si (fc I5 19 0 21 ((gi I5 4 4) * 87).toNat 87) 4 4 (rem32 ((gi I5 4 4) + 1) 20)) 4 5 (min 20 ((gi I5 4 5) + 1))) 4 6 ((gi I5 4 6) + 1)) 19 ((3 + (x2 * 14)) + 2).toNat (or32 (gi (si (si (si (fc I5 19 0 21 ((gi I5 4 4) * 87).toNat 87) 4 4 (rem32 ((gi I5 4 4) + 1) 20)) 4 5 (min 20 ((gi I5 4 5) + 1))) 4 6 ((gi I5 4 6) + 1)) 19 ((3 + (x2 * 14)) + 2).toNat) (shl32 1 x3))) J6) Q
          refine st_aload_n (pc' := 91) dX11_tell_90 rfl rfl (j := 0) rfl ?_
          refine G_X11_33_0 dX11_tell_91 (pc' := 94) rfl rfl ?_
          refine st_iload_n (pc' := 95) dX11_tell_94 rfl rfl (j := 2) rfl ?_
          refine st_iload_n (pc' := 96) dX11_tell_95 rfl rfl (j := 3) rfl ?_
          refine st_callV (pc' := 99) (kc := k - 1) (E' := LAY) (cal := m_X2_strike) (n := 2) (as := [vI x2, vI x3]) (S := []) dX11_tell_96 rfl l_X11_260 k_X2_strike rfl L_4 c_X2 rfl rfl (Nat.le_of_ble_eq_true rfl) (by omega) ⟨Nat.le_refl _, Nat.le_refl _, Nat.le_refl _, Nat.le_refl _⟩ h (fun r M' q => ?_)
          obtain ⟨I12, J13, rfl, rfl, h⟩ := q
          change WP _ LAY m_X11_tell 99 [(0, vR (some 0)), (1, vI x1), (2, vI x2), (3, vI x3)] [] (mem (P, some 5, some 22) I12 J13) Q
          refine st_iconst (pc' := 100) dX11_tell_99 rfl ?_
          exact st_iret (ty := .boolean) dX11_tell_100 rfl (by decide) rfl h
        · replace h := h.2 c
          refine st_aload_n (pc' := 56) dX11_tell_55 rfl rfl (j := 0) rfl ?_
          refine st_iconst (pc' := 57) dX11_tell_56 rfl ?_
          refine st_callV (pc' := 60) (kc := k - 1) (E' := LAY) (cal := m_X11_deny) (n := 1) (as := [vI 2]) (S := []) dX11_tell_57 rfl l_X11_113 k_X11_deny rfl L_0 c_X11 rfl rfl (Nat.le_of_ble_eq_true rfl) (by omega) ⟨Nat.le_refl _, Nat.le_refl _, Nat.le_refl _, Nat.le_refl _⟩ (Q1 := fun r M' => WP k LAY m_X11_tell 60 [(0, vR (some 0)), (1, vI x1), (2, vI x2), (3, vI x3)] (r.toList ++ []) M' Q) (WPm.of k_X11_deny.1 (Nat.le_of_ble_eq_true rfl) (B_X11_deny_0 (by omega) ?_)) (fun r M' q => q)
          refine ⟨by decide, ?_⟩
          change WP _ LAY m_X11_tell 60 [(0, vR (some 0)), (1, vI x1), (2, vI x2), (3, vI x3)] [vI 0] (mem (P, some 5, some 22) (si I5 73 2 ((gi I5 73 2) + 1)) J6) Q
          exact st_iret (ty := .boolean) dX11_tell_60 rfl (by decide) rfl h
set_option maxRecDepth 20000 in
set_option maxHeartbeats 4000000 in
theorem B_X11_tonight_0 {k : Nat} {P : Option Nat} {I : Nat → Nat → Int32} {J : Nat → Nat → Int64} {x1 : Int} {x2 : Int} {Q : Option AV → Mem → Prop} (hk : 1 ≤ k) (h : inR x1 ∧ ((¬ (0 ≤ x1 ∧ x1 < gi I 6 (2 : Int).toNat) → (Q (some (vI (-1))) (mem (P, some 5, some 22) I J))) ∧ ((0 ≤ x1 ∧ x1 < gi I 6 (2 : Int).toNat) → (inR x2 ∧ ((x2 < 0 → (Q (some (vI (-1))) (mem (P, some 5, some 22) I J))) ∧ (¬ x2 < 0 → ((x2 ≤ 4 → (WPm (k - 1) LAY m_X1_foresee [vR (some 42), vI (-1)] (mem (P, some 5, some 22) I J) (retV (fun I4 J5 => (x2 = 0 → ((0 ≤ x1 ∧ x1 < 6) ∧ (Q (some (vI (gi I4 45 (x1).toNat))) (mem (P, some 5, some 22) I4 J5)))) ∧ (¬ x2 = 0 → ((x2 = 1 → ((0 ≤ x1 ∧ x1 < 6) ∧ (Q (some (vI (gi I4 46 (x1).toNat))) (mem (P, some 5, some 22) I4 J5)))) ∧ (¬ x2 = 1 → ((x2 = 2 → ((0 ≤ x1 ∧ x1 < 6) ∧ (Q (some (vI (gi I4 47 (x1).toNat))) (mem (P, some 5, some 22) I4 J5)))) ∧ (¬ x2 = 2 → ((x2 = 3 → ((0 ≤ x1 ∧ x1 < 6) ∧ (Q (some (vI (gi I4 48 (x1).toNat))) (mem (P, some 5, some 22) I4 J5)))) ∧ (¬ x2 = 3 → ((0 ≤ x1 ∧ x1 < 6) ∧ (Q (some (vI (gi I4 49 (x1).toNat))) (mem (P, some 5, some 22) I4 J5))))))))))) (P, some 5, some 22)))) ∧ (¬ x2 ≤ 4 → (Q (some (vI (-1))) (mem (P, some 5, some 22) I J)))))))))) : WP k LAY m_X11_tonight 0 [(0, vR (some 0)), (1, vI x1), (2, vI x2)] [] (mem (P, some 5, some 22) I J) Q := by
  refine st_aload_n (pc' := 1) dX11_tonight_0 rfl rfl (j := 0) rfl ?_
  refine G_X11_33_0 dX11_tonight_1 (pc' := 4) rfl rfl ?_
  refine G_X11_121_4 dX11_tonight_4 (pc' := 7) rfl rfl ?_
  refine st_iconst (pc' := 8) dX11_tonight_7 rfl ?_
  refine st_iload_n (pc' := 9) dX11_tonight_8 rfl rfl (j := 1) rfl ?_
  obtain ⟨e1, h⟩ := h
  refine st_callV (pc' := 12) (kc := k - 1) (E' := LAY) (cal := m_X7_holds) (n := 2) (as := [vI 2, vI x1]) (S := []) dX11_tonight_9 rfl l_X11_155 k_X7_holds rfl L_5 c_X7 rfl rfl (Nat.le_of_ble_eq_true rfl) (by omega) ⟨Nat.le_refl _, Nat.le_refl _, Nat.le_refl _, Nat.le_refl _⟩ (Q1 := fun r M' => WP k LAY m_X11_tonight 12 [(0, vR (some 0)), (1, vI x1), (2, vI x2)] (r.toList ++ []) M' Q) (S_X7_holds_5 (by omega) (by decide) e1 ?_) (fun r M' q => q)
  change WP _ LAY m_X11_tonight 12 [(0, vR (some 0)), (1, vI x1), (2, vI x2)] [vI (b2i (0 ≤ x1 ∧ x1 < gi I 6 (2 : Int).toNat))] (mem (P, some 5, some 22) I J) Q
  refine st_if_eq (tg := 24) (pc' := 15) dX11_tonight_12 (by decide) rfl (b2i_in _) (fun c => ?_) (fun c => ?_)
  · replace h := h.1 (b2i_f.mp c)
    refine st_iconst (pc' := 25) dX11_tonight_24 rfl ?_
    exact st_iret (ty := .int) dX11_tonight_25 rfl rfl rfl h
  · replace h := h.2 (b2i_t.mp c)
    refine st_iload_n (pc' := 16) dX11_tonight_15 rfl rfl (j := 2) rfl ?_
    obtain ⟨e2, h⟩ := h
    refine st_if_lt (tg := 24) (pc' := 19) dX11_tonight_16 (by decide) rfl e2 (fun c => ?_) (fun c => ?_)
    · replace h := h.1 c
      refine st_iconst (pc' := 25) dX11_tonight_24 rfl ?_
      exact st_iret (ty := .int) dX11_tonight_25 rfl rfl rfl h
    · replace h := h.2 c
      refine st_iload_n (pc' := 20) dX11_tonight_19 rfl rfl (j := 2) rfl ?_
      refine st_iconst (pc' := 21) dX11_tonight_20 rfl ?_
      refine st_icmp_le (tg := 26) (pc' := 24) dX11_tonight_21 (by decide) rfl e2 (by decide) (fun c => ?_) (fun c => ?_)
      · replace h := h.1 c
        refine st_aload_n (pc' := 27) dX11_tonight_26 rfl rfl (j := 0) rfl ?_
        refine G_X11_60_0 dX11_tonight_27 (pc' := 30) rfl rfl ?_
        refine st_iconst (pc' := 31) dX11_tonight_30 rfl ?_
        refine st_callV (pc' := 34) (kc := k - 1) (E' := LAY) (cal := m_X1_foresee) (n := 1) (as := [vI (-1)]) (S := []) dX11_tonight_31 rfl l_X11_214 k_X1_foresee rfl L_42 c_X1 rfl rfl (Nat.le_of_ble_eq_true rfl) (by omega) ⟨Nat.le_refl _, Nat.le_refl _, Nat.le_refl _, Nat.le_refl _⟩ h (fun r M' q => ?_)
        obtain ⟨I4, J5, rfl, rfl, h⟩ := q
        change WP _ LAY m_X11_tonight 34 [(0, vR (some 0)), (1, vI x1), (2, vI x2)] [] (mem (P, some 5, some 22) I4 J5) Q
        refine st_iload_n (pc' := 35) dX11_tonight_34 rfl rfl (j := 2) rfl ?_
        by_cases c : x2 = 0
        · replace h := h.1 c
          refine st_tblIn (pc' := 64) (off := 29) dX11_tonight_35 e2 (by omega) (by rw [c]; rfl) (by decide) ?_
          refine st_aload_n (pc' := 65) dX11_tonight_64 rfl rfl (j := 0) rfl ?_
          refine G_X11_60_0 dX11_tonight_65 (pc' := 68) rfl rfl ?_
          refine G_X11_217_42 dX11_tonight_68 (pc' := 71) rfl rfl ?_
          refine st_iload_n (pc' := 72) dX11_tonight_71 rfl rfl (j := 1) rfl ?_
          obtain ⟨e6, h⟩ := h
          refine st_iaload (pc' := 73) (v := (gi I4 45 (x1).toNat)) dX11_tonight_72 rfl L_45 (by decide) e6 (show gi I4 45 (x1).toNat = (gi I4 45 (x1).toNat) from rfl) ?_
          exact st_iret (ty := .int) dX11_tonight_73 rfl rfl rfl h
        replace h := h.2 c
        have c0 := c
        clear c
        by_cases c : x2 = 1
        · replace h := h.1 c
          refine st_tblIn (pc' := 74) (off := 39) dX11_tonight_35 e2 (by omega) (by rw [c]; rfl) (by decide) ?_
          refine st_aload_n (pc' := 75) dX11_tonight_74 rfl rfl (j := 0) rfl ?_
          refine G_X11_60_0 dX11_tonight_75 (pc' := 78) rfl rfl ?_
          refine G_X11_218_42 dX11_tonight_78 (pc' := 81) rfl rfl ?_
          refine st_iload_n (pc' := 82) dX11_tonight_81 rfl rfl (j := 1) rfl ?_
          obtain ⟨e7, h⟩ := h
          refine st_iaload (pc' := 83) (v := (gi I4 46 (x1).toNat)) dX11_tonight_82 rfl L_46 (by decide) e7 (show gi I4 46 (x1).toNat = (gi I4 46 (x1).toNat) from rfl) ?_
          exact st_iret (ty := .int) dX11_tonight_83 rfl rfl rfl h
        replace h := h.2 c
        have c1 := c
        clear c
        by_cases c : x2 = 2
        · replace h := h.1 c
          refine st_tblIn (pc' := 84) (off := 49) dX11_tonight_35 e2 (by omega) (by rw [c]; rfl) (by decide) ?_
          refine st_aload_n (pc' := 85) dX11_tonight_84 rfl rfl (j := 0) rfl ?_
          refine G_X11_60_0 dX11_tonight_85 (pc' := 88) rfl rfl ?_
          refine G_X11_221_42 dX11_tonight_88 (pc' := 91) rfl rfl ?_
          refine st_iload_n (pc' := 92) dX11_tonight_91 rfl rfl (j := 1) rfl ?_
          obtain ⟨e8, h⟩ := h
          refine st_iaload (pc' := 93) (v := (gi I4 47 (x1).toNat)) dX11_tonight_92 rfl L_47 (by decide) e8 (show gi I4 47 (x1).toNat = (gi I4 47 (x1).toNat) from rfl) ?_
          exact st_iret (ty := .int) dX11_tonight_93 rfl rfl rfl h
        replace h := h.2 c
        have c2 := c
        clear c
        by_cases c : x2 = 3
        · replace h := h.1 c
          refine st_tblIn (pc' := 94) (off := 59) dX11_tonight_35 e2 (by omega) (by rw [c]; rfl) (by decide) ?_
          refine st_aload_n (pc' := 95) dX11_tonight_94 rfl rfl (j := 0) rfl ?_
          refine G_X11_60_0 dX11_tonight_95 (pc' := 98) rfl rfl ?_
          refine G_X11_224_42 dX11_tonight_98 (pc' := 101) rfl rfl ?_
          refine st_iload_n (pc' := 102) dX11_tonight_101 rfl rfl (j := 1) rfl ?_
          obtain ⟨e9, h⟩ := h
          refine st_iaload (pc' := 103) (v := (gi I4 48 (x1).toNat)) dX11_tonight_102 rfl L_48 (by decide) e9 (show gi I4 48 (x1).toNat = (gi I4 48 (x1).toNat) from rfl) ?_
          exact st_iret (ty := .int) dX11_tonight_103 rfl rfl rfl h
        replace h := h.2 c
        have c3 := c
        clear c
        have go : WP k LAY m_X11_tonight 104 [(0, vR (some 0)), (1, vI x1), (2, vI x2)] [] (mem (P, some 5, some 22) I4 J5) Q := by
          refine st_aload_n (pc' := 105) dX11_tonight_104 rfl rfl (j := 0) rfl ?_
          refine G_X11_60_0 dX11_tonight_105 (pc' := 108) rfl rfl ?_
          refine G_X11_227_42 dX11_tonight_108 (pc' := 111) rfl rfl ?_
          refine st_iload_n (pc' := 112) dX11_tonight_111 rfl rfl (j := 1) rfl ?_
          obtain ⟨e10, h⟩ := h
          refine st_iaload (pc' := 113) (v := (gi I4 49 (x1).toNat)) dX11_tonight_112 rfl L_49 (by decide) e10 (show gi I4 49 (x1).toNat = (gi I4 49 (x1).toNat) from rfl) ?_
          exact st_iret (ty := .int) dX11_tonight_113 rfl rfl rfl h
        exact st_tblOut (pc' := 104) dX11_tonight_35 e2 (by omega) (by decide) go
      · replace h := h.2 c
        refine st_iconst (pc' := 25) dX11_tonight_24 rfl ?_
        exact st_iret (ty := .int) dX11_tonight_25 rfl rfl rfl h
set_option maxRecDepth 20000 in
set_option maxHeartbeats 4000000 in
theorem B_X11_undo_0 {k : Nat} {P : Option Nat} {I : Nat → Nat → Int32} {J : Nat → Nat → Int64}  {Q : Option AV → Mem → Prop} (hk : 2 ≤ k) (h : (¬ (gi I 4 5) = 0 → (((0 : Int) ≤ ((rem32 (((gi I 4 4) + 20) - 1) 20) * 87) ∧ (0 : Int) ≤ 87 ∧ ((rem32 (((gi I 4 4) + 20) - 1) 20) * 87) + 87 ≤ 1740) ∧ (Q (some (vI 1)) (mem (P, some 5, some 22) (si (fc (si (si I 4 4 (rem32 (((gi I 4 4) + 20) - 1) 20)) 4 5 ((gi I 4 5) - 1)) 21 ((rem32 (((gi I 4 4) + 20) - 1) 20) * 87).toNat 19 0 87) 4 6 ((gi I 4 6) + 1)) J)))) ∧ ((gi I 4 5) = 0 → (Q (some (vI 0)) (mem (P, some 5, some 22) (si I 73 4 ((gi I 73 4) + 1)) J)))) : WP k LAY m_X11_undo 0 [(0, vR (some 0))] [] (mem (P, some 5, some 22) I J) Q := by
  refine st_aload_n (pc' := 1) dX11_undo_0 rfl rfl (j := 0) rfl ?_
  refine G_X11_33_0 dX11_undo_1 (pc' := 4) rfl rfl ?_
  refine st_callV (pc' := 7) (kc := k - 1) (E' := LAY) (cal := m_X2_recall) (n := 0) (as := []) (S := []) dX11_undo_4 rfl l_X11_269 k_X2_recall rfl L_4 c_X2 rfl rfl (Nat.le_of_ble_eq_true rfl) (by omega) ⟨Nat.le_refl _, Nat.le_refl _, Nat.le_refl _, Nat.le_refl _⟩ (Q1 := fun r M' => WP k LAY m_X11_undo 7 [(0, vR (some 0))] (r.toList ++ []) M' Q) (WPm.of k_X2_recall.1 (Nat.le_of_ble_eq_true rfl) (B_X2_recall_0 (by omega) ?_)) (fun r M' q => q)
  refine ⟨fun c => ?_, fun c => ?_⟩
  · replace h := h.1 c
    obtain ⟨e1, h⟩ := h
    refine ⟨e1, ?_⟩
    change WP _ LAY m_X11_undo 7 [(0, vR (some 0))] [vI 1] (mem (P, some 5, some 22) (si (fc (si (si I 4 4 (rem32 (((gi I 4 4) + 20) - 1) 20)) 4 5 ((gi I 4 5) - 1)) 21 ((rem32 (((gi I 4 4) + 20) - 1) 20) * 87).toNat 19 0 87) 4 6 ((gi I 4 6) + 1)) J) Q
    refine st_if_ne (tg := 16) (pc' := 10) dX11_undo_7 (by decide) rfl (by decide) (fun c => ?_) (fun c => ?_)
    · refine st_iconst (pc' := 17) dX11_undo_16 rfl ?_
      exact st_iret (ty := .boolean) dX11_undo_17 rfl (by decide) rfl h
    · exact absurd c (by decide)
  · replace h := h.2 c
    change WP _ LAY m_X11_undo 7 [(0, vR (some 0))] [vI 0] (mem (P, some 5, some 22) I J) Q
    refine st_if_ne (tg := 16) (pc' := 10) dX11_undo_7 (by decide) rfl (by decide) (fun c => ?_) (fun c => ?_)
    · exact absurd c (by decide)
    · refine st_aload_n (pc' := 11) dX11_undo_10 rfl rfl (j := 0) rfl ?_
      refine st_iconst (pc' := 12) dX11_undo_11 rfl ?_
      refine st_callV (pc' := 15) (kc := k - 1) (E' := LAY) (cal := m_X11_deny) (n := 1) (as := [vI 4]) (S := []) dX11_undo_12 rfl l_X11_113 k_X11_deny rfl L_0 c_X11 rfl rfl (Nat.le_of_ble_eq_true rfl) (by omega) ⟨Nat.le_refl _, Nat.le_refl _, Nat.le_refl _, Nat.le_refl _⟩ (Q1 := fun r M' => WP k LAY m_X11_undo 15 [(0, vR (some 0))] (r.toList ++ []) M' Q) (WPm.of k_X11_deny.1 (Nat.le_of_ble_eq_true rfl) (B_X11_deny_0 (by omega) ?_)) (fun r M' q => q)
      refine ⟨by decide, ?_⟩
      change WP _ LAY m_X11_undo 15 [(0, vR (some 0))] [vI 0] (mem (P, some 5, some 22) (si I 73 4 ((gi I 73 4) + 1)) J) Q
      exact st_iret (ty := .boolean) dX11_undo_15 rfl (by decide) rfl h
set_option maxRecDepth 20000 in
set_option maxHeartbeats 4000000 in
theorem B_X11_wax_0 {k : Nat} {P : Option Nat} {I : Nat → Nat → Int32} {J : Nat → Nat → Int64} {x1 : Int} {x2 : Int} {x3 : Int} {Q : Option AV → Mem → Prop} (hk : 1 ≤ k) (h : inR x1 ∧ ((¬ (0 ≤ x1 ∧ x1 < gi I 6 (2 : Int).toNat) → (Q (some (vI (-1))) (mem (P, some 5, some 22) I J))) ∧ ((0 ≤ x1 ∧ x1 < gi I 6 (2 : Int).toNat) → (inR x2 ∧ ((x2 < 0 → (Q (some (vI (-1))) (mem (P, some 5, some 22) I J))) ∧ (¬ x2 < 0 → (inR x3 ∧ ((x3 < 0 → (Q (some (vI (-1))) (mem (P, some 5, some 22) I J))) ∧ (¬ x3 < 0 → ((x3 ≤ 2 → (WPm (k - 1) LAY m_X8_findSets [vR (some 51), vI x1, vI x2] (mem (P, some 5, some 22) I J) (retV (fun I5 J6 => (x3 = 0 → (Q (some (vI (gi I5 51 7))) (mem (P, some 5, some 22) I5 J6))) ∧ (¬ x3 = 0 → ((x3 = 1 → ((¬ (gi I5 51 7) = 0 → (Q (some (vI (gi I5 51 8))) (mem (P, some 5, some 22) I5 J6))) ∧ ((gi I5 51 7) = 0 → (Q (some (vI 0)) (mem (P, some 5, some 22) I5 J6))))) ∧ (¬ x3 = 1 → (Q (some (vI (gi I5 51 9))) (mem (P, some 5, some 22) I5 J6)))))) (P, some 5, some 22)))) ∧ (¬ x3 ≤ 2 → (Q (some (vI (-1))) (mem (P, some 5, some 22) I J))))))))))))) : WP k LAY m_X11_wax 0 [(0, vR (some 0)), (1, vI x1), (2, vI x2), (3, vI x3)] [] (mem (P, some 5, some 22) I J) Q := by
  refine st_aload_n (pc' := 1) dX11_wax_0 rfl rfl (j := 0) rfl ?_
  refine G_X11_33_0 dX11_wax_1 (pc' := 4) rfl rfl ?_
  refine G_X11_121_4 dX11_wax_4 (pc' := 7) rfl rfl ?_
  refine st_iconst (pc' := 8) dX11_wax_7 rfl ?_
  refine st_iload_n (pc' := 9) dX11_wax_8 rfl rfl (j := 1) rfl ?_
  obtain ⟨e1, h⟩ := h
  refine st_callV (pc' := 12) (kc := k - 1) (E' := LAY) (cal := m_X7_holds) (n := 2) (as := [vI 2, vI x1]) (S := []) dX11_wax_9 rfl l_X11_155 k_X7_holds rfl L_5 c_X7 rfl rfl (Nat.le_of_ble_eq_true rfl) (by omega) ⟨Nat.le_refl _, Nat.le_refl _, Nat.le_refl _, Nat.le_refl _⟩ (Q1 := fun r M' => WP k LAY m_X11_wax 12 [(0, vR (some 0)), (1, vI x1), (2, vI x2), (3, vI x3)] (r.toList ++ []) M' Q) (S_X7_holds_5 (by omega) (by decide) e1 ?_) (fun r M' q => q)
  change WP _ LAY m_X11_wax 12 [(0, vR (some 0)), (1, vI x1), (2, vI x2), (3, vI x3)] [vI (b2i (0 ≤ x1 ∧ x1 < gi I 6 (2 : Int).toNat))] (mem (P, some 5, some 22) I J) Q
  refine st_if_eq (tg := 28) (pc' := 15) dX11_wax_12 (by decide) rfl (b2i_in _) (fun c => ?_) (fun c => ?_)
  · replace h := h.1 (b2i_f.mp c)
    refine st_iconst (pc' := 29) dX11_wax_28 rfl ?_
    exact st_iret (ty := .int) dX11_wax_29 rfl rfl rfl h
  · replace h := h.2 (b2i_t.mp c)
    refine st_iload_n (pc' := 16) dX11_wax_15 rfl rfl (j := 2) rfl ?_
    obtain ⟨e2, h⟩ := h
    refine st_if_lt (tg := 28) (pc' := 19) dX11_wax_16 (by decide) rfl e2 (fun c => ?_) (fun c => ?_)
    · replace h := h.1 c
      refine st_iconst (pc' := 29) dX11_wax_28 rfl ?_
      exact st_iret (ty := .int) dX11_wax_29 rfl rfl rfl h
    · replace h := h.2 c
      refine st_iload_n (pc' := 20) dX11_wax_19 rfl rfl (j := 3) rfl ?_
      obtain ⟨e3, h⟩ := h
      refine st_if_lt (tg := 28) (pc' := 23) dX11_wax_20 (by decide) rfl e3 (fun c => ?_) (fun c => ?_)
      · replace h := h.1 c
        refine st_iconst (pc' := 29) dX11_wax_28 rfl ?_
        exact st_iret (ty := .int) dX11_wax_29 rfl rfl rfl h
      · replace h := h.2 c
        refine st_iload_n (pc' := 24) dX11_wax_23 rfl rfl (j := 3) rfl ?_
        refine st_iconst (pc' := 25) dX11_wax_24 rfl ?_
        refine st_icmp_le (tg := 30) (pc' := 28) dX11_wax_25 (by decide) rfl e3 (by decide) (fun c => ?_) (fun c => ?_)
        · replace h := h.1 c
          refine st_aload_n (pc' := 31) dX11_wax_30 rfl rfl (j := 0) rfl ?_
          refine G_X11_67_0 dX11_wax_31 (pc' := 34) rfl rfl ?_
          refine st_iload_n (pc' := 35) dX11_wax_34 rfl rfl (j := 1) rfl ?_
          refine st_iload_n (pc' := 36) dX11_wax_35 rfl rfl (j := 2) rfl ?_
          refine st_callV (pc' := 39) (kc := k - 1) (E' := LAY) (cal := m_X8_findSets) (n := 2) (as := [vI x1, vI x2]) (S := []) dX11_wax_36 rfl l_X11_329 k_X8_findSets rfl L_51 c_X8 rfl rfl (Nat.le_of_ble_eq_true rfl) (by omega) ⟨Nat.le_refl _, Nat.le_refl _, Nat.le_refl _, Nat.le_refl _⟩ h (fun r M' q => ?_)
          obtain ⟨I5, J6, rfl, rfl, h⟩ := q
          change WP _ LAY m_X11_wax 39 [(0, vR (some 0)), (1, vI x1), (2, vI x2), (3, vI x3)] [] (mem (P, some 5, some 22) I5 J6) Q
          refine st_iload_n (pc' := 40) dX11_wax_39 rfl rfl (j := 3) rfl ?_
          by_cases c : x3 = 0
          · replace h := h.1 c
            refine st_lookup (pc' := 68) (off := 28) dX11_wax_40 e3 (by decide) (by rw [c]; decide) (by decide) ?_
            refine st_aload_n (pc' := 69) dX11_wax_68 rfl rfl (j := 0) rfl ?_
            refine G_X11_67_0 dX11_wax_69 (pc' := 72) rfl rfl ?_
            refine G_X11_332_51 dX11_wax_72 (pc' := 75) rfl rfl ?_
            exact st_iret (ty := .int) dX11_wax_75 rfl rfl rfl h
          replace h := h.2 c
          have c0 := c
          clear c
          by_cases c : x3 = 1
          · replace h := h.1 c
            refine st_lookup (pc' := 76) (off := 36) dX11_wax_40 e3 (by decide) (by rw [c]; decide) (by decide) ?_
            refine st_aload_n (pc' := 77) dX11_wax_76 rfl rfl (j := 0) rfl ?_
            refine G_X11_67_0 dX11_wax_77 (pc' := 80) rfl rfl ?_
            refine G_X11_332_51 dX11_wax_80 (pc' := 83) rfl rfl ?_
            refine st_if_ne (tg := 90) (pc' := 86) dX11_wax_83 (by decide) rfl (gi_in _ _ _) (fun c => ?_) (fun c => ?_)
            · replace h := h.1 c
              refine st_aload_n (pc' := 91) dX11_wax_90 rfl rfl (j := 0) rfl ?_
              refine G_X11_67_0 dX11_wax_91 (pc' := 94) rfl rfl ?_
              refine G_X11_335_51 dX11_wax_94 (pc' := 97) rfl rfl ?_
              exact st_iret (ty := .int) dX11_wax_97 rfl rfl rfl h
            · replace h := h.2 c
              refine st_iconst (pc' := 87) dX11_wax_86 rfl ?_
              refine st_goto (pc' := 97) dX11_wax_87 (by decide) ?_
              exact st_iret (ty := .int) dX11_wax_97 rfl rfl rfl h
          replace h := h.2 c
          have c1 := c
          clear c
          refine st_lookup (pc' := 98) (off := 58) dX11_wax_40 e3 (by decide) (show Op.lookupswitch.offset [(0, 28), (1, 36)] 58 x3 = 58 by rw [osw_ne c0, osw_ne c1]; rfl) (by decide) ?_
          refine st_aload_n (pc' := 99) dX11_wax_98 rfl rfl (j := 0) rfl ?_
          refine G_X11_67_0 dX11_wax_99 (pc' := 102) rfl rfl ?_
          refine G_X11_338_51 dX11_wax_102 (pc' := 105) rfl rfl ?_
          exact st_iret (ty := .int) dX11_wax_105 rfl rfl rfl h
        · replace h := h.2 c
          refine st_iconst (pc' := 29) dX11_wax_28 rfl ?_
          exact st_iret (ty := .int) dX11_wax_29 rfl rfl rfl h
set_option maxRecDepth 20000 in
set_option maxHeartbeats 4000000 in
theorem B_X11_whole_0 {k : Nat} {P : Option Nat} {I : Nat → Nat → Int32} {J : Nat → Nat → Int64} {x1 : Int} {Q : Option AV → Mem → Prop} (hk : 1 ≤ k) (h : inR x1 ∧ ((x1 < 0 → (Q (some (vI (-1))) (mem (P, some 5, some 22) I J))) ∧ (¬ x1 < 0 → ((x1 ≤ 3 → (WPm (k - 1) LAY m_X1_foresee [vR (some 42), vI (-1)] (mem (P, some 5, some 22) I J) (retV (fun I3 J4 => (x1 = 0 → (WPm (k - 1) LAY m_X1_allRead [vR (some 42)] (mem (P, some 5, some 22) I3 J4) (retI (fun v5 I6 J7 => Q (some (vI v5)) (mem (P, some 5, some 22) I6 J7)) (P, some 5, some 22)))) ∧ (¬ x1 = 0 → ((x1 = 1 → (WPm (k - 1) LAY m_X1_allLight [vR (some 42)] (mem (P, some 5, some 22) I3 J4) (retI (fun v8 I9 J10 => Q (some (vI v8)) (mem (P, some 5, some 22) I9 J10)) (P, some 5, some 22)))) ∧ (¬ x1 = 1 → ((x1 = 2 → (WPm (k - 1) LAY m_X1_allWax [vR (some 42)] (mem (P, some 5, some 22) I3 J4) (retI (fun v11 I12 J13 => Q (some (vI v11)) (mem (P, some 5, some 22) I12 J13)) (P, some 5, some 22)))) ∧ (¬ x1 = 2 → (WPm (k - 1) LAY m_X1_idle [vR (some 42)] (mem (P, some 5, some 22) I3 J4) (retI (fun v14 I15 J16 => Q (some (vI v14)) (mem (P, some 5, some 22) I15 J16)) (P, some 5, some 22))))))))) (P, some 5, some 22)))) ∧ (¬ x1 ≤ 3 → (Q (some (vI (-1))) (mem (P, some 5, some 22) I J))))))) : WP k LAY m_X11_whole 0 [(0, vR (some 0)), (1, vI x1)] [] (mem (P, some 5, some 22) I J) Q := by
  refine st_iload_n (pc' := 1) dX11_whole_0 rfl rfl (j := 1) rfl ?_
  obtain ⟨e1, h⟩ := h
  refine st_if_lt (tg := 9) (pc' := 4) dX11_whole_1 (by decide) rfl e1 (fun c => ?_) (fun c => ?_)
  · replace h := h.1 c
    refine st_iconst (pc' := 10) dX11_whole_9 rfl ?_
    exact st_iret (ty := .int) dX11_whole_10 rfl rfl rfl h
  · replace h := h.2 c
    refine st_iload_n (pc' := 5) dX11_whole_4 rfl rfl (j := 1) rfl ?_
    refine st_iconst (pc' := 6) dX11_whole_5 rfl ?_
    refine st_icmp_le (tg := 11) (pc' := 9) dX11_whole_6 (by decide) rfl e1 (by decide) (fun c => ?_) (fun c => ?_)
    · replace h := h.1 c
      refine st_aload_n (pc' := 12) dX11_whole_11 rfl rfl (j := 0) rfl ?_
      refine G_X11_60_0 dX11_whole_12 (pc' := 15) rfl rfl ?_
      refine st_iconst (pc' := 16) dX11_whole_15 rfl ?_
      refine st_callV (pc' := 19) (kc := k - 1) (E' := LAY) (cal := m_X1_foresee) (n := 1) (as := [vI (-1)]) (S := []) dX11_whole_16 rfl l_X11_214 k_X1_foresee rfl L_42 c_X1 rfl rfl (Nat.le_of_ble_eq_true rfl) (by omega) ⟨Nat.le_refl _, Nat.le_refl _, Nat.le_refl _, Nat.le_refl _⟩ h (fun r M' q => ?_)
      obtain ⟨I3, J4, rfl, rfl, h⟩ := q
      change WP _ LAY m_X11_whole 19 [(0, vR (some 0)), (1, vI x1)] [] (mem (P, some 5, some 22) I3 J4) Q
      refine st_iload_n (pc' := 20) dX11_whole_19 rfl rfl (j := 1) rfl ?_
      by_cases c : x1 = 0
      · replace h := h.1 c
        refine st_tblIn (pc' := 48) (off := 28) dX11_whole_20 e1 (by omega) (by rw [c]; rfl) (by decide) ?_
        refine st_aload_n (pc' := 49) dX11_whole_48 rfl rfl (j := 0) rfl ?_
        refine G_X11_60_0 dX11_whole_49 (pc' := 52) rfl rfl ?_
        refine st_callV (pc' := 55) (kc := k - 1) (E' := LAY) (cal := m_X1_allRead) (n := 0) (as := []) (S := []) dX11_whole_52 rfl l_X11_230 k_X1_allRead rfl L_42 c_X1 rfl rfl (Nat.le_of_ble_eq_true rfl) (by omega) ⟨Nat.le_refl _, Nat.le_refl _, Nat.le_refl _, Nat.le_refl _⟩ h (fun r M' q => ?_)
        obtain ⟨v5, I6, J7, rfl, rfl, h⟩ := q
        change WP _ LAY m_X11_whole 55 [(0, vR (some 0)), (1, vI x1)] [vI v5] (mem (P, some 5, some 22) I6 J7) Q
        exact st_iret (ty := .int) dX11_whole_55 rfl rfl rfl h
      replace h := h.2 c
      have c0 := c
      clear c
      by_cases c : x1 = 1
      · replace h := h.1 c
        refine st_tblIn (pc' := 56) (off := 36) dX11_whole_20 e1 (by omega) (by rw [c]; rfl) (by decide) ?_
        refine st_aload_n (pc' := 57) dX11_whole_56 rfl rfl (j := 0) rfl ?_
        refine G_X11_60_0 dX11_whole_57 (pc' := 60) rfl rfl ?_
        refine st_callV (pc' := 63) (kc := k - 1) (E' := LAY) (cal := m_X1_allLight) (n := 0) (as := []) (S := []) dX11_whole_60 rfl l_X11_233 k_X1_allLight rfl L_42 c_X1 rfl rfl (Nat.le_of_ble_eq_true rfl) (by omega) ⟨Nat.le_refl _, Nat.le_refl _, Nat.le_refl _, Nat.le_refl _⟩ h (fun r M' q => ?_)
        obtain ⟨v8, I9, J10, rfl, rfl, h⟩ := q
        change WP _ LAY m_X11_whole 63 [(0, vR (some 0)), (1, vI x1)] [vI v8] (mem (P, some 5, some 22) I9 J10) Q
        exact st_iret (ty := .int) dX11_whole_63 rfl rfl rfl h
      replace h := h.2 c
      have c1 := c
      clear c
      by_cases c : x1 = 2
      · replace h := h.1 c
        refine st_tblIn (pc' := 64) (off := 44) dX11_whole_20 e1 (by omega) (by rw [c]; rfl) (by decide) ?_
        refine st_aload_n (pc' := 65) dX11_whole_64 rfl rfl (j := 0) rfl ?_
        refine G_X11_60_0 dX11_whole_65 (pc' := 68) rfl rfl ?_
        refine st_callV (pc' := 71) (kc := k - 1) (E' := LAY) (cal := m_X1_allWax) (n := 0) (as := []) (S := []) dX11_whole_68 rfl l_X11_236 k_X1_allWax rfl L_42 c_X1 rfl rfl (Nat.le_of_ble_eq_true rfl) (by omega) ⟨Nat.le_refl _, Nat.le_refl _, Nat.le_refl _, Nat.le_refl _⟩ h (fun r M' q => ?_)
        obtain ⟨v11, I12, J13, rfl, rfl, h⟩ := q
        change WP _ LAY m_X11_whole 71 [(0, vR (some 0)), (1, vI x1)] [vI v11] (mem (P, some 5, some 22) I12 J13) Q
        exact st_iret (ty := .int) dX11_whole_71 rfl rfl rfl h
      replace h := h.2 c
      have c2 := c
      clear c
      have go : WP k LAY m_X11_whole 72 [(0, vR (some 0)), (1, vI x1)] [] (mem (P, some 5, some 22) I3 J4) Q := by
        refine st_aload_n (pc' := 73) dX11_whole_72 rfl rfl (j := 0) rfl ?_
        refine G_X11_60_0 dX11_whole_73 (pc' := 76) rfl rfl ?_
        refine st_callV (pc' := 79) (kc := k - 1) (E' := LAY) (cal := m_X1_idle) (n := 0) (as := []) (S := []) dX11_whole_76 rfl l_X11_239 k_X1_idle rfl L_42 c_X1 rfl rfl (Nat.le_of_ble_eq_true rfl) (by omega) ⟨Nat.le_refl _, Nat.le_refl _, Nat.le_refl _, Nat.le_refl _⟩ h (fun r M' q => ?_)
        obtain ⟨v14, I15, J16, rfl, rfl, h⟩ := q
        change WP _ LAY m_X11_whole 79 [(0, vR (some 0)), (1, vI x1)] [vI v14] (mem (P, some 5, some 22) I15 J16) Q
        exact st_iret (ty := .int) dX11_whole_79 rfl rfl rfl h
      exact st_tblOut (pc' := 72) dX11_whole_20 e1 (by omega) (by decide) go
    · replace h := h.2 c
      refine st_iconst (pc' := 10) dX11_whole_9 rfl ?_
      exact st_iret (ty := .int) dX11_whole_10 rfl rfl rfl h
set_option maxRecDepth 20000 in
set_option maxHeartbeats 4000000 in
theorem B_X11_winter_0 {k : Nat} {P : Option Nat} {I : Nat → Nat → Int32} {J : Nat → Nat → Int64} {x1 : Int} {Q : Option AV → Mem → Prop} (hk : 2 ≤ k) (h : inR x1 ∧ ((x1 < 1 → (Q (some (vI (-1))) (mem (P, some 5, some 22) (si I 73 3 ((gi I 73 3) + 1)) J))) ∧ (¬ x1 < 1 → ((30 < x1 → (Q (some (vI (-1))) (mem (P, some 5, some 22) (si I 73 3 ((gi I 73 3) + 1)) J))) ∧ (¬ 30 < x1 → (inR ((gi I 19 0) + x1) ∧ ((999 < ((gi I 19 0) + x1) → (Q (some (vI (-1))) (mem (P, some 5, some 22) (si I 73 3 ((gi I 73 3) + 1)) J))) ∧ (¬ 999 < ((gi I 19 0) + x1) → ((¬ (gi I 6 3) = 0 → (((0 : Int) ≤ ((gi I 4 4) * 87) ∧ ((gi I 4 4) * 87) + 87 ≤ 1740) ∧ (inR ((gi I 4 5) + 1) ∧ (WP k LAY m_X11_winter 63 [(0, vR (some 0)), (1, vI x1), (2, vI (gi I 6 3)), (3, vI 0), (4, vI 0)] [] (mem (P, some 5, some 22) (si (si (si (fc I 19 0 21 ((gi I 4 4) * 87).toNat 87) 4 4 (rem32 ((gi I 4 4) + 1) 20)) 4 5 (min 20 ((gi I 4 5) + 1))) 4 6 ((gi I 4 6) + 1)) J) Q)))) ∧ ((gi I 6 3) = 0 → (Q (some (vI (-1))) (mem (P, some 5, some 22) (si I 73 3 ((gi I 73 3) + 1)) J)))))))))))) : WP k LAY m_X11_winter 0 [(0, vR (some 0)), (1, vI x1)] [] (mem (P, some 5, some 22) I J) Q := by
  refine st_aload_n (pc' := 1) dX11_winter_0 rfl rfl (j := 0) rfl ?_
  refine G_X11_33_0 dX11_winter_1 (pc' := 4) rfl rfl ?_
  refine G_X11_121_4 dX11_winter_4 (pc' := 7) rfl rfl ?_
  refine G_X11_133_5 dX11_winter_7 (pc' := 10) rfl rfl ?_
  refine st_iconst (pc' := 11) dX11_winter_10 rfl ?_
  refine st_iaload (pc' := 12) (v := (gi I 6 3)) dX11_winter_11 rfl L_6 (by decide) (by decide) (show gi I 6 3 = (gi I 6 3) from rfl) ?_
  refine st_istore_n (pc' := 13) (L' := [(2, vI (gi I 6 3)), (0, vR (some 0)), (1, vI x1)]) dX11_winter_12 rfl rfl (by decide) rfl ?_
  refine st_iload_n (pc' := 14) dX11_winter_13 rfl rfl (j := 2) rfl ?_
  refine st_iconst (pc' := 15) dX11_winter_14 rfl ?_
  obtain ⟨e1, h⟩ := h
  refine st_icmp_lt (tg := 45) (pc' := 18) dX11_winter_15 (by decide) rfl e1 (by decide) (fun c => ?_) (fun c => ?_)
  · replace h := h.1 c
    refine st_aload_n (pc' := 46) dX11_winter_45 rfl rfl (j := 1) rfl ?_
    refine st_iconst (pc' := 47) dX11_winter_46 rfl ?_
    refine st_callV (pc' := 50) (kc := k - 1) (E' := LAY) (cal := m_X11_refuse) (n := 1) (as := [vI 3]) (S := []) dX11_winter_47 rfl l_X11_105 k_X11_refuse rfl L_0 c_X11 rfl rfl (Nat.le_of_ble_eq_true rfl) (by omega) ⟨Nat.le_refl _, Nat.le_refl _, Nat.le_refl _, Nat.le_refl _⟩ (Q1 := fun r M' => WP k LAY m_X11_winter 50 [(2, vI (gi I 6 3)), (0, vR (some 0)), (1, vI x1)] (r.toList ++ []) M' Q) (WPm.of k_X11_refuse.1 (Nat.le_of_ble_eq_true rfl) (B_X11_refuse_0 (by omega) ?_)) (fun r M' q => q)
    refine ⟨by decide, ?_⟩
    change WP _ LAY m_X11_winter 50 [(2, vI (gi I 6 3)), (0, vR (some 0)), (1, vI x1)] [vI (-1)] (mem (P, some 5, some 22) (si I 73 3 ((gi I 73 3) + 1)) J) Q
    exact st_iret (ty := .int) dX11_winter_50 rfl rfl rfl h
  · replace h := h.2 c
    refine st_iload_n (pc' := 19) dX11_winter_18 rfl rfl (j := 2) rfl ?_
    refine st_bipush (pc' := 21) dX11_winter_19 rfl (by decide) ?_
    refine st_icmp_gt (tg := 45) (pc' := 24) dX11_winter_21 (by decide) rfl e1 (by decide) (fun c => ?_) (fun c => ?_)
    · replace h := h.1 c
      refine st_aload_n (pc' := 46) dX11_winter_45 rfl rfl (j := 1) rfl ?_
      refine st_iconst (pc' := 47) dX11_winter_46 rfl ?_
      refine st_callV (pc' := 50) (kc := k - 1) (E' := LAY) (cal := m_X11_refuse) (n := 1) (as := [vI 3]) (S := []) dX11_winter_47 rfl l_X11_105 k_X11_refuse rfl L_0 c_X11 rfl rfl (Nat.le_of_ble_eq_true rfl) (by omega) ⟨Nat.le_refl _, Nat.le_refl _, Nat.le_refl _, Nat.le_refl _⟩ (Q1 := fun r M' => WP k LAY m_X11_winter 50 [(2, vI (gi I 6 3)), (0, vR (some 0)), (1, vI x1)] (r.toList ++ []) M' Q) (WPm.of k_X11_refuse.1 (Nat.le_of_ble_eq_true rfl) (B_X11_refuse_0 (by omega) ?_)) (fun r M' q => q)
      refine ⟨by decide, ?_⟩
      change WP _ LAY m_X11_winter 50 [(2, vI (gi I 6 3)), (0, vR (some 0)), (1, vI x1)] [vI (-1)] (mem (P, some 5, some 22) (si I 73 3 ((gi I 73 3) + 1)) J) Q
      exact st_iret (ty := .int) dX11_winter_50 rfl rfl rfl h
    · replace h := h.2 c
      refine st_aload_n (pc' := 25) dX11_winter_24 rfl rfl (j := 1) rfl ?_
      refine G_X11_33_0 dX11_winter_25 (pc' := 28) rfl rfl ?_
      refine G_X11_142_4 dX11_winter_28 (pc' := 31) rfl rfl ?_
      refine st_iconst (pc' := 32) dX11_winter_31 rfl ?_
      refine st_iaload (pc' := 33) (v := (gi I 19 0)) dX11_winter_32 rfl L_19 (by decide) (by decide) (show gi I 19 0 = (gi I 19 0) from rfl) ?_
      refine st_iload_n (pc' := 34) dX11_winter_33 rfl rfl (j := 2) rfl ?_
      refine st_iadd (pc' := 35) dX11_winter_34 rfl ?_
      refine st_sipush (pc' := 38) dX11_winter_35 rfl (by decide) ?_
      obtain ⟨e2, h⟩ := h
      refine st_icmp_gt (tg := 45) (pc' := 41) dX11_winter_38 (by decide) rfl e2 (by decide) (fun c => ?_) (fun c => ?_)
      · replace h := h.1 c
        refine st_aload_n (pc' := 46) dX11_winter_45 rfl rfl (j := 1) rfl ?_
        refine st_iconst (pc' := 47) dX11_winter_46 rfl ?_
        refine st_callV (pc' := 50) (kc := k - 1) (E' := LAY) (cal := m_X11_refuse) (n := 1) (as := [vI 3]) (S := []) dX11_winter_47 rfl l_X11_105 k_X11_refuse rfl L_0 c_X11 rfl rfl (Nat.le_of_ble_eq_true rfl) (by omega) ⟨Nat.le_refl _, Nat.le_refl _, Nat.le_refl _, Nat.le_refl _⟩ (Q1 := fun r M' => WP k LAY m_X11_winter 50 [(2, vI (gi I 6 3)), (0, vR (some 0)), (1, vI x1)] (r.toList ++ []) M' Q) (WPm.of k_X11_refuse.1 (Nat.le_of_ble_eq_true rfl) (B_X11_refuse_0 (by omega) ?_)) (fun r M' q => q)
        refine ⟨by decide, ?_⟩
        change WP _ LAY m_X11_winter 50 [(2, vI (gi I 6 3)), (0, vR (some 0)), (1, vI x1)] [vI (-1)] (mem (P, some 5, some 22) (si I 73 3 ((gi I 73 3) + 1)) J) Q
        exact st_iret (ty := .int) dX11_winter_50 rfl rfl rfl h
      · replace h := h.2 c
        refine st_iload_n (pc' := 42) dX11_winter_41 rfl rfl (j := 0) rfl ?_
        refine st_if_ne (tg := 51) (pc' := 45) dX11_winter_42 (by decide) rfl (gi_in _ _ _) (fun c => ?_) (fun c => ?_)
        · replace h := h.1 c
          refine st_aload_n (pc' := 52) dX11_winter_51 rfl rfl (j := 1) rfl ?_
          refine G_X11_33_0 dX11_winter_52 (pc' := 55) rfl rfl ?_
          refine st_callV (pc' := 58) (kc := k - 1) (E' := LAY) (cal := m_X2_remember) (n := 0) (as := []) (S := []) dX11_winter_55 rfl l_X11_242 k_X2_remember rfl L_4 c_X2 rfl rfl (Nat.le_of_ble_eq_true rfl) (by omega) ⟨Nat.le_refl _, Nat.le_refl _, Nat.le_refl _, Nat.le_refl _⟩ (Q1 := fun r M' => WP k LAY m_X11_winter 58 [(2, vI (gi I 6 3)), (0, vR (some 0)), (1, vI x1)] (r.toList ++ []) M' Q) (WPm.of k_X2_remember.1 (Nat.le_of_ble_eq_true rfl) (B_X2_remember_0 (by omega) ?_)) (fun r M' q => q)
          obtain ⟨e3, h⟩ := h
          refine ⟨e3, ?_⟩
          obtain ⟨e4, h⟩ := h
          refine ⟨e4, ?_⟩
          change WP _ LAY m_X11_winter 58 [(2, vI (gi I 6 3)), (0, vR (some 0)), (1, vI x1)] [] (mem (P, some 5, some 22) (si (si (si (fc I 19 0 21 ((gi I 4 4) * 87).toNat 87) 4 4 (rem32 ((gi I 4 4) + 1) 20)) 4 5 (min 20 ((gi I 4 5) + 1))) 4 6 ((gi I 4 6) + 1)) J) Q
          refine st_iconst (pc' := 59) dX11_winter_58 rfl ?_
          refine st_istore_n (pc' := 60) (L' := [(3, vI 0), (2, vI (gi I 6 3)), (0, vR (some 0)), (1, vI x1)]) dX11_winter_59 rfl rfl (by decide) rfl ?_
          refine st_iconst (pc' := 61) dX11_winter_60 rfl ?_
          refine st_istore (pc' := 63) (L' := [(4, vI 0), (3, vI 0), (2, vI (gi I 6 3)), (0, vR (some 0)), (1, vI x1)]) dX11_winter_61 rfl (by decide) rfl ?_
          refine WP_sub (L' := [(0, vR (some 0)), (1, vI x1), (2, vI (gi I 6 3)), (3, vI 0), (4, vI 0)]) [3, 4, 2, 1, 0] rfl ?_
          exact h
        · replace h := h.2 c
          refine st_aload_n (pc' := 46) dX11_winter_45 rfl rfl (j := 1) rfl ?_
          refine st_iconst (pc' := 47) dX11_winter_46 rfl ?_
          refine st_callV (pc' := 50) (kc := k - 1) (E' := LAY) (cal := m_X11_refuse) (n := 1) (as := [vI 3]) (S := []) dX11_winter_47 rfl l_X11_105 k_X11_refuse rfl L_0 c_X11 rfl rfl (Nat.le_of_ble_eq_true rfl) (by omega) ⟨Nat.le_refl _, Nat.le_refl _, Nat.le_refl _, Nat.le_refl _⟩ (Q1 := fun r M' => WP k LAY m_X11_winter 50 [(2, vI (gi I 6 3)), (0, vR (some 0)), (1, vI x1)] (r.toList ++ []) M' Q) (WPm.of k_X11_refuse.1 (Nat.le_of_ble_eq_true rfl) (B_X11_refuse_0 (by omega) ?_)) (fun r M' q => q)
          refine ⟨by decide, ?_⟩
          change WP _ LAY m_X11_winter 50 [(2, vI (gi I 6 3)), (0, vR (some 0)), (1, vI x1)] [vI (-1)] (mem (P, some 5, some 22) (si I 73 3 ((gi I 73 3) + 1)) J) Q
          exact st_iret (ty := .int) dX11_winter_50 rfl rfl rfl h
set_option maxRecDepth 20000 in
set_option maxHeartbeats 4000000 in
theorem B_X11_winter_63 {k : Nat} {P : Option Nat} {I : Nat → Nat → Int32} {J : Nat → Nat → Int64} {x1 : Int} {x2 : Int} {x3 : Int} {x4 : Int} {Q : Option AV → Mem → Prop} (hk : 1 ≤ k) (h : inR x4 ∧ (inR x1 ∧ ((x1 ≤ x4 → (Q (some (vI x3)) (mem (P, some 5, some 22) I J))) ∧ (¬ x1 ≤ x4 → (inR x2 ∧ ((x2 ≤ 0 → (WPm (k - 1) LAY m_X11_passNight [vR (some 0), vI 0] (mem (P, some 5, some 22) (si I 0 11 (and32 ((1103515245 * (gi I 0 11)) + 12345) 2147483647)) J) (retI (fun v4 I5 J6 => WP k LAY m_X11_winter 63 [(0, vR (some 0)), (1, vI x1), (2, vI x2), (3, vI (x3 + v4)), (4, vI (x4 + 1))] [] (mem (P, some 5, some 22) I5 J6) Q) (P, some 5, some 22)))) ∧ (¬ x2 ≤ 0 → (¬ x2 = 0 ∧ (WPm (k - 1) LAY m_X11_passNight [vR (some 0), vI (rem32 (div32 (and32 ((1103515245 * (gi I 0 11)) + 12345) 2147483647) 64) x2)] (mem (P, some 5, some 22) (si I 0 11 (and32 ((1103515245 * (gi I 0 11)) + 12345) 2147483647)) J) (retI (fun v8 I9 J10 => WP k LAY m_X11_winter 63 [(0, vR (some 0)), (1, vI x1), (2, vI x2), (3, vI (x3 + v8)), (4, vI (x4 + 1))] [] (mem (P, some 5, some 22) I9 J10) Q) (P, some 5, some 22))))))))))) : WP k LAY m_X11_winter 63 [(0, vR (some 0)), (1, vI x1), (2, vI x2), (3, vI x3), (4, vI x4)] [] (mem (P, some 5, some 22) I J) Q := by
  refine st_iload (pc' := 65) dX11_winter_63 rfl (j := 4) rfl ?_
  refine st_iload_n (pc' := 66) dX11_winter_65 rfl rfl (j := 1) rfl ?_
  obtain ⟨e1, h⟩ := h
  obtain ⟨e2, h⟩ := h
  refine st_icmp_ge (tg := 87) (pc' := 69) dX11_winter_66 (by decide) rfl e1 e2 (fun c => ?_) (fun c => ?_)
  · replace h := h.1 c
    refine st_iload_n (pc' := 88) dX11_winter_87 rfl rfl (j := 3) rfl ?_
    exact st_iret (ty := .int) dX11_winter_88 rfl rfl rfl h
  · replace h := h.2 c
    refine st_iload_n (pc' := 70) dX11_winter_69 rfl rfl (j := 3) rfl ?_
    refine st_aload_n (pc' := 71) dX11_winter_70 rfl rfl (j := 0) rfl ?_
    refine st_aload_n (pc' := 72) dX11_winter_71 rfl rfl (j := 0) rfl ?_
    refine st_iload_n (pc' := 73) dX11_winter_72 rfl rfl (j := 2) rfl ?_
    refine st_callV (pc' := 76) (kc := k - 1) (E' := LAY) (cal := m_X11_drawOf) (n := 1) (as := [vI x2]) (S := [vR (some 0), vI x3]) dX11_winter_73 rfl l_X11_266 k_X11_drawOf rfl L_0 c_X11 rfl rfl (Nat.le_of_ble_eq_true rfl) (by omega) ⟨Nat.le_refl _, Nat.le_refl _, Nat.le_refl _, Nat.le_refl _⟩ (Q1 := fun r M' => WP k LAY m_X11_winter 76 [(0, vR (some 0)), (1, vI x1), (2, vI x2), (3, vI x3), (4, vI x4)] (r.toList ++ [vR (some 0), vI x3]) M' Q) (WPm.of k_X11_drawOf.1 (Nat.le_of_ble_eq_true rfl) (B_X11_drawOf_0 (by omega) ?_)) (fun r M' q => q)
    obtain ⟨e3, h⟩ := h
    refine ⟨e3, ?_⟩
    refine ⟨fun c => ?_, fun c => ?_⟩
    · replace h := h.1 c
      change WP _ LAY m_X11_winter 76 [(0, vR (some 0)), (1, vI x1), (2, vI x2), (3, vI x3), (4, vI x4)] [vI 0, vR (some 0), vI x3] (mem (P, some 5, some 22) (si I 0 11 (and32 ((1103515245 * (gi I 0 11)) + 12345) 2147483647)) J) Q
      refine st_callV (pc' := 79) (kc := k - 1) (E' := LAY) (cal := m_X11_passNight) (n := 1) (as := [vI 0]) (S := [vI x3]) dX11_winter_76 rfl l_X11_263 k_X11_passNight rfl L_0 c_X11 rfl rfl (Nat.le_of_ble_eq_true rfl) (by omega) ⟨Nat.le_refl _, Nat.le_refl _, Nat.le_refl _, Nat.le_refl _⟩ h (fun r M' q => ?_)
      obtain ⟨v4, I5, J6, rfl, rfl, h⟩ := q
      change WP _ LAY m_X11_winter 79 [(0, vR (some 0)), (1, vI x1), (2, vI x2), (3, vI x3), (4, vI x4)] [vI v4, vI x3] (mem (P, some 5, some 22) I5 J6) Q
      refine st_iadd (pc' := 80) dX11_winter_79 rfl ?_
      refine st_istore_n (pc' := 81) (L' := [(3, vI (x3 + v4)), (0, vR (some 0)), (1, vI x1), (2, vI x2), (4, vI x4)]) dX11_winter_80 rfl rfl (by decide) rfl ?_
      refine st_iinc (pc' := 84) (L' := [(4, vI (x4 + 1)), (3, vI (x3 + v4)), (0, vR (some 0)), (1, vI x1), (2, vI x2)]) (j := 4) dX11_winter_81 rfl (by decide) rfl rfl ?_
      refine st_goto (pc' := 63) dX11_winter_84 (by decide) ?_
      refine WP_sub (L' := [(0, vR (some 0)), (1, vI x1), (2, vI x2), (3, vI (x3 + v4)), (4, vI (x4 + 1))]) [2, 3, 4, 1, 0] rfl ?_
      exact h
    · replace h := h.2 c
      obtain ⟨e7, h⟩ := h
      refine ⟨e7, ?_⟩
      change WP _ LAY m_X11_winter 76 [(0, vR (some 0)), (1, vI x1), (2, vI x2), (3, vI x3), (4, vI x4)] [vI (rem32 (div32 (and32 ((1103515245 * (gi I 0 11)) + 12345) 2147483647) 64) x2), vR (some 0), vI x3] (mem (P, some 5, some 22) (si I 0 11 (and32 ((1103515245 * (gi I 0 11)) + 12345) 2147483647)) J) Q
      refine st_callV (pc' := 79) (kc := k - 1) (E' := LAY) (cal := m_X11_passNight) (n := 1) (as := [vI (rem32 (div32 (and32 ((1103515245 * (gi I 0 11)) + 12345) 2147483647) 64) x2)]) (S := [vI x3]) dX11_winter_76 rfl l_X11_263 k_X11_passNight rfl L_0 c_X11 rfl rfl (Nat.le_of_ble_eq_true rfl) (by omega) ⟨Nat.le_refl _, Nat.le_refl _, Nat.le_refl _, Nat.le_refl _⟩ h (fun r M' q => ?_)
      obtain ⟨v8, I9, J10, rfl, rfl, h⟩ := q
      change WP _ LAY m_X11_winter 79 [(0, vR (some 0)), (1, vI x1), (2, vI x2), (3, vI x3), (4, vI x4)] [vI v8, vI x3] (mem (P, some 5, some 22) I9 J10) Q
      refine st_iadd (pc' := 80) dX11_winter_79 rfl ?_
      refine st_istore_n (pc' := 81) (L' := [(3, vI (x3 + v8)), (0, vR (some 0)), (1, vI x1), (2, vI x2), (4, vI x4)]) dX11_winter_80 rfl rfl (by decide) rfl ?_
      refine st_iinc (pc' := 84) (L' := [(4, vI (x4 + 1)), (3, vI (x3 + v8)), (0, vR (some 0)), (1, vI x1), (2, vI x2)]) (j := 4) dX11_winter_81 rfl (by decide) rfl rfl ?_
      refine st_goto (pc' := 63) dX11_winter_84 (by decide) ?_
      refine WP_sub (L' := [(0, vR (some 0)), (1, vI x1), (2, vI x2), (3, vI (x3 + v8)), (4, vI (x4 + 1))]) [2, 3, 4, 1, 0] rfl ?_
      exact h
set_option maxRecDepth 20000 in
set_option maxHeartbeats 4000000 in
theorem B_X11_work_0 {k : Nat} {P : Option Nat} {I : Nat → Nat → Int32} {J : Nat → Nat → Int64} {x1 : Int} {x2 : Int} {x3 : Int} {Q : Option AV → Mem → Prop} (hk : 1 ≤ k) (h : inR x1 ∧ ((¬ (0 ≤ x1 ∧ x1 < gi I 6 (2 : Int).toNat) → (Q (some (vI (-1))) (mem (P, some 5, some 22) I J))) ∧ ((0 ≤ x1 ∧ x1 < gi I 6 (2 : Int).toNat) → (inR x2 ∧ (((0 ≤ x2 ∧ x2 < shl32 1 (gi I 6 1)) → (inR x3 ∧ ((x3 = 0 → (WPm (k - 1) LAY m_X8_workOf [vR (some 51), vI x1, vI x2, vI (-1)] (mem (P, some 5, some 22) I J) (retI (fun v4 I5 J6 => Q (some (vI v4)) (mem (P, some 5, some 22) I5 J6)) (P, some 5, some 22)))) ∧ (¬ x3 = 0 → ((x3 = 1 → (WPm (k - 1) LAY m_X8_nightsOf [vR (some 51), vI x1, vI x2] (mem (P, some 5, some 22) I J) (retI (fun v7 I8 J9 => Q (some (vI v7)) (mem (P, some 5, some 22) I8 J9)) (P, some 5, some 22)))) ∧ (¬ x3 = 1 → ((x3 = 2 → (WPm (k - 1) LAY m_X8_pagesOf [vR (some 51), vI x1, vI x2, vI (-1)] (mem (P, some 5, some 22) I J) (retI (fun v10 I11 J12 => Q (some (vI v10)) (mem (P, some 5, some 22) I11 J12)) (P, some 5, some 22)))) ∧ (¬ x3 = 2 → (Q (some (vI (-1))) (mem (P, some 5, some 22) I J)))))))))) ∧ (¬ (0 ≤ x2 ∧ x2 < shl32 1 (gi I 6 1)) → (Q (some (vI (-1))) (mem (P, some 5, some 22) I J)))))))) : WP k LAY m_X11_work 0 [(0, vR (some 0)), (1, vI x1), (2, vI x2), (3, vI x3)] [] (mem (P, some 5, some 22) I J) Q := by
  refine st_aload_n (pc' := 1) dX11_work_0 rfl rfl (j := 0) rfl ?_
  refine G_X11_33_0 dX11_work_1 (pc' := 4) rfl rfl ?_
  refine G_X11_121_4 dX11_work_4 (pc' := 7) rfl rfl ?_
  refine st_iconst (pc' := 8) dX11_work_7 rfl ?_
  refine st_iload_n (pc' := 9) dX11_work_8 rfl rfl (j := 1) rfl ?_
  obtain ⟨e1, h⟩ := h
  refine st_callV (pc' := 12) (kc := k - 1) (E' := LAY) (cal := m_X7_holds) (n := 2) (as := [vI 2, vI x1]) (S := []) dX11_work_9 rfl l_X11_155 k_X7_holds rfl L_5 c_X7 rfl rfl (Nat.le_of_ble_eq_true rfl) (by omega) ⟨Nat.le_refl _, Nat.le_refl _, Nat.le_refl _, Nat.le_refl _⟩ (Q1 := fun r M' => WP k LAY m_X11_work 12 [(0, vR (some 0)), (1, vI x1), (2, vI x2), (3, vI x3)] (r.toList ++ []) M' Q) (S_X7_holds_5 (by omega) (by decide) e1 ?_) (fun r M' q => q)
  change WP _ LAY m_X11_work 12 [(0, vR (some 0)), (1, vI x1), (2, vI x2), (3, vI x3)] [vI (b2i (0 ≤ x1 ∧ x1 < gi I 6 (2 : Int).toNat))] (mem (P, some 5, some 22) I J) Q
  refine st_if_eq (tg := 29) (pc' := 15) dX11_work_12 (by decide) rfl (b2i_in _) (fun c => ?_) (fun c => ?_)
  · replace h := h.1 (b2i_f.mp c)
    refine st_iconst (pc' := 30) dX11_work_29 rfl ?_
    exact st_iret (ty := .int) dX11_work_30 rfl rfl rfl h
  · replace h := h.2 (b2i_t.mp c)
    refine st_aload_n (pc' := 16) dX11_work_15 rfl rfl (j := 0) rfl ?_
    refine G_X11_33_0 dX11_work_16 (pc' := 19) rfl rfl ?_
    refine G_X11_121_4 dX11_work_19 (pc' := 22) rfl rfl ?_
    refine st_iload_n (pc' := 23) dX11_work_22 rfl rfl (j := 2) rfl ?_
    obtain ⟨e2, h⟩ := h
    refine st_callV (pc' := 26) (kc := k - 1) (E' := LAY) (cal := m_X7_isQuestion) (n := 1) (as := [vI x2]) (S := []) dX11_work_23 rfl l_X11_276 k_X7_isQuestion rfl L_5 c_X7 rfl rfl (Nat.le_of_ble_eq_true rfl) (by omega) ⟨Nat.le_refl _, Nat.le_refl _, Nat.le_refl _, Nat.le_refl _⟩ (Q1 := fun r M' => WP k LAY m_X11_work 26 [(0, vR (some 0)), (1, vI x1), (2, vI x2), (3, vI x3)] (r.toList ++ []) M' Q) (S_X7_isQuestion_5 (by omega) e2 ?_) (fun r M' q => q)
    change WP _ LAY m_X11_work 26 [(0, vR (some 0)), (1, vI x1), (2, vI x2), (3, vI x3)] [vI (b2i (0 ≤ x2 ∧ x2 < shl32 1 (gi I 6 1)))] (mem (P, some 5, some 22) I J) Q
    refine st_if_ne (tg := 31) (pc' := 29) dX11_work_26 (by decide) rfl (b2i_in _) (fun c => ?_) (fun c => ?_)
    · replace h := h.1 (b2i_t.mp c)
      refine st_iload_n (pc' := 32) dX11_work_31 rfl rfl (j := 3) rfl ?_
      obtain ⟨e3, h⟩ := h
      by_cases c : x3 = 0
      · replace h := h.1 c
        refine st_tblIn (pc' := 60) (off := 28) dX11_work_32 e3 (by omega) (by rw [c]; rfl) (by decide) ?_
        refine st_aload_n (pc' := 61) dX11_work_60 rfl rfl (j := 0) rfl ?_
        refine G_X11_67_0 dX11_work_61 (pc' := 64) rfl rfl ?_
        refine st_iload_n (pc' := 65) dX11_work_64 rfl rfl (j := 1) rfl ?_
        refine st_iload_n (pc' := 66) dX11_work_65 rfl rfl (j := 2) rfl ?_
        refine st_iconst (pc' := 67) dX11_work_66 rfl ?_
        refine st_callV (pc' := 70) (kc := k - 1) (E' := LAY) (cal := m_X8_workOf) (n := 3) (as := [vI x1, vI x2, vI (-1)]) (S := []) dX11_work_67 rfl l_X11_279 k_X8_workOf rfl L_51 c_X8 rfl rfl (Nat.le_of_ble_eq_true rfl) (by omega) ⟨Nat.le_refl _, Nat.le_refl _, Nat.le_refl _, Nat.le_refl _⟩ h (fun r M' q => ?_)
        obtain ⟨v4, I5, J6, rfl, rfl, h⟩ := q
        change WP _ LAY m_X11_work 70 [(0, vR (some 0)), (1, vI x1), (2, vI x2), (3, vI x3)] [vI v4] (mem (P, some 5, some 22) I5 J6) Q
        exact st_iret (ty := .int) dX11_work_70 rfl rfl rfl h
      replace h := h.2 c
      have c0 := c
      clear c
      by_cases c : x3 = 1
      · replace h := h.1 c
        refine st_tblIn (pc' := 71) (off := 39) dX11_work_32 e3 (by omega) (by rw [c]; rfl) (by decide) ?_
        refine st_aload_n (pc' := 72) dX11_work_71 rfl rfl (j := 0) rfl ?_
        refine G_X11_67_0 dX11_work_72 (pc' := 75) rfl rfl ?_
        refine st_iload_n (pc' := 76) dX11_work_75 rfl rfl (j := 1) rfl ?_
        refine st_iload_n (pc' := 77) dX11_work_76 rfl rfl (j := 2) rfl ?_
        refine st_callV (pc' := 80) (kc := k - 1) (E' := LAY) (cal := m_X8_nightsOf) (n := 2) (as := [vI x1, vI x2]) (S := []) dX11_work_77 rfl l_X11_283 k_X8_nightsOf rfl L_51 c_X8 rfl rfl (Nat.le_of_ble_eq_true rfl) (by omega) ⟨Nat.le_refl _, Nat.le_refl _, Nat.le_refl _, Nat.le_refl _⟩ h (fun r M' q => ?_)
        obtain ⟨v7, I8, J9, rfl, rfl, h⟩ := q
        change WP _ LAY m_X11_work 80 [(0, vR (some 0)), (1, vI x1), (2, vI x2), (3, vI x3)] [vI v7] (mem (P, some 5, some 22) I8 J9) Q
        exact st_iret (ty := .int) dX11_work_80 rfl rfl rfl h
      replace h := h.2 c
      have c1 := c
      clear c
      by_cases c : x3 = 2
      · replace h := h.1 c
        refine st_tblIn (pc' := 81) (off := 49) dX11_work_32 e3 (by omega) (by rw [c]; rfl) (by decide) ?_
        refine st_aload_n (pc' := 82) dX11_work_81 rfl rfl (j := 0) rfl ?_
        refine G_X11_67_0 dX11_work_82 (pc' := 85) rfl rfl ?_
        refine st_iload_n (pc' := 86) dX11_work_85 rfl rfl (j := 1) rfl ?_
        refine st_iload_n (pc' := 87) dX11_work_86 rfl rfl (j := 2) rfl ?_
        refine st_iconst (pc' := 88) dX11_work_87 rfl ?_
        refine st_callV (pc' := 91) (kc := k - 1) (E' := LAY) (cal := m_X8_pagesOf) (n := 3) (as := [vI x1, vI x2, vI (-1)]) (S := []) dX11_work_88 rfl l_X11_286 k_X8_pagesOf rfl L_51 c_X8 rfl rfl (Nat.le_of_ble_eq_true rfl) (by omega) ⟨Nat.le_refl _, Nat.le_refl _, Nat.le_refl _, Nat.le_refl _⟩ h (fun r M' q => ?_)
        obtain ⟨v10, I11, J12, rfl, rfl, h⟩ := q
        change WP _ LAY m_X11_work 91 [(0, vR (some 0)), (1, vI x1), (2, vI x2), (3, vI x3)] [vI v10] (mem (P, some 5, some 22) I11 J12) Q
        exact st_iret (ty := .int) dX11_work_91 rfl rfl rfl h
      replace h := h.2 c
      have c2 := c
      clear c
      have go : WP k LAY m_X11_work 92 [(0, vR (some 0)), (1, vI x1), (2, vI x2), (3, vI x3)] [] (mem (P, some 5, some 22) I J) Q := by
        refine st_iconst (pc' := 93) dX11_work_92 rfl ?_
        exact st_iret (ty := .int) dX11_work_93 rfl rfl rfl h
      exact st_tblOut (pc' := 92) dX11_work_32 e3 (by omega) (by decide) go
    · replace h := h.2 (b2i_f.mp c)
      refine st_iconst (pc' := 30) dX11_work_29 rfl ?_
      exact st_iret (ty := .int) dX11_work_30 rfl rfl rfl h
end WX11
