section LWALK
/-! ===== library and open, walked with the shelves' other names ===== -/
set_option maxRecDepth 20000 in
set_option maxHeartbeats 4000000 in
theorem W_X2_set_0 {k : Nat} {rv : RV} {I : Nat → Nat → Int32} {J : Nat → Nat → Int64} {x1 : Int} {x2 : Int} {x3 : Int} {Q : Option AV → Mem → Prop} (hk : 0 ≤ k) (h : (0 ≤ ((3 + (x1 * 14)) + x2) ∧ ((3 + (x1 * 14)) + x2) < 87) ∧ (Q none (mem rv (si I 19 ((3 + (x1 * 14)) + x2).toNat x3) J))) : WP k LAY m_X2_set 0 [(0, vR (some 4)), (1, vI x1), (2, vI x2), (3, vI x3)] [] (mem rv I J) Q := by
  refine st_aload_n (pc' := 1) dX2_set_0 rfl rfl (j := 0) rfl ?_
  refine G_X2_9_4 dX2_set_1 (pc' := 4) rfl rfl ?_
  refine st_iconst (pc' := 5) dX2_set_4 rfl ?_
  refine st_iload_n (pc' := 6) dX2_set_5 rfl rfl (j := 1) rfl ?_
  refine st_bipush (pc' := 8) dX2_set_6 rfl (by decide) ?_
  refine st_imul (pc' := 9) dX2_set_8 rfl ?_
  refine st_iadd (pc' := 10) dX2_set_9 rfl ?_
  refine st_iload_n (pc' := 11) dX2_set_10 rfl rfl (j := 2) rfl ?_
  refine st_iadd (pc' := 12) dX2_set_11 rfl ?_
  refine st_iload_n (pc' := 13) dX2_set_12 rfl rfl (j := 3) rfl ?_
  obtain ⟨e1, h⟩ := h
  refine st_iastore (pc' := 14) (M' := (mem rv (si I 19 ((3 + (x1 * 14)) + x2).toNat x3) J)) dX2_set_13 rfl L_19 (by decide) e1 rfl ?_
  exact st_vret dX2_set_14 rfl rfl h
set_option maxRecDepth 20000 in
set_option maxHeartbeats 4000000 in
theorem W_X2_forget_0 {k : Nat} {rv : RV} {I : Nat → Nat → Int32} {J : Nat → Nat → Int64}  {Q : Option AV → Mem → Prop} (hk : 0 ≤ k) (h : Q none (mem rv (si (si (si I 4 4 0) 4 5 0) 4 6 ((gi I 4 6) + 1)) J)) : WP k LAY m_X2_forget 0 [(0, vR (some 4))] [] (mem rv I J) Q := by
  refine st_aload_n (pc' := 1) dX2_forget_0 rfl rfl (j := 0) rfl ?_
  refine st_iconst (pc' := 2) dX2_forget_1 rfl ?_
  refine P_X2_48_4 dX2_forget_2 (pc' := 5) rfl rfl ?_
  refine st_aload_n (pc' := 6) dX2_forget_5 rfl rfl (j := 0) rfl ?_
  refine st_iconst (pc' := 7) dX2_forget_6 rfl ?_
  refine P_X2_52_4 dX2_forget_7 (pc' := 10) rfl rfl ?_
  refine st_aload_n (pc' := 11) dX2_forget_10 rfl rfl (j := 0) rfl ?_
  refine st_dup (pc' := 12) dX2_forget_11 rfl rfl ?_
  refine G_X2_55_4 dX2_forget_12 (pc' := 15) rfl rfl ?_
  rw [show gi (si (si I 4 4 0) 4 5 0) 4 6 = (gi I 4 6) from ((gi_idx _ _ _ (by decide)).trans (gi_idx _ _ _ (by decide)))]
  refine st_iconst (pc' := 16) dX2_forget_15 rfl ?_
  refine st_iadd (pc' := 17) dX2_forget_16 rfl ?_
  refine P_X2_55_4 dX2_forget_17 (pc' := 20) rfl rfl ?_
  exact st_vret dX2_forget_20 rfl rfl h
set_option maxRecDepth 20000 in
set_option maxHeartbeats 4000000 in
theorem W_X2_open_15 {k : Nat} {rv : RV} {I : Nat → Nat → Int32} {J : Nat → Nat → Int64} {x2 : Int} {Q : Option AV → Mem → Prop} (hk : 1 ≤ k) (h : inR x2 ∧ ((6 ≤ x2 → (Q none (mem rv (si (si (si I 4 4 0) 4 5 0) 4 6 ((gi I 4 6) + 1)) J))) ∧ (¬ 6 ≤ x2 → ((0 ≤ ((3 + (x2 * 14)) + 3) ∧ ((3 + (x2 * 14)) + 3) < 87) ∧ (WP k LAY m_X2_open 15 [(0, vR (some 4)), (2, vI (x2 + 1))] [] (mem rv (si I 19 ((3 + (x2 * 14)) + 3).toNat (-1)) J) Q))))) : WP k LAY m_X2_open 15 [(0, vR (some 4)), (2, vI x2)] [] (mem rv I J) Q := by
  refine st_iload_n (pc' := 16) dX2_open_15 rfl rfl (j := 1) rfl ?_
  refine st_bipush (pc' := 18) dX2_open_16 rfl (by decide) ?_
  obtain ⟨e1, h⟩ := h
  refine st_icmp_ge (tg := 34) (pc' := 21) dX2_open_18 (by decide) rfl e1 (by decide) (fun c => ?_) (fun c => ?_)
  · replace h := h.1 c
    refine st_aload_n (pc' := 35) dX2_open_34 rfl rfl (j := 0) rfl ?_
    refine st_callV (pc' := 38) (kc := k - 1) (E' := LAY) (cal := m_X2_forget) (n := 0) (as := []) (S := []) dX2_open_35 rfl l_X2_39 k_X2_forget rfl L_4 c_X2 rfl rfl (Nat.le_of_ble_eq_true rfl) (by omega) ⟨Nat.le_refl _, Nat.le_refl _, Nat.le_refl _, Nat.le_refl _⟩ (Q1 := fun r M' => WP k LAY m_X2_open 38 [(0, vR (some 4)), (2, vI x2)] (r.toList ++ []) M' Q) (WPm.of k_X2_forget.1 (Nat.le_of_ble_eq_true rfl) (W_X2_forget_0 (by omega) ?_)) (fun r M' q => q)
    change WP _ LAY m_X2_open 38 [(0, vR (some 4)), (2, vI x2)] [] (mem rv (si (si (si I 4 4 0) 4 5 0) 4 6 ((gi I 4 6) + 1)) J) Q
    exact st_vret dX2_open_38 rfl rfl h
  · replace h := h.2 c
    refine st_aload_n (pc' := 22) dX2_open_21 rfl rfl (j := 0) rfl ?_
    refine st_iload_n (pc' := 23) dX2_open_22 rfl rfl (j := 1) rfl ?_
    refine st_iconst (pc' := 24) dX2_open_23 rfl ?_
    refine st_iconst (pc' := 25) dX2_open_24 rfl ?_
    refine st_callV (pc' := 28) (kc := k - 1) (E' := LAY) (cal := m_X2_set) (n := 3) (as := [vI x2, vI 3, vI (-1)]) (S := []) dX2_open_25 rfl l_X2_35 k_X2_set rfl L_4 c_X2 rfl rfl (Nat.le_of_ble_eq_true rfl) (by omega) ⟨Nat.le_refl _, Nat.le_refl _, Nat.le_refl _, Nat.le_refl _⟩ (Q1 := fun r M' => WP k LAY m_X2_open 28 [(0, vR (some 4)), (2, vI x2)] (r.toList ++ []) M' Q) (WPm.of k_X2_set.1 (Nat.le_of_ble_eq_true rfl) (W_X2_set_0 (by omega) ?_)) (fun r M' q => q)
    obtain ⟨e2, h⟩ := h
    refine ⟨e2, ?_⟩
    change WP _ LAY m_X2_open 28 [(0, vR (some 4)), (2, vI x2)] [] (mem rv (si I 19 ((3 + (x2 * 14)) + 3).toNat (-1)) J) Q
    refine st_iinc (pc' := 31) (L' := [(2, vI (x2 + 1)), (0, vR (some 4))]) (j := 1) dX2_open_28 rfl (by decide) rfl rfl ?_
    refine st_goto (pc' := 15) dX2_open_31 (by decide) ?_
    refine WP_sub (L' := [(0, vR (some 4)), (2, vI (x2 + 1))]) [1, 0] rfl ?_
    exact h
set_option maxRecDepth 20000 in
set_option maxHeartbeats 4000000 in
theorem W_X11_library_0 {k : Nat} {P : Option Nat} {I : Nat → Nat → Int32} {J : Nat → Nat → Int64}  {Q : Option AV → Mem → Prop} (hk : 1 ≤ k) (h : WPm (k - 1) LAY m_X3_parse [vR (some 3), vR (some 22)] (mem (P, some 5, some 22) I J) (retI (fun v1 I2 J3 => inR v1 ∧ ((¬ v1 = (-1) → (WPm (k - 1) LAY m_X2_open [vR (some 4), vR (some 22)] (mem (some 22, some 5, some 22) (si I2 1 1 0) J3) (retV (fun I6 J7 => Q (some (vI v1)) (mem (some 22, some 22, some 5) I6 J7)) (some 22, some 22, some 22)))) ∧ (v1 = (-1) → (Q (some (vI (-1))) (mem (some 22, some 5, some 22) (si (si I2 1 1 0) 73 1 ((gi (si I2 1 1 0) 73 1) + 1)) J3))))) (some 22, some 5, some 22))) : WP k LAY m_X11_library 0 [(0, vR (some 0))] [] (mem (P, some 5, some 22) I J) Q := by
  refine st_aload_n (pc' := 1) dX11_library_0 rfl rfl (j := 0) rfl ?_
  refine G_X11_21_0 dX11_library_1 (pc' := 4) rfl rfl ?_
  refine st_aload_n (pc' := 5) dX11_library_4 rfl rfl (j := 0) rfl ?_
  refine G_X11_37_0 dX11_library_5 (pc' := 8) rfl rfl ?_
  refine st_callV (pc' := 11) (kc := k - 1) (E' := LAY) (cal := m_X3_parse) (n := 1) (as := [vR (some 22)]) (S := []) dX11_library_8 rfl l_X11_117 k_X3_parse rfl L_3 c_X3 rfl rfl (Nat.le_of_ble_eq_true rfl) (by omega) ⟨Nat.le_refl _, Nat.le_refl _, Nat.le_refl _, Nat.le_refl _⟩ h (fun r M' q => ?_)
  obtain ⟨v1, I2, J3, rfl, rfl, h⟩ := q
  change WP _ LAY m_X11_library 11 [(0, vR (some 0))] [vI v1] (mem (some 22, some 5, some 22) I2 J3) Q
  refine st_istore_n (pc' := 12) (L' := [(1, vI v1), (0, vR (some 0))]) dX11_library_11 rfl rfl (by decide) rfl ?_
  refine st_aload_n (pc' := 13) dX11_library_12 rfl rfl (j := 1) rfl ?_
  refine G_X11_10_0 dX11_library_13 (pc' := 16) rfl rfl ?_
  refine st_iconst (pc' := 17) dX11_library_16 rfl ?_
  refine P_X11_102_1 dX11_library_17 (pc' := 20) rfl rfl ?_
  refine st_iload_n (pc' := 21) dX11_library_20 rfl rfl (j := 0) rfl ?_
  refine st_iconst (pc' := 22) dX11_library_21 rfl ?_
  obtain ⟨e4, h⟩ := h
  refine st_icmp_ne (tg := 31) (pc' := 25) dX11_library_22 (by decide) rfl e4 (by decide) (fun c => ?_) (fun c => ?_)
  · replace h := h.1 c
    refine st_aload_n (pc' := 32) dX11_library_31 rfl rfl (j := 1) rfl ?_
    refine G_X11_33_0 dX11_library_32 (pc' := 35) rfl rfl ?_
    refine G_X11_121_4 dX11_library_35 (pc' := 38) rfl rfl ?_
    refine st_astore_n (pc' := 39) (L' := [(2, vR (some 5)), (1, vI v1), (0, vR (some 0))]) dX11_library_38 rfl rfl (by decide) rfl ?_
    refine st_aload_n (pc' := 40) dX11_library_39 rfl rfl (j := 2) rfl ?_
    refine G_X11_33_0 dX11_library_40 (pc' := 43) rfl rfl ?_
    refine st_aload_n (pc' := 44) dX11_library_43 rfl rfl (j := 2) rfl ?_
    refine G_X11_37_0 dX11_library_44 (pc' := 47) rfl rfl ?_
    refine st_callV (pc' := 50) (kc := k - 1) (E' := LAY) (cal := m_X2_open) (n := 1) (as := [vR (some 22)]) (S := []) dX11_library_47 rfl l_X11_124 k_X2_open rfl L_4 c_X2 rfl rfl (Nat.le_of_ble_eq_true rfl) (by omega) ⟨Nat.le_refl _, Nat.le_refl _, Nat.le_refl _, Nat.le_refl _⟩ h (fun r M' q => ?_)
    obtain ⟨I6, J7, rfl, rfl, h⟩ := q
    change WP _ LAY m_X11_library 50 [(2, vR (some 5)), (1, vI v1), (0, vR (some 0))] [] (mem (some 22, some 22, some 22) I6 J7) Q
    refine st_aload_n (pc' := 51) dX11_library_50 rfl rfl (j := 2) rfl ?_
    refine st_aload_n (pc' := 52) dX11_library_51 rfl rfl (j := 0) rfl ?_
    refine P_X11_37_0 dX11_library_52 (pc' := 55) rfl rfl ?_
    change WP _ _ _ _ _ _ (mem (some 22, some 22, some 5) I6 J7) _
    refine st_iload_n (pc' := 56) dX11_library_55 rfl rfl (j := 1) rfl ?_
    exact st_iret (ty := .int) dX11_library_56 rfl rfl rfl h
  · replace h := h.2 c
    refine st_aload_n (pc' := 26) dX11_library_25 rfl rfl (j := 1) rfl ?_
    refine st_iconst (pc' := 27) dX11_library_26 rfl ?_
    refine st_callV (pc' := 30) (kc := k - 1) (E' := LAY) (cal := m_X11_refuse) (n := 1) (as := [vI 1]) (S := []) dX11_library_27 rfl l_X11_105 k_X11_refuse rfl L_0 c_X11 rfl rfl (Nat.le_of_ble_eq_true rfl) (by omega) ⟨Nat.le_refl _, Nat.le_refl _, Nat.le_refl _, Nat.le_refl _⟩ (Q1 := fun r M' => WP k LAY m_X11_library 30 [(1, vI v1), (0, vR (some 0))] (r.toList ++ []) M' Q) (WPm.of k_X11_refuse.1 (Nat.le_of_ble_eq_true rfl) (B_X11_refuse_0 (by omega) ?_)) (fun r M' q => q)
    refine ⟨by decide, ?_⟩
    change WP _ LAY m_X11_library 30 [(1, vI v1), (0, vR (some 0))] [vI (-1)] (mem (some 22, some 5, some 22) (si (si I2 1 1 0) 73 1 ((gi (si I2 1 1 0) 73 1) + 1)) J3) Q
    exact st_iret (ty := .int) dX11_library_30 rfl rfl rfl h
/-! ===== a call, begun while the shelves stand the other way round ===== -/
theorem Hd_sw2 {G : Geo} {P : Option Nat} {I : Nat → Nat → Int32} {J : Nat → Nat → Int64} {H : Heap} (h : Hd G (mem (P, some 5, some 22) I J) H) : Hd (swG G) (mem (P.map sg, some 22, some 5) (swI I) (swI J)) H := by
  have hl : (mem (P, some 5, some 22) I J).1.length = 132 := lay_len
  have had : adOk G 132 := by rw [← hl]; exact h.2.2
  refine Hd_ren (G := G) (G' := swG G) (M := mem (P, some 5, some 22) I J) (M' := mem (P.map sg, some 22, some 5) (swI I) (swI J)) sg rfl rfl (Eq.refl LAY.length) (fun c hc => by rw [hl] at hc ⊢; exact sg_lt hc) (by rw [hl]; exact swG_ad had) (fun c hc => rfl) (fun c hc => ?_) h
  rw [hl] at hc
  have e0 : LAY.getD (sg c) (0, 0) = LAY.getD c (0, 0) := of_decide_eq_true (all_at lay_sg hc)
  show encC (swG G) _ c (LAY.getD c (0, 0)) = encC G _ (sg c) (LAY.getD (sg c) (0, 0))
  rw [e0]
  refine enc_ren (G := G) (G' := swG G) (M := mem (P, some 5, some 22) I J) (M' := mem (P.map sg, some 22, some 5) (swI I) (swI J)) (c := c) (d := sg c) ⟨rfl, rfl, rfl⟩ rfl rfl _ (fun ci n k ht hk => ?_)
  have hk100 : k < 100 := by
    have := of_decide_eq_true (all_at lay_sl hc)
    rw [ht] at this
    rcases this with q | q
    · exact absurd q (by show ¬ ci + 3 < 3; omega)
    · exact Nat.lt_of_lt_of_le hk q
  have hr := of_decide_eq_true (all_at (all_at rf_sg hc) hk100)
  show (RF (P.map sg, some 22, some 5) c k).map (fun c => gA G (sg c)) = (RF (P, some 5, some 22) (sg c) k).map (gA G)
  have key : RF (P.map sg, some 22, some 5) c k = (RF (P, some 5, some 22) (sg c) k).map sg := by
    rcases hr with ⟨rfl, rfl⟩ | ⟨rfl, rfl⟩ | ⟨rfl, rfl⟩ | hr
    · rfl
    · rfl
    · rfl
    · unfold RF
      by_cases q1 : c = 3 ∧ k = 1
      · obtain ⟨rfl, rfl⟩ := q1; rfl
      · by_cases q2 : c = 4 ∧ k = 0
        · obtain ⟨rfl, rfl⟩ := q2; rfl
        · by_cases q3 : c = 0 ∧ k = 10
          · obtain ⟨rfl, rfl⟩ := q3; rfl
          · have s3 : ¬ (sg c = 3 ∧ k = 1) := fun z => q1 ⟨by rw [← sg_sg c, z.1]; rfl, z.2⟩
            have s4 : ¬ (sg c = 4 ∧ k = 0) := fun z => q2 ⟨by rw [← sg_sg c, z.1]; rfl, z.2⟩
            have s0 : ¬ (sg c = 0 ∧ k = 10) := fun z => q3 ⟨by rw [← sg_sg c, z.1]; rfl, z.2⟩
            rw [if_neg q1, if_neg q2, if_neg q3, if_neg s3, if_neg s4, if_neg s0]
            exact hr.symm
  rw [key, Option.map_map]
  congr 1
  funext d
  show gA G (sg (sg d)) = gA G d
  rw [sg_sg]
theorem swG_sw (G : Geo) : swG (swG G) = G := by
  obtain ⟨a, b, c, d, f⟩ := G
  show (a, b, c, d, fun x => f (sg (sg x))) = (a, b, c, d, f)
  congr 4
  funext x
  rw [sg_sg]
theorem swI_sw {α : Type} (f : Nat → Nat → α) : swI (swI f) = f := by
  funext c
  show f (sg (sg c)) = f c
  rw [sg_sg]
theorem Stat.sw {G : Geo} {U : State} {H : Heap} (h : Stat G U H) : Stat (swG G) U H := by
  have e0 : gA (swG G) 1000000 = gA G 1000000 := congrArg (gA G) (sg_off (by omega) (by omega))
  have e1 : gA (swG G) 1000001 = gA G 1000001 := congrArg (gA G) (sg_off (by omega) (by omega))
  have e2 : gA (swG G) 1000002 = gA G 1000002 := congrArg (gA G) (sg_off (by omega) (by omega))
  unfold Stat at h ⊢
  rw [e0, e1, e2]
  exact h
theorem Hold.sw {G : Geo} {P : Option Nat} {I : Nat → Nat → Int32} {J : Nat → Nat → Int64} {U : State} (h : Hold G LAY (mem (P, some 22, some 5) I J) U) : Hold (swG G) LAY (mem (P.map sg, some 5, some 22) (swI I) (swI J)) U := ⟨Hd_sw h.1, h.2.1, h.2.2.1.sw, h.2.2.2⟩
theorem Hold.sw2 {G : Geo} {P : Option Nat} {I : Nat → Nat → Int32} {J : Nat → Nat → Int64} {U : State} (h : Hold (swG G) LAY (mem (P, some 5, some 22) I J) U) : Hold G LAY (mem (P.map sg, some 22, some 5) (swI I) (swI J)) U := by
  have h1 := Hd_sw2 h.1
  have h2 := h.2.2.1.sw
  rw [swG_sw] at h1 h2
  exact ⟨h1, h.2.1, h2, h.2.2.2⟩
/-- the reference's call with the shelves the other way round -/
theorem WPm_sw {k : Nat} {md : MD} {P : Option Nat} {I : Nat → Nat → Int32} {J : Nat → Nat → Int64} {z : Int} {V : Cpl} (h : WPm k LAY md [vR (some 74)] (mem (P.map sg, some 5, some 22) (swI I) (swI J)) (fun r M => r = some (vI z) ∧ ∃ P' I' J', M = mem (P', some 5, some 22) I' J' ∧ V I' J')) : WPm k LAY md [vR (some 74)] (mem (P, some 22, some 5) I J) (fun r M => r = some (vI z) ∧ Cpl2 V M) := by
  intro l G
  have h1 := h l (swG G)
  unfold Met at h1 ⊢
  refine MetFree.mono h1 (fun a s hp => ?_) (fun _ _ _ _ _ _ => trivial) (fun a s o s' hp hq => ⟨?_, hq.2⟩)
  · obtain ⟨p1, p2⟩ := hp
    exact ⟨p1, Hold.sw p2⟩
  · obtain ⟨⟨r, M', q1, ⟨q2, P', I', J', q3, q4⟩, q5, q6, q7⟩, -⟩ := hq
    subst q3
    subst q2
    exact ⟨some (vI z), mem (P'.map sg, some 22, some 5) (swI I') (swI J'), q1, ⟨rfl, Or.inr ⟨_, _, _, rfl, by rw [swI_sw, swI_sw]; exact q4⟩⟩, rfl, Hold.sw2 q6, q7⟩
end LWALK
