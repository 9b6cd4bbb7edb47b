section ONREADS
/-! ===== the class reads an image ===== -/
theorem S_X4_chk {k : Nat} {P : Option Nat} {I : Nat → Nat → Int32} {J : Nat → Nat → Int64} {Q : Option AV → Mem → Prop} {T : Nat → Int} {n : Nat} (hk : 1 ≤ k) (hT : TpC I T n) (hn : 1 ≤ n) (hQ : Q (some (vI (chT T (n - 1)))) (mem (rv0 P) I J)) : WPm k LAY m_X4_checkOf [vR (some 1)] (mem (rv0 P) I J) Q := by
  have e11 := hT.1
  have h16 := hT.2.1
  refine WPm.of k_X4_checkOf.1 (Nat.le_of_ble_eq_true rfl) (B_X4_checkOf_0 (by omega) ?_)
  have loop : ∀ (d m : Nat) (x c : Int), m + d = n - 1 → x = m → c = chT T m → WP k LAY m_X4_checkOf 5 [(0, vR (some 1)), (1, vI c), (2, vI x)] [] (mem (P, some 5, some 22) I J) Q := by
    intro d
    induction d with
    | zero =>
      intro m x c hm hx hc
      refine B_X4_checkOf_5 (by omega) ⟨⟨by omega, by omega⟩, ⟨by omega, by omega⟩, fun _ => Qat hQ ?_, fun q => absurd q (by omega)⟩
      rw [hc, show n - 1 = m by omega]
    | succ d ih =>
      intro m x c hm hx hc
      subst hx; subst hc
      have cb := chT_bd T m
      have tb := (hT.2.2 m (by omega)).2
      refine B_X4_checkOf_5 (by omega) ⟨⟨by omega, by omega⟩, ⟨by omega, by omega⟩, fun q => absurd q (by omega), fun _ => ⟨by omega, ih (m + 1) _ _ (by omega) (by omega) ?_⟩⟩
      rw [tpc_byt hT rfl, if_pos (by omega), rem32_pos ⟨by omega, by omega⟩ (by decide)]
      rfl
  exact loop (n - 1) 0 0 83 (Nat.zero_add _) rfl rfl
def RowOn (L : Lb) (T : Nat → Int) (I : Nat → Nat → Int32) : Prop := gi I 72 0 = w2 T 0 ∧ gi I 72 1 = w2 T 2 ∧ gi I 72 2 = 0 ∧ ∀ r, r < (nR L).toNat → RecOn I T r (onQ T r)
theorem RecOn.mv {I I' : Nat → Nat → Int32} {T : Nat → Int} {r a : Nat} (h : RecOn I T r a) (h8 : T (a + 8) ≤ 8) (hf : ∀ k : Nat, 3 + 14 * r ≤ k → k < 3 + 14 * r + 14 → gi I' 72 k = gi I 72 k) : RecOn I' T r a := by
  obtain ⟨a0, a1, a2, a3, a4, a5, a6⟩ := h
  exact ⟨(hf _ (by omega) (by omega)).trans a0, (hf _ (by omega) (by omega)).trans a1, (hf _ (by omega) (by omega)).trans a2, (hf _ (by omega) (by omega)).trans a3, (hf _ (by omega) (by omega)).trans a4, (hf _ (by omega) (by omega)).trans a5, fun j hj => (hf _ (by omega) (by omega)).trans (a6 j hj)⟩
theorem onO.mono {L : Lb} {T : Nat → Int} {lim lim' a : Nat} (h : onO L T lim a) (hl : lim ≤ lim') : onO L T lim' a := ⟨Int.le_trans h.1 (by omega), h.2⟩
theorem onO.sz {L : Lb} {T : Nat → Int} {lim a : Nat} (h : onO L T lim a) : 0 ≤ T (a + 8) ∧ T (a + 8) ≤ 8 := h.2.2.2.2.2.1
/-- how far the reading is: on its way, or beyond hope -/
def onA (L : Lb) (T : Nat → Int) (n : Nat) (I : Nat → Nat → Int32) (m : Nat) : Prop := 5 ≤ n ∧ gi I 70 3 = ((onQ T m : Nat) : Int) ∧ onQ T m ≤ n - 1 ∧ ∀ i, i < m → onO L T (n - 1) (onQ T i) ∧ RecOn I T i (onQ T i)
def onB (L : Lb) (T : Nat → Int) (n : Nat) (I : Nat → Nat → Int32) : Prop := (∃ a : Nat, gi I 70 3 = (a : Int) ∧ n ≤ a ∧ a ≤ 1604) ∧ ¬ onK L T n
theorem S_X4_read {k : Nat} {P : Option Nat} {I : Nat → Nat → Int32} {J : Nat → Nat → Int64} {Q : Option AV → Mem → Prop} {L : Lb} {R : Rl} {H : Hl} {T : Nat → Int} {n : Nat} (hk : 6 ≤ k) (hX : CX I L R H) (hT : TpC I T n)
    (hQ : ∀ I' v, Fr [72] [(70, 3)] I I' → (v = 0 ∧ ¬ onK L T n ∨ v = 1 ∧ onK L T n ∧ RowOn L T I') → Q (some (vI v)) (mem (rv0 P) I' J)) : WPm k LAY m_X4_read [vR (some 70), vR (some 1), vR (some 5)] (mem (rv0 P) I J) Q := by
  have hL := hX.1.2.2.2.1
  have hR6 := hL.2.2.1
  have h16 := hT.2.1
  have frm : ∀ I' : Nat → Nat → Int32, Fr [72] [(70, 3)] I I' → TpC I' T n ∧ CX I' L R H := fun I' hF => ⟨hT.fr (hF.gv 1 1 (by decide) (by decide)) (hF.cell 2 (by decide) (by decide)), hX.fr (hF.cx (by decide) (by decide))⟩
  have no : ∀ I' : Nat → Nat → Int32, Fr [72] [(70, 3)] I I' → ¬ onK L T n → Q (some (vI 0)) (mem (P, some 5, some 22) I' J) := fun I' h1 h3 => hQ I' 0 h1 (Or.inl ⟨rfl, h3⟩)
  -- the readers, then the end
  have loop : (5 ≤ n → w2 T 0 ≤ 999 ∧ w2 T 2 ≤ 9999) → ∀ (d r : Nat) (x : Int) (I2 : Nat → Nat → Int32), r + d = 6 → x = r → Fr [72] [(70, 3)] I I2 → (5 ≤ n → gi I2 72 0 = w2 T 0 ∧ gi I2 72 1 = w2 T 2 ∧ gi I2 72 2 = 0) → (onA L T n I2 (min r (nR L).toNat) ∨ onB L T n I2) → WP k LAY m_X4_read 69 [(0, vR (some 70)), (1, vR (some 1)), (2, vR (some 5)), (3, vI x)] [] (mem (P, some 5, some 22) I2 J) Q := by
    intro hw d
    induction d with
    | zero =>
      intro r x I2 hr hx hF h0 hst
      obtain ⟨hT2, hX2⟩ := frm I2 hF
      have e11 := hT2.1
      refine B_X4_read_69 (by omega) ⟨⟨by omega, by omega⟩, fun _ => ⟨⟨by omega, by omega⟩, fun q => no I2 hF (fun hK => ?_), fun q => ⟨by omega, ?_⟩⟩, fun q => absurd q (by omega)⟩
      · rcases hst with ⟨n5, a1, a2, a3⟩ | ⟨-, b⟩
        · have := hK.2.2.2.2.1
          rw [show min r (nR L).toNat = (nR L).toNat by omega] at a1
          omega
        · exact b hK
      · rcases hst with ⟨n5, a1, a2, a3⟩ | ⟨⟨a, b1, b2, -⟩, -⟩
        · rw [show min r (nR L).toNat = (nR L).toNat by omega] at a1 a2 a3
          have eq1 : onQ T (nR L).toNat = n - 1 := by omega
          rw [eq1] at a1
          have cb := chT_bd T (n - 1)
          refine S_X4_chk (by omega) hT2 (by omega) ⟨_, _, _, rfl, rfl, ⟨by omega, by omega⟩, ?_⟩
          rw [tpc_byt hT2 a1, if_pos (by omega)]
          refine ⟨fun q2 => no I2 hF (fun hK => q2 hK.2.2.2.2.2), fun q2 => hQ I2 1 hF (Or.inr ⟨rfl, ⟨n5, (hw n5).1, (hw n5).2, fun i hi => (a3 i hi).1, eq1, q2⟩, (h0 n5).1, (h0 n5).2.1, (h0 n5).2.2, fun i hi => (a3 i hi).2⟩)⟩
        · omega
    | succ d ih =>
      intro r x I2 hr hx hF h0 hst
      subst hx
      obtain ⟨hT2, hX2⟩ := frm I2 hF
      have hF3 : Fr [72] [(70, 3)] I (si I2 72 ((3 + ((r : Int) * 14)) + 3).toNat (-1)) := hF.up 72 _ _ (Or.inl (by decide))
      have o3 : ∀ k : Nat, k ≠ 3 + 14 * r + 3 → gi (si I2 72 ((3 + ((r : Int) * 14)) + 3).toNat (-1)) 72 k = gi I2 72 k := fun k hk => gi_idx _ _ _ (by omega)
      have p3 : gi (si I2 72 ((3 + ((r : Int) * 14)) + 3).toNat (-1)) 70 3 = gi I2 70 3 := gi_cell _ _ _ _ (by decide)
      refine B_X4_read_69 (by omega) ?_
      rw [cx_n hX2]
      generalize si I2 72 ((3 + ((r : Int) * 14)) + 3).toNat (-1) = I3 at hF3 o3 p3 ⊢
      obtain ⟨hT3, hX3⟩ := frm I3 hF3
      have h03 : 5 ≤ n → gi I3 72 0 = w2 T 0 ∧ gi I3 72 1 = w2 T 2 ∧ gi I3 72 2 = 0 := fun n5 => by
        rw [o3 0 (by omega), o3 1 (by omega), o3 2 (by omega)]
        exact h0 n5
      have mvA : ∀ m, m ≤ r → onA L T n I2 m → onA L T n I3 m := fun m hm ⟨n5, a1, a2, a3⟩ => ⟨n5, p3.trans a1, a2, fun i hi => ⟨(a3 i hi).1, (a3 i hi).2.mv (a3 i hi).1.sz.2 (fun k k0 k1 => o3 k (by omega))⟩⟩
      have mvB : onB L T n I2 → onB L T n I3 := fun ⟨⟨a, b1, b2, b3⟩, b⟩ => ⟨⟨a, p3.trans b1, b2, b3⟩, b⟩
      refine ⟨⟨by omega, by omega⟩, fun q => absurd q (by omega), fun _ => ⟨⟨by omega, by omega⟩, fun q => ih (r + 1) _ I3 (by omega) (by omega) hF3 h03 ?_, fun q => ?_⟩⟩
      · rcases hst with a | b
        · rw [show min r (nR L).toNat = (nR L).toNat by omega] at a
          refine Or.inl ?_
          rw [show min (r + 1) (nR L).toNat = (nR L).toNat by omega]
          exact mvA _ (by omega) a
        · exact Or.inr (mvB b)
      · rcases hst with a | b
        · rw [show min r (nR L).toNat = r by omega] at a
          obtain ⟨n5, a1, a2, a3⟩ := mvA _ (Nat.le_refl _) a
          refine S_X4_one (by omega) hX3 hT3 a1 (by omega) (by omega) (fun I10 v hF10 ho hv => ⟨_, _, _, rfl, rfl, by omega, fun w => ?_, fun w => ?_⟩)
          · obtain ⟨-, h1, h2, h3⟩ := hv.resolve_left (fun t => w t.1)
            have hFx := hF3.tr hF10
            refine ih (r + 1) _ I10 (by omega) (by omega) hFx (fun n5 => ?_) ?_
            · rw [ho 0 (by omega), ho 1 (by omega), ho 2 (by omega)]
              exact h03 n5
            · have s8 := h1.sz
              have eQ : onQ T (r + 1) = onQ T r + 9 + (T (onQ T r + 8)).toNat := rfl
              by_cases c : onQ T (r + 1) ≤ n - 1
              · refine Or.inl ?_
                rw [show min (r + 1) (nR L).toNat = r + 1 by omega]
                refine ⟨n5, by rw [h2, eQ]; omega, c, fun i hi => ?_⟩
                by_cases e : i = r
                · rw [e]
                  exact ⟨⟨by omega, h1.2⟩, h3⟩
                · obtain ⟨b1, b2⟩ := a3 i (by omega)
                  exact ⟨b1, b2.mv b1.sz.2 (fun k k0 k1 => ho k (by omega))⟩
              · refine Or.inr ⟨⟨onQ T (r + 1), by rw [h2, eQ]; omega, by omega, by have := h1.1; omega⟩, fun hK => ?_⟩
                have := (hK.2.2.2.1 r (by omega)).1
                omega
          · have h1 := (hv.resolve_right (fun t => by omega)).2
            exact no I10 (hF3.tr hF10) (fun hK => h1 ((hK.2.2.2.1 r (by omega)).mono (by omega)))
        · obtain ⟨⟨a, b1, b2, b3⟩, b4⟩ := mvB b
          refine S_X4_one (by omega) hX3 hT3 b1 (by omega) (by omega) (fun I10 v hF10 ho hv => ⟨_, _, _, rfl, rfl, by omega, fun w => ?_, fun w => no I10 (hF3.tr hF10) b4⟩)
          obtain ⟨-, h1, -⟩ := hv.resolve_left (fun t => w t.1)
          have := h1.1
          have := h1.sz
          omega
  refine WPm.of k_X4_read.1 (Nat.le_of_ble_eq_true rfl) (B_X4_read_0 (by omega) ?_)
  have hF0 : Fr [72] [(70, 3)] I (si (flI I 72 87 0) 70 3 0) := by
    refine Fr.up (fun c k a b => ?_) 70 3 0 (Or.inr (by decide))
    have h1 : c ≠ 72 := fun t => a (by rw [t]; decide)
    unfold flI
    rw [if_neg h1]
  have z2 : gi (si (flI I 72 87 0) 70 3 0) 72 2 = 0 := by
    rw [gi_cell _ _ _ _ (by decide), gi_flI _ _ _ (by decide), if_pos (by decide)]
  have z70 : gi (si (flI I 72 87 0) 70 3 0) 70 3 = ((0 : Nat) : Int) := gi_same _ _ _ (by decide)
  generalize si (flI I 72 87 0) 70 3 0 = I0 at hF0 z2 z70 ⊢
  refine S_X4_take2 (by omega) (frm I0 hF0).1 z70 (by omega) (fun I2 v1 hF2 a2 h1 => ⟨_, _, _, rfl, rfl, ?_⟩)
  dsimp only
  have hF2' : Fr [72] [(70, 3)] I I2 := hF0.tr (hF2.mono (by simp) (by simp))
  have tb : ∀ j, j < n → 0 ≤ T j ∧ T j ≤ 255 := fun j hj => (hT.2.2 j hj).2
  have w0 : w2 T 0 = 256 * T 0 + T 1 := rfl
  have w22 : w2 T 2 = 256 * T 2 + T 3 := rfl
  have v1r : inR v1 := by
    rw [h1]
    by_cases q : 0 + 1 < n
    · have := tb 0 (by omega)
      have := tb 1 (by omega)
      rw [if_pos q]
      exact ⟨by omega, by omega⟩
    · rw [if_neg q]
      decide
  have hF3 : Fr [72] [(70, 3)] I (si I2 72 0 v1) := hF2'.up 72 _ _ (Or.inl (by decide))
  have y0 : gi (si I2 72 0 v1) 72 0 = v1 := gi_same _ _ _ v1r
  have y2 : gi (si I2 72 0 v1) 72 2 = 0 := (gi_idx _ _ _ (by decide)).trans ((hF2.gv 72 2 (by decide) (by simp)).trans z2)
  have y70 : gi (si I2 72 0 v1) 70 3 = ((0 + 2 : Nat) : Int) := (gi_cell _ _ _ _ (by decide)).trans a2
  generalize si I2 72 0 v1 = I3 at hF3 y0 y2 y70 ⊢
  refine S_X4_take2 (by omega) (frm I3 hF3).1 y70 (by omega) (fun I5 v4 hF5 a5 h4 => ⟨_, _, _, rfl, rfl, ?_⟩)
  have hF5' : Fr [72] [(70, 3)] I I5 := hF3.tr (hF5.mono (by simp) (by simp))
  have v4r : inR v4 := by
    rw [h4]
    by_cases q : 0 + 2 + 1 < n
    · have := tb 2 (by omega)
      have := tb 3 (by omega)
      rw [if_pos q]
      exact ⟨by show -2147483648 ≤ w2 T 2; omega, by show w2 T 2 < 2147483648; omega⟩
    · rw [if_neg q]
      decide
  have hF6 : Fr [72] [(70, 3)] I (si I5 72 1 v4) := hF5'.up 72 _ _ (Or.inl (by decide))
  have x0 : gi I5 72 0 = v1 := (hF5.gv 72 0 (by decide) (by decide)).trans y0
  have x1 : gi (si I5 72 1 v4) 72 1 = v4 := gi_same _ _ _ v4r
  have x00 : gi (si I5 72 1 v4) 72 0 = v1 := (gi_idx _ _ _ (by decide)).trans x0
  have x2 : gi (si I5 72 1 v4) 72 2 = 0 := (gi_idx _ _ _ (by decide)).trans ((hF5.gv 72 2 (by decide) (by decide)).trans y2)
  have x70 : gi (si I5 72 1 v4) 70 3 = ((4 : Nat) : Int) := (gi_cell _ _ _ _ (by decide)).trans a5
  dsimp only
  rw [x0, x1]
  generalize si I5 72 1 v4 = I6 at hF6 x1 x00 x2 x70 ⊢
  refine ⟨fun q => no I6 hF6 (fun hK => q ?_), fun q => ⟨fun q2 => loop (fun n5 => ?_) 6 0 0 I6 (Nat.zero_add _) rfl hF6 (fun n5 => ?_) ?_, fun q2 => no I6 hF6 (fun hK => q2 ?_)⟩⟩
  · have n5 := hK.1
    have := tb 0 (by omega)
    have := tb 1 (by omega)
    rw [h1, if_pos (by omega)]
    exact ⟨by omega, hK.2.1⟩
  · rw [h1, if_pos (by omega)] at q
    rw [h4, if_pos (by omega)] at q2
    exact ⟨q.2, q2.2⟩
  · rw [x00, x1, x2, h1, h4, if_pos (by omega), if_pos (by omega)]
    exact ⟨rfl, rfl, rfl⟩
  · by_cases n5 : 5 ≤ n
    · refine Or.inl ?_
      rw [show min 0 (nR L).toNat = 0 by omega]
      exact ⟨n5, x70, by show 4 ≤ n - 1; omega, fun i hi => absurd hi (Nat.not_lt_zero _)⟩
    · exact Or.inr ⟨⟨4, x70, by omega, by omega⟩, fun hK => n5 hK.1⟩
  · have n5 := hK.1
    have := tb 2 (by omega)
    have := tb 3 (by omega)
    rw [h4, if_pos (by omega)]
    exact ⟨by show 0 ≤ w2 T 2; omega, hK.2.2.1⟩
end ONREADS
