section CSTM
/-! ===== a whole statement: purely, and the class's ===== -/
def RR2 (T : Nat → Int) (n : Nat) (rs rt : Nat → Res) : Prop := ∀ p, p ≤ n → (gdx false (3 + 3 * (7 - 0)) n p (fS T n) (rs p) ∧ CN m_X3_parseSum (KD 3 0) T n 0 p (rs p) ∧ RN false 3 5 5 T n 0 p (rs p)) ∧ (gdx true (6 + 3 * (7 - 0)) n p (fO T n) (rt p) ∧ CN m_X3_parseTest (KD 6 0) T n 0 p (rt p) ∧ RN true 0 1 1 T n 0 p (rt p))
theorem RR2.ex {T : Nat → Int} {n : Nat} (hX : TX T n) : ∃ rs rt, RR2 T n rs rt := by
  have h1 : ∀ p, ∃ r, p ≤ n → (gdx false (3 + 3 * (7 - 0)) n p (fS T n) r ∧ CN m_X3_parseSum (KD 3 0) T n 0 p r ∧ RN false 3 5 5 T n 0 p r) := fun p => by
    by_cases hp : p ≤ n
    · obtain ⟨r, hr⟩ := X_sum hX hp
      exact ⟨r, fun _ => hr⟩
    · exact ⟨.inl (0, 0), fun q => absurd q hp⟩
  have h2 : ∀ p, ∃ r, p ≤ n → (gdx true (6 + 3 * (7 - 0)) n p (fO T n) r ∧ CN m_X3_parseTest (KD 6 0) T n 0 p r ∧ RN true 0 1 1 T n 0 p r) := fun p => by
    by_cases hp : p ≤ n
    · obtain ⟨r, hr⟩ := X_test hX hp
      exact ⟨r, fun _ => hr⟩
    · exact ⟨.inl (0, 0), fun q => absurd q hp⟩
  obtain ⟨rs, hs⟩ := Classical.skolem.mp h1
  obtain ⟨rt, ht⟩ := Classical.skolem.mp h2
  exact ⟨rs, rt, fun p hp => ⟨hs p hp, ht p hp⟩⟩
def roomP (L : Lt) (R : Rt) (w : Int) : Int := if w = 0 then 5 - L 0 0 else if w = 1 then 14 - L 0 1 else if w = 5 then 20 - L 0 4 else if w = 6 then 6 - L 0 2 else if w = 9 then 5 - L 0 3 else if w = 11 then 1 else if w = 12 then (if R 0 = [] then 1 else 0) else if w = 13 then (if R 1 = [] then 1 else 0) else if w = 14 then (if R 2 = [] then 1 else 0) else -1
noncomputable def stmB (T : Nat → Int) (n : Nat) (L : Lt) (N : Nt) (R : Rt) (rs rt : Nat → Res) (w : Int) (p : Nat) : St := if w = 0 then rBook T n L N R p else if w = 1 then rPage T n L N R p else if w = 5 then rNeed T n L N R p else if w = 6 then rReader T n L N R p else if w = 9 then rTable T n L N R p else if w = 11 then rInch T n L N R p else if w = 12 then ruleR L N R 0 (rs p) else if w = 13 then ruleR L N R 1 (rs p) else ruleR L N R 2 (rt p)
noncomputable def stm (T : Nat → Int) (n : Nat) (L : Lt) (N : Nt) (R : Rt) (rs rt : Nat → Res) (p : Nat) : St := ci (bd T n p = -1 ∧ kR T n p = 1 ∧ roomP L R (ow T n p) ≠ -1) (ci (roomP L R (ow T n p) = 0) (.inl (6, tS T n p)) (stmB T n L N R rs rt (ow T n p) (tE T n p))) (.inl (1, pl T n p))
theorem C_room {k : Nat} {I : Nat → Nat → Int32} {J : Nat → Nat → Int64} {Q : Option AV → Mem → Prop} {L : Lt} {N : Nt} {R : Rt} {q : Nat} {w : Int} (hk : 2 ≤ k) (hS : SCs I L N R q) (hw : inR w) (h : Q (some (vI (roomP L R w))) (mem (some 22, some 5, some 22) I J)) : WPm k LAY m_X3_roomFor [vR (some 3), vI w] (mem (some 22, some 5, some 22) I J) Q := by
  have g35 : ∀ ρ, ρ < 3 → (0 < gi I 35 ρ ↔ R ρ ≠ []) := fun ρ hρ => by
    rcases hS.2.2.2.2.2.2.2.2.1 ρ hρ with ⟨b1, b2⟩ | ⟨b1, a, b2, b3, b4, b5⟩
    · rw [b2, b1]
      simp
    · refine ⟨fun _ => b1, fun _ => ?_⟩
      rw [b3]
      have : 0 < (R ρ).length := List.length_pos_iff.mpr b1
      omega
  have r35 : ∀ ρ, ρ < 3 → ∀ (w' : Int), roomP L R w = (if R ρ = [] then 1 else 0) → (¬ (0 < gi I 35 ρ) → Q (some (vI 1)) (mem (some 22, some 5, some 22) I J)) ∧ ((0 < gi I 35 ρ) → Q (some (vI 0)) (mem (some 22, some 5, some 22) I J)) := fun ρ hρ w' e => by
    rw [g35 ρ hρ]
    refine ⟨fun q' => ?_, fun q' => ?_⟩
    · rw [e, if_pos (Classical.not_not.mp q')] at h
      exact h
    · rw [e, if_neg q'] at h
      exact h
  have c0 := hS.1 0 (by decide)
  have c1 := hS.1 1 (by decide)
  have c2 := hS.1 2 (by decide)
  have c3 := hS.1 3 (by decide)
  have c4 := hS.2.1
  refine WPm.of k_X3_roomFor.1 (Nat.le_of_ble_eq_true rfl) (B_X3_roomFor_0 (by omega) ⟨hw, fun e => ?_, fun n0 => ⟨fun e => ?_, fun n1 => ⟨fun e => ?_, fun n5 => ⟨fun e => ?_, fun n6 => ⟨fun e => ?_, fun n9 => ⟨fun e => ?_, fun n11 => ⟨fun e => r35 0 (by decide) w ?_, fun n12 => ⟨fun e => r35 1 (by decide) w ?_, fun n13 => ⟨fun e => r35 2 (by decide) w ?_, fun n14 => ?_⟩⟩⟩⟩⟩⟩⟩⟩⟩)
  · subst e; rw [c0]; exact h
  · subst e; rw [c1]; exact h
  · subst e; rw [c4]; exact h
  · subst e; rw [c2]; exact h
  · subst e; rw [c3]; exact h
  · subst e; exact h
  · subst e; rfl
  · subst e; rfl
  · subst e; rfl
  · have e : roomP L R w = -1 := by
      unfold roomP
      rw [if_neg n0, if_neg n1, if_neg n5, if_neg n6, if_neg n9, if_neg n11, if_neg n12, if_neg n13, if_neg n14]
    rw [e] at h
    exact h
theorem room_w {L : Lt} {R : Rt} {w : Int} (h : roomP L R w ≠ -1) : w = 0 ∨ w = 1 ∨ w = 5 ∨ w = 6 ∨ w = 9 ∨ w = 11 ∨ w = 12 ∨ w = 13 ∨ w = 14 := by
  by_cases c : w = 0 ∨ w = 1 ∨ w = 5 ∨ w = 6 ∨ w = 9 ∨ w = 11 ∨ w = 12 ∨ w = 13 ∨ w = 14
  · exact c
  · refine absurd ?_ h
    unfold roomP
    rw [if_neg (by omega), if_neg (by omega), if_neg (by omega), if_neg (by omega), if_neg (by omega), if_neg (by omega), if_neg (by omega), if_neg (by omega), if_neg (by omega)]
theorem KD_le {i : Nat} (h : i ≤ 6) : KD i 0 ≤ 200 := by
  have e : i = 0 ∨ i = 1 ∨ i = 2 ∨ i = 3 ∨ i = 4 ∨ i = 5 ∨ i = 6 := by omega
  rcases e with e | e | e | e | e | e | e <;> subst e <;> decide
set_option maxHeartbeats 2000000 in
theorem C_stm {k : Nat} {I : Nat → Nat → Int32} {J : Nat → Nat → Int64} {Q : Option AV → Mem → Prop} {T : Nat → Int} {n p q : Nat} {L : Lt} {N : Nt} {R : Rt} {rs rt : Nat → Res} {x1 : Int} (hk : 204 ≤ k) (hX : TX T n) (hp : p ≤ n) (hW : WL L N R) (hR : RR2 T n rs rt) (hx1 : inR x1) (hC : CT I T n p) (ho : gi I 3 4 = 0) (hS : SCs I L N R q) (hq : q ≤ p) (hQ : CSo I J Q T n (ci (80 ≤ x1) (.inl (6, tS T n p)) (semi T n (stm T n L N R rs rt p)))) : WPm k LAY m_X3_statement [vR (some 3), vI x1] (mem (some 22, some 5, some 22) I J) Q := by
  refine WPm.of k_X3_statement.1 (Nat.le_of_ble_eq_true rfl) (B_X3_statement_0 (by omega) ⟨fun h2 => ⟨hx1, fun h80 => ?_, fun h80 => ?_⟩, fun h2 => ⟨hx1, fun h80 => ?_, fun h80 => ?_⟩⟩)
  · rw [ci_y h80] at hQ
    exact hQ.ek (by decide) (Fr.rf _ _ _) hC
  · rw [ci_n h80] at hQ
    have hr : ¬ (bd T n p = -1 ∧ kR T n p = 1 ∧ roomP L R (ow T n p) ≠ -1) := fun t => by
      have h3 := room_w t.2.2
      exact h2 (hC.k.2.2.1.mpr ⟨t.1, t.2.1, by omega⟩)
    unfold stm at hQ
    rw [ci_n hr] at hQ
    have hm : roomP L R (-1) = -1 := rfl
    refine C_room (by omega) hS (by decide) ?_
    rw [hm]
    exact ⟨_, _, _, rfl, rfl, by decide, fun c => absurd rfl c, fun _ => CSo.e1 hQ (Fr.rf _ _ _) hC⟩
  · rw [ci_y h80] at hQ
    exact hQ.ek (by decide) (Fr.rf _ _ _) hC
  · rw [ci_n h80] at hQ
    obtain ⟨hb, h1, how⟩ := hC.k.2.2.1.mp h2
    have hoi := ow_in T n p
    have e5 : gi I 1 5 = ow T n p := ((hC.w (ow T n p) (by omega)).mpr ⟨hb, h1, rfl⟩).2
    rw [e5]
    have hg := tE_gt (T := T) hp (by rw [h1]; decide)
    refine C_room (by omega) hS (by unfold inR; omega) ?_
    unfold stm at hQ
    have rr : inR (roomP L R (ow T n p)) := by
      obtain ⟨z0, z1, z2, z3, z4, -⟩ := hW.1
      unfold roomP inR
      repeat' split
      all_goals omega
    by_cases hr : roomP L R (ow T n p) = -1
    · rw [ci_n (fun t => t.2.2 hr)] at hQ
      rw [hr]
      exact ⟨_, _, _, rfl, rfl, by decide, fun c => absurd rfl c, fun _ => CSo.e1 hQ (Fr.rf _ _ _) hC⟩
    · rw [ci_y ⟨hb, h1, hr⟩] at hQ
      refine ⟨_, _, _, rfl, rfl, rr, fun _ => ⟨fun hr0 => ?_, fun hr0 => ?_⟩, fun c => absurd c hr⟩
      · rw [ci_n hr0] at hQ
        refine S_step (by omega) hX hp hC (by rw [h1]; decide) hb (fun I1 b1 b2 => ⟨_, _, rfl, rfl, ?_⟩)
        have hS1 := hS.fr b2 (fun c t => by cases t) (by decide)
        have ho1 : gi I1 3 4 = 0 := (xfr b2 _ _ (by decide)).trans ho
        have hq1 : q ≤ tE T n p := by omega
        have hRp := hR (tE T n p) hg.2.1
        have hw := room_w hr
        generalize ow T n p = w at *
        rcases hw with e | e | e | e | e | e | e | e | e <;> subst e
        · have hc : L 0 0 < 5 := by
            obtain ⟨z0, z1, z2, z3, z4, -⟩ := hW.1
            have : roomP L R 0 = 5 - L 0 0 := rfl
            omega
          exact ⟨fun _ => C_tail (by omega) hX (C_book hX hg.2.1 hW hc) b1 ho1 hS1 hq1 b2.c hQ, fun c => absurd rfl c⟩
        · have hc : L 0 1 < 14 := by
            obtain ⟨z0, z1, z2, z3, z4, -⟩ := hW.1
            have : roomP L R 1 = 14 - L 0 1 := rfl
            omega
          exact ⟨fun c => absurd c (by decide), fun _ => ⟨fun _ => C_tail (by omega) hX (C_page hX hg.2.1 hW hc) b1 ho1 hS1 hq1 b2.c hQ, fun c => absurd rfl c⟩⟩
        · exact ⟨fun c => absurd c (by decide), fun _ => ⟨fun c => absurd c (by decide), fun _ => ⟨fun _ => C_tail (by omega) hX (C_need hX hg.2.1 hW) b1 ho1 hS1 hq1 b2.c hQ, fun c => absurd rfl c⟩⟩⟩
        · have hc : L 0 2 < 6 := by
            obtain ⟨z0, z1, z2, z3, z4, -⟩ := hW.1
            have : roomP L R 6 = 6 - L 0 2 := rfl
            omega
          exact ⟨fun c => absurd c (by decide), fun _ => ⟨fun c => absurd c (by decide), fun _ => ⟨fun c => absurd c (by decide), fun _ => ⟨fun _ => C_tail (by omega) hX (C_reader hX hg.2.1 hW hc) b1 ho1 hS1 hq1 b2.c hQ, fun c => absurd rfl c⟩⟩⟩⟩
        · have hc : L 0 3 < 5 := by
            obtain ⟨z0, z1, z2, z3, z4, -⟩ := hW.1
            have : roomP L R 9 = 5 - L 0 3 := rfl
            omega
          exact ⟨fun c => absurd c (by decide), fun _ => ⟨fun c => absurd c (by decide), fun _ => ⟨fun c => absurd c (by decide), fun _ => ⟨fun c => absurd c (by decide), fun _ => ⟨fun _ => C_tail (by omega) hX (C_table hX hg.2.1 hW hc) b1 ho1 hS1 hq1 b2.c hQ, fun c => absurd rfl c⟩⟩⟩⟩⟩
        · exact ⟨fun c => absurd c (by decide), fun _ => ⟨fun c => absurd c (by decide), fun _ => ⟨fun c => absurd c (by decide), fun _ => ⟨fun c => absurd c (by decide), fun _ => ⟨fun c => absurd c (by decide), fun _ => ⟨fun _ => C_tail (by omega) hX (C_inch hX hg.2.1) b1 ho1 hS1 hq1 b2.c hQ, fun c => absurd rfl c⟩⟩⟩⟩⟩⟩
        · exact ⟨fun c => absurd c (by decide), fun _ => ⟨fun c => absurd c (by decide), fun _ => ⟨fun c => absurd c (by decide), fun _ => ⟨fun c => absurd c (by decide), fun _ => ⟨fun c => absurd c (by decide), fun _ => ⟨fun c => absurd c (by decide), fun _ => ⟨fun _ => C_rule (ρ := 0) (by omega) (KD_le (by decide)) (by decide) hX hRp.1.2.1 hRp.1.1 b1 ho1 hS1 hq1 b2.c hQ, fun c => absurd rfl c⟩⟩⟩⟩⟩⟩⟩
        · exact ⟨fun c => absurd c (by decide), fun _ => ⟨fun c => absurd c (by decide), fun _ => ⟨fun c => absurd c (by decide), fun _ => ⟨fun c => absurd c (by decide), fun _ => ⟨fun c => absurd c (by decide), fun _ => ⟨fun c => absurd c (by decide), fun _ => ⟨fun c => absurd c (by decide), fun _ => ⟨fun _ => C_rule (ρ := 1) (by omega) (KD_le (by decide)) (by decide) hX hRp.1.2.1 hRp.1.1 b1 ho1 hS1 hq1 b2.c hQ, fun c => absurd rfl c⟩⟩⟩⟩⟩⟩⟩⟩
        · exact ⟨fun c => absurd c (by decide), fun _ => ⟨fun c => absurd c (by decide), fun _ => ⟨fun c => absurd c (by decide), fun _ => ⟨fun c => absurd c (by decide), fun _ => ⟨fun c => absurd c (by decide), fun _ => ⟨fun c => absurd c (by decide), fun _ => ⟨fun c => absurd c (by decide), fun _ => ⟨fun c => absurd c (by decide), fun _ => C_rule (ρ := 2) (by omega) (KD_le (by decide)) (by decide) hX hRp.2.2.1 hRp.2.1 b1 ho1 hS1 hq1 b2.c hQ⟩⟩⟩⟩⟩⟩⟩⟩
      · rw [ci_y hr0] at hQ
        exact CSo.ek hQ (by decide) (Fr.rf _ _ _) hC
end CSTM
