section PASSES
/-! ===== the class: a night happens ===== -/
theorem allWax_e {k : Nat} {P : Option Nat} {I : Nat → Nat → Int32} {J : Nat → Nat → Int64} {Q : Option AV → Mem → Prop} {L : Lb} {R : Rl} {H : Hl} {cold : Int} (hL : WfL L) (hT : gi I 6 3 = nT L) (hE : ∀ t, 0 ≤ t → t < nT L → gi I 43 (t).toNat = ltN L R H cold t ∧ gi I 44 (t).toNat = lsN L R H cold t (nR L).toNat) (hQ : Q (some (vI (waA L R H cold))) (mem (rv0 P) I J)) : WPm k LAY m_X1_allWax [vR (some 42)] (mem (rv0 P) I J) Q := by
  have hT5 := hL.2.2.2.1
  refine WPm.of k_X1_allWax.1 (Nat.le_of_ble_eq_true rfl) (B_X1_allWax_0 (by omega) ?_)
  have loop : ∀ (d n : Nat) (x y : Int), n + d = (nT L).toNat → x = n → y = smi n (fun t => ltN L R H cold t - lsN L R H cold t (nR L).toNat) → WP k LAY m_X1_allWax 4 [(0, vR (some 42)), (1, vI y), (2, vI x)] [] (mem (rv0 P) I J) Q := by
    intro d
    induction d with
    | zero =>
      intro n x y hn hx hy
      refine B_X1_allWax_4 (by omega) ?_
      rw [hT]
      refine ⟨⟨by omega, by omega⟩, fun _ => ?_, fun q => absurd q (by omega)⟩
      exact Qat hQ (by rw [hy]; unfold waA; rw [show (nT L).toNat = n by omega])
    | succ d ih =>
      intro n x y hn hx hy
      subst hx
      refine B_X1_allWax_4 (by omega) ?_
      rw [hT, (hE n (by omega) (by omega)).1, (hE n (by omega) (by omega)).2]
      exact ⟨⟨by omega, by omega⟩, fun q => absurd q (by omega), fun _ => ⟨⟨by omega, by omega⟩, ih (n + 1) _ _ (by omega) (by omega) (by rw [hy]; rfl)⟩⟩
  exact loop _ 0 _ _ (Nat.zero_add _) rfl rfl
theorem allRead_e {k : Nat} {P : Option Nat} {I : Nat → Nat → Int32} {J : Nat → Nat → Int64} {Q : Option AV → Mem → Prop} {L : Lb} {R : Rl} {H : Hl} {cold : Int} (hL : WfL L) (hN : gi I 6 2 = nR L) (hE : ∀ r, 0 ≤ r → r < nR L → gi I 45 (r).toNat = rdA L R H cold r) (hQ : Q (some (vI (allR L R H cold))) (mem (rv0 P) I J)) : WPm k LAY m_X1_allRead [vR (some 42)] (mem (rv0 P) I J) Q := by
  have hR6 := hL.2.2.1
  refine WPm.of k_X1_allRead.1 (Nat.le_of_ble_eq_true rfl) (B_X1_allRead_0 (by omega) ?_)
  have loop : ∀ (d n : Nat) (x y : Int), n + d = (nR L).toNat → x = n → y = smi n (fun r => rdA L R H cold r) → WP k LAY m_X1_allRead 4 [(0, vR (some 42)), (1, vI y), (2, vI x)] [] (mem (rv0 P) I J) Q := by
    intro d
    induction d with
    | zero =>
      intro n x y hn hx hy
      refine B_X1_allRead_4 (by omega) ?_
      rw [hN]
      refine ⟨⟨by omega, by omega⟩, fun _ => ?_, fun q => absurd q (by omega)⟩
      exact Qat hQ (by rw [hy]; unfold allR; rw [show (nR L).toNat = n by omega])
    | succ d ih =>
      intro n x y hn hx hy
      subst hx
      have hg : gi I 45 ((n : Int)).toNat = rdA L R H cold n := hE n (by omega) (by omega)
      refine B_X1_allRead_4 (by omega) ?_
      rw [hN, hg]
      exact ⟨⟨by omega, by omega⟩, fun q => absurd q (by omega), fun _ => ⟨⟨by omega, by omega⟩, ih (n + 1) _ _ (by omega) (by omega) (by rw [hy]; rfl)⟩⟩
  exact loop _ 0 _ _ (Nat.zero_add _) rfl rfl
theorem rdS_le {L : Lb} {R : Rl} {H : Hl} {cold : Int} {n m : Nat} (h : n ≤ m) : rdS L R H cold n ≤ rdS L R H cold m := by
  induction m with
  | zero => rw [show n = 0 by omega]; exact Nat.le_refl _
  | succ m ih =>
    by_cases e : n = m + 1
    · rw [e]; exact Nat.le_refl _
    · have := ih (by omega)
      have e2 : rdS L R H cold (m + 1) = rdS L R H cold m + rdC L R H cold m := rfl
      omega
theorem rdS_all {L : Lb} {R : Rl} {H : Hl} {cold : Int} : ((rdS L R H cold (nR L).toNat : Nat) : Int) = allR L R H cold := rdS_i L R H cold _
def RowC (I : Nat → Nat → Int32) (L : Lb) (R : Rl) (H : Hl) (cold r : Int) : Prop := gi I 19 ((3 + (r * 14)) + 0).toNat = H 1 r ∧ gi I 19 ((3 + (r * 14)) + 1).toNat = (((H 2 r).toNat ||| bitT (coN L R H cold r) (rdC L R H cold r) : Nat) : Int) ∧ gi I 19 ((3 + (r * 14)) + 2).toNat = H 3 r ∧ gi I 19 ((3 + (r * 14)) + 3).toNat = lfN (ltN L R H cold (H 1 r)) (coN L R H cold r) (H 4 r) ∧ gi I 19 ((3 + (r * 14)) + 4).toNat = itN (ltN L R H cold (H 1 r)) (coN L R H cold r) (donP L H r True) (H 5 r) ∧ lsC I r = wlN L R H cold r ∧ (0 ≤ cnC I r ∧ cnC I r ≤ 8)
def HpA (B I2 : Nat → Nat → Int32) (L : Lb) (R : Rl) (H : Hl) (cold : Int) (n : Nat) : Prop := (∀ c k, c ≠ 19 → c ≠ 20 → I2 c k = B c k) ∧ (∀ k : Nat, k < 2 ∨ 3 + 14 * n ≤ k → gi I2 19 k = gi B 19 k) ∧ (∀ m : Nat, m < n → RowC I2 L R H cold m) ∧ gi I2 19 2 = gi B 19 2 + rdS L R H cold n ∧ (∀ j : Nat, (j : Int) < gi B 19 2 → gi I2 20 j = gi B 20 j) ∧ ∀ m : Nat, m < n → ∀ i, i < rdC L R H cold m → gi I2 20 ((gi B 19 2).toNat + rdS L R H cold m + i) = cdE (gi B 19 0, (m : Int), cp (coN L R H cold m) i)
theorem lsC_eq {I I' : Nat → Nat → Int32} {r : Int} (hr : 0 ≤ r) (h : ∀ k : Nat, 8 + 14 * r ≤ (k : Int) → (k : Int) < 17 + 14 * r → gi I' 19 k = gi I 19 k) (q8 : 0 ≤ cnC I r ∧ cnC I r ≤ 8) : lsC I' r = lsC I r ∧ cnC I' r = cnC I r := by
  have e : cnC I' r = cnC I r := h _ (by omega) (by omega)
  refine ⟨?_, e⟩
  unfold lsC
  rw [e]
  exact lsF_congr (fun k k0 k1 => h _ (by omega) (by omega))
theorem hap_all {k : Nat} {P : Option Nat} {B : Nat → Nat → Int32} {J : Nat → Nat → Int64} {Q : Option AV → Mem → Prop} {L : Lb} {R : Rl} {H : Hl} {cold : Int} (hk : 3 ≤ k) (hL : WfL L) (hH : WfH L H) (hn : gi B 6 2 = nR L) (hE : ∀ r, 0 ≤ r → r < nR L → EvX B L R H cold r)
    (hrow : ∀ r, 0 ≤ r → r < nR L → gi B 19 ((3 + (r * 14)) + 0).toNat = H 1 r ∧ gi B 19 ((3 + (r * 14)) + 1).toNat = H 2 r ∧ gi B 19 ((3 + (r * 14)) + 2).toNat = H 3 r ∧ lsC B r = lsH H r ∧ (0 ≤ cnC B r ∧ cnC B r ≤ 8) ∧ ∀ i j : Int, 0 ≤ i → i < j → j < cnC B r → ¬ enC B r i = enC B r j)
    (h0 : 0 ≤ gi B 19 0 ∧ gi B 19 0 ≤ 1000) (h2 : 0 ≤ gi B 19 2 ∧ gi B 19 2 + allR L R H cold ≤ 84)
    (hQ : ∀ I2, HpA B I2 L R H cold (nR L).toNat → Q none (mem (rv0 P) I2 J)) : WP k LAY m_X1_happen 44 [(0, vR (some 42)), (1, vI 0)] [] (mem (rv0 P) B J) Q := by
  have hR6 := hL.2.2.1
  have hP := hL.2.1
  have loop : ∀ (d n : Nat) (x : Int) (I2 : Nat → Nat → Int32), n + d = (nR L).toNat → x = n → HpA B I2 L R H cold n → WP k LAY m_X1_happen 44 [(0, vR (some 42)), (1, vI x)] [] (mem (P, some 5, some 22) I2 J) Q := by
    intro d
    induction d with
    | zero =>
      intro n x I2 hnd hx hA
      have e62 : gi I2 6 2 = nR L := (gi_eq (hA.1 6 2 (by decide) (by decide))).trans hn
      refine B_X1_happen_44 (by omega) ?_
      rw [e62]
      exact ⟨⟨by omega, by omega⟩, fun _ => hQ I2 (by rw [show (nR L).toNat = n by omega]; exact hA), fun w => absurd w (by omega)⟩
    | succ d ih =>
      intro n x I2 hnd hx hA
      subst hx
      obtain ⟨a1, a2, a3, a4, a5, a6⟩ := hA
      have e62 : gi I2 6 2 = nR L := (gi_eq (a1 6 2 (by decide) (by decide))).trans hn
      have hr : 0 ≤ (n : Int) ∧ (n : Int) < nR L := ⟨by omega, by omega⟩
      obtain ⟨r1, r2, r3, rl, r8, rd⟩ := hrow n hr.1 hr.2
      obtain ⟨v5, v6, -, v8, v9, v50⟩ := hE n hr.1 hr.2
      have hw := hH.2.2 n hr.1 hr.2
      have hcr := (coN_rng (R := R) hL hH (cold := cold) hr).2
      have hc8 := (coN_rng (R := R) hL hH (cold := cold) hr).1
      have hle := rdn_le (ltN L R H cold (H 1 (n : Int))) (coN L R H cold (n : Int))
      have hrle : rdC L R H cold (n : Int) ≤ (coN L R H cold (n : Int)).length := hle
      have hbl := bitT_lt (C := coN L R H cold (n : Int)) (fun k hk => by have := (hcr k hk).1; omega) (rdC L R H cold n) hrle
      have b1 : gi I2 19 ((3 + ((n : Int) * 14)) + 1).toNat = H 2 n := (a2 _ (by omega)).trans r2
      have b46 : gi I2 46 ((n : Int)).toNat = ((bitT (coN L R H cold n) (rdC L R H cold n) : Nat) : Int) := (gi_eq (a1 46 _ (by decide) (by decide))).trans v6
      have h2lt : (H 2 (n : Int)).toNat < 16384 := Nat.lt_of_lt_of_le hw.2.1.2 (pow_le14 (by omega))
      have eor : or32 (gi I2 19 ((3 + ((n : Int) * 14)) + 1).toNat) (gi I2 46 ((n : Int)).toNat) = (((H 2 (n : Int)).toNat ||| bitT (coN L R H cold n) (rdC L R H cold n) : Nat) : Int) := by
        rw [b1, b46, ← or32_nat (by omega) (by omega), Int.toNat_of_nonneg hw.2.1.1]
      refine B_X1_happen_44 (by omega) ?_
      rw [e62, eor]
      refine ⟨⟨by omega, by omega⟩, fun w => absurd w (by omega), fun _ => ⟨⟨by omega, by omega⟩, ⟨by omega, by omega⟩, ?_⟩⟩
      have horr : inR (((H 2 (n : Int)).toNat ||| bitT (coN L R H cold n) (rdC L R H cold n) : Nat) : Int) := by
        have := or_lt14 (n := 14) h2lt hbl
        exact ⟨by omega, by omega⟩
      have g3 : ∀ c k, c ≠ 19 → si I2 19 ((3 + ((n : Int) * 14)) + 1).toNat (((H 2 (n : Int)).toNat ||| bitT (coN L R H cold n) (rdC L R H cold n) : Nat) : Int) c k = I2 c k := fun c k hc => by rw [si_at, if_neg (fun w => hc w.1)]
      have g319 : ∀ k : Nat, k ≠ ((3 + ((n : Int) * 14)) + 1).toNat → gi (si I2 19 ((3 + ((n : Int) * 14)) + 1).toNat (((H 2 (n : Int)).toNat ||| bitT (coN L R H cold n) (rdC L R H cold n) : Nat) : Int)) 19 k = gi I2 19 k := fun k hk => gi_idx _ _ _ hk
      have g3s := gi_same I2 19 ((3 + ((n : Int) * 14)) + 1).toNat horr
      generalize si I2 19 ((3 + ((n : Int) * 14)) + 1).toNat (((H 2 (n : Int)).toNat ||| bitT (coN L R H cold n) (rdC L R H cold n) : Nat) : Int) = I3 at g3 g319 g3s ⊢
      have k3 : ∀ k : Nat, 8 + 14 * (n : Int) ≤ (k : Int) → (k : Int) < 17 + 14 * (n : Int) → gi I3 19 k = gi B 19 k := fun k k0 k1 => (g319 k (by omega)).trans (a2 k (by omega))
      obtain ⟨l3, c3⟩ := lsC_eq (I := B) (I' := I3) hr.1 k3 r8
      have t2 : gi I3 19 2 = gi B 19 2 + rdS L R H cold n := (g319 2 (by omega)).trans a4
      have t0 : gi I3 19 0 = gi B 19 0 := (g319 0 (by omega)).trans (a2 0 (by omega))
      have hsum : rdS L R H cold (n + 1) = rdS L R H cold n + rdC L R H cold n := rfl
      have hmono := rdS_le (L := L) (R := R) (H := H) (cold := cold) (n := n + 1) (m := (nR L).toNat) (by omega)
      have hall := rdS_all (L := L) (R := R) (H := H) (cold := cold)
      refine hap_loop (r := (n : Int)) (C := coN L R H cold n) (n := rdC L R H cold n) hk ⟨hr.1, by omega⟩ ((gi_eq ((g3 45 _ (by decide)).trans (a1 45 _ (by decide) (by decide)))).trans v5) (by omega) (fun i hi => (gi_eq ((g3 50 _ (by decide)).trans (a1 50 _ (by decide) (by decide)))).trans (v50 i hi)) (fun i hi => by have := (hcr i (by omega)).1; omega) (by rw [t0]; exact h0) ⟨by rw [t2]; omega, by rw [t2]; omega⟩ (by rw [c3]; exact r8) (fun i j i0 ij j1 => ?_) (fun I4 hc => ?_)
      · rw [c3] at j1
        have e1 : enC I3 (n : Int) i = enC B n i := k3 _ (by omega) (by omega)
        have e2 : enC I3 (n : Int) j = enC B n j := k3 _ (by omega) (by omega)
        rw [e1, e2]
        exact rd i j i0 ij j1
      · obtain ⟨c1, c2, c3', c4, c5, c6, c7, c8⟩ := hc
        have e48 : gi I4 48 ((n : Int)).toNat = lfN (ltN L R H cold (H 1 (n : Int))) (coN L R H cold n) (H 4 n) := (gi_eq ((c1 48 _ (by decide) (by decide)).trans ((g3 48 _ (by decide)).trans (a1 48 _ (by decide) (by decide))))).trans v8
        have e49 : gi I4 49 ((n : Int)).toNat = itN (ltN L R H cold (H 1 (n : Int))) (coN L R H cold n) (donP L H n True) (H 5 n) := (gi_eq ((c1 49 _ (by decide) (by decide)).trans ((g3 49 _ (by decide)).trans (a1 49 _ (by decide) (by decide))))).trans v9
        have i48 : inR (lfN (ltN L R H cold (H 1 (n : Int))) (coN L R H cold n) (H 4 n)) := by rw [← e48]; exact gi_in _ _ _
        have i49 : inR (itN (ltN L R H cold (H 1 (n : Int))) (coN L R H cold n) (donP L H n True) (H 5 n)) := by rw [← e49]; exact gi_in _ _ _
        rw [e48, e49]
        have s5 : ∀ c k, c ≠ 19 → si (si I4 19 ((3 + ((n : Int) * 14)) + 3).toNat (lfN (ltN L R H cold (H 1 (n : Int))) (coN L R H cold n) (H 4 n))) 19 ((3 + ((n : Int) * 14)) + 4).toNat (itN (ltN L R H cold (H 1 (n : Int))) (coN L R H cold n) (donP L H n True) (H 5 n)) c k = I4 c k := fun c k hc => by rw [si_at, if_neg (fun w => hc w.1), si_at, if_neg (fun w => hc w.1)]
        have s519 : ∀ k : Nat, k ≠ ((3 + ((n : Int) * 14)) + 3).toNat → k ≠ ((3 + ((n : Int) * 14)) + 4).toNat → gi (si (si I4 19 ((3 + ((n : Int) * 14)) + 3).toNat (lfN (ltN L R H cold (H 1 (n : Int))) (coN L R H cold n) (H 4 n))) 19 ((3 + ((n : Int) * 14)) + 4).toNat (itN (ltN L R H cold (H 1 (n : Int))) (coN L R H cold n) (donP L H n True) (H 5 n))) 19 k = gi I4 19 k := fun k p q => by rw [gi_idx _ _ _ q, gi_idx _ _ _ p]
        have s53 : gi (si (si I4 19 ((3 + ((n : Int) * 14)) + 3).toNat (lfN (ltN L R H cold (H 1 (n : Int))) (coN L R H cold n) (H 4 n))) 19 ((3 + ((n : Int) * 14)) + 4).toNat (itN (ltN L R H cold (H 1 (n : Int))) (coN L R H cold n) (donP L H n True) (H 5 n))) 19 ((3 + ((n : Int) * 14)) + 3).toNat = lfN (ltN L R H cold (H 1 (n : Int))) (coN L R H cold n) (H 4 n) := by rw [gi_idx _ _ _ (by omega), gi_same _ _ _ i48]
        have s54 := gi_same (si I4 19 ((3 + ((n : Int) * 14)) + 3).toNat (lfN (ltN L R H cold (H 1 (n : Int))) (coN L R H cold n) (H 4 n))) 19 ((3 + ((n : Int) * 14)) + 4).toNat i49
        generalize si (si I4 19 ((3 + ((n : Int) * 14)) + 3).toNat (lfN (ltN L R H cold (H 1 (n : Int))) (coN L R H cold n) (H 4 n))) 19 ((3 + ((n : Int) * 14)) + 4).toNat (itN (ltN L R H cold (H 1 (n : Int))) (coN L R H cold n) (donP L H n True) (H 5 n)) = I5 at s5 s519 s53 s54 ⊢
        refine ih (n + 1) _ I5 (by omega) (by omega) ⟨fun c k p q => ?_, fun k hk2 => ?_, fun m hm => ?_, ?_, fun j hj => ?_, fun m hm i hi => ?_⟩
        · rw [s5 c k p, c1 c k p q, g3 c k p, a1 c k p q]
        · rw [s519 k (by omega) (by omega), c2 k (by omega) (by omega), g319 k (by omega), a2 k (by omega)]
        · by_cases e : m = n
          · subst e
            have kk : ∀ k : Nat, 8 + 14 * (m : Int) ≤ (k : Int) → (k : Int) < 17 + 14 * (m : Int) → gi I5 19 k = gi I4 19 k := fun k k0 k1 => s519 k (by omega) (by omega)
            obtain ⟨l5, c5'⟩ := lsC_eq (I := I4) (I' := I5) hr.1 kk c4
            refine ⟨?_, ?_, ?_, s53, s54, ?_, by rw [c5']; exact c4⟩
            · rw [s519 _ (by omega) (by omega), c2 _ (by omega) (by omega), g319 _ (by omega), a2 _ (by omega)]
              exact r1
            · rw [s519 _ (by omega) (by omega), c2 _ (by omega) (by omega)]
              exact g3s
            · rw [s519 _ (by omega) (by omega), c2 _ (by omega) (by omega), g319 _ (by omega), a2 _ (by omega)]
              exact r3
            · rw [l5, c3', l3, rl]
          · have lo : ∀ k : Nat, 3 ≤ k → k < 3 + 14 * n → gi I5 19 k = gi I2 19 k := fun k k0 k1 => by
              rw [s519 k (by omega) (by omega), c2 k (by omega) (by omega), g319 k (by omega)]
            obtain ⟨m1, m2, m3, m4, m5, m6, m7⟩ := a3 m (by omega)
            obtain ⟨l5, c5'⟩ := lsC_eq (I := I2) (I' := I5) (r := (m : Int)) (by omega) (fun k k0 k1 => lo k (by omega) (by omega)) m7
            refine ⟨(lo _ (by omega) (by omega)).trans m1, (lo _ (by omega) (by omega)).trans m2, (lo _ (by omega) (by omega)).trans m3, (lo _ (by omega) (by omega)).trans m4, (lo _ (by omega) (by omega)).trans m5, l5.trans m6, by rw [c5']; exact m7⟩
        · rw [s519 2 (by omega) (by omega), c6, t2, hsum]
          omega
        · rw [gi_eq (s5 20 j (by decide)), c7 j (by rw [t2]; omega), gi_eq (g3 20 j (by decide)), a5 j hj]
        · by_cases e : m = n
          · subst e
            have := c8 i hi
            rw [t2, t0] at this
            rw [gi_eq (s5 20 _ (by decide)), show (gi B 19 2).toNat + rdS L R H cold m + i = (gi B 19 2 + (rdS L R H cold m : Int)).toNat + i by omega]
            exact this
          · have hm1 : rdS L R H cold (m + 1) = rdS L R H cold m + rdC L R H cold m := rfl
            have hm2 := rdS_le (L := L) (R := R) (H := H) (cold := cold) (n := m + 1) (m := n) (by omega)
            rw [gi_eq (s5 20 _ (by decide)), c7 _ (by rw [t2]; omega), gi_eq (g3 20 _ (by decide))]
            exact a6 m (by omega) i hi
  exact loop _ 0 0 B (Nat.zero_add _) rfl ⟨fun _ _ _ _ => rfl, fun _ _ => rfl, fun m hm => absurd hm (Nat.not_lt_zero _), (Int.add_zero _).symm, fun _ _ => rfl, fun m hm => absurd hm (Nat.not_lt_zero _)⟩
/-- what a night leaves of the class's memory -/
def PasC (I I' : Nat → Nat → Int32) (L : Lb) (R : Rl) (H : Hl) (cold : Int) : Prop := (∀ c k, scrC c = false → scrF c k = false → c ≠ 19 → c ≠ 20 → I' c k = I c k) ∧ (∀ c k, 74 ≤ c → I' c k = I c k) ∧ CX I' L R (nitH L R H cold) ∧ gi I' 19 2 = gi I 19 2 + allR L R H cold ∧ (∀ j : Nat, (j : Int) < gi I 19 2 → gi I' 20 j = gi I 20 j) ∧ ∀ l, KPl l (gi I 20) (gi I 19 2).toNat → KPl (kpN L R H cold l (nR L).toNat) (gi I' 20) (gi I' 19 2).toNat
theorem lsH_HC {I : Nat → Nat → Int32} {i : Int} (hi : 0 ≤ i ∧ i < gi I 6 2) (q8 : 0 ≤ cnC I i ∧ cnC I i ≤ 8) : lsH (HC I) i = lsC I i := by
  have e6 := (hc_f I hi).2.2.2.2.2
  have q8' : 0 ≤ gi I 19 ((3 + (i * 14)) + 5).toNat ∧ gi I 19 ((3 + (i * 14)) + 5).toNat ≤ 8 := q8
  unfold lsH lsC
  rw [e6]
  exact lsF_congr (fun k k0 k1 => hc_7 I hi ⟨k0, by omega⟩ (by omega))
theorem S_X11_pass {k : Nat} {P : Option Nat} {I : Nat → Nat → Int32} {J : Nat → Nat → Int64} {Q : Option AV → Mem → Prop} {L : Lb} {R : Rl} {H : Hl} {cold : Int} (hk : 10 ≤ k) (hX : CX I L R H) (hcd : inR cold) (h8 : H 8 0 ≤ 998) (h2 : 0 ≤ gi I 19 2 ∧ gi I 19 2 ≤ rdN L H)
    (hQ : ∀ I', PasC I I' L R H cold → Q (some (vI (allR L R H cold))) (mem (rv0 P) I' J)) : WPm k LAY m_X11_passNight [vR (some 0), vI cold] (mem (rv0 P) I J) Q := by
  have hL := hX.1.2.2.2.1
  have hH := hX.2.2
  have hR6 := hL.2.2.1
  have hT5 := hL.2.2.2.1
  have hrd := nit_rd (R := R) hL hH cold
  have hrd84 := rdN_le (H := nitH L R H cold) hL
  refine WPm.of k_X11_passNight.1 (Nat.le_of_ble_eq_true rfl) (B_X11_passNight_0 (by omega) ?_)
  refine S_X1_foresee (by omega) hX hcd (fun I1 hF hE => ⟨_, _, rfl, rfl, ?_⟩)
  have hX1 : CX I1 L R H := hX.fr (hF.cx (by decide) (by decide))
  have e191 : ∀ k, gi I1 19 k = gi I 19 k := fun k => hF.gv 19 k (by decide) (by simp)
  have e200 : ∀ k, gi I1 20 k = gi I 20 k := fun k => hF.gv 20 k (by decide) (by simp)
  refine WPm.of k_X1_happen.1 (Nat.le_of_ble_eq_true rfl) (B_X1_happen_0 (by omega) ?_)
  have m0 : gi I1 19 0 = H 8 0 := cx_8 hX1
  have m9 : gi I1 19 1 = H 9 0 := cx_9 hX1
  rw [m0, m9]
  have hh0 := hH.1
  have hh9 := hH.2.1
  have wx := waA_bd (R := R) hL hH (cold := cold)
  have c0 : ∀ c k, c ≠ 19 → si I1 19 0 (H 8 0 + 1) c k = I1 c k := fun c k hc => by rw [si_at, if_neg (fun w => hc w.1)]
  refine allWax_e (L := L) (R := R) (H := H) (cold := cold) hL ((gi_eq (c0 6 3 (by decide))).trans (cx_t hX1)) (fun t t0 t1 => ?_) ⟨_, _, _, rfl, rfl, ⟨by omega, by omega⟩, ?_⟩
  · rw [gi_eq (c0 43 _ (by decide)), gi_eq (c0 44 _ (by decide))]
    exact hE.1 t t0 t1
  have b0 : ∀ c k, c ≠ 19 → si (si I1 19 0 (H 8 0 + 1)) 19 1 (min 9999 (H 9 0 + waA L R H cold)) c k = I1 c k := fun c k hc => by rw [si_at, if_neg (fun w => hc w.1), si_at, if_neg (fun w => hc w.1)]
  have b19 : ∀ k : Nat, k ≠ 0 → k ≠ 1 → gi (si (si I1 19 0 (H 8 0 + 1)) 19 1 (min 9999 (H 9 0 + waA L R H cold))) 19 k = gi I1 19 k := fun k p q => by rw [gi_idx _ _ _ q, gi_idx _ _ _ p]
  have b190 : gi (si (si I1 19 0 (H 8 0 + 1)) 19 1 (min 9999 (H 9 0 + waA L R H cold))) 19 0 = H 8 0 + 1 := by rw [gi_idx _ _ _ (by decide), gi_same _ _ _ ⟨by omega, by omega⟩]
  have b191 : gi (si (si I1 19 0 (H 8 0 + 1)) 19 1 (min 9999 (H 9 0 + waA L R H cold))) 19 1 = min 9999 (H 9 0 + waA L R H cold) := gi_same _ _ _ ⟨by omega, by omega⟩
  generalize si (si I1 19 0 (H 8 0 + 1)) 19 1 (min 9999 (H 9 0 + waA L R H cold)) = B at b0 b19 b190 b191 ⊢
  have b62 : gi B 6 2 = nR L := (gi_eq (b0 6 2 (by decide))).trans (cx_n hX1)
  have b2 : gi B 19 2 = gi I 19 2 := (b19 2 (by decide) (by decide)).trans (e191 2)
  refine hap_all (L := L) (R := R) (H := H) (cold := cold) (by omega) hL hH b62 (fun r r0 r1 => ?_) (fun r r0 r1 => ?_) (by rw [b190]; exact ⟨by omega, by omega⟩) (by rw [b2]; exact ⟨h2.1, by omega⟩) (fun I2 hA => ⟨_, _, rfl, rfl, ?_⟩)
  · exact EvR.mv (coN_rng (R := R) hL hH (cold := cold) ⟨r0, r1⟩).1 r0 (hE.2 r r0 r1) (fun c hc => gi_eq (b0 c _ (by omega))) (fun k hk => gi_eq (b0 50 _ (by decide)))
  · have hw := hH.2.2 r r0 r1
    have q8 := hw.2.2.2.2.1
    have m6 := cx_6 hX1 (r := r) ⟨r0, r1⟩
    have k3 : ∀ k : Nat, 8 + 14 * r ≤ (k : Int) → (k : Int) < 17 + 14 * r → gi B 19 k = gi I1 19 k := fun k k0 k1 => b19 k (by omega) (by omega)
    have c8 : 0 ≤ cnC I1 r ∧ cnC I1 r ≤ 8 := by rw [show cnC I1 r = H 6 r from m6]; exact q8
    obtain ⟨l3, c3⟩ := lsC_eq (I := I1) (I' := B) r0 k3 c8
    have hl1 : lsC I1 r = lsH H r := by
      rw [← lsH_HC (by rw [cx_n hX1]; exact ⟨r0, r1⟩) c8, hX1.2.1]
    refine ⟨(b19 _ (by omega) (by omega)).trans (cx_1 hX1 ⟨r0, r1⟩), (b19 _ (by omega) (by omega)).trans (cx_2 hX1 ⟨r0, r1⟩), (b19 _ (by omega) (by omega)).trans (cx_3 hX1 ⟨r0, r1⟩), l3.trans hl1, by rw [c3]; exact c8, fun i j i0 ij j1 => ?_⟩
    rw [c3, show cnC I1 r = H 6 r from m6] at j1
    have e1 : enC B r i = H 7 (8 * r + i) := (b19 _ (by omega) (by omega)).trans (cx_7 hX1 ⟨r0, r1⟩ ⟨i0, by omega⟩)
    have e2 : enC B r j = H 7 (8 * r + j) := (b19 _ (by omega) (by omega)).trans (cx_7 hX1 ⟨r0, r1⟩ ⟨by omega, j1⟩)
    rw [e1, e2]
    exact (hw.2.2.2.2.2.1 j (by omega) j1).2.2 i i0 ij
  obtain ⟨a1, a2, a3, a4, a5, a6⟩ := hA
  have n62 : gi I2 6 2 = nR L := (gi_eq (a1 6 2 (by decide) (by decide))).trans b62
  refine allRead_e (L := L) (R := R) (H := H) (cold := cold) hL n62 (fun r r0 r1 => ?_) ⟨_, _, _, rfl, rfl, hQ I2 ⟨fun c k s1 s2 c1 c2 => ?_, fun c k c7 => ?_, ⟨?_, ?_, ?_⟩, ?_, fun j hj => ?_, fun l hl => ?_⟩⟩
  · rw [gi_eq (a1 45 _ (by decide) (by decide)), gi_eq (b0 45 _ (by decide))]
    exact (hE.2 r r0 r1).1
  · rw [a1 c k c1 c2, b0 c k c1]
    exact (hF.scr (by decide) (by decide)) c k s1 s2
  · rw [a1 c k (by omega) (by omega), b0 c k (by omega)]
    exact hF c k (fun w => by simp at w; omega) (fun w => by simp at w; omega)
  · exact hX1.1.fr (fun c p q => funext fun k => (a1 c k (by omega) (by omega)).trans (b0 c k (by omega)))
  · have hcan : cano (nR L) (HC I2) := by
      have := cano_HrC (fun j => gi I2 19 j.toNat) (gi I2 6 2)
      rw [n62] at this
      unfold HC
      rw [n62]
      exact this
    refine cano_ext hcan (cano_nit L R H cold) (fun i i0 i1 => ?_) ?_ ?_
    · obtain ⟨m1, m2, m3, m4, m5, m6, m7⟩ := a3 i.toNat (by omega)
      rw [Int.toNat_of_nonneg i0] at m1 m2 m3 m4 m5 m6 m7
      obtain ⟨d1, d2, d3, d4, d5, d6⟩ := hc_f I2 (i := i) (by rw [n62]; exact ⟨i0, i1⟩)
      have w8 := wlN_len (R := R) hH (cold := cold) (i := i) ⟨i0, i1⟩
      have w6 : nitH L R H cold 6 i = ((wlN L R H cold i).length : Int) := tr_in ⟨i0, i1⟩
      refine ⟨d1.trans (m1.trans (tr_in ⟨i0, i1⟩).symm), d2.trans (m2.trans (tr_in ⟨i0, i1⟩).symm), d3.trans (m3.trans (tr_in ⟨i0, i1⟩).symm), d4.trans (m4.trans (tr_in ⟨i0, i1⟩).symm), d5.trans (m5.trans (tr_in ⟨i0, i1⟩).symm), ?_, by rw [d6]; exact m7, by rw [w6]; omega⟩
      rw [lsH_HC (by rw [n62]; exact ⟨i0, i1⟩) m7, m6, lsH_nit hH ⟨i0, i1⟩]
    · exact (a2 0 (by omega)).trans b190
    · exact (a2 1 (by omega)).trans b191
  · exact nit_wf hL hH h8 cold
  · rw [a4, b2, rdS_all]
  · rw [a5 j (by rw [b2]; exact hj), gi_eq (b0 20 j (by decide)), e200 j]
  · have hb2 : (gi B 19 2).toNat = (gi I 19 2).toNat := by rw [b2]
    have hg : (gi I2 19 2).toNat = (gi I 19 2).toNat + rdS L R H cold (nR L).toNat := by rw [a4, b2]; omega
    rw [hg]
    refine KPl_kp hl ⟨hh0.1, by omega⟩ (fun j hj => ?_) (nR L).toNat (by omega) (fun m hm i hi => ⟨?_, ?_⟩)
    · rw [a5 j (by rw [b2]; omega), gi_eq (b0 20 j (by decide)), e200 j]
    · have h1 := rdn_le (ltN L R H cold (H 1 (m : Int))) (coN L R H cold (m : Int))
      have h2 : rdC L R H cold (m : Int) ≤ (coN L R H cold (m : Int)).length := h1
      have := ((coN_rng (R := R) hL hH (cold := cold) (r := (m : Int)) ⟨by omega, by omega⟩).2 i (by omega)).1
      have := hL.2.1
      omega
    · have := a6 m hm i hi
      rw [hb2, b190] at this
      exact this
end PASSES
