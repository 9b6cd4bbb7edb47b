section TOTALS
/-! ===== the sums over an evening ===== -/
def rdA (L : Lb) (R : Rl) (H : Hl) (cold r : Int) : Int := (rdn (ltN L R H cold (H 1 r)) (coN L R H cold r) : Int)
def allR (L : Lb) (R : Rl) (H : Hl) (cold : Int) : Int := smi (nR L).toNat (fun r => rdA L R H cold r)
def allLt (L : Lb) (R : Rl) (H : Hl) (cold : Int) : Int := smi (nT L).toNat (fun t => ltN L R H cold t)
def waA (L : Lb) (R : Rl) (H : Hl) (cold : Int) : Int := smi (nT L).toNat (fun t => ltN L R H cold t - lsN L R H cold t (nR L).toNat)
def allI (L : Lb) (R : Rl) (H : Hl) (cold : Int) : Int := smi (nR L).toNat (fun r => if rdA L R H cold r = 0 then 1 else 0)
theorem rdA_bd {L : Lb} {R : Rl} {H : Hl} (hL : WfL L) (hH : WfH L H) {cold r : Int} (hr : 0 ≤ r ∧ r < nR L) : 0 ≤ rdA L R H cold r ∧ rdA L R H cold r ≤ 8 := by
  have h1 := (coN_rng (R := R) hL hH (cold := cold) hr).1
  have h2 := rdn_le (ltN L R H cold (H 1 r)) (coN L R H cold r)
  unfold rdA
  omega
theorem allR_bd {L : Lb} {R : Rl} {H : Hl} (hL : WfL L) (hH : WfH L H) {cold : Int} : 0 ≤ allR L R H cold ∧ allR L R H cold ≤ 48 := by
  have hR6 := hL.2.2.1
  have h := smi_bd (n := (nR L).toNat) (f := fun r => rdA L R H cold r) (b := 8) (by decide) (fun i hi => rdA_bd hL hH ⟨by omega, by omega⟩)
  unfold allR
  omega
theorem allLt_bd {L : Lb} {R : Rl} {H : Hl} (hL : WfL L) {cold : Int} : 0 ≤ allLt L R H cold ∧ allLt L R H cold ≤ 15000 := by
  have hT := hL.2.2.2.1
  have h := smi_bd (n := (nT L).toNat) (f := fun t => ltN L R H cold t) (b := 3000) (by decide) (fun i hi => lig_bd (R := R) H hL (i : Int) (dr L cold i))
  unfold allLt
  omega
theorem waA_bd {L : Lb} {R : Rl} {H : Hl} (hL : WfL L) (hH : WfH L H) {cold : Int} : 0 ≤ waA L R H cold ∧ waA L R H cold ≤ 15000 := by
  have hT := hL.2.2.2.1
  have h := smi_bd (n := (nT L).toNat) (f := fun t => ltN L R H cold t - lsN L R H cold t (nR L).toNat) (b := 3000) (by decide) (fun i hi => by
    have h1 : 0 ≤ ltN L R H cold (i : Int) ∧ ltN L R H cold (i : Int) ≤ 3000 := lig_bd (R := R) H hL (i : Int) (dr L cold i)
    have h2 := lsN_bd (R := R) hL hH (cold := cold) (t := (i : Int)) (nR L).toNat (Nat.le_refl _)
    show 0 ≤ ltN L R H cold (i : Int) - lsN L R H cold (i : Int) (nR L).toNat ∧ ltN L R H cold (i : Int) - lsN L R H cold (i : Int) (nR L).toNat ≤ 3000
    omega)
  unfold waA
  omega
theorem allI_bd {L : Lb} {R : Rl} {H : Hl} (hL : WfL L) {cold : Int} : 0 ≤ allI L R H cold ∧ allI L R H cold ≤ 6 := by
  have hR6 := hL.2.2.1
  have h := smi_bd (n := (nR L).toNat) (f := fun r => if rdA L R H cold r = 0 then 1 else 0) (b := 1) (by decide) (fun i hi => by
    show 0 ≤ (if rdA L R H cold (i : Int) = 0 then (1 : Int) else 0) ∧ (if rdA L R H cold (i : Int) = 0 then (1 : Int) else 0) ≤ 1
    split <;> decide)
  unfold allI
  omega
theorem S_X1_allRead {k : Nat} {P : Option Nat} {I : Nat → Nat → Int32} {J : Nat → Nat → Int64} {Q : Option AV → Mem → Prop} {L : Lb} {R : Rl} {H : Hl} {cold : Int} (hX : CX I L R H) (hE : EvA I L R H cold) (hQ : Q (some (vI (allR L R H cold))) (mem (rv0 P) I J)) : WPm k LAY m_X1_allRead [vR (some 42)] (mem (rv0 P) I J) Q := by
  have hR6 := hX.1.2.2.2.1.2.2.1
  refine WPm.of k_X1_allRead.1 (Nat.le_of_ble_eq_true rfl) (B_X1_allRead_0 (by omega) ?_)
  have loop : ∀ (d n : Nat) (x y : Int), n + d = (nR L).toNat → x = n → y = smi n (fun r => rdA L R H cold r) → WP k LAY m_X1_allRead 4 [(0, vR (some 42)), (1, vI y), (2, vI x)] [] (mem (rv0 P) I J) Q := by
    intro d
    induction d with
    | zero =>
      intro n x y hn hx hy
      refine B_X1_allRead_4 (by omega) ?_
      rw [cx_n hX]
      refine ⟨⟨by omega, by omega⟩, fun _ => ?_, fun q => absurd q (by omega)⟩
      exact Qat hQ (by rw [hy]; unfold allR; rw [show (nR L).toNat = n by omega])
    | succ d ih =>
      intro n x y hn hx hy
      subst hx
      have hg : gi I 45 ((n : Int)).toNat = rdA L R H cold n := (hE.2 n (by omega) (by omega)).1
      refine B_X1_allRead_4 (by omega) ?_
      rw [cx_n hX, hg]
      exact ⟨⟨by omega, by omega⟩, fun q => absurd q (by omega), fun _ => ⟨⟨by omega, by omega⟩, ih (n + 1) _ _ (by omega) (by omega) (by rw [hy]; rfl)⟩⟩
  exact loop _ 0 _ _ (Nat.zero_add _) rfl rfl
theorem S_X1_idle {k : Nat} {P : Option Nat} {I : Nat → Nat → Int32} {J : Nat → Nat → Int64} {Q : Option AV → Mem → Prop} {L : Lb} {R : Rl} {H : Hl} {cold : Int} (hX : CX I L R H) (hE : EvA I L R H cold) (hQ : Q (some (vI (allI L R H cold))) (mem (rv0 P) I J)) : WPm k LAY m_X1_idle [vR (some 42)] (mem (rv0 P) I J) Q := by
  have hR6 := hX.1.2.2.2.1.2.2.1
  refine WPm.of k_X1_idle.1 (Nat.le_of_ble_eq_true rfl) (B_X1_idle_0 (by omega) ?_)
  have loop : ∀ (d n : Nat) (x y : Int), n + d = (nR L).toNat → x = n → y = smi n (fun r => if rdA L R H cold r = 0 then 1 else 0) → WP k LAY m_X1_idle 4 [(0, vR (some 42)), (1, vI y), (2, vI x)] [] (mem (rv0 P) I J) Q := by
    intro d
    induction d with
    | zero =>
      intro n x y hn hx hy
      refine B_X1_idle_4 (by omega) ?_
      rw [cx_n hX]
      refine ⟨⟨by omega, by omega⟩, fun _ => ?_, fun q => absurd q (by omega)⟩
      exact Qat hQ (by rw [hy]; unfold allI; rw [show (nR L).toNat = n by omega])
    | succ d ih =>
      intro n x y hn hx hy
      subst hx
      have hg : gi I 45 ((n : Int)).toNat = rdA L R H cold n := (hE.2 n (by omega) (by omega)).1
      refine B_X1_idle_4 (by omega) ?_
      rw [cx_n hX, hg]
      refine ⟨⟨by omega, by omega⟩, fun q => absurd q (by omega), fun _ => ⟨⟨by omega, by omega⟩, fun q => ih (n + 1) _ _ (by omega) (by omega) ?_, fun q => ih (n + 1) _ _ (by omega) (by omega) ?_⟩⟩
      · rw [hy, smi, if_neg q, Int.add_zero]
      · rw [hy, smi, if_pos q]
  exact loop _ 0 _ _ (Nat.zero_add _) rfl rfl
theorem S_X1_allLight {k : Nat} {P : Option Nat} {I : Nat → Nat → Int32} {J : Nat → Nat → Int64} {Q : Option AV → Mem → Prop} {L : Lb} {R : Rl} {H : Hl} {cold : Int} (hX : CX I L R H) (hE : EvA I L R H cold) (hQ : Q (some (vI (allLt L R H cold))) (mem (rv0 P) I J)) : WPm k LAY m_X1_allLight [vR (some 42)] (mem (rv0 P) I J) Q := by
  have hT := hX.1.2.2.2.1.2.2.2.1
  refine WPm.of k_X1_allLight.1 (Nat.le_of_ble_eq_true rfl) (B_X1_allLight_0 (by omega) ?_)
  have loop : ∀ (d n : Nat) (x y : Int), n + d = (nT L).toNat → x = n → y = smi n (fun t => ltN L R H cold t) → WP k LAY m_X1_allLight 4 [(0, vR (some 42)), (1, vI y), (2, vI x)] [] (mem (rv0 P) I J) Q := by
    intro d
    induction d with
    | zero =>
      intro n x y hn hx hy
      refine B_X1_allLight_4 (by omega) ?_
      rw [cx_t hX]
      refine ⟨⟨by omega, by omega⟩, fun _ => ?_, fun q => absurd q (by omega)⟩
      exact Qat hQ (by rw [hy]; unfold allLt; rw [show (nT L).toNat = n by omega])
    | succ d ih =>
      intro n x y hn hx hy
      subst hx
      refine B_X1_allLight_4 (by omega) ?_
      rw [cx_t hX, (hE.1 n (by omega) (by omega)).1]
      exact ⟨⟨by omega, by omega⟩, fun q => absurd q (by omega), fun _ => ⟨⟨by omega, by omega⟩, ih (n + 1) _ _ (by omega) (by omega) (by rw [hy]; rfl)⟩⟩
  exact loop _ 0 _ _ (Nat.zero_add _) rfl rfl
theorem S_X1_allWax {k : Nat} {P : Option Nat} {I : Nat → Nat → Int32} {J : Nat → Nat → Int64} {Q : Option AV → Mem → Prop} {L : Lb} {R : Rl} {H : Hl} {cold : Int} (hX : CX I L R H) (hE : EvA I L R H cold) (hQ : Q (some (vI (waA L R H cold))) (mem (rv0 P) I J)) : WPm k LAY m_X1_allWax [vR (some 42)] (mem (rv0 P) I J) Q := by
  have hT := hX.1.2.2.2.1.2.2.2.1
  refine WPm.of k_X1_allWax.1 (Nat.le_of_ble_eq_true rfl) (B_X1_allWax_0 (by omega) ?_)
  have loop : ∀ (d n : Nat) (x y : Int), n + d = (nT L).toNat → x = n → y = smi n (fun t => ltN L R H cold t - lsN L R H cold t (nR L).toNat) → WP k LAY m_X1_allWax 4 [(0, vR (some 42)), (1, vI y), (2, vI x)] [] (mem (rv0 P) I J) Q := by
    intro d
    induction d with
    | zero =>
      intro n x y hn hx hy
      refine B_X1_allWax_4 (by omega) ?_
      rw [cx_t hX]
      refine ⟨⟨by omega, by omega⟩, fun _ => ?_, fun q => absurd q (by omega)⟩
      exact Qat hQ (by rw [hy]; unfold waA; rw [show (nT L).toNat = n by omega])
    | succ d ih =>
      intro n x y hn hx hy
      subst hx
      refine B_X1_allWax_4 (by omega) ?_
      rw [cx_t hX, (hE.1 n (by omega) (by omega)).1, (hE.1 n (by omega) (by omega)).2]
      exact ⟨⟨by omega, by omega⟩, fun q => absurd q (by omega), fun _ => ⟨⟨by omega, by omega⟩, ih (n + 1) _ _ (by omega) (by omega) (by rw [hy]; rfl)⟩⟩
  exact loop _ 0 _ _ (Nat.zero_add _) rfl rfl
end TOTALS
