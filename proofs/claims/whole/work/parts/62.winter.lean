section WINTERS
/-! ===== a winter: the seed's steps, nights in a row ===== -/
theorem and31 {n : Nat} : and32 (n : Int) 2147483647 = ((n % 2147483648 : Nat) : Int) := by
  show (iI (n : Int) &&& iI 2147483647).toBitVec.toInt = _
  refine bv_int ?_ (Nat.mod_lt _ (by decide))
  rw [Int32.toBitVec_and, iI_bv, show (iI 2147483647).toBitVec = BitVec.ofNat 32 2147483647 from rfl, BitVec.toNat_and, BitVec.toNat_ofNat, BitVec.toNat_ofNat]
  have e : 2147483647 % 2 ^ 32 = 2 ^ 31 - 1 := by decide
  rw [e, Nat.and_two_pow_sub_one_eq_mod]
  omega
theorem div64_pos {a b : Int} (ha : 0 ≤ a ∧ a < 9223372036854775808) (hb : 0 < b ∧ b < 9223372036854775808) : div64 a b = a / b := by
  unfold div64
  have h1 : (iL a).toInt = a := iL_to ⟨by omega, by omega⟩
  have h2 : (iL b).toInt = b := iL_to ⟨by omega, by omega⟩
  rw [Int64.toInt_div, h1, h2, Int.tdiv_eq_ediv_of_nonneg ha.1]
  have : 0 ≤ a / b := Int.ediv_nonneg ha.1 (by omega)
  have : a / b ≤ a := Int.ediv_le_self b ha.1
  exact Int.bmod_eq_of_le (by omega) (by omega)
theorem rem64_pos {a b : Int} (ha : 0 ≤ a ∧ a < 9223372036854775808) (hb : 0 < b ∧ b < 9223372036854775808) : rem64 a b = a % b := by
  unfold rem64
  have h0 : iL a / iL b = iL (a / b) := by
    rw [← div64_pos ha hb]
    exact (iL_of _).symm
  have e := Int.mul_ediv_add_emod a b
  have h3 : 0 ≤ a % b := Int.emod_nonneg a (by omega)
  have h4 : a % b < b := Int.emod_lt_of_pos a hb.1
  rw [h0, iL_mul, iL_sub, iL_to ⟨by rw [Int.mul_comm]; omega, by rw [Int.mul_comm]; omega⟩, Int.mul_comm]
  omega
def winS (x : Int) : Int := (1103515245 * x + 12345) % 2147483648
theorem winS_bd (x : Int) : 0 ≤ winS x ∧ winS x < 2147483648 := by
  unfold winS
  omega
theorem winS_c {x : Int} (h : 0 ≤ x) : and32 (1103515245 * x + 12345) 2147483647 = winS x := by
  have e : 1103515245 * x + 12345 = ((1103515245 * x.toNat + 12345 : Nat) : Int) := by omega
  unfold winS
  rw [e, and31]
  rfl
theorem winS_r {x : Int} (h : 0 ≤ x ∧ x < 2147483648) : rem64 (1103515245 * x + 12345) 2147483648 = winS x := rem64_pos ⟨by omega, by omega⟩ (by decide)
def sdN (x : Int) : Nat → Int
  | 0 => x
  | n + 1 => winS (sdN x n)
theorem sdN_bd {x : Int} (h : 0 ≤ x ∧ x < 2147483648) : ∀ n : Nat, 0 ≤ sdN x n ∧ sdN x n < 2147483648
  | 0 => h
  | n + 1 => winS_bd _
def cdN (L : Lb) (x : Int) (n : Nat) : Int := sdN x (n + 1) / 64 % nT L
def wH (L : Lb) (R : Rl) (H : Hl) (x : Int) : Nat → Hl
  | 0 => H
  | n + 1 => nitH L R (wH L R H x n) (cdN L x n)
def wK (L : Lb) (R : Rl) (H : Hl) (x : Int) (l : List (Int × Int × Int)) : Nat → List (Int × Int × Int)
  | 0 => l
  | n + 1 => kpN L R (wH L R H x n) (cdN L x n) (wK L R H x l n) (nR L).toNat
def wA (L : Lb) (R : Rl) (H : Hl) (x : Int) : Nat → Int
  | 0 => 0
  | n + 1 => wA L R H x n + allR L R (wH L R H x n) (cdN L x n)
theorem wH_ok {L : Lb} {R : Rl} {H : Hl} {x : Int} (hL : WfL L) (hH : WfH L H) : ∀ n : Nat, H 8 0 + n ≤ 999 → WfH L (wH L R H x n) ∧ wH L R H x n 8 0 = H 8 0 + n ∧ rdN L (wH L R H x n) = rdN L H + wA L R H x n ∧ 0 ≤ wA L R H x n
  | 0, _ => ⟨hH, (Int.add_zero _).symm, (Int.add_zero _).symm, Int.le_refl _⟩
  | n + 1, hn => by
    obtain ⟨h1, h2, h3, h4⟩ := wH_ok (R := R) (x := x) hL hH n (by omega)
    have h5 := allR_bd (R := R) hL h1 (cold := cdN L x n)
    refine ⟨nit_wf hL h1 (by omega) _, ?_, ?_, ?_⟩
    · show wH L R H x n 8 0 + 1 = _
      rw [h2]
      omega
    · show rdN L (nitH L R (wH L R H x n) (cdN L x n)) = rdN L H + (wA L R H x n + allR L R (wH L R H x n) (cdN L x n))
      rw [nit_rd hL h1, h3]
      omega
    · show 0 ≤ wA L R H x n + allR L R (wH L R H x n) (cdN L x n)
      omega
theorem cdN_bd {L : Lb} {x : Int} {n : Nat} (hx : 0 ≤ x ∧ x < 2147483648) (hT : 0 < nT L) : 0 ≤ cdN L x n ∧ cdN L x n < nT L := by
  unfold cdN
  have := sdN_bd hx (n + 1)
  exact ⟨Int.emod_nonneg _ (by omega), Int.emod_lt_of_pos _ hT⟩
/-- the class's nights of a winter -/
def WinC (I0 I : Nat → Nat → Int32) (L : Lb) (R : Rl) (H : Hl) (x : Int) (l : List (Int × Int × Int)) (n : Nat) : Prop := (∀ c k, scrC c = false → scrF c k = false → c ≠ 19 → c ≠ 20 → ¬ (c = 0 ∧ k = 11) → I c k = I0 c k) ∧ (∀ c k, 74 ≤ c → I c k = I0 c k) ∧ CX I L R (wH L R H x n) ∧ gi I 19 2 = gi I0 19 2 + wA L R H x n ∧ (∀ j : Nat, (j : Int) < gi I0 19 2 → gi I 20 j = gi I0 20 j) ∧ KPl (wK L R H x l n) (gi I 20) (gi I 19 2).toNat ∧ gi I 0 11 = sdN x n
theorem win_loop {k : Nat} {P : Option Nat} {I0 : Nat → Nat → Int32} {J : Nat → Nat → Int64} {Q : Option AV → Mem → Prop} {L : Lb} {R : Rl} {H : Hl} {x : Int} {l : List (Int × Int × Int)} {N : Nat} (hk : 11 ≤ k) (hL : WfL L) (hH : WfH L H) (hx : 0 ≤ x ∧ x < 2147483648) (hT : 0 < nT L) (hN : N ≤ 30) (h8 : H 8 0 + N ≤ 999) (h2 : 0 ≤ gi I0 19 2 ∧ gi I0 19 2 ≤ rdN L H)
    (hQ : ∀ I', WinC I0 I' L R H x l N → Q (some (vI (wA L R H x N))) (mem (rv0 P) I' J)) : ∀ (d n : Nat) (y z : Int) (I : Nat → Nat → Int32), n + d = N → y = n → z = wA L R H x n → WinC I0 I L R H x l n → WP k LAY m_X11_winter 63 [(0, vR (some 0)), (1, vI (N : Int)), (2, vI (nT L)), (3, vI z), (4, vI y)] [] (mem (P, some 5, some 22) I J) Q := by
  have hT5 := hL.2.2.2.1
  intro d
  induction d with
  | zero =>
    intro n y z I hn hy hz hW
    refine B_X11_winter_63 (by omega) ⟨⟨by omega, by omega⟩, ⟨by omega, by omega⟩, fun _ => ?_, fun w => absurd w (by omega)⟩
    rw [hz, show n = N by omega]
    exact hQ I (by rw [show N = n by omega]; exact hW)
  | succ d ih =>
    intro n y z I hn hy hz hW
    subst hy; subst hz
    obtain ⟨a1, a2, a3, a4, a5, a6, a7⟩ := hW
    have sb := sdN_bd hx n
    have es : and32 ((1103515245 * (gi I 0 11)) + 12345) 2147483647 = sdN x (n + 1) := by rw [a7]; exact winS_c sb.1
    have sb1 := sdN_bd hx (n + 1)
    have ec : rem32 (div32 (sdN x (n + 1)) 64) (nT L) = cdN L x n := by
      rw [div32_pos sb1 (by decide), rem32_pos ⟨by omega, by omega⟩ ⟨hT, by omega⟩]
      rfl
    have cb := cdN_bd (L := L) (n := n) hx hT
    obtain ⟨w1, w2, w3, w4⟩ := wH_ok (R := R) (x := x) hL hH n (by omega)
    refine B_X11_winter_63 (by omega) ?_
    rw [es, ec]
    refine ⟨⟨by omega, by omega⟩, ⟨by omega, by omega⟩, fun w => absurd w (by omega), fun _ => ⟨⟨by omega, by omega⟩, fun w => absurd w (by omega), fun _ => ⟨by omega, ?_⟩⟩⟩
    have s0 : ∀ c k, ¬ (c = 0 ∧ k = 11) → si I 0 11 (sdN x (n + 1)) c k = I c k := fun c k p => by rw [si_at, if_neg p]
    have s1 : gi (si I 0 11 (sdN x (n + 1))) 0 11 = sdN x (n + 1) := gi_same _ _ _ ⟨by omega, by omega⟩
    generalize si I 0 11 (sdN x (n + 1)) = I2 at s0 s1 ⊢
    have e2 : gi I2 19 2 = gi I 19 2 := gi_eq (s0 19 2 (by decide))
    refine S_X11_pass (L := L) (R := R) (H := wH L R H x n) (by omega) (a3.fr (fun c p q => funext fun k => s0 c k (by omega))) ⟨by omega, by omega⟩ (by omega) (by rw [e2, a4]; omega) (fun I3 hp => ⟨_, _, _, rfl, rfl, ih (n + 1) _ _ I3 (by omega) (by omega) rfl ?_⟩)
    obtain ⟨c1, c2, c3, c4, c5, c6⟩ := hp
    refine ⟨fun c k p q r s t => ?_, fun c k p => ?_, c3, ?_, fun j hj => ?_, ?_, ?_⟩
    · rw [c1 c k p q r s, s0 c k t, a1 c k p q r s t]
    · rw [c2 c k p, s0 c k (by omega), a2 c k p]
    · rw [c4, e2, a4]
      show _ = gi I0 19 2 + (wA L R H x n + allR L R (wH L R H x n) (cdN L x n))
      omega
    · rw [c5 j (by rw [e2, a4]; omega), gi_eq (s0 20 j (by omega)), a5 j hj]
    · refine c6 _ ?_
      rw [e2]
      exact KPl_mv a6 (fun j _ => gi_eq (s0 20 j (by omega)))
    · rw [gi_eq (c1 0 11 (by decide) (by decide) (by decide) (by decide)), s1]
/-- the reference's -/
def WinR (I0 I : Nat → Nat → Int32) (J0 J : Nat → Nat → Int64) (L : Lb) (R : Rl) (H : Hl) (x : Int) (n : Nat) : Prop := (∀ c k : Nat, scrC c = false → scrF c k = false → ¬ lay0 c k → ¬ (c = 74 ∧ k = 73) → I c k = I0 c k) ∧ RX I 0 L R (wH L R H x n) ∧ gi I 74 72 = -1 ∧ kpL I 0 = wK L R H x (kpL I0 0) n ∧ (0 ≤ gi I 117 0 ∧ gi I 117 0 ≤ 60) ∧ gl J 74 67 = sdN x n ∧ ∀ c k, ¬ (c = 121 ∨ c = 68 ∨ c = 69) → ¬ (c = 74 ∧ k = 67) → J c k = J0 c k
theorem sl_at (X : Nat → Nat → Int64) (c k c' k' : Nat) (z : Int) : sl X c k z c' k' = if c' = c ∧ k' = k then iL z else X c' k' := by
  by_cases h1 : c' = c
  · subst h1
    by_cases h2 : k' = k <;> simp [sl, up2, h2]
  · simp [sl, up2, h1]
theorem winR_loop {k : Nat} {P : Option Nat} {I0 : Nat → Nat → Int32} {J0 : Nat → Nat → Int64} {Q : Option AV → Mem → Prop} {L : Lb} {R : Rl} {H : Hl} {x : Int} {N : Nat} (hk : 9 ≤ k) (hL : WfL L) (hH : WfH L H) (hx : 0 ≤ x ∧ x < 2147483648) (hT : 0 < nT L) (hN : N ≤ 30) (h8 : H 8 0 + N ≤ 999)
    (hQ : ∀ I' J', WinR I0 I' J0 J' L R H x N → Q (some (vI (wA L R H x N))) (mem (rv0 P) (si I' 74 73 (-1)) J')) : ∀ (d n : Nat) (y z : Int) (I : Nat → Nat → Int32) (J : Nat → Nat → Int64), n + d = N → y = n → z = wA L R H x n → WinR I0 I J0 J L R H x n → WP k LAY m_X12_winter 50 [(0, vR (some 74)), (1, vI (N : Int)), (2, vI z), (3, vI y)] [] (mem (P, some 5, some 22) I J) Q := by
  have hT5 := hL.2.2.2.1
  intro d
  induction d with
  | zero =>
    intro n y z I J hn hy hz hW
    refine B_X12_winter_50 (by omega) ⟨⟨by omega, by omega⟩, ⟨by omega, by omega⟩, fun _ => ?_, fun w => absurd w (by omega)⟩
    rw [hz, show n = N by omega]
    exact hQ I J (by rw [show N = n by omega]; exact hW)
  | succ d ih =>
    intro n y z I J hn hy hz hW
    subst hy; subst hz
    obtain ⟨a1, a2, a3, a4, a5, a6, a7⟩ := hW
    have sb := sdN_bd hx n
    have es : rem64 ((1103515245 * (gl J 74 67)) + 12345) 2147483648 = sdN x (n + 1) := by rw [a6]; exact winS_r sb
    have sb1 := sdN_bd hx (n + 1)
    have ec : rem64 (div64 (sdN x (n + 1)) 64) (nT L) = cdN L x n := by
      rw [div64_pos ⟨by omega, by omega⟩ (by decide), rem64_pos ⟨by omega, by omega⟩ ⟨hT, by omega⟩]
      rfl
    have cb := cdN_bd (L := L) (n := n) hx hT
    obtain ⟨w1, w2, w3, w4⟩ := wH_ok (R := R) (x := x) hL hH n (by omega)
    refine B_X12_winter_50 (by omega) ?_
    rw [es, rx_t a2, ec]
    refine ⟨⟨by omega, by omega⟩, ⟨by omega, by omega⟩, fun w => absurd w (by omega), fun _ => ⟨rx_b a2, by omega, ?_⟩⟩
    have s0 : ∀ c k, ¬ (c = 74 ∧ k = 73) → si I 74 73 (cdN L x n) c k = I c k := fun c k p => by rw [si_at, if_neg p]
    have s1 : gi (si I 74 73 (cdN L x n)) 74 73 = cdN L x n := gi_same _ _ _ ⟨by omega, by omega⟩
    generalize si I 74 73 (cdN L x n) = I2 at s0 s1 ⊢
    have hX2 : RX I2 0 L R (wH L R H x n) := a2.fr ⟨⟨fun c p q => funext fun k => s0 c k (by omega), gi_eq (s0 74 13 (by decide))⟩, fun c p q => funext fun k => s0 c k (by omega)⟩
    refine S_X12_nightGoes (L := L) (R := R) (H := wH L R H x n) (cold := cdN L x n) (by omega) hX2 ((gi_eq (s0 74 72 (by decide))).trans a3) s1 (by omega) (by rw [gi_eq (s0 117 0 (by decide))]; exact a5) (fun I3 J3 hp hJ => ⟨_, _, _, rfl, rfl, ih (n + 1) _ _ I3 J3 (by omega) (by omega) rfl ?_⟩)
    obtain ⟨c1, c2, c3, c4⟩ := hp
    refine ⟨fun c k p q r s => ?_, c2, ?_, ?_, c4, ?_, fun c k p q => ?_⟩
    · rw [c1 c k (lay_tch p q r) (lay_89 r), s0 c k s, a1 c k p q r s]
    · rw [gi_eq (c1 74 72 (tch0_7 (Or.inl rfl)) (by decide)), gi_eq (s0 74 72 (by decide))]
      exact a3
    · rw [c3, kpL_eq (fun c k p q => s0 c k (by omega)), a4]
      rfl
    · rw [hJ.lv 74 67 (by decide) (by simp)]
      exact gl_same _ _ _ ⟨by omega, by omega⟩
    · rw [hJ c k (by simp; omega) (by simp), sl_at, if_neg q]
      exact a7 c k p q
theorem step_winter {V V' : Cpl} (hA : Vact V V') (hsd : ∀ I J, V I J → gl J 74 67 = gi I 0 11 ∧ 0 ≤ gi I 0 11) (hput : ∀ I J x, V I J → inR x → 0 ≤ x → V (si I 0 11 x) (sl J 74 67 x)) (x : Int) (hx : inR x) : Step V V' m_X11_winter m_X12_winter [x] := by
  intro P I J hV
  obtain ⟨hH, hst⟩ := hA.1 I J hV
  obtain ⟨sd1, sd2⟩ := hsd I J hV
  have hH0 := hH
  obtain ⟨⟨hC, hR, h72, h73⟩, hVP, hK, hrn⟩ := hH
  have hL := hC.1.2.2.2.1
  have hHh := hC.2.2
  have hT5 := hL.2.2.2.1
  obtain ⟨p1, p2, p3, p4, -, -⟩ := hVP
  have e190 : gi I 19 0 = HC I 8 0 := cx_8 hC
  have e108 : gi I 108 0 = HC I 8 0 := rx_8 hR
  have e63 : gi I 6 3 = nT (LC I) := cx_t hC
  have hh0 := hHh.1
  have h117 : 0 ≤ gi I 117 0 ∧ gi I 117 0 ≤ 60 := by
    have h1 := hK.1
    have h2 : gi I 117 0 = min 60 (gi I 19 2) := hK.2.1
    omega
  have sdr : 0 ≤ gi I 0 11 ∧ gi I 0 11 < 2147483648 := ⟨sd2, (gi_in I 0 11).2⟩
  have no : ¬ ((1 ≤ x ∧ x ≤ 30) ∧ HC I 8 0 + x ≤ 999 ∧ ¬ nT (LC I) = 0) → WPm 900 LAY m_X12_winter (vR (some 74) :: [x].map vI) (mem (rv0 P) (si I 73 3 (gi I 73 3 + 1)) J) (fun r2 M2 => r2 = some (vI (-1)) ∧ Cpl2 V' M2) := by
    intro hn
    refine ref_R 3 (by decide) (hA.2.2 I J 3 hV (by decide)) (fun Q hQ => ?_)
    have hR1 := rx_73 hR 3 (gi I 73 3 + 1)
    have e1 : gi (si I 73 3 (gi I 73 3 + 1)) 108 0 = HC I 8 0 := (gi_cell _ _ _ _ (by decide)).trans e108
    refine WPm.of k_X12_winter.1 (Nat.le_of_ble_eq_true rfl) (B_X12_winter_0 (by omega) ?_)
    rw [e1, rx_t hR1]
    exact ⟨hx, fun _ => hQ, fun q => ⟨⟨by omega, by omega⟩, fun _ => hQ, fun q2 => ⟨rx_b hR1, fun q3 => absurd ⟨q, by omega, q3⟩ hn, fun _ => hQ⟩⟩⟩
  refine WPm.of k_X11_winter.1 (Nat.le_of_ble_eq_true rfl) (B_X11_winter_0 (by omega) ?_)
  rw [e190, e63]
  refine ⟨hx, fun q => Step.put (by decide) rfl (no (fun w => by omega)), fun q => ⟨fun q2 => Step.put (by decide) rfl (no (fun w => by omega)), fun q2 => ⟨⟨by omega, by omega⟩, fun q3 => Step.put (by decide) rfl (no (fun w => by omega)), fun q3 => ⟨fun q4 => ⟨⟨by omega, by omega⟩, ⟨by omega, by omega⟩, ?_⟩, fun q4 => Step.put (by decide) rfl (no (fun w => w.2.2 q4))⟩⟩⟩⟩
  change WP 900 LAY m_X11_winter 63 [(0, vR (some 0)), (1, vI x), (2, vI (nT (LC I))), (3, vI 0), (4, vI 0)] [] (mem (P, some 5, some 22) (remI I) J) _
  obtain ⟨N, rfl⟩ : ∃ N : Nat, x = (N : Int) := ⟨x.toNat, by omega⟩
  have hT : 0 < nT (LC I) := by omega
  have r2 : gi (remI I) 19 2 = gi I 19 2 := rem_19 I 2
  have hb : ∀ k, gi (remI I) 20 k = gi I 20 k := fun k => gi_eq (rem_at I (by decide) (by omega))
  have hkl := (KP_l.mp hK).2.2
  obtain ⟨w1, w2, w3, w4⟩ := wH_ok (R := RC I) (x := gi I 0 11) hL hHh N (by omega)
  have w84 := rdN_le (H := wH (LC I) (RC I) (HC I) (gi I 0 11) N) hL
  have wnn : 0 ≤ rdN (LC I) (HC I) := by
    have := hK.1
    omega
  refine win_loop (I0 := remI I) (L := LC I) (R := RC I) (H := HC I) (x := gi I 0 11) (l := kpL I 0) (N := N) (by omega) hL hHh sdr hT (by omega) (by omega) (by rw [r2]; exact ⟨hK.1.1, hrn⟩) (fun I1 hW => ?_) N 0 0 0 (remI I) (Nat.zero_add _) rfl rfl ⟨fun _ _ _ _ _ _ _ => rfl, fun _ _ _ => rfl, rem_cx hC, (Int.add_zero _).symm, fun _ _ => rfl, ?_, gi_eq (rem_at I (by decide) (by decide))⟩
  · obtain ⟨a1, a1', a2, a3, a4, a5, a6⟩ := hW
    refine Step.put ⟨by omega, by omega⟩ rfl ?_
    have f108 : gi I1 108 0 = HC I 8 0 := (gi_eq ((a1' 108 0 (by decide)).trans (rem_at I (by decide) (by decide)))).trans e108
    have f65 : gi I1 74 65 = gi I 74 65 := gi_eq ((a1' 74 65 (by decide)).trans (rem_at I (by decide) (by decide)))
    have f66 : gi I1 74 66 = gi I 74 66 := gi_eq ((a1' 74 66 (by decide)).trans (rem_at I (by decide) (by decide)))
    have f86 : gi I1 86 (gi I1 74 13).toNat = nT (LC I) := by
      rw [gi_eq ((a1' 74 13 (by decide)).trans (rem_at I (by decide) (by decide))), gi_eq ((a1' 86 _ (by decide)).trans (rem_at I (by decide) (by omega)))]
      exact rx_t hR
    have f13 : gi I1 74 13 = gi I 74 13 := gi_eq ((a1' 74 13 (by decide)).trans (rem_at I (by decide) (by decide)))
    obtain ⟨k1, k2, k3, k4⟩ := kee_kp a1' h117
    refine WPm.of k_X12_winter.1 (Nat.le_of_ble_eq_true rfl) (B_X12_winter_0 (by omega) ?_)
    rw [f108, f86]
    refine ⟨hx, fun w => absurd w (by omega), fun _ => ⟨⟨by omega, by omega⟩, fun w => absurd w (by omega), fun _ => ⟨by rw [f13]; exact rx_b hR, fun _ => ?_, fun w => absurd w q4⟩⟩⟩
    refine S_X12_keeps (by omega) (by omega) (by omega) ⟨_, _, rfl, rfl, ?_⟩
    refine winR_loop (I0 := keeI I1) (J0 := J) (L := LC I) (R := RC I) (H := HC I) (x := gi I 0 11) (N := N) (by omega) hL hHh sdr hT (by omega) (by omega) (fun I2 J2 hR2 => ⟨rfl, ?_⟩) N 0 0 0 (keeI I1) J (Nat.zero_add _) rfl rfl ⟨fun _ _ _ _ _ _ => rfl, kee_rx hR a1', by omega, rfl, by rw [k2]; exact h117, sd1, fun _ _ _ _ => rfl⟩
    obtain ⟨c1, c2, c3, c4, c5, c6, c7⟩ := hR2
    -- the seed put first, then the nights
    have sN := sdN_bd sdr N
    have hVs := hput I J (sdN (gi I 0 11) N) hV ⟨by omega, by omega⟩ sN.1
    have s0 : ∀ c k, ¬ (c = 0 ∧ k = 11) → si I 0 11 (sdN (gi I 0 11) N) c k = I c k := fun c k p => by rw [si_at, if_neg p]
    have s1 : gi (si I 0 11 (sdN (gi I 0 11) N)) 0 11 = sdN (gi I 0 11) N := gi_same _ _ _ ⟨by omega, by omega⟩
    generalize si I 0 11 (sdN (gi I 0 11) N) = Is at hVs s0 s1
    obtain ⟨hHs, hsts⟩ := hA.1 Is _ hVs
    have hCs := hHs.1.1
    have hCI : CX Is (LC I) (RC I) (HC I) := hC.fr (fun c p q => funext fun k => s0 c k (by omega))
    have eL : LC Is = LC I := hCI.1.1
    have eR : RC Is = RC I := hCI.1.2.1
    have rs : ∀ c k, ¬ (c = 0 ∧ k = 11) → remI Is c k = remI I c k := fun c k p => rem_cg (fun k => s0 4 k (by omega)) (funext fun k => s0 19 k (by omega)) (funext fun k => s0 21 k (by omega)) (s0 c k p)
    have e192 : gi Is 19 2 = gi I 19 2 := gi_eq (s0 19 2 (by decide))
    have i73 : iI (-1) = keeI I1 74 73 := by
      have e : gi (keeI I1) 74 73 = -1 := k4.trans h73
      rw [← e]
      exact iI_of _
    have fin := VH.nights (I := Is) (I1 := I1) (I' := si I2 74 73 (-1)) (H' := wH (LC I) (RC I) (HC I) (gi I 0 11) N) (l' := wK (LC I) (RC I) (HC I) (gi I 0 11) (kpL I 0) N) hHs hsts ?_ (fun c k p => (a1' c k p).trans (rs c k (by omega)).symm) (by rw [eL, eR]; exact a2) ⟨by rw [e192, a3, r2]; omega, by rw [eL, a3, r2, w3]; omega⟩ (fun j hj => ?_) a5 (fun c k t1 t2 l0 => ?_) ?_ ⟨?_, ?_⟩ ⟨?_, gi_same _ _ _ (by decide)⟩
    · refine Cpl2.here (hA.2.1 Is _ (si I2 74 73 (-1)) J2 hVs fin.1 fin.2.1 fin.2.2.1 fin.2.2.2 (fun c k n => ?_))
      by_cases e : c = 74 ∧ k = 67
      · rw [sl_at, if_pos e, e.1, e.2, ← c6]
        exact (iL_of _).symm
      · rw [sl_at, if_neg e]
        exact c7 c k n e
    · intro c k t1 t2 n1 n2
      by_cases e : c = 0 ∧ k = 11
      · obtain ⟨rfl, rfl⟩ := e
        have e1 : gi I1 0 11 = gi (remI Is) 0 11 := by
          rw [gi_eq (rem_at Is (c := 0) (k := 11) (by decide) (by decide)), s1]
          exact a6
        exact Int32.toInt_inj.mp e1
      · rw [rs c k e]
        exact a1 c k t1 t2 n1 n2 e
    · rw [e192] at hj
      rw [a4 j (by rw [r2]; exact hj), hb j]
      exact (gi_eq (s0 20 j (by omega))).symm
    · by_cases e : c = 74 ∧ k = 73
      · rw [si_at, if_pos e, e.1, e.2]
        exact i73
      · rw [si_at, if_neg e]
        exact c1 c k t1 t2 l0 e
    · rw [eL, eR]
      have e : ∀ c k, ¬ (c = 74 ∧ k = 73) → si I2 74 73 (-1) c k = I2 c k := fun c k p => by rw [si_at, if_neg p]
      exact c2.fr ⟨⟨fun c p q => funext fun k => e c k (by omega), gi_eq (e 74 13 (by decide))⟩, fun c p q => funext fun k => e c k (by omega)⟩
    · rw [kpL_eq (I := I2) (fun c k p q => by rw [si_at, if_neg (by omega)]), c4, k1]
    · rw [gi_cell _ _ _ _ (by decide)]
      exact c5.1
    · rw [gi_idx _ _ _ (by decide)]
      exact c3
  · rw [r2]
    exact KPl_mv hkl (fun j _ => hb j)
end WINTERS
