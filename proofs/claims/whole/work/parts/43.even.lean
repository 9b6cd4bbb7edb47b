section EVEN
/-! ===== what of a course is read by the light; the class's evening ===== -/
abbrev cp (C : List (Int × Int)) (k : Nat) : Int := (C.getD k (0, 0)).1
abbrev ce (C : List (Int × Int)) (k : Nat) : Int := (C.getD k (0, 0)).2
theorem crsAt_get {f g : Nat → Int} : ∀ {C : List (Int × Int)} {i : Nat}, crsAt f g i C → ∀ k, k < C.length → f (i + k) = cp C k ∧ g (i + k) = ce C k
  | [], _, _, k, hk => absurd hk (Nat.not_lt_zero _)
  | q :: c, i, h, 0, _ => ⟨h.1, h.2.1⟩
  | q :: c, i, h, k + 1, hk => by
    have := crsAt_get h.2.2 k (by simp at hk; omega)
    rw [show i + (k + 1) = i + 1 + k by omega]
    exact this
def cutN (light : Int) : List (Int × Int) → Nat
  | [] => 0
  | q :: c => if q.2 ≤ light then cutN light c + 1 else 0
theorem cutN_le (light : Int) : ∀ C : List (Int × Int), cutN light C ≤ C.length
  | [] => Nat.le_refl _
  | q :: c => by
    unfold cutN
    have := cutN_le light c
    split
    · simp; omega
    · simp
def rdn (light : Int) (C : List (Int × Int)) : Nat := if light ≤ 0 then 0 else cutN light C
theorem rdn_le (light : Int) (C : List (Int × Int)) : rdn light C ≤ C.length := by
  unfold rdn
  split
  · exact Nat.zero_le _
  · exact cutN_le _ _
def bgn (C : List (Int × Int)) (k : Nat) : Int := if k = 0 then 0 else ce C (k - 1)
def stp (light : Int) (C : List (Int × Int)) : Int := if C.length = 0 then 0 else min light (ce C (C.length - 1))
def onP (light : Int) (C : List (Int × Int)) : Prop := rdn light C < C.length ∧ bgn C (rdn light C) < light
def lfN (light : Int) (C : List (Int × Int)) (lf : Int) : Int := if light = 0 ∨ C.length = 0 then lf else if rdn light C < C.length ∧ bgn C (rdn light C) < light then cp C (rdn light C) else -1
def itN (light : Int) (C : List (Int × Int)) (dn it : Int) : Int := if light = 0 ∨ C.length = 0 then it else if rdn light C < C.length ∧ bgn C (rdn light C) < light then (if rdn light C = 0 then dn else 0) + light - bgn C (rdn light C) else 0
def bitT (C : List (Int × Int)) : Nat → Nat
  | 0 => 0
  | n + 1 => bitT C n ||| 2 ^ (cp C n).toNat
theorem bitT_lt {C : List (Int × Int)} (h : ∀ k, k < C.length → 0 ≤ cp C k ∧ cp C k < 14) : ∀ n, n ≤ C.length → bitT C n < 16384
  | 0, _ => show 0 < 16384 by decide
  | n + 1, hn => or_lt14 (n := 14) (bitT_lt h n (by omega)) (Nat.pow_lt_pow_right (by decide) (by have := h n (by omega); omega))
theorem crs_rng {tk : Nat → Int → Int} {L : Lb} {l : List Int} (hl : ∀ p ∈ l, 0 ≤ p ∧ p < nP L) (ht : ∀ kk p, 0 ≤ p ∧ p < nP L → 1 ≤ tk kk p ∧ tk kk p ≤ 500) : ∀ (n kk : Nat) (p m : Int), (p = -1 ∨ 0 ≤ p ∧ p < nP L) → m ≤ 500 * (8 - (n : Int)) → n ≤ 8 → ∀ q ∈ crs tk L l n kk p m, (0 ≤ q.1 ∧ q.1 < nP L) ∧ 0 ≤ q.2 ∧ q.2 ≤ 4000
  | 0, _, _, _, _, _, _ => fun q hq => absurd hq (by simp [crs])
  | n + 1, kk, p, m, hp, hm, hn => by
    unfold crs
    split
    · intro q hq
      simp at hq
    · have hp' := hp.elim (fun z => absurd z ‹_›) id
      have h1 := ht kk p hp'
      intro q hq
      rcases List.mem_cons.mp hq with rfl | hq
      · exact ⟨hp', by show 0 ≤ max 0 (m + tk kk p); omega, by show max 0 (m + tk kk p) ≤ 4000; omega⟩
      · exact crs_rng hl ht n _ _ _ (nxt_in.elim Or.inl (fun z => Or.inr (hl _ z.1))) (by omega) (by omega) q hq
theorem cour_rng {L : Lb} {R : Rl} {H : Hl} (hL : WfL L) (hH : WfH L H) {r d s : Int} (hr : 0 ≤ r ∧ r < nR L) (g : Prop) [Decidable g] : (cour L R H r d s g).length ≤ 8 ∧ ∀ k, k < (cour L R H r d s g).length → (0 ≤ cp (cour L R H r d s g) k ∧ cp (cour L R H r d s g) k < nP L) ∧ 0 ≤ ce (cour L R H r d s g) k ∧ ce (cour L R H r d s g) k ≤ 4000 := by
  have hw := hH.2.2 r hr.1 hr.2
  obtain ⟨hl4, hl5⟩ := left_rng hw
  have hdn : 0 ≤ donP L H r g ∧ donP L H r g ≤ 499 := by
    unfold donP
    split <;> omega
  refine ⟨crs_len _ _ _ _ _ _ _, fun k hk => ?_⟩
  have hm : (cour L R H r d s g)[k] ∈ cour L R H r d s g := List.getElem_mem hk
  have h := crs_rng (tk := tkS L R H r d s) (L := L) (l := lsH H r) (fun p hp => lsH_rng hw hp) (fun kk p hp => takS_in hL hp) 8 (kn H r) (fstP L H r g) (- donP L H r g) (fstP_rng hw g) (by omega) (Nat.le_refl _) _ hm
  have e : (cour L R H r d s g).getD k (0, 0) = (cour L R H r d s g)[k] := by
    rw [List.getD_eq_getElem?_getD, List.getElem?_eq_getElem hk]
    rfl
  unfold cp ce
  rw [e]
  exact h
theorem S_X0_readBy {k : Nat} {P : Option Nat} {I : Nat → Nat → Int32} {J : Nat → Nat → Int64} {Q : Option AV → Mem → Prop} {light : Int} {C : List (Int × Int)} (hk : 1 ≤ k) (hl : inR light) (hn : gi I 39 4 = C.length) (h8 : C.length ≤ 8) (hc : crsAt (gi I 40) (gi I 41) 0 C) (hQ : Q (some (vI (rdn light C))) (mem (rv0 P) I J)) : WPm k LAY m_X0_readBy [vR (some 39), vI light] (mem (rv0 P) I J) Q := by
  refine WPm.of k_X0_readBy.1 (Nat.le_of_ble_eq_true rfl) (B_X0_readBy_0 (by omega) ?_)
  by_cases h0 : light ≤ 0
  · unfold rdn at hQ
    rw [if_pos h0] at hQ
    exact B_X0_readBy_2 (by omega) ⟨hl, fun _ => hQ, fun q => absurd h0 q⟩
  · unfold rdn at hQ
    rw [if_neg h0] at hQ
    have loop : ∀ (D : List (Int × Int)) (i : Nat) (x : Int), crsAt (gi I 40) (gi I 41) i D → i + D.length = C.length → x = i → i + cutN light D = cutN light C → WP k LAY m_X0_readBy 2 [(0, vR (some 39)), (1, vI light), (2, vI x)] [] (mem (rv0 P) I J) Q := by
      intro D
      induction D with
      | nil =>
        intro i x hD hi hx he
        simp at hi
        refine B_X0_readBy_2 (by omega) ⟨hl, fun q => absurd q h0, fun _ => ⟨⟨by omega, by omega⟩, fun _ => Qat hQ ?_, fun q => absurd q (by omega)⟩⟩
        rw [← he]
        show ((i + 0 : Nat) : Int) = x
        omega
      | cons q c ih =>
        intro i x hD hi hx he
        simp at hi
        have e41 : gi I 41 (x).toNat = q.2 := by
          rw [hx, Int.toNat_natCast]
          exact hD.2.1
        refine B_X0_readBy_2 (by omega) ?_
        rw [e41]
        rw [show cutN light (q :: c) = if q.2 ≤ light then cutN light c + 1 else 0 from rfl] at he
        refine ⟨hl, fun w => absurd w h0, fun _ => ⟨⟨by omega, by omega⟩, fun w => absurd w (by omega), fun _ => ⟨⟨by omega, by omega⟩, fun w => Qat hQ ?_, fun w => ?_⟩⟩⟩
        · rw [if_neg (by omega)] at he
          rw [← he]
          omega
        · rw [if_pos (by omega)] at he
          exact ih (i + 1) _ hD.2.2 (by omega) (by omega) (by omega)
    exact loop C 0 0 hc (Nat.zero_add _) rfl (Nat.zero_add _)
/-- what stands in the class's evening for a reader -/
def EvR (I : Nat → Nat → Int32) (r : Int) (light : Int) (C : List (Int × Int)) (dn lf it : Int) : Prop := gi I 45 (r).toNat = rdn light C ∧ gi I 46 (r).toNat = bitT C (rdn light C) ∧ gi I 47 (r).toNat = stp light C ∧ gi I 48 (r).toNat = lfN light C lf ∧ gi I 49 (r).toNat = itN light C dn it ∧ ∀ k : Nat, k < rdn light C → gi I 50 ((r * 8) + k).toNat = cp C k
theorem S_X1_follow {k : Nat} {P : Option Nat} {I : Nat → Nat → Int32} {J : Nat → Nat → Int64} {Q : Option AV → Mem → Prop} {L : Lb} {R : Rl} {H : Hl} {r light dn : Int} {C : List (Int × Int)} (hk : 3 ≤ k) (hX : CX I L R H) (hr : 0 ≤ r ∧ r < nR L) (hl : 0 ≤ light ∧ light ≤ 3000) (hn : gi I 39 4 = C.length) (h5 : gi I 39 5 = dn) (hdn : 0 ≤ dn ∧ dn ≤ 499) (h8 : C.length ≤ 8) (hC : ∀ k, k < C.length → (0 ≤ cp C k ∧ cp C k < nP L) ∧ 0 ≤ ce C k ∧ ce C k ≤ 4000) (hc : crsAt (gi I 40) (gi I 41) 0 C) (hQ : ∀ I', Fr [45, 46, 47, 48, 49, 50] [] I I' → (∀ c j : Nat, 45 ≤ c ∧ c ≤ 49 → (j : Int) ≠ r → gi I' c j = gi I c j) → (∀ j : Nat, ¬ (8 * r ≤ (j : Int) ∧ (j : Int) < 8 * r + 8) → gi I' 50 j = gi I 50 j) → EvR I' r light C dn (H 4 r) (H 5 r) → Q none (mem (rv0 P) I' J)) : WPm k LAY m_X1_follow [vR (some 42), vI r, vI light] (mem (rv0 P) I J) Q := by
  have hL := hX.1.2.2.2.1
  have hR6 := hL.2.2.1
  have hP := hL.2.1
  have hrl := rdn_le light C
  have hcg : ∀ k, k < C.length → gi I 40 k = cp C k ∧ gi I 41 k = ce C k := fun k hk => by
    have := crsAt_get hc k hk
    rwa [Nat.zero_add] at this
  refine WPm.of k_X1_follow.1 (Nat.le_of_ble_eq_true rfl) (B_X1_follow_0 (by omega) ?_)
  refine S_X0_readBy (by omega) ⟨by omega, by omega⟩ hn h8 hc ⟨_, _, _, rfl, rfl, ⟨by omega, by omega⟩, ?_⟩
  have loop : ∀ (d n : Nat) (x : Int) (I2 : Nat → Nat → Int32), n + d = rdn light C → x = n → Fr [45, 46, 50] [] I I2 → (∀ c j : Nat, 45 ≤ c ∧ c ≤ 49 → (j : Int) ≠ r → gi I2 c j = gi I c j) → (∀ j : Nat, ¬ (8 * r ≤ (j : Int) ∧ (j : Int) < 8 * r + 8) → gi I2 50 j = gi I 50 j) → gi I2 45 (r).toNat = rdn light C → gi I2 46 (r).toNat = bitT C n → (∀ k : Nat, k < n → gi I2 50 ((r * 8) + k).toNat = cp C k) → WP k LAY m_X1_follow 26 [(0, vR (some 42)), (1, vI r), (2, vI light), (3, vI (rdn light C)), (4, vI x)] [] (mem (rv0 P) I2 J) Q := by
    intro d
    induction d with
    | zero =>
      intro n x I2 hn2 hx hF f1 f2 f3 f4 f5
      have hnn : n = rdn light C := by omega
      have hX2 := hX.fr (hF.cx (by decide) (by decide))
      have fin : ∀ st lf it : Int, st = stp light C → lf = lfN light C (H 4 r) → it = itN light C dn (H 5 r) → inR st → inR lf → inR it → Q none (mem (rv0 P) (si (si (si I2 47 (r).toNat st) 48 (r).toNat lf) 49 (r).toNat it) J) := by
        intro st lf it e1 e2 e3 i1 i2 i3
        refine hQ _ ?_ (fun c j hc hj => ?_) (fun j hj => ?_) ⟨?_, ?_, ?_, ?_, ?_, fun k hk => ?_⟩
        · exact (((hF.mono (cs' := [45, 46, 47, 48, 49, 50]) (fs' := []) (by simp) (by simp)).up _ _ _ (Or.inl (by decide))).up _ _ _ (Or.inl (by decide))).up _ _ _ (Or.inl (by decide))
        · have e : si (si (si I2 47 (r).toNat st) 48 (r).toNat lf) 49 (r).toNat it c j = I2 c j := by rw [si_at, if_neg (by omega), si_at, if_neg (by omega), si_at, if_neg (by omega)]
          rw [gi_eq e]
          exact f1 c j hc hj
        · rw [gi_cell _ _ _ _ (by decide), gi_cell _ _ _ _ (by decide), gi_cell _ _ _ _ (by decide)]
          exact f2 j hj
        · rw [gi_cell _ _ _ _ (by decide), gi_cell _ _ _ _ (by decide), gi_cell _ _ _ _ (by decide)]
          exact f3
        · rw [gi_cell _ _ _ _ (by decide), gi_cell _ _ _ _ (by decide), gi_cell _ _ _ _ (by decide), f4, hnn]
        · rw [gi_cell _ _ _ _ (by decide), gi_cell _ _ _ _ (by decide), gi_same _ _ _ i1, e1]
        · rw [gi_cell _ _ _ _ (by decide), gi_same _ _ _ i2, e2]
        · rw [gi_same _ _ _ i3, e3]
        · rw [gi_cell _ _ _ _ (by decide), gi_cell _ _ _ _ (by decide), gi_cell _ _ _ _ (by decide)]
          exact f5 k (by omega)
      have g4 : gi I2 39 4 = C.length := (hF.gv 39 4 (by decide) (by simp)).trans hn
      have g5 : gi I2 39 5 = dn := (hF.gv 39 5 (by decide) (by simp)).trans h5
      have g40 : ∀ j, gi I2 40 j = gi I 40 j := fun j => hF.gv 40 j (by decide) (by simp)
      have g41 : ∀ j, gi I2 41 j = gi I 41 j := fun j => hF.gv 41 j (by decide) (by simp)
      have s19 : ∀ (z : Int) (j : Nat), gi (si I2 47 (r).toNat z) 19 j = gi I2 19 j := fun z j => gi_cell _ _ _ _ (by decide)
      have s19' : ∀ (z w : Int) (j : Nat), gi (si (si I2 47 (r).toNat z) 48 (r).toNat w) 19 j = gi I2 19 j := fun z w j => by rw [gi_cell _ _ _ _ (by decide), gi_cell _ _ _ _ (by decide)]
      have s41 : ∀ (z : Int) (j : Nat), gi (si I2 47 (r).toNat z) 41 j = gi I 41 j := fun z j => by rw [gi_cell _ _ _ _ (by decide)]; exact g41 j
      have s41' : ∀ (z w : Int) (j : Nat), gi (si (si I2 47 (r).toNat z) 48 (r).toNat w) 41 j = gi I 41 j := fun z w j => by rw [gi_cell _ _ _ _ (by decide), gi_cell _ _ _ _ (by decide)]; exact g41 j
      obtain ⟨hl4, hl5⟩ := left_rng (hX.2.2.2.2 r hr.1 hr.2)
      have i4 : inR (H 4 r) := hl4.elim (fun z => ⟨by omega, by omega⟩) (fun z => ⟨by omega, by omega⟩)
      have i5 : inR (H 5 r) := ⟨by omega, by omega⟩
      refine B_X1_follow_26 (by omega) ?_
      simp only [s19, s19', s41, s41', g4, g5, g40, cx_4 hX2 hr, cx_5 hX2 hr]
      refine ⟨⟨by omega, by omega⟩, ⟨by omega, by omega⟩, fun _ => ⟨fun q => ?_, fun q => ?_⟩, fun w => absurd w (by omega)⟩
      · have hne : ¬ C.length = 0 := by omega
        obtain ⟨l1, l2⟩ := hcg (C.length - 1) (by omega)
        have hlast := (hC (C.length - 1) (by omega)).2
        have e1 : min light (gi I2 41 ((C.length : Int) - 1).toNat) = stp light C := by
          unfold stp
          rw [if_neg hne, show ((C.length : Int) - 1).toNat = C.length - 1 by omega, g41, l2]
        have ist : inR (stp light C) := by rw [← e1, show ((C.length : Int) - 1).toNat = C.length - 1 by omega, g41, l2]; exact ⟨by omega, by omega⟩
        rw [e1]
        refine ⟨⟨by omega, by omega⟩, ⟨by omega, by omega⟩, ⟨by omega, by omega⟩, fun q0 => ⟨⟨by omega, by omega⟩, ⟨by omega, by omega⟩, ?_⟩, fun q0 => ⟨fun _ => ?_, fun w => absurd w (by omega)⟩⟩
        · exact fin _ _ _ rfl (by unfold lfN; rw [if_pos (Or.inl q0)]) (by unfold itN; rw [if_pos (Or.inl q0)]) ist i4 i5
        · have hz : ¬ (light = 0 ∨ C.length = 0) := by omega
          have stop : ¬ (rdn light C < C.length ∧ bgn C (rdn light C) < light) → Q none (mem (rv0 P) (si (si (si I2 47 (r).toNat (stp light C)) 48 (r).toNat (-1)) 49 (r).toNat 0) J) := fun hno => fin _ _ _ rfl (by unfold lfN; rw [if_neg hz, if_neg hno]) (by unfold itN; rw [if_neg hz, if_neg hno]) ist (by decide) (by decide)
          refine ⟨fun w => stop (fun z => absurd z.1 (by omega)), fun w => ?_⟩
          have hlt : rdn light C < C.length := by omega
          obtain ⟨m1, m2⟩ := hcg (rdn light C) hlt
          have hcr := hC (rdn light C) hlt
          rw [show ((rdn light C : Nat) : Int).toNat = rdn light C from Int.toNat_natCast _, m1]
          refine ⟨fun v => ?_, fun v => ?_⟩
          · have hv : ¬ rdn light C = 0 := by omega
            obtain ⟨b1, b2⟩ := hcg (rdn light C - 1) (by omega)
            have hb3 := (hC (rdn light C - 1) (by omega)).2
            have eb : gi I 41 (((rdn light C : Nat) : Int) - 1).toNat = bgn C (rdn light C) := by
              unfold bgn
              rw [if_neg hv, show (((rdn light C : Nat) : Int) - 1).toNat = rdn light C - 1 by omega, b2]
            have eb2 : bgn C (rdn light C) = ce C (rdn light C - 1) := by unfold bgn; rw [if_neg hv]
            rw [eb]
            refine ⟨⟨by omega, by omega⟩, fun u => stop (fun z => absurd z.2 (by omega)), fun u => ⟨⟨by omega, by omega⟩, fun _ => ⟨fun _ => ?_, fun t => absurd t (by omega)⟩, fun t => absurd t (by omega)⟩⟩
            have hon : rdn light C < C.length ∧ bgn C (rdn light C) < light := ⟨hlt, by omega⟩
            exact fin _ _ _ rfl (by unfold lfN; rw [if_neg hz, if_pos hon]) (by unfold itN; rw [if_neg hz, if_pos hon, if_neg hv]) ist ⟨by omega, by omega⟩ ⟨by omega, by omega⟩
          · have hv : rdn light C = 0 := by omega
            have eb2 : bgn C (rdn light C) = 0 := by unfold bgn; rw [if_pos hv]
            refine ⟨fun u => absurd u (by omega), fun u => ⟨⟨by omega, by omega⟩, fun t => absurd v t, fun _ => ⟨fun t => absurd v t, fun _ => ?_⟩⟩⟩
            have hon : rdn light C < C.length ∧ bgn C (rdn light C) < light := ⟨hlt, by omega⟩
            exact fin _ _ _ rfl (by unfold lfN; rw [if_neg hz, if_pos hon]) (by unfold itN; rw [if_neg hz, if_pos hon, if_pos hv, eb2]) ist ⟨by omega, by omega⟩ ⟨by omega, by omega⟩
      · have hz : C.length = 0 := by omega
        have st0 : (0 : Int) = stp light C := by unfold stp; rw [if_pos hz]
        have lf0 : H 4 r = lfN light C (H 4 r) := by unfold lfN; rw [if_pos (Or.inr hz)]
        have it0 : H 5 r = itN light C dn (H 5 r) := by unfold itN; rw [if_pos (Or.inr hz)]
        exact ⟨⟨by omega, by omega⟩, ⟨by omega, by omega⟩, fun _ => ⟨⟨by omega, by omega⟩, ⟨by omega, by omega⟩, fin _ _ _ st0 lf0 it0 (by decide) i4 i5⟩, fun _ => ⟨fun w => absurd q w, fun _ => ⟨⟨by omega, by omega⟩, ⟨by omega, by omega⟩, fin _ _ _ st0 lf0 it0 (by decide) i4 i5⟩⟩⟩
    | succ d ih =>
      intro n x I2 hn2 hx hF f1 f2 f3 f4 f5
      have hnl : n < C.length := by omega
      have hcn := (hC n hnl).1
      have hb := bitT_lt (C := C) (fun k hk => by have := (hC k hk).1; omega) n (by omega)
      have e40 : gi I2 40 (x).toNat = cp C n := by
        rw [hx, Int.toNat_natCast, hF.gv 40 n (by decide) (by simp)]
        exact (hcg n hnl).1
      have esh : shl32 1 (cp C n) = ((2 ^ (cp C n).toNat : Nat) : Int) := by
        have e1 := shl1 (p := (cp C n).toNat) (by omega)
        rwa [Int.toNat_of_nonneg hcn.1] at e1
      have hp2 : 2 ^ (cp C n).toNat < 16384 := Nat.lt_of_lt_of_le (Nat.pow_lt_pow_right (by decide) (show (cp C n).toNat < 14 by omega)) (Nat.le_refl _)
      refine B_X1_follow_26 (by omega) ?_
      rw [e40, f4, esh, or32_nat (by omega) (by omega)]
      refine ⟨⟨by omega, by omega⟩, ⟨by omega, by omega⟩, fun w => absurd w (by omega), fun _ => ⟨⟨by omega, by omega⟩, ⟨by omega, by omega⟩, ⟨by omega, by omega⟩, ?_⟩⟩
      have hb2 := bitT_lt (C := C) (fun k hk => by have := (hC k hk).1; omega) (n + 1) (by omega)
      have u : ∀ c j, ¬ (c = 50 ∧ j = ((r * 8) + x).toNat) → ¬ (c = 46 ∧ j = (r).toNat) → gi (si (si I2 50 ((r * 8) + x).toNat (cp C n)) 46 (r).toNat ((bitT C n ||| 2 ^ (cp C n).toNat : Nat) : Int)) c j = gi I2 c j := fun c j a b => gi_eq (by rw [si_at, if_neg b, si_at, if_neg a])
      refine ih (n + 1) _ _ (by omega) (by omega) ((hF.up _ _ _ (Or.inl (by decide))).up _ _ _ (Or.inl (by decide))) (fun c j hc hj => ?_) (fun j hj => ?_) ?_ ?_ (fun k hk => ?_)
      · rw [u c j (by omega) (by omega)]
        exact f1 c j hc hj
      · rw [u 50 j (by omega) (by omega)]
        exact f2 j hj
      · rw [u 45 _ (by omega) (by omega)]
        exact f3
      · exact gi_same _ _ _ ⟨by omega, by show ((bitT C (n + 1) : Nat) : Int) < 2147483648; omega⟩
      · by_cases e : k = n
        · subst e
          rw [gi_cell _ _ _ _ (by decide), show ((r * 8) + ((k : Nat) : Int)).toNat = ((r * 8) + x).toNat by omega]
          exact gi_same _ _ _ ⟨by omega, by omega⟩
        · rw [u 50 _ (by omega) (by omega)]
          exact f5 k (by omega)
  have hF0 : Fr [45, 46, 50] [] I (si (si I 45 (r).toNat (rdn light C)) 46 (r).toNat 0) := ((Fr.rf _ _ _).up _ _ _ (Or.inl (by decide))).up _ _ _ (Or.inl (by decide))
  refine loop _ 0 0 _ (Nat.zero_add _) rfl hF0 (fun c j hc hj => ?_) (fun j hj => ?_) ?_ ?_ (fun k hk => absurd hk (Nat.not_lt_zero _))
  · exact gi_eq (by rw [si_at, if_neg (by omega), si_at, if_neg (by omega)])
  · rw [gi_cell _ _ _ _ (by decide), gi_cell _ _ _ _ (by decide)]
  · rw [gi_cell _ _ _ _ (by decide)]
    exact gi_same _ _ _ ⟨by omega, by omega⟩
  · exact gi_same _ _ _ (by decide)
end EVEN
