section STOPS
/-! ===== where a reader stops ===== -/
theorem drop_cons : ∀ {C D : List (Int × Int)} {x : Int × Int} {j : Nat}, C.drop j = x :: D → j < C.length ∧ C.getD j (0, 0) = x ∧ C.drop (j + 1) = D
  | [], _, _, j, h => by simp at h
  | q :: c, D, x, 0, h => by
    have h' : q :: c = x :: D := h
    injection h' with a b
    exact ⟨Nat.succ_pos _, a, b⟩
  | q :: c, D, x, j + 1, h => by
    have h' : c.drop j = x :: D := h
    obtain ⟨a, b, d⟩ := drop_cons h'
    exact ⟨Nat.succ_lt_succ a, b, d⟩
theorem drop_mem : ∀ {C : List (Int × Int)} {j k : Nat}, j ≤ k → k < C.length → C.getD k (0, 0) ∈ C.drop j
  | [], _, _, _, h => absurd h (Nat.not_lt_zero _)
  | q :: c, 0, 0, _, _ => List.mem_cons_self
  | q :: c, 0, k + 1, _, h => List.mem_cons_of_mem _ (drop_mem (C := c) (j := 0) (Nat.zero_le k) (Nat.lt_of_succ_lt_succ h))
  | q :: c, j + 1, 0, h, _ => absurd h (Nat.not_succ_le_zero _)
  | q :: c, j + 1, k + 1, h, h2 => drop_mem (C := c) (j := j) (Nat.le_of_succ_le_succ h) (Nat.lt_of_succ_lt_succ h2)
theorem crs_gt {tk : Nat → Int → Int} {L : Lb} {l : List Int} (hl : ∀ p ∈ l, 0 ≤ p ∧ p < nP L) (ht : ∀ kk p, 0 ≤ p ∧ p < nP L → 1 ≤ tk kk p) : ∀ (n kk : Nat) (p m : Int), (p = -1 ∨ 0 ≤ p ∧ p < nP L) → ∀ q ∈ crs tk L l n kk p m, m < q.2
  | 0, _, _, _, _ => fun q hq => absurd hq (by simp [crs])
  | n + 1, kk, p, m, hp => by
    unfold crs
    split
    · intro q hq
      simp at hq
    · have hp' := hp.elim (fun z => absurd z ‹_›) id
      have h1 := ht kk p hp'
      intro q hq
      rcases List.mem_cons.mp hq with rfl | hq
      · show m < max 0 (m + tk kk p)
        omega
      · have := crs_gt hl ht n _ _ _ (nxt_in.elim Or.inl (fun z => Or.inr (hl _ z.1))) q hq
        omega
theorem cutN_eq {light : Int} : ∀ {C : List (Int × Int)} {j : Nat}, j ≤ C.length → (∀ i, i < j → ce C i ≤ light) → (j < C.length → light < ce C j) → cutN light C = j
  | [], j, h, _, _ => (Nat.le_zero.mp h).symm
  | q :: c, 0, _, _, h3 => by
    have h4 : light < q.2 := h3 (Nat.succ_pos _)
    unfold cutN
    rw [if_neg (by omega)]
  | q :: c, j + 1, h1, h2, h3 => by
    have h4 : q.2 ≤ light := h2 0 (Nat.succ_pos _)
    unfold cutN
    rw [if_pos h4, cutN_eq (C := c) (j := j) (Nat.le_of_succ_le_succ h1) (fun i hi => h2 (i + 1) (Nat.succ_lt_succ hi)) (fun h => h3 (Nat.succ_lt_succ h))]
theorem stop_12 {C : List (Int × Int)} {light lf dn it : Int} {j : Nat} (hl : 0 ≤ light) (hj : j ≤ C.length) (h2 : ∀ i, i < j → ce C i ≤ light) (h0 : 0 < j → 0 < light) (hge : ∀ k, j ≤ k → k < C.length → bgn C j ≤ ce C k ∧ (0 < j → bgn C j < ce C k)) (hs : j = C.length ∨ light ≤ bgn C j) : rdn light C = j ∧ stp light C = bgn C j ∧ lfN light C lf = (if j = 0 then lf else -1) ∧ itN light C dn it = (if j = 0 then it else 0) := by
  have b0 : j = 0 → bgn C j = 0 := fun e => by unfold bgn; rw [if_pos e]
  have b1 : 0 < j → bgn C j = ce C (j - 1) := fun e => by unfold bgn; rw [if_neg (by omega)]
  have b2 : 0 < j → bgn C j ≤ light := fun e => by rw [b1 e]; exact h2 (j - 1) (by omega)
  have hr : rdn light C = j := by
    unfold rdn
    split
    · omega
    · refine cutN_eq hj h2 (fun w => ?_)
      have := hge j (Nat.le_refl _) w
      omega
  refine ⟨hr, ?_, ?_, ?_⟩
  · unfold stp
    split
    · exact (b0 (by omega)).symm
    · by_cases e : j = C.length
      · have e1 := b1 (by omega)
        have e2 := b2 (by omega)
        rw [← e, ← e1]
        omega
      · have := hge (C.length - 1) (by omega) (by omega)
        omega
  · unfold lfN
    rw [hr]
    by_cases e : j = 0
    · rw [if_pos e, if_pos (by omega)]
    · have e2 := h0 (by omega)
      rw [if_neg e, if_neg (by omega), if_neg (by omega)]
  · unfold itN
    rw [hr]
    by_cases e : j = 0
    · have e3 : light = 0 ∨ C.length = 0 := by omega
      rw [if_pos e3, if_pos e]
    · have e2 := h0 (by omega)
      have e3 : ¬ (light = 0 ∨ C.length = 0) := by omega
      have e4 : ¬ (j < C.length ∧ bgn C j < light) := by omega
      rw [if_neg e3, if_neg e4, if_neg e]
theorem stop_3 {C : List (Int × Int)} {light lf dn it : Int} {j : Nat} (hl : 0 < light) (hj : j < C.length) (h2 : ∀ i, i < j → ce C i ≤ light) (h3 : bgn C j < light) (h4 : light < ce C j) (hge : ∀ k, j ≤ k → k < C.length → ce C j ≤ ce C k) : rdn light C = j ∧ stp light C = light ∧ lfN light C lf = cp C j ∧ itN light C dn it = (if j = 0 then dn else 0) + light - bgn C j := by
  have hr : rdn light C = j := by
    unfold rdn
    rw [if_neg (by omega)]
    exact cutN_eq (by omega) h2 (fun _ => h4)
  refine ⟨hr, ?_, ?_, ?_⟩
  · unfold stp
    rw [if_neg (by omega)]
    have := hge (C.length - 1) (by omega) (by omega)
    omega
  · unfold lfN
    rw [hr, if_neg (by omega), if_pos ⟨hj, h3⟩]
  · unfold itN
    rw [hr, if_neg (by omega), if_pos ⟨hj, h3⟩]
theorem fstP_mem {L : Lb} {H : Hl} {r : Int} (hw : WfO L H r) : fstP L H r True = -1 ∨ fstP L H r True ∈ lsH H r := by
  unfold fstP
  split
  · rename_i h
    rcases hw.2.2.2.2.2.2 with ⟨a, -⟩ | ⟨-, k, k0, k1, k2⟩
    · exact absurd a h.2.1
    · exact Or.inr (lsF_mem.mpr ⟨k, k0, by omega, k2⟩)
  · exact nxt_in.elim Or.inl (fun z => Or.inr z.1)
theorem lsH_new {L : Lb} {H : Hl} {r p : Int} (hw : WfO L H r) (h : p ∈ lsH H r) : (kn H r).testBit p.toNat = false := by
  obtain ⟨k, k0, k1, k2⟩ := lsF_mem.mp h
  have := (hw.2.2.2.2.2.1 k k0 (by omega)).2.1
  rw [← k2]
  exact this
/-- what stands at a layer after so many pages of a reader's course -/
def RdA (I I2 : Nat → Nat → Int32) (v r : Int) (H : Hl) (C : List (Int × Int)) (j : Nat) : Prop := (∀ c k : Nat, ¬ tch v r c k → I2 c k = I c k) ∧ gi I2 111 ((6 * v) + r).toNat = (((H 2 r).toNat ||| bitT C j : Nat) : Int) ∧ (lsR I2 ((6 * v) + r) = woN C (lsH H r) j ∧ 0 ≤ cnR I2 ((6 * v) + r) ∧ cnR I2 ((6 * v) + r) ≤ 8) ∧ gi I2 123 (r).toNat = ((bitT C j : Nat) : Int) ∧ gi I2 74 77 = gi I 74 77 + j ∧ kpL I2 v = psN (kpL I v) C (H 8 0 + 1) r j ∧ (0 ≤ gi I2 117 v.toNat ∧ gi I2 117 v.toNat ≤ 60)
theorem RdA.rx2 {I I2 : Nat → Nat → Int32} {v r : Int} {L : Lb} {R : Rl} {H : Hl} {C : List (Int × Int)} {j : Nat} (hX : RX I v L R H) (hr : 0 ≤ r ∧ r < nR L) (h : RdA I I2 v r H C j) (hm : ∀ i, i < j → cp C i ∈ lsH H r) (hs : gi I2 113 ((6 * v) + r).toNat = -1 ∧ gi I2 114 ((6 * v) + r).toNat = 0 ∨ (1 ≤ gi I2 114 ((6 * v) + r).toNat ∧ gi I2 114 ((6 * v) + r).toNat ≤ 499) ∧ gi I2 113 ((6 * v) + r).toNat ∈ woN C (lsH H r) j) :
    RX I2 v L R (HR I2 v) ∧ (∀ i, 0 ≤ i → i < nR L → HR I2 v 1 i = H 1 i ∧ HR I2 v 3 i = H 3 i) ∧ (HR I2 v 8 0 = H 8 0 ∧ HR I2 v 9 0 = H 9 0) ∧ kn (HR I2 v) r = kn H r ||| bitT C j ∧ lsH (HR I2 v) r = woN C (lsH H r) j ∧ (HR I2 v 2 r = gi I2 111 ((6 * v) + r).toNat ∧ HR I2 v 4 r = gi I2 113 ((6 * v) + r).toNat ∧ HR I2 v 5 r = gi I2 114 ((6 * v) + r).toNat) ∧ (∀ i, 0 ≤ i → i < nR L → i ≠ r → HR I2 v 2 i = H 2 i ∧ HR I2 v 4 i = H 4 i ∧ HR I2 v 5 i = H 5 i ∧ lsH (HR I2 v) i = lsH H i) := by
  obtain ⟨f, g2, ⟨g6, c0, c8⟩, -⟩ := h
  have hL := hX.1.2.2.2.2.1
  have hP := hL.2.1
  have hw := hX.2.2.1.2.2 r hr.1 hr.2
  obtain ⟨w1, w2, w3, w4, w5, w6, w7⟩ := hw.rc
  have hrg : ∀ p, p ∈ lsH H r → 0 ≤ p ∧ p < nP L := fun p hp => lsH_rng hw hp
  have hbl : ∀ n, n ≤ j → bitT C n < 2 ^ (nP L).toNat := by
    intro n
    induction n with
    | zero => exact fun _ => Nat.two_pow_pos _
    | succ n ih =>
      intro hn
      have := hrg _ (hm n (by omega))
      exact or_lt14 (ih (by omega)) (Nat.pow_lt_pow_right (by decide) (by omega))
  have hbd := hbl j (Nat.le_refl _)
  have hnew : ∀ i, i < j → (kn H r).testBit (cp C i).toNat = false := fun i hi => lsH_new hw (hm i hi)
  have hdis : ((H 2 r).toNat ||| bitT C j) &&& (H 3 r).toNat = 0 := by
    refine Nat.eq_of_testBit_eq (fun b => ?_)
    have h0 : ((H 2 r).toNat &&& (H 3 r).toNat).testBit b = false := by rw [w4]; exact Nat.zero_testBit b
    rw [Nat.testBit_and, Nat.testBit_or, Nat.zero_testBit]
    rw [Nat.testBit_and] at h0
    cases e : (bitT C j).testBit b with
    | false => rw [Bool.or_false]; exact h0
    | true =>
      by_cases ex : ∃ i, i < j ∧ (cp C i).toNat = b
      · obtain ⟨i, hi, hb⟩ := ex
        have := hnew i hi
        rw [hb, Nat.testBit_or, Bool.or_eq_false_iff] at this
        rw [this.2, Bool.and_false]
      · rw [bitT_out (fun i hi w => ex ⟨i, hi, w⟩)] at e
        exact Bool.noConfusion e
  have hnd : (lsR I2 ((6 * v) + r)).Pairwise (fun a b => ¬ a = b) := by
    rw [g6]
    refine woN_nd ?_ j
    exact lsF_nd.mpr (fun i k i0 ik k1 => (w6 k (by omega) (by omega)).2.2 i i0 ik)
  have hnd' := lsF_nd.mp hnd
  have hin : ∀ k : Int, 0 ≤ k → k < cnR I2 ((6 * v) + r) → enR I2 ((6 * v) + r) k ∈ woN C (lsH H r) j := by
    intro k k0 k1
    rw [← g6]
    exact lsF_mem.mpr ⟨k, k0, by omega, rfl⟩
  have e2 : (gi I2 111 ((6 * v) + r).toNat).toNat = (H 2 r).toNat ||| bitT C j := by rw [g2, Int.toNat_natCast]
  have hrec : WfRec L (H 1 r) (gi I2 111 ((6 * v) + r).toNat) (H 3 r) (gi I2 113 ((6 * v) + r).toNat) (gi I2 114 ((6 * v) + r).toNat) (cnR I2 ((6 * v) + r)) (enR I2 ((6 * v) + r)) := by
    refine ⟨w1, ⟨by rw [g2]; omega, by rw [e2]; exact or_lt14 w2.2 hbd⟩, w3, by rw [e2]; exact hdis, ⟨c0, c8⟩, fun k k0 k1 => ?_, ?_⟩
    · obtain ⟨m1, m2⟩ := woN_mem (hin k k0 k1)
      refine ⟨hrg _ m1, ?_, fun i i0 i1 => hnd' i k i0 i1 (by omega)⟩
      have h1 := lsH_new hw m1
      have hr0 := hrg _ m1
      rw [Nat.testBit_or, Bool.or_eq_false_iff] at h1
      rw [e2, Nat.testBit_or, Nat.testBit_or, h1.1, h1.2, bitT_out (fun i hi w => m2 i hi ?_)]
      · rfl
      · have := hrg _ (hm i hi)
        omega
    · rcases hs with hs | ⟨hs, hmm⟩
      · exact Or.inl hs
      · refine Or.inr ⟨hs, ?_⟩
        rw [← g6] at hmm
        obtain ⟨k', a, b, c⟩ := lsF_mem.mp hmm
        exact ⟨k', a, by omega, c⟩
  obtain ⟨o1, o2, o3, o9, ⟨o4, o5, o55⟩, o6, o7⟩ := ref_one hX hr f hrec
  refine ⟨o1, o2, ⟨o3, o9⟩, ?_, o6.trans g6, ⟨o4, o5, o55⟩, o7⟩
  show (HR I2 v 2 r).toNat ||| (HR I2 v 3 r).toNat = ((H 2 r).toNat ||| (H 3 r).toNat) ||| bitT C j
  rw [o4, e2, (o2 r hr.1 hr.2).2, Nat.or_assoc, Nat.or_comm (bitT C j), ← Nat.or_assoc]
theorem RdA.rx {I I2 : Nat → Nat → Int32} {v r : Int} {L : Lb} {R : Rl} {H : Hl} {C : List (Int × Int)} {j : Nat} (hX : RX I v L R H) (hr : 0 ≤ r ∧ r < nR L) (h : RdA I I2 v r H C j) (hm : ∀ i, i < j → cp C i ∈ lsH H r) (hs : j = 0 ∧ gi I2 113 ((6 * v) + r).toNat = H 4 r ∧ gi I2 114 ((6 * v) + r).toNat = H 5 r ∨ gi I2 113 ((6 * v) + r).toNat = -1 ∧ gi I2 114 ((6 * v) + r).toNat = 0) :
    RX I2 v L R (HR I2 v) ∧ (∀ i, 0 ≤ i → i < nR L → HR I2 v 1 i = H 1 i ∧ HR I2 v 3 i = H 3 i) ∧ HR I2 v 8 0 = H 8 0 ∧ kn (HR I2 v) r = kn H r ||| bitT C j ∧ lsH (HR I2 v) r = woN C (lsH H r) j ∧ HR I2 v 4 r = gi I2 113 ((6 * v) + r).toNat := by
  have hw := hX.2.2.1.2.2 r hr.1 hr.2
  have hs' : gi I2 113 ((6 * v) + r).toNat = -1 ∧ gi I2 114 ((6 * v) + r).toNat = 0 ∨ (1 ≤ gi I2 114 ((6 * v) + r).toNat ∧ gi I2 114 ((6 * v) + r).toNat ≤ 499) ∧ gi I2 113 ((6 * v) + r).toNat ∈ woN C (lsH H r) j := by
    rcases hs with ⟨j0, a4, a5⟩ | hs
    · rw [a4, a5, j0]
      rcases hw.2.2.2.2.2.2 with w | ⟨w, k, k0, k1, k2⟩
      · exact Or.inl w
      · refine Or.inr ⟨w, ?_⟩
        show H 4 r ∈ lsH H r
        exact lsF_mem.mpr ⟨k, k0, by omega, k2⟩
    · exact Or.inl hs
  obtain ⟨o1, o2, ⟨o3, -⟩, o4, o5, ⟨-, o6, -⟩, -⟩ := h.rx2 hX hr hm hs'
  exact ⟨o1, o2, o3, o4, o5, o6⟩
/-- of the page left at the end of an evening -/
def WfE (C : List (Int × Int)) (l : List Int) (light lf dn it : Int) : Prop := (∀ i, i < rdn light C → cp C i ∈ woN C l i) ∧ (lfN light C lf = -1 ∧ itN light C dn it = 0 ∨ (1 ≤ itN light C dn it ∧ itN light C dn it ≤ 499) ∧ lfN light C lf ∈ woN C l (rdn light C))
end STOPS
