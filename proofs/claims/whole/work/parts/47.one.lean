section REFONE
/-! ===== one reader's record changes at a layer of the reference ===== -/
theorem hr_f (I : Nat → Nat → Int32) (v : Int) {i : Int} (hi : 0 ≤ i ∧ i < gi I 83 (gi I 74 13).toNat) : HR I v 1 i = gi I 110 ((6 * v) + i).toNat ∧ HR I v 2 i = gi I 111 ((6 * v) + i).toNat ∧ HR I v 3 i = gi I 112 ((6 * v) + i).toNat ∧ HR I v 4 i = gi I 113 ((6 * v) + i).toNat ∧ HR I v 5 i = gi I 114 ((6 * v) + i).toNat ∧ HR I v 6 i = gi I 115 ((6 * v) + i).toNat := ⟨tr_in hi, tr_in hi, tr_in hi, tr_in hi, tr_in hi, tr_in hi⟩
theorem hr_7 (I : Nat → Nat → Int32) (v : Int) {i k : Int} (hi : 0 ≤ i ∧ i < gi I 83 (gi I 74 13).toNat) (hk : 0 ≤ k ∧ k < gi I 115 ((6 * v) + i).toNat) (h8 : k < 8) : HR I v 7 (8 * i + k) = gi I 116 ((8 * ((6 * v) + i)) + k).toNat := by
  have d1 : (8 * i + k) / 8 = i := by omega
  have d2 : (8 * i + k) % 8 = k := by omega
  have h0 : HR I v 7 (8 * i + k) = tr (gi I 83 (gi I 74 13).toNat) (tr (gi I 115 ((6 * v) + ((8 * i + k) / 8)).toNat) (gi I 116 ((8 * ((6 * v) + ((8 * i + k) / 8))) + (8 * i + k) % 8).toNat) ((8 * i + k) % 8)) ((8 * i + k) / 8) := rfl
  rw [d1, d2, tr_in hi, tr_in hk] at h0
  exact h0
/-- the places of a reader of a layer in an evening -/
def tch (v r : Int) (c k : Nat) : Prop := ((c = 111 ∨ c = 113 ∨ c = 114 ∨ c = 115) ∧ (k : Int) = 6 * v + r) ∨ (c = 116 ∧ 8 * (6 * v + r) ≤ (k : Int) ∧ (k : Int) < 8 * (6 * v + r) + 8) ∨ (c = 117 ∧ (k : Int) = v) ∨ (118 ≤ c ∧ c ≤ 120 ∧ 60 * v ≤ (k : Int) ∧ (k : Int) < 60 * v + 60) ∨ ((c = 122 ∨ c = 123) ∧ (k : Int) = r) ∨ (c = 74 ∧ (k = 77 ∨ k = 69 ∨ k = 70 ∨ k = 71))
theorem ref_one {I I2 : Nat → Nat → Int32} {v : Int} {L : Lb} {R : Rl} {H : Hl} {r : Int} (hX : RX I v L R H) (hr : 0 ≤ r ∧ r < nR L) (hf : ∀ c k : Nat, ¬ tch v r c k → I2 c k = I c k) (hw : WfRec L (H 1 r) (gi I2 111 ((6 * v) + r).toNat) (H 3 r) (gi I2 113 ((6 * v) + r).toNat) (gi I2 114 ((6 * v) + r).toNat) (cnR I2 ((6 * v) + r)) (enR I2 ((6 * v) + r))) :
    RX I2 v L R (HR I2 v) ∧ (∀ i, 0 ≤ i → i < nR L → HR I2 v 1 i = H 1 i ∧ HR I2 v 3 i = H 3 i) ∧ HR I2 v 8 0 = H 8 0 ∧ HR I2 v 9 0 = H 9 0 ∧ (HR I2 v 2 r = gi I2 111 ((6 * v) + r).toNat ∧ HR I2 v 4 r = gi I2 113 ((6 * v) + r).toNat ∧ HR I2 v 5 r = gi I2 114 ((6 * v) + r).toNat) ∧ lsH (HR I2 v) r = lsR I2 ((6 * v) + r) ∧ (∀ i, 0 ≤ i → i < nR L → i ≠ r → HR I2 v 2 i = H 2 i ∧ HR I2 v 4 i = H 4 i ∧ HR I2 v 5 i = H 5 i ∧ lsH (HR I2 v) i = lsH H i) := by
  have hL := hX.1.2.2.2.2.1
  have hR6 := hL.2.2.1
  have hv := hX.2.2.2
  have hrl : sameRL I I2 := ⟨fun c a b => funext fun k => hf c k (by unfold tch; omega), gi_eq (hf 74 13 (by unfold tch; omega))⟩
  have hn : gi I2 83 (gi I2 74 13).toNat = nR L := by rw [hrl.2, gi_row (hrl.1 83 (by decide) (by decide))]; exact rx_n hX
  have h13 : ∀ i, 0 ≤ i → i < nR L → HR I2 v 1 i = H 1 i ∧ HR I2 v 3 i = H 3 i := by
    intro i i0 i1
    obtain ⟨v1, -, v3, -⟩ := hr_f I2 v (i := i) (by rw [hn]; exact ⟨i0, i1⟩)
    refine ⟨?_, ?_⟩
    · rw [v1, gi_eq (hf 110 _ (by unfold tch; omega)), rx_1 hX ⟨i0, i1⟩]
    · rw [v3, gi_eq (hf 112 _ (by unfold tch; omega)), rx_3 hX ⟨i0, i1⟩]
  have h8 : HR I2 v 8 0 = H 8 0 := (gi_eq (hf 108 _ (by unfold tch; omega))).trans (rx_8 hX)
  have h9 : HR I2 v 9 0 = H 9 0 := (gi_eq (hf 109 _ (by unfold tch; omega))).trans (rx_9 hX)
  obtain ⟨-, w2, -, w4, w5, w6⟩ := hr_f I2 v (i := r) (by rw [hn]; exact hr)
  have g8 := hw.2.2.2.2.1
  have w7 : ∀ k, 0 ≤ k → k < cnR I2 ((6 * v) + r) → HR I2 v 7 (8 * r + k) = enR I2 ((6 * v) + r) k := fun k k0 k1 => hr_7 I2 v (by rw [hn]; exact hr) ⟨k0, k1⟩ (by omega)
  have oth : ∀ i, 0 ≤ i → i < nR L → i ≠ r → (HR I2 v 2 i = H 2 i ∧ HR I2 v 4 i = H 4 i ∧ HR I2 v 5 i = H 5 i) ∧ HR I2 v 6 i = H 6 i ∧ ∀ k, 0 ≤ k → k < H 6 i → HR I2 v 7 (8 * i + k) = H 7 (8 * i + k) := by
    intro i i0 i1 ne
    obtain ⟨-, v2, -, v4, v5, v6⟩ := hr_f I2 v (i := i) (by rw [hn]; exact ⟨i0, i1⟩)
    have q8 := (hX.2.2.1.2.2 i i0 i1).2.2.2.2.1
    have e6 : gi I2 115 ((6 * v) + i).toNat = H 6 i := by rw [gi_eq (hf 115 _ (by unfold tch; omega)), rx_6 hX ⟨i0, i1⟩]
    refine ⟨⟨?_, ?_, ?_⟩, v6.trans e6, fun k k0 k1 => ?_⟩
    · rw [v2, gi_eq (hf 111 _ (by unfold tch; omega)), rx_2 hX ⟨i0, i1⟩]
    · rw [v4, gi_eq (hf 113 _ (by unfold tch; omega)), rx_4 hX ⟨i0, i1⟩]
    · rw [v5, gi_eq (hf 114 _ (by unfold tch; omega)), rx_5 hX ⟨i0, i1⟩]
    · rw [hr_7 I2 v (by rw [hn]; exact ⟨i0, i1⟩) ⟨k0, by rw [e6]; exact k1⟩ (by omega), gi_eq (hf 116 _ (by unfold tch; omega)), rx_7 hX ⟨i0, i1⟩ ⟨k0, k1⟩]
  have wf : WfH L (HR I2 v) := by
    refine ⟨by rw [h8]; exact hX.2.2.1.1, by rw [h9]; exact hX.2.2.1.2.1, fun i i0 i1 => ?_⟩
    by_cases ne : i = r
    · subst ne
      exact WfO.of hw (h13 i i0 i1).1 w2 (h13 i i0 i1).2 w4 w5 w6 w7
    · obtain ⟨⟨a2, a4, a5⟩, a6, a7⟩ := oth i i0 i1 ne
      exact WfO.of (hX.2.2.1.2.2 i i0 i1).rc (h13 i i0 i1).1 a2 (h13 i i0 i1).2 a4 a5 a6 a7
  refine ⟨⟨hX.1.fr hrl, rfl, wf, hv⟩, h13, h8, h9, ⟨w2, w4, w5⟩, ?_, fun i i0 i1 ne => ?_⟩
  · unfold lsH lsR
    rw [w6]
    exact lsF_congr (fun k k0 k1 => w7 k k0 (by show k < gi I2 115 ((6 * v) + r).toNat; omega))
  · obtain ⟨⟨a2, a4, a5⟩, a6, a7⟩ := oth i i0 i1 ne
    refine ⟨a2, a4, a5, ?_⟩
    unfold lsH
    rw [a6]
    exact lsF_congr (fun k k0 k1 => a7 k k0 (by omega))
/-! what is left of a list, what is kept, after so many pages of a course -/
def woN (C : List (Int × Int)) (l : List Int) : Nat → List Int
  | 0 => l
  | j + 1 => wo (cp C j) (woN C l j)
def psN (l : List (Int × Int × Int)) (C : List (Int × Int)) (night r : Int) : Nat → List (Int × Int × Int)
  | 0 => l
  | j + 1 => psh (psN l C night r j) (night, r, cp C j)
theorem bitT_in {C : List (Int × Int)} : ∀ {n i : Nat}, i < n → (bitT C n).testBit (cp C i).toNat = true
  | 0, _, h => absurd h (Nat.not_lt_zero _)
  | n + 1, i, h => by
    unfold bitT
    rw [Nat.testBit_or]
    rcases Nat.lt_or_ge i n with q | q
    · rw [bitT_in q]; rfl
    · rw [show i = n by omega, Nat.testBit_two_pow_self, Bool.or_true]
theorem bitT_out {C : List (Int × Int)} {p : Nat} : ∀ {n : Nat}, (∀ i, i < n → ¬ (cp C i).toNat = p) → (bitT C n).testBit p = false
  | 0, _ => Nat.zero_testBit p
  | n + 1, h => by
    unfold bitT
    rw [Nat.testBit_or, bitT_out (fun i hi => h i (by omega)), Bool.false_or, Nat.testBit_two_pow_of_ne (h n (by omega))]
theorem woN_nxt {L : Lb} {C : List (Int × Int)} {l : List Int} {kk : Nat} : ∀ {j : Nat}, (∀ i, i < j → kk.testBit (cp C i).toNat = true) → nxt L kk (woN C l j) = nxt L kk l
  | 0, _ => rfl
  | j + 1, h => by
    unfold woN
    rw [nxt_wo (h j (by omega)), woN_nxt (fun i hi => h i (by omega))]
theorem woN_mem {C : List (Int × Int)} {l : List Int} {p : Int} : ∀ {j : Nat}, p ∈ woN C l j → p ∈ l ∧ ∀ i, i < j → ¬ p = cp C i
  | 0, h => ⟨h, fun i hi => absurd hi (Nat.not_lt_zero _)⟩
  | j + 1, h => by
    unfold woN wo at h
    obtain ⟨h1, h2⟩ := List.mem_filter.mp h
    obtain ⟨h3, h4⟩ := woN_mem h1
    refine ⟨h3, fun i hi => ?_⟩
    rcases Nat.lt_or_ge i j with q | q
    · exact h4 i q
    · rw [show i = j by omega]
      exact of_decide_eq_true h2
theorem woN_nd {C : List (Int × Int)} {l : List Int} (h : l.Pairwise (fun a b => ¬ a = b)) : ∀ j : Nat, (woN C l j).Pairwise (fun a b => ¬ a = b)
  | 0 => h
  | j + 1 => (woN_nd h j).filter _
theorem lsF_nd {f : Int → Int} {n : Nat} : (lsF f n).Pairwise (fun a b => ¬ a = b) ↔ ∀ i j : Int, 0 ≤ i → i < j → j < n → ¬ f i = f j := by
  rw [List.pairwise_iff_getElem]
  constructor
  · intro h i j i0 i1 j1
    have := h i.toNat j.toNat (by rw [lsF_len]; omega) (by rw [lsF_len]; omega) (by omega)
    rwa [lsF_getE, lsF_getE, Int.toNat_of_nonneg i0, Int.toNat_of_nonneg (by omega)] at this
  · intro h i j hi hj hij
    rw [lsF_getE, lsF_getE]
    rw [lsF_len] at hi hj
    exact h i j (by omega) (by omega) (by omega)
end REFONE
