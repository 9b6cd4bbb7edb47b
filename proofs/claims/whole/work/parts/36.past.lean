section PASTS
/-! ===== what can be undone: the class's ring of rows, the reference's ring of layers ===== -/
theorem HrC_big (row : Int → Int) (n i : Int) {f : Nat} (hf : f = 0 ∨ 10 ≤ f) : HrC row n f i = 0 := by
  unfold HrC
  split <;> first | omega | rfl
theorem HrC_congr {row row' : Int → Int} {n : Int} (hn : n ≤ 6) (h : ∀ i, 0 ≤ i → i < 87 → row i = row' i) : HrC row n = HrC row' n := by
  have key : ∀ (c : Int) (i : Int), 0 ≤ c → c ≤ 5 → tr n (row ((3 + (i * 14)) + c)) i = tr n (row' ((3 + (i * 14)) + c)) i := by
    intro c i h0 h5
    by_cases hi : 0 ≤ i ∧ i < n
    · rw [tr_in hi, tr_in hi, h _ (by omega) (by omega)]
    · rw [tr_out hi, tr_out hi]
  have e1 : ∀ i, HrC row n 1 i = HrC row' n 1 i := fun i => key 0 i (by decide) (by decide)
  have e2 : ∀ i, HrC row n 2 i = HrC row' n 2 i := fun i => key 1 i (by decide) (by decide)
  have e3 : ∀ i, HrC row n 3 i = HrC row' n 3 i := fun i => key 2 i (by decide) (by decide)
  have e4 : ∀ i, HrC row n 4 i = HrC row' n 4 i := fun i => key 3 i (by decide) (by decide)
  have e5 : ∀ i, HrC row n 5 i = HrC row' n 5 i := fun i => key 4 i (by decide) (by decide)
  have e6 : ∀ i, HrC row n 6 i = HrC row' n 6 i := fun i => key 5 i (by decide) (by decide)
  have e7 : ∀ i, HrC row n 7 i = HrC row' n 7 i := by
    intro i
    show tr n (tr (row ((3 + ((i / 8) * 14)) + 5)) (row ((3 + ((i / 8) * 14)) + (6 + i % 8))) (i % 8)) (i / 8) = tr n (tr (row' ((3 + ((i / 8) * 14)) + 5)) (row' ((3 + ((i / 8) * 14)) + (6 + i % 8))) (i % 8)) (i / 8)
    by_cases hi : 0 ≤ i / 8 ∧ i / 8 < n
    · rw [tr_in hi, tr_in hi, h _ (by omega) (by omega), h _ (by omega) (by omega)]
    · rw [tr_out hi, tr_out hi]
  have e8 : ∀ i, HrC row n 8 i = HrC row' n 8 i := fun i => h 0 (by decide) (by decide)
  have e9 : ∀ i, HrC row n 9 i = HrC row' n 9 i := fun i => h 1 (by decide) (by decide)
  funext f i
  by_cases hf : f = 0 ∨ 10 ≤ f
  · rw [HrC_big row n i hf, HrC_big row' n i hf]
  · have hc : f = 1 ∨ f = 2 ∨ f = 3 ∨ f = 4 ∨ f = 5 ∨ f = 6 ∨ f = 7 ∨ f = 8 ∨ f = 9 := by omega
    rcases hc with rfl | rfl | rfl | rfl | rfl | rfl | rfl | rfl | rfl
    · exact e1 i
    · exact e2 i
    · exact e3 i
    · exact e4 i
    · exact e5 i
    · exact e6 i
    · exact e7 i
    · exact e8 i
    · exact e9 i
/-- how many pages all have read -/
def rdN (L : Lb) (H : Hl) : Int := smi (nR L).toNat (fun r => (pop (H 2 r).toNat : Int))
/-- a row of the class and a layer of the reference hold the same -/
def PS (I : Nat → Nat → Int32) (L : Lb) (row : Int → Int) (v : Nat) : Prop := HrC row (nR L) = HR I v ∧ WfH L (HR I v) ∧ KP I (row 2) v ∧ row 2 ≤ rdN L (HR I v)
theorem PS.mv {I I' : Nat → Nat → Int32} {L : Lb} {row row' : Int → Int} {v v' : Nat} (hL : WfL L) (hn : gi I 83 (gi I 74 13).toNat = nR L) (hP : PS I L row v) (hr : ∀ i, 0 ≤ i → i < 87 → row' i = row i) (hl : LayEq I v I' v') (hb : gi I' 83 (gi I' 74 13).toNat = gi I 83 (gi I 74 13).toNat) (hg : ∀ j : Nat, (j : Int) < row 2 → gi I' 20 j = gi I 20 j) : PS I' L row' v' := by
  obtain ⟨h1, h2, h3, h4⟩ := hP
  have h6 := hL.2.2.1
  have e : HR I' v' = HR I v := by
    refine HR_lay hl hb (by omega) (fun r h0 hr => ?_)
    rw [hn] at hr
    have hw := (h2.2.2 r h0 hr).2.2.2.2.1.2
    have e6 : HR I v 6 r = gi I 115 ((6 * (v : Int)) + r).toNat := tr_in (by rw [hn]; exact ⟨h0, hr⟩)
    rw [e6] at hw
    exact hw
  refine ⟨?_, by rw [e]; exact h2, ?_, ?_⟩
  · rw [e, HrC_congr h6.2 hr]
    exact h1
  · rw [hr 2 (by decide) (by decide)]
    exact KP_lay hl hg h3
  · rw [e, hr 2 (by decide) (by decide)]
    exact h4
/-- the ring of the class, the ring of the reference, from the oldest on -/
def pRow (I : Nat → Nat → Int32) (j : Int) : Int → Int := fun i => gi I 21 ((87 * ((gi I 4 4 - gi I 4 5 + j) % 20)) + i).toNat
def pLay (I : Nat → Nat → Int32) (j : Int) : Nat := (2 + (gi I 74 65 + j) % 20).toNat
def VP (I : Nat → Nat → Int32) (L : Lb) : Prop := (0 ≤ gi I 4 4 ∧ gi I 4 4 < 20) ∧ (0 ≤ gi I 74 65 ∧ gi I 74 65 < 20) ∧ (0 ≤ gi I 4 5 ∧ gi I 4 5 ≤ 20) ∧ gi I 74 66 = gi I 4 5 ∧ (∀ j, 0 ≤ j → j < gi I 4 5 → PS I L (pRow I j) (pLay I j) ∧ pRow I j 2 ≤ gi I 19 2) ∧ ∀ i j, 0 ≤ i → i ≤ j → j < gi I 4 5 → pRow I i 2 ≤ pRow I j 2
theorem VP.fr {I I' : Nat → Nat → Int32} {L : Lb} (hL : WfL L) (hn : gi I 83 (gi I 74 13).toNat = nR L) (h : VP I L) (h44 : gi I' 4 4 = gi I 4 4) (h45 : gi I' 4 5 = gi I 4 5) (h65 : gi I' 74 65 = gi I 74 65) (h66 : gi I' 74 66 = gi I 74 66) (h21 : I' 21 = I 21) (hb : gi I' 83 (gi I' 74 13).toNat = gi I 83 (gi I 74 13).toNat) (hl : ∀ v, 2 ≤ v → v < 22 → LayEq I v I' v) (hg : ∀ j : Nat, (j : Int) < gi I 19 2 → gi I' 20 j = gi I 20 j) (hk : gi I 19 2 ≤ gi I' 19 2) : VP I' L := by
  obtain ⟨a1, a2, a3, a4, a5, a6⟩ := h
  have er : ∀ j, pRow I' j = pRow I j := by
    intro j
    unfold pRow
    rw [h44, h45, gi_row h21]
  have el : ∀ j, pLay I' j = pLay I j := by
    intro j
    unfold pLay
    rw [h65]
  refine ⟨by rw [h44]; exact a1, by rw [h65]; exact a2, by rw [h45]; exact a3, by rw [h66, h45]; exact a4, fun j h0 h1 => ?_, fun i j h0 h1 h2 => ?_⟩
  · rw [h45] at h1
    obtain ⟨b1, b2⟩ := a5 j h0 h1
    rw [er, el]
    refine ⟨b1.mv hL hn (fun i _ _ => rfl) (hl _ ?_ ?_) hb (fun k hk => hg k (by omega)), by omega⟩
    · unfold pLay; omega
    · unfold pLay; omega
  · rw [h45] at h2
    rw [er, er]
    exact a6 i j h0 h1 h2
theorem rem32_pos {a b : Int} (ha : 0 ≤ a ∧ a < 2147483648) (hb : 0 < b ∧ b < 2147483648) : rem32 a b = a % b := by
  unfold rem32
  have e : iI a / iI b = iI (a / b) := by
    rw [← div32_pos ha hb]
    exact (iI_of _).symm
  have h1 : a / b * b ≤ a := Int.ediv_mul_le a (by omega)
  have h2 : 0 ≤ a / b * b := Int.mul_nonneg (Int.ediv_nonneg ha.1 (by omega)) (by omega)
  rw [e, iI_mul, iI_sub, iI_to ⟨by omega, by omega⟩, Int.emod_def, Int.mul_comm b]
/-- one act more is remembered on both sides -/
theorem VP.keep {I I' : Nat → Nat → Int32} {L : Lb} (hL : WfL L) (hn : gi I 83 (gi I 74 13).toNat = nR L) (h : VP I L) (hnow : PS I L (fun i => gi I 19 i.toNat) 0) (h44 : gi I' 4 4 = (gi I 4 4 + 1) % 20) (h45 : gi I' 4 5 = min 20 (gi I 4 5 + 1)) (h65 : gi I' 74 65 = if gi I 4 5 = 20 then (gi I 74 65 + 1) % 20 else gi I 74 65) (h66 : gi I' 74 66 = min 20 (gi I 4 5 + 1)) (h21 : ∀ k : Nat, gi I' 21 k = if 87 * gi I 4 4 ≤ (k : Int) ∧ (k : Int) < 87 * gi I 4 4 + 87 then gi I 19 (k - (87 * gi I 4 4).toNat) else gi I 21 k) (hb : gi I' 83 (gi I' 74 13).toNat = gi I 83 (gi I 74 13).toNat) (hnew : LayEq I 0 I' (2 + (gi I 74 65 + gi I 4 5) % 20).toNat) (hl : ∀ v, 2 ≤ v → v < 22 → v ≠ (2 + (gi I 74 65 + gi I 4 5) % 20).toNat → LayEq I v I' v) (hg : ∀ j : Nat, gi I' 20 j = gi I 20 j) (hk : gi I' 19 2 = gi I 19 2) : VP I' L := by
  obtain ⟨a1, a2, a3, a4, a5, a6⟩ := h
  have old : ∀ j j', 0 ≤ j → j < gi I' 4 5 - 1 → j' = j + (gi I 4 5 + 1 - gi I' 4 5) → (∀ i, 0 ≤ i → i < 87 → pRow I' j i = pRow I j' i) ∧ pLay I' j = pLay I j' ∧ (0 ≤ j' ∧ j' < gi I 4 5) ∧ pLay I j' ≠ (2 + (gi I 74 65 + gi I 4 5) % 20).toNat := by
    intro j j' h0 h1 hj
    rw [h45] at h1 hj
    refine ⟨fun i i0 i1 => ?_, ?_, by omega, ?_⟩
    · unfold pRow
      rw [h44, h45, h21]
      rw [if_neg (by omega)]
      congr 1
      omega
    · unfold pLay
      rw [h65]
      split <;> omega
    · unfold pLay
      omega
  have new : ∀ j, j = gi I' 4 5 - 1 → (∀ i, 0 ≤ i → i < 87 → pRow I' j i = gi I 19 i.toNat) ∧ pLay I' j = (2 + (gi I 74 65 + gi I 4 5) % 20).toNat := by
    intro j hj
    rw [h45] at hj
    refine ⟨fun i i0 i1 => ?_, ?_⟩
    · unfold pRow
      rw [h44, h45, h21]
      rw [if_pos (by omega)]
      congr 1
      omega
    · unfold pLay
      rw [h65]
      split <;> omega
  refine ⟨by rw [h44]; omega, by rw [h65]; split <;> omega, by rw [h45]; omega, by rw [h66, h45], fun j h0 h1 => ?_, fun i j h0 h1 h2 => ?_⟩
  · by_cases hj : j = gi I' 4 5 - 1
    · obtain ⟨n1, n2⟩ := new j hj
      rw [n2, n1 2 (by decide) (by decide), hk]
      exact ⟨hnow.mv hL hn n1 hnew hb (fun k _ => hg k), Int.le_refl _⟩
    · obtain ⟨o1, o2, o3, o4⟩ := old j _ h0 (by omega) rfl
      obtain ⟨b1, b2⟩ := a5 _ o3.1 o3.2
      rw [o2, o1 2 (by decide) (by decide), hk]
      refine ⟨b1.mv hL hn o1 (hl _ ?_ ?_ o4) hb (fun k _ => hg k), b2⟩
      · unfold pLay; omega
      · unfold pLay; omega
  · by_cases hj : j = gi I' 4 5 - 1
    · obtain ⟨n1, n2⟩ := new j hj
      rw [n1 2 (by decide) (by decide)]
      by_cases hi : i = gi I' 4 5 - 1
      · rw [(new i hi).1 2 (by decide) (by decide)]
        exact Int.le_refl _
      · obtain ⟨o1, o2, o3, o4⟩ := old i _ h0 (by omega) rfl
        rw [o1 2 (by decide) (by decide)]
        exact (a5 _ o3.1 o3.2).2
    · obtain ⟨o1, o2, o3, o4⟩ := old j _ (by omega) (by omega) rfl
      obtain ⟨p1, p2, p3, p4⟩ := old i _ h0 (by omega) rfl
      rw [o1 2 (by decide) (by decide), p1 2 (by decide) (by decide)]
      exact a6 _ _ p3.1 (by omega) o3.2
/-! the two ways to remember, as memories -/
def remI (I : Nat → Nat → Int32) : Nat → Nat → Int32 := si (si (si (fc I 19 0 21 ((gi I 4 4) * 87).toNat 87) 4 4 (rem32 ((gi I 4 4) + 1) 20)) 4 5 (min 20 ((gi I 4 5) + 1))) 4 6 ((gi I 4 6) + 1)
def keeI (I : Nat → Nat → Int32) : Nat → Nat → Int32 := if gi I 74 66 = 20 then si (cpL (si (si I 74 65 (rem32 ((gi I 74 65) + 1) 20)) 74 66 ((gi I 74 66) - 1)) (2 + (gi I 74 65 + gi I 74 66) % 20).toNat 0) 74 66 20 else si (cpL I (2 + (gi I 74 65 + gi I 74 66) % 20).toNat 0) 74 66 (gi I 74 66 + 1)
theorem S_X12_keeps {k : Nat} {P : Option Nat} {I : Nat → Nat → Int32} {J : Nat → Nat → Int64} {Q : Option AV → Mem → Prop} (h65 : 0 ≤ gi I 74 65 ∧ gi I 74 65 < 20) (h66 : 0 ≤ gi I 74 66 ∧ gi I 74 66 ≤ 20) (hk : 1 ≤ k) (hQ : Q none (mem (rv0 P) (keeI I) J)) : WPm k LAY m_X12_keeps [vR (some 74)] (mem (rv0 P) I J) Q := by
  refine WPm.of k_X12_keeps.1 (Nat.le_of_ble_eq_true rfl) (B_X12_keeps_0 (by omega) ⟨fun q => ?_, fun q => ?_⟩)
  · rw [rem32_pos ⟨by omega, by omega⟩ (by decide), show (2 + (gi I 74 65 + gi I 74 66) % 20) = (((2 + (gi I 74 65 + gi I 74 66) % 20).toNat : Nat) : Int) by omega]
    refine S_X12_copies (fr := 0) (by omega) (by decide) (by omega) ⟨_, _, rfl, rfl, ?_⟩
    unfold keeI at hQ
    rw [if_neg q] at hQ
    rw [gi_row (cpL_cell (by decide))]
    exact hQ
  · have i1 : inR (rem32 ((gi I 74 65) + 1) 20) := i32_in _
    have e65 : gi (si (si I 74 65 (rem32 ((gi I 74 65) + 1) 20)) 74 66 ((gi I 74 66) - 1)) 74 65 = (gi I 74 65 + 1) % 20 := by
      rw [gi_idx _ _ _ (by decide), gi_same _ _ _ i1, rem32_pos ⟨by omega, by omega⟩ (by decide)]
    have e66 : gi (si (si I 74 65 (rem32 ((gi I 74 65) + 1) 20)) 74 66 ((gi I 74 66) - 1)) 74 66 = 19 := by
      rw [gi_same _ _ _ ⟨by omega, by omega⟩]
      omega
    rw [e65, e66, rem32_pos ⟨by omega, by omega⟩ (by decide), show (2 + ((gi I 74 65 + 1) % 20 + 19) % 20) = (((2 + (gi I 74 65 + gi I 74 66) % 20).toNat : Nat) : Int) by omega]
    refine S_X12_copies (fr := 0) (by omega) (by decide) (by omega) ⟨_, _, rfl, rfl, ?_⟩
    unfold keeI at hQ
    rw [if_pos q] at hQ
    rw [gi_row (cpL_cell (by decide)), e66]
    exact hQ
/-- what stands behind both: the memory that an act begins with -/
theorem rem_at (I : Nat → Nat → Int32) {c k : Nat} (h : ¬ c = 21) (h2 : ¬ (c = 4 ∧ (k = 4 ∨ k = 5 ∨ k = 6))) : remI I c k = I c k := by
  unfold remI
  rw [si_at, if_neg (by omega), si_at, if_neg (by omega), si_at, if_neg (by omega)]
  simp [fc, h]
theorem kee_at (I : Nat → Nat → Int32) {c k : Nat} (h : ¬ (108 ≤ c ∧ c ≤ 120)) (h2 : ¬ (c = 74 ∧ (k = 65 ∨ k = 66))) : keeI I c k = I c k := by
  unfold keeI
  split
  · rw [si_at, if_neg (by omega), cpL_cell h, si_at, if_neg (by omega), si_at, if_neg (by omega)]
  · rw [si_at, if_neg (by omega), cpL_cell h]
theorem kee_lay (I : Nat → Nat → Int32) : LayEq I 0 (keeI I) (2 + (gi I 74 65 + gi I 74 66) % 20).toNat ∧ ∀ v, v ≠ (2 + (gi I 74 65 + gi I 74 66) % 20).toNat → LayEq I v (keeI I) v := by
  have s1 : ∀ (X : Nat → Nat → Int32) (k : Nat) (z : Int) (v : Nat), LayEq X v (si X 74 k z) v := by
    intro X k z v
    refine ⟨fun c hc => ?_, fun c i hc hi => ?_, fun i hi => ?_, fun c i hc hi => ?_⟩
    · rw [si_at, if_neg (by omega)]
    · rw [si_at, if_neg (by omega)]
    · rw [si_at, if_neg (by omega)]
    · rw [si_at, if_neg (by omega)]
  unfold keeI
  split
  · refine ⟨?_, fun v hv => ?_⟩
    · exact (((s1 I _ _ 0).tr (s1 _ _ _ 0)).tr cpL_lay).tr (s1 _ _ _ _)
    · exact (((s1 I _ _ v).tr (s1 _ _ _ v)).tr (cpL_oth hv)).tr (s1 _ _ _ _)
  · exact ⟨cpL_lay.tr (s1 _ _ _ _), fun v hv => (cpL_oth hv).tr (s1 _ _ _ _)⟩
end PASTS
