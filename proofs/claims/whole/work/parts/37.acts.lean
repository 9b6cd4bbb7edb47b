section ACTS
/-! ===== acts: one reader's record changes on both sides ===== -/
def WfRec (L : Lb) (s1 s2 s3 s4 s5 s6 : Int) (l : Int → Int) : Prop := (0 ≤ s1 ∧ s1 < nT L) ∧ (0 ≤ s2 ∧ s2.toNat < 2 ^ (nP L).toNat) ∧ (0 ≤ s3 ∧ s3.toNat < 2 ^ (nP L).toNat) ∧ s2.toNat &&& s3.toNat = 0 ∧ (0 ≤ s6 ∧ s6 ≤ 8) ∧ (∀ k, 0 ≤ k → k < s6 → (0 ≤ l k ∧ l k < nP L) ∧ (s2.toNat ||| s3.toNat).testBit (l k).toNat = false ∧ ∀ j, 0 ≤ j → j < k → ¬ l j = l k) ∧ (s4 = -1 ∧ s5 = 0 ∨ (1 ≤ s5 ∧ s5 ≤ 499) ∧ ∃ k, 0 ≤ k ∧ k < s6 ∧ l k = s4)
theorem WfO.of {L : Lb} {H : Hl} {r s1 s2 s3 s4 s5 s6 : Int} {l : Int → Int} (h : WfRec L s1 s2 s3 s4 s5 s6 l) (e1 : H 1 r = s1) (e2 : H 2 r = s2) (e3 : H 3 r = s3) (e4 : H 4 r = s4) (e5 : H 5 r = s5) (e6 : H 6 r = s6) (e7 : ∀ k, 0 ≤ k → k < s6 → H 7 (8 * r + k) = l k) : WfO L H r := by
  obtain ⟨h1, h2, h3, h4, h5, h6, h7⟩ := h
  subst e1; subst e2; subst e3; subst e4; subst e5; subst e6
  refine ⟨h1, h2, h3, h4, h5, fun k k0 k1 => ?_, ?_⟩
  · obtain ⟨a1, a2, a3⟩ := h6 k k0 k1
    rw [e7 k k0 k1]
    refine ⟨a1, a2, fun j j0 j1 => ?_⟩
    rw [e7 j j0 (by omega)]
    exact a3 j j0 j1
  · rcases h7 with h7 | ⟨h7, k, k0, k1, k2⟩
    · exact Or.inl h7
    · exact Or.inr ⟨h7, k, k0, k1, by rw [e7 k k0 k1]; exact k2⟩
theorem WfO.rc {L : Lb} {H : Hl} {r : Int} (h : WfO L H r) : WfRec L (H 1 r) (H 2 r) (H 3 r) (H 4 r) (H 5 r) (H 6 r) (fun k => H 7 (8 * r + k)) := by
  obtain ⟨h1, h2, h3, h4, h5, h6, h7⟩ := h
  exact ⟨h1, h2, h3, h4, h5, h6, h7⟩
theorem hc_f (I : Nat → Nat → Int32) {i : Int} (hi : 0 ≤ i ∧ i < gi I 6 2) : HC I 1 i = gi I 19 ((3 + (i * 14)) + 0).toNat ∧ HC I 2 i = gi I 19 ((3 + (i * 14)) + 1).toNat ∧ HC I 3 i = gi I 19 ((3 + (i * 14)) + 2).toNat ∧ HC I 4 i = gi I 19 ((3 + (i * 14)) + 3).toNat ∧ HC I 5 i = gi I 19 ((3 + (i * 14)) + 4).toNat ∧ HC I 6 i = gi I 19 ((3 + (i * 14)) + 5).toNat := ⟨tr_in hi, tr_in hi, tr_in hi, tr_in hi, tr_in hi, tr_in hi⟩
theorem hc_7 (I : Nat → Nat → Int32) {i k : Int} (hi : 0 ≤ i ∧ i < gi I 6 2) (hk : 0 ≤ k ∧ k < gi I 19 ((3 + (i * 14)) + 5).toNat) (h8 : k < 8) : HC I 7 (8 * i + k) = gi I 19 ((3 + (i * 14)) + (6 + k)).toNat := by
  have d1 : (8 * i + k) / 8 = i := by omega
  have d2 : (8 * i + k) % 8 = k := by omega
  have h0 : HC I 7 (8 * i + k) = tr (gi I 6 2) (tr (gi I 19 ((3 + (((8 * i + k) / 8) * 14)) + 5).toNat) (gi I 19 ((3 + (((8 * i + k) / 8) * 14)) + (6 + (8 * i + k) % 8)).toNat) ((8 * i + k) % 8)) ((8 * i + k) / 8) := rfl
  rw [d1, d2, tr_in hi, tr_in hk] at h0
  exact h0
/-- the class's record and the reference's hold the same for each reader -/
def Rec1 (I : Nat → Nat → Int32) (x : Int) : Prop := gi I 110 (x).toNat = gi I 19 ((3 + (x * 14)) + 0).toNat ∧ gi I 111 (x).toNat = gi I 19 ((3 + (x * 14)) + 1).toNat ∧ gi I 112 (x).toNat = gi I 19 ((3 + (x * 14)) + 2).toNat ∧ gi I 113 (x).toNat = gi I 19 ((3 + (x * 14)) + 3).toNat ∧ gi I 114 (x).toNat = gi I 19 ((3 + (x * 14)) + 4).toNat ∧ gi I 115 (x).toNat = gi I 19 ((3 + (x * 14)) + 5).toNat ∧ ∀ k, 0 ≤ k → k < gi I 19 ((3 + (x * 14)) + 5).toNat → gi I 116 ((8 * x) + k).toNat = gi I 19 ((3 + (x * 14)) + (6 + k)).toNat
theorem Rec1.of {I : Nat → Nat → Int32} {L : Lb} {R : Rl} {H : Hl} (hC : CX I L R H) (hR : RX I 0 L R H) {x : Int} (hx : 0 ≤ x ∧ x < nR L) : Rec1 I x := by
  refine ⟨?_, ?_, ?_, ?_, ?_, ?_, fun k k0 k1 => ?_⟩
  · rw [rx_1' hR hx, cx_1 hC hx]
  · rw [rx_2' hR hx, cx_2 hC hx]
  · rw [rx_3' hR hx, cx_3 hC hx]
  · rw [rx_4' hR hx, cx_4 hC hx]
  · rw [rx_5' hR hx, cx_5 hC hx]
  · rw [rx_6' hR hx, cx_6 hC hx]
  · rw [cx_6 hC hx] at k1
    rw [rx_7' hR hx ⟨k0, k1⟩, cx_7 hC hx ⟨k0, k1⟩]
theorem recs_eq {I : Nat → Nat → Int32} {n : Int} (hn : gi I 6 2 = n) (hn' : gi I 83 (gi I 74 13).toNat = n) (h : ∀ x, 0 ≤ x → x < n → Rec1 I x) (h8 : gi I 108 0 = gi I 19 0) (h9 : gi I 109 0 = gi I 19 1) : HR I 0 = HC I := by
  have key : ∀ (c : Nat) (o i : Int), (∀ x, 0 ≤ x → x < n → gi I c (x).toNat = gi I 19 ((3 + (x * 14)) + o).toNat) → tr (gi I 83 (gi I 74 13).toNat) (gi I c ((6 * 0) + i).toNat) i = tr (gi I 6 2) (gi I 19 ((3 + (i * 14)) + o).toNat) i := by
    intro c o i hc
    rw [hn, hn']
    by_cases hi : 0 ≤ i ∧ i < n
    · rw [tr_in hi, tr_in hi, show (6 * 0 + i) = i by omega]
      exact hc i hi.1 hi.2
    · rw [tr_out hi, tr_out hi]
  have f1 : ∀ i, HR I 0 1 i = HC I 1 i := fun i => key 110 0 i (fun x a b => (h x a b).1)
  have f2 : ∀ i, HR I 0 2 i = HC I 2 i := fun i => key 111 1 i (fun x a b => (h x a b).2.1)
  have f3 : ∀ i, HR I 0 3 i = HC I 3 i := fun i => key 112 2 i (fun x a b => (h x a b).2.2.1)
  have f4 : ∀ i, HR I 0 4 i = HC I 4 i := fun i => key 113 3 i (fun x a b => (h x a b).2.2.2.1)
  have f5 : ∀ i, HR I 0 5 i = HC I 5 i := fun i => key 114 4 i (fun x a b => (h x a b).2.2.2.2.1)
  have f6 : ∀ i, HR I 0 6 i = HC I 6 i := fun i => key 115 5 i (fun x a b => (h x a b).2.2.2.2.2.1)
  have f7 : ∀ i, HR I 0 7 i = HC I 7 i := by
    intro i
    show tr (gi I 83 (gi I 74 13).toNat) (tr (gi I 115 ((6 * 0) + (i / 8)).toNat) (gi I 116 ((8 * ((6 * 0) + (i / 8))) + i % 8).toNat) (i % 8)) (i / 8) = tr (gi I 6 2) (tr (gi I 19 ((3 + ((i / 8) * 14)) + 5).toNat) (gi I 19 ((3 + ((i / 8) * 14)) + (6 + i % 8)).toNat) (i % 8)) (i / 8)
    rw [hn, hn']
    by_cases hi : 0 ≤ i / 8 ∧ i / 8 < n
    · obtain ⟨-, -, -, -, -, r6, r7⟩ := h _ hi.1 hi.2
      rw [tr_in hi, tr_in hi, show (6 * 0 + i / 8) = i / 8 by omega, r6]
      by_cases hj : 0 ≤ i % 8 ∧ i % 8 < gi I 19 ((3 + ((i / 8) * 14)) + 5).toNat
      · rw [tr_in hj, tr_in hj, r7 _ hj.1 hj.2]
      · rw [tr_out hj, tr_out hj]
    · rw [tr_out hi, tr_out hi]
  have f8 : ∀ i, HR I 0 8 i = HC I 8 i := fun i => h8
  have f9 : ∀ i, HR I 0 9 i = HC I 9 i := fun i => h9
  funext f i
  by_cases hf : f = 0 ∨ 10 ≤ f
  · rw [HR_big I 0 i hf]
    exact (HrC_big _ _ i hf).symm
  · have hc : f = 1 ∨ f = 2 ∨ f = 3 ∨ f = 4 ∨ f = 5 ∨ f = 6 ∨ f = 7 ∨ f = 8 ∨ f = 9 := by omega
    rcases hc with rfl | rfl | rfl | rfl | rfl | rfl | rfl | rfl | rfl
    · exact f1 i
    · exact f2 i
    · exact f3 i
    · exact f4 i
    · exact f5 i
    · exact f6 i
    · exact f7 i
    · exact f8 i
    · exact f9 i
/-- one reader's record is written anew on both sides -/
theorem act_one {I I' : Nat → Nat → Int32} {L : Lb} {R : Rl} {H : Hl} {x : Int} {l : Int → Int} (hC : CX I L R H) (hR : RX I 0 L R H) (hx : 0 ≤ x ∧ x < nR L) (hl : sameL I I') (hrl : sameRL I I')
    (c19 : ∀ k : Nat, ¬ (3 + 14 * x ≤ (k : Int) ∧ (k : Int) < 3 + 14 * x + 14) → gi I' 19 k = gi I 19 k) (r110 : ∀ c k : Nat, 110 ≤ c ∧ c ≤ 115 → k < 6 → (k : Int) ≠ x → gi I' c k = gi I c k) (r116 : ∀ k : Nat, k < 48 → ¬ (8 * x ≤ (k : Int) ∧ (k : Int) < 8 * x + 8) → gi I' 116 k = gi I 116 k) (r108 : gi I' 108 0 = gi I 108 0) (r109 : gi I' 109 0 = gi I 109 0)
    (hw : WfRec L (gi I' 19 ((3 + (x * 14)) + 0).toNat) (gi I' 19 ((3 + (x * 14)) + 1).toNat) (gi I' 19 ((3 + (x * 14)) + 2).toNat) (gi I' 19 ((3 + (x * 14)) + 3).toNat) (gi I' 19 ((3 + (x * 14)) + 4).toNat) (gi I' 19 ((3 + (x * 14)) + 5).toNat) l) (hl7 : ∀ k, 0 ≤ k → k < gi I' 19 ((3 + (x * 14)) + 5).toNat → gi I' 19 ((3 + (x * 14)) + (6 + k)).toNat = l k) (hrec : Rec1 I' x) :
    CX I' L R (HC I') ∧ RX I' 0 L R (HC I') ∧ ∀ r, 0 ≤ r → r < nR L → r ≠ x → ∀ f, 1 ≤ f → f ≤ 6 → HC I' f r = H f r := by
  have hL := hC.1.2.2.2.1
  have hR6 := hL.2.2.1
  have hn : gi I' 6 2 = nR L := by rw [gi_row (hl 6 (by decide) (by decide))]; exact cx_n hC
  have hn' : gi I' 83 (gi I' 74 13).toNat = nR L := by rw [hrl.2, gi_row (hrl.1 83 (by decide) (by decide))]; exact rx_n hR
  have g8 := hw.2.2.2.2.1
  have oth : ∀ r, 0 ≤ r → r < nR L → r ≠ x → ∀ c, 0 ≤ c → c < 14 → gi I' 19 ((3 + (r * 14)) + c).toNat = gi I 19 ((3 + (r * 14)) + c).toNat := fun r r0 r1 rx c c0 c1 => c19 _ (by omega)
  have oC : ∀ r, 0 ≤ r → r < nR L → r ≠ x → ∀ f, 1 ≤ f → f ≤ 6 → HC I' f r = H f r := by
    intro r r0 r1 rx f f1 f6
    obtain ⟨v1, v2, v3, v4, v5, v6⟩ := hc_f I' (i := r) (by rw [hn]; exact ⟨r0, r1⟩)
    have hc : f = 1 ∨ f = 2 ∨ f = 3 ∨ f = 4 ∨ f = 5 ∨ f = 6 := by omega
    rcases hc with rfl | rfl | rfl | rfl | rfl | rfl
    · rw [v1, oth r r0 r1 rx 0 (by decide) (by decide), cx_1 hC ⟨r0, r1⟩]
    · rw [v2, oth r r0 r1 rx 1 (by decide) (by decide), cx_2 hC ⟨r0, r1⟩]
    · rw [v3, oth r r0 r1 rx 2 (by decide) (by decide), cx_3 hC ⟨r0, r1⟩]
    · rw [v4, oth r r0 r1 rx 3 (by decide) (by decide), cx_4 hC ⟨r0, r1⟩]
    · rw [v5, oth r r0 r1 rx 4 (by decide) (by decide), cx_5 hC ⟨r0, r1⟩]
    · rw [v6, oth r r0 r1 rx 5 (by decide) (by decide), cx_6 hC ⟨r0, r1⟩]
  have e19 : gi I' 19 0 = gi I 19 0 := c19 0 (by omega)
  have e191 : gi I' 19 1 = gi I 19 1 := c19 1 (by omega)
  have e8 : HC I' 8 0 = H 8 0 := by
    have h0 : HC I' 8 0 = gi I' 19 0 := rfl
    rw [h0, e19, cx_8 hC]
  have e9 : HC I' 9 0 = H 9 0 := by
    have h0 : HC I' 9 0 = gi I' 19 1 := rfl
    rw [h0, e191, cx_9 hC]
  have wf : WfH L (HC I') := by
    refine ⟨by rw [e8]; exact hC.2.2.1, by rw [e9]; exact hC.2.2.2.1, fun r r0 r1 => ?_⟩
    have hr' : 0 ≤ r ∧ r < gi I' 6 2 := by rw [hn]; exact ⟨r0, r1⟩
    by_cases rx : r = x
    · subst rx
      obtain ⟨v1, v2, v3, v4, v5, v6⟩ := hc_f I' hr'
      exact WfO.of hw v1 v2 v3 v4 v5 v6 (fun k k0 k1 => (hc_7 I' hr' ⟨k0, k1⟩ (by omega)).trans (hl7 k k0 k1))
    · have hw' := hC.2.2.2.2 r r0 r1
      have q8 := hw'.2.2.2.2.1
      refine WfO.of hw'.rc (oC r r0 r1 rx 1 (by decide) (by decide)) (oC r r0 r1 rx 2 (by decide) (by decide)) (oC r r0 r1 rx 3 (by decide) (by decide)) (oC r r0 r1 rx 4 (by decide) (by decide)) (oC r r0 r1 rx 5 (by decide) (by decide)) (oC r r0 r1 rx 6 (by decide) (by decide)) (fun k k0 k1 => ?_)
      rw [hc_7 I' hr' ⟨k0, by rw [oth r r0 r1 rx 5 (by decide) (by decide), cx_6 hC ⟨r0, r1⟩]; exact k1⟩ (by omega), oth r r0 r1 rx (6 + k) (by omega) (by omega), cx_7 hC ⟨r0, r1⟩ ⟨k0, k1⟩]
  have eqH : HR I' 0 = HC I' := by
    refine recs_eq hn hn' (fun r r0 r1 => ?_) ?_ ?_
    · by_cases rx : r = x
      · rw [rx]
        exact hrec
      · obtain ⟨w1, w2, w3, w4, w5, w6, w7⟩ := Rec1.of hC hR ⟨r0, r1⟩
        have q8 := (hC.2.2.2.2 r r0 r1).2.2.2.2.1
        have m6 := cx_6 hC ⟨r0, r1⟩
        refine ⟨?_, ?_, ?_, ?_, ?_, ?_, fun k k0 k1 => ?_⟩
        · rw [r110 110 _ (by decide) (by omega) (by omega), oth r r0 r1 rx 0 (by decide) (by decide), w1]
        · rw [r110 111 _ (by decide) (by omega) (by omega), oth r r0 r1 rx 1 (by decide) (by decide), w2]
        · rw [r110 112 _ (by decide) (by omega) (by omega), oth r r0 r1 rx 2 (by decide) (by decide), w3]
        · rw [r110 113 _ (by decide) (by omega) (by omega), oth r r0 r1 rx 3 (by decide) (by decide), w4]
        · rw [r110 114 _ (by decide) (by omega) (by omega), oth r r0 r1 rx 4 (by decide) (by decide), w5]
        · rw [r110 115 _ (by decide) (by omega) (by omega), oth r r0 r1 rx 5 (by decide) (by decide), w6]
        · rw [oth r r0 r1 rx 5 (by decide) (by decide)] at k1
          rw [r116 _ (by omega) (by omega), oth r r0 r1 rx (6 + k) (by omega) (by omega), w7 k k0 k1]
    · rw [r108, e19, cx_8 hC]
      exact rx_8 hR
    · rw [r109, e191, cx_9 hC]
      exact rx_9 hR
  exact ⟨⟨hC.1.fr hl, rfl, wf⟩, ⟨hR.1.fr hrl, eqH, wf, by decide⟩, oC⟩
/-- all that acts change holds the same on both sides, now and behind -/
def VH (I : Nat → Nat → Int32) : Prop := VA I ∧ VP I (LC I) ∧ KP I (gi I 19 2) 0 ∧ gi I 19 2 ≤ rdN (LC I) (HC I)
theorem VH.now {I : Nat → Nat → Int32} (h : VH I) : PS I (LC I) (fun i => gi I 19 i.toNat) 0 := by
  obtain ⟨⟨hC, hR, -, -⟩, -, hK, hr⟩ := h
  have e : HrC (fun i => gi I 19 i.toNat) (nR (LC I)) = HR I ((0 : Nat) : Int) := hR.2.1.symm
  have e2 : HR I ((0 : Nat) : Int) = HC I := hR.2.1
  exact ⟨e, by rw [e2]; exact hC.2.2, hK, by rw [e2]; exact hr⟩
/-- what an act leaves alone -/
def actS (I I' : Nat → Nat → Int32) : Prop := (∀ c k, scrC c = false → scrF c k = false → ¬ (c = 19 ∨ c = 20 ∨ c = 21 ∨ (108 ≤ c ∧ c ≤ 120)) → ¬ (c = 4 ∧ (k = 4 ∨ k = 5 ∨ k = 6)) → ¬ (c = 74 ∧ (k = 65 ∨ k = 66)) → I' c k = I c k) ∧ gi I' 4 6 = gi I 4 6 + 1
theorem act_VP {I I1 I' : Nat → Nat → Int32} {L : Lb} (hL : WfL L) (hn : gi I 83 (gi I 74 13).toNat = nR L) (h : VP I L) (hnow : PS I L (fun i => gi I 19 i.toNat) 0) (h1 : ∀ c k, c ≠ 19 → I1 c k = remI I c k) (hk1 : gi I1 19 2 = gi I 19 2) (h2 : ∀ c k, ¬ (110 ≤ c ∧ c ≤ 116 ∧ k < 48 ∧ (c ≠ 116 → k < 6)) → I' c k = keeI I1 c k) : VP I' L := by
  have hVP := h
  obtain ⟨a1, a2, a3, a4, -, -⟩ := h
  have i1 : ∀ c k, ¬ c = 19 → ¬ c = 21 → ¬ (c = 4 ∧ (k = 4 ∨ k = 5 ∨ k = 6)) → I1 c k = I c k := fun c k p q r => (h1 c k p).trans (rem_at I q r)
  have e65 : gi I1 74 65 = gi I 74 65 := gi_eq (i1 74 65 (by decide) (by decide) (by decide))
  have e66 : gi I1 74 66 = gi I 74 66 := gi_eq (i1 74 66 (by decide) (by decide) (by decide))
  have hs : (2 + (gi I1 74 65 + gi I1 74 66) % 20).toNat = (2 + (gi I 74 65 + gi I 4 5) % 20).toNat := by rw [e65, e66, a4]
  obtain ⟨l1, l2⟩ := kee_lay I1
  rw [hs] at l1 l2
  have lay1 : ∀ v, LayEq I v I1 v := fun v => ⟨fun c hc => i1 c v (by omega) (by omega) (by omega), fun c i hc hi => i1 c _ (by omega) (by omega) (by omega), fun i hi => i1 _ _ (by omega) (by omega) (by omega), fun c i hc hi => i1 c _ (by omega) (by omega) (by omega)⟩
  have lay2 : ∀ v, 2 ≤ v → LayEq (keeI I1) v I' v := fun v hv => ⟨fun c hc => h2 c v (by omega), fun c i hc hi => h2 c _ (by omega), fun i hi => h2 _ _ (by omega), fun c i hc hi => h2 c _ (by omega)⟩
  have k1 : ∀ c k, ¬ (108 ≤ c ∧ c ≤ 120) → ¬ (c = 74 ∧ (k = 65 ∨ k = 66)) → I' c k = I1 c k := fun c k p q => (h2 c k (by omega)).trans (kee_at I1 p q)
  have r44 : inR (rem32 ((gi I 4 4) + 1) 20) := i32_in _
  have v44 : gi I' 4 4 = (gi I 4 4 + 1) % 20 := by
    rw [gi_eq (k1 4 4 (by decide) (by decide)), gi_eq (h1 4 4 (by decide))]
    unfold remI
    rw [gi_idx _ _ _ (by decide), gi_idx _ _ _ (by decide), gi_same _ _ _ r44, rem32_pos ⟨by omega, by omega⟩ (by decide)]
  have v45 : gi I' 4 5 = min 20 (gi I 4 5 + 1) := by
    rw [gi_eq (k1 4 5 (by decide) (by decide)), gi_eq (h1 4 5 (by decide))]
    unfold remI
    rw [gi_idx _ _ _ (by decide), gi_same _ _ _ ⟨by omega, by omega⟩]
  have v65 : gi I' 74 65 = if gi I 4 5 = 20 then (gi I 74 65 + 1) % 20 else gi I 74 65 := by
    rw [gi_eq (h2 74 65 (by decide))]
    unfold keeI
    rw [e66, a4]
    by_cases q : gi I 4 5 = 20
    · rw [if_pos q, if_pos q, gi_idx _ _ _ (by decide), gi_row (cpL_cell (by decide)), gi_idx _ _ _ (by decide), gi_same _ _ _ (rem32_in _ _), e65, rem32_pos ⟨by omega, by omega⟩ (by decide)]
    · rw [if_neg q, if_neg q, gi_idx _ _ _ (by decide), gi_row (cpL_cell (by decide))]
      exact e65
  have v66 : gi I' 74 66 = min 20 (gi I 4 5 + 1) := by
    rw [gi_eq (h2 74 66 (by decide))]
    unfold keeI
    rw [e66, a4]
    by_cases q : gi I 4 5 = 20
    · rw [if_pos q, gi_same _ _ _ (by decide)]
      omega
    · rw [if_neg q, gi_same _ _ _ ⟨by omega, by omega⟩]
      omega
  refine VP.keep hL hn hVP hnow v44 v45 v65 v66 ?_ ?_ ((lay1 0).tr (l1.tr (lay2 _ (by omega)))) (fun v v2 v22 hv => (lay1 v).tr ((l2 v hv).tr (lay2 v v2))) ?_ ?_
  · intro k
    rw [gi_eq (k1 21 k (by decide) (by omega)), gi_eq (h1 21 k (by decide))]
    have e : gi (remI I) 21 k = gi (fc I 19 0 21 ((gi I 4 4) * 87).toNat 87) 21 k := by
      unfold remI
      rw [gi_cell _ _ _ _ (by decide), gi_cell _ _ _ _ (by decide), gi_cell _ _ _ _ (by decide)]
    rw [e, gi_fc]
    by_cases q : 87 * gi I 4 4 ≤ (k : Int) ∧ (k : Int) < 87 * gi I 4 4 + 87
    · rw [if_pos q, if_pos ⟨rfl, by omega, by omega⟩, show 0 + (k - (gi I 4 4 * 87).toNat) = k - (87 * gi I 4 4).toNat by omega]
    · rw [if_neg q, if_neg (by omega)]
  · have eb : gi I' 74 13 = gi I 74 13 := (gi_eq (k1 74 13 (by decide) (by decide))).trans (gi_eq (i1 74 13 (by decide) (by decide) (by decide)))
    rw [eb]
    exact (gi_eq (k1 83 _ (by decide) (by omega))).trans (gi_eq (i1 83 _ (by decide) (by decide) (by omega)))
  · intro j
    exact (gi_eq (k1 20 j (by decide) (by omega))).trans (gi_eq (i1 20 j (by decide) (by decide) (by omega)))
  · exact (gi_eq (k1 19 2 (by decide) (by decide))).trans hk1
end ACTS
