section READS
/-! ===== the reference reads on ===== -/
theorem lsR_eq {I I' : Nat → Nat → Int32} {a : Int} (h : I' 115 (a).toNat = I 115 (a).toNat) (h' : ∀ k, I' 116 k = I 116 k) : lsR I' a = lsR I a := by
  unfold lsR
  rw [show cnR I' a = cnR I a from gi_eq h]
  exact lsF_congr (fun k _ _ => gi_eq (h' _))
theorem kpL_eq {I I' : Nat → Nat → Int32} {v : Int} (h : ∀ c k, 117 ≤ c → c ≤ 120 → I' c k = I c k) : kpL I' v = kpL I v := by
  unfold kpL
  rw [gi_eq (h 117 _ (by decide) (by decide))]
  refine lsG_congr (fun k _ _ => ?_)
  exact tri3 (gi_eq (h 118 _ (by decide) (by decide))) (gi_eq (h 119 _ (by decide) (by decide))) (gi_eq (h 120 _ (by decide) (by decide)))
theorem RdA.mv {I I2 I3 : Nat → Nat → Int32} {v r : Int} {H : Hl} {C : List (Int × Int)} {j : Nat} (h : RdA I I2 v r H C j) (h1 : ∀ c k, ¬ c = 113 → ¬ c = 114 → ¬ c = 122 → ¬ (c = 74 ∧ (k = 69 ∨ k = 70 ∨ k = 71)) → I3 c k = I2 c k) (h2 : ∀ c k : Nat, ¬ tch v r c k → I3 c k = I2 c k) : RdA I I3 v r H C j := by
  obtain ⟨a1, a2, ⟨a3, a4⟩, a5, a6, a7, a8⟩ := h
  have g : ∀ c k, 115 ≤ c → c ≤ 120 → I3 c k = I2 c k := fun c k p q => h1 c k (by omega) (by omega) (by omega) (by omega)
  refine ⟨fun c k t => (h2 c k t).trans (a1 c k t), (gi_eq (h1 111 _ (by decide) (by decide) (by decide) (by omega))).trans a2, ⟨(lsR_eq (g 115 _ (by decide) (by decide)) (fun k => g 116 k (by decide) (by decide))).trans a3, ?_⟩, (gi_eq (h1 123 _ (by decide) (by decide) (by decide) (by omega))).trans a5, (gi_eq (h1 74 77 (by decide) (by decide) (by decide) (by omega))).trans a6, (kpL_eq (fun c k p q => g c k (by omega) q)).trans a7, ?_⟩
  · rw [show cnR I3 ((6 * v) + r) = cnR I2 ((6 * v) + r) from gi_eq (g 115 _ (by decide) (by decide))]
    exact a4
  · rw [gi_eq (g 117 _ (by decide) (by decide))]
    exact a8
theorem tkR {L : Lb} {R : Rl} {H H2 : Hl} {cold r p : Int} (h1 : ∀ i, 0 ≤ i → i < nR L → H2 1 i = H 1 i) (hr : 0 ≤ r ∧ r < nR L) (h8 : H2 8 0 = H 8 0) : takR L R H2 cold r p (pop (kn H2 r)) = tkS L R H r (dr L cold (H 1 r)) (sit L H (H 1 r)) (kn H2 r) p := by
  have e : ∀ t, sit L H2 t = sit L H t := fun t => by
    unfold sit
    refine smi_congr (fun i hi => ?_)
    rw [h1 i (by omega) (by omega)]
  unfold takR tkS
  rw [h8, h1 r hr.1 hr.2, e]
theorem S_X12_reads {k : Nat} {P : Option Nat} {I : Nat → Nat → Int32} {J : Nat → Nat → Int64} {Q : Option AV → Mem → Prop} {v : Int} {L : Lb} {R : Rl} {H : Hl} {r light cold : Int} (hk : 6 ≤ k) (hX : RX I v L R H) (hr : 0 ≤ r ∧ r < nR L) (h72 : gi I 74 72 = -1) (h73 : gi I 74 73 = cold) (hl : 0 ≤ light ∧ light ≤ 3000) (h77 : 0 ≤ gi I 74 77 ∧ gi I 74 77 ≤ 1000) (h117 : 0 ≤ gi I 117 v.toNat ∧ gi I 117 v.toNat ≤ 60)
    (hQ : ∀ I' J', RdA I I' v r H (coN L R H cold r) (rdn light (coN L R H cold r)) → WfE (coN L R H cold r) (lsH H r) light (H 4 r) (donP L H r True) (H 5 r) → gi I' 113 ((6 * v) + r).toNat = lfN light (coN L R H cold r) (H 4 r) → gi I' 114 ((6 * v) + r).toNat = itN light (coN L R H cold r) (donP L H r True) (H 5 r) → gi I' 122 (r).toNat = stp light (coN L R H cold r) → Fr [121] [] J J' → Q none (mem (rv0 P) I' J')) : WPm k LAY m_X12_readsOn [vR (some 74), vI v, vI r, vI light] (mem (rv0 P) I J) Q := by
  have hL := hX.1.2.2.2.2.1
  have hP := hL.2.1
  have hR6 := hL.2.2.1
  have hv := hX.2.2.2
  have hH := hX.2.2.1
  have hw := hH.2.2 r hr.1 hr.2
  have hrg : ∀ p, p ∈ lsH H r → 0 ≤ p ∧ p < nP L := fun p hp => lsH_rng hw hp
  obtain ⟨-, hd5⟩ := left_rng hw
  have hH8 := hH.1
  have hC0 : coN L R H cold r = crs (tkS L R H r (dr L cold (H 1 r)) (sit L H (H 1 r))) L (lsH H r) 8 (kn H r) (fstP L H r True) (- donP L H r True) := rfl
  have hC8 := (coN_rng (R := R) hL hH (cold := cold) hr).1
  have hCr := (coN_rng (R := R) hL hH (cold := cold) hr).2
  generalize coN L R H cold r = C at hQ hC0 hC8 hCr
  have htk : ∀ kk p, 0 ≤ p ∧ p < nP L → 1 ≤ tkS L R H r (dr L cold (H 1 r)) (sit L H (H 1 r)) kk p ∧ tkS L R H r (dr L cold (H 1 r)) (sit L H (H 1 r)) kk p ≤ 500 := fun kk p hp => takS_in hL hp
  have hdn : 0 ≤ donP L H r True ∧ donP L H r True ≤ 499 := by
    unfold donP
    split <;> omega
  have we1 : ∀ j, (∀ i, i < j → cp C i ∈ woN C (lsH H r) i) → rdn light C = j → lfN light C (H 4 r) = (if j = 0 then H 4 r else -1) → itN light C (donP L H r True) (H 5 r) = (if j = 0 then H 5 r else 0) → WfE C (lsH H r) light (H 4 r) (donP L H r True) (H 5 r) := by
    intro j hcm s1 s3 s4
    unfold WfE
    rw [s1, s3, s4]
    refine ⟨hcm, ?_⟩
    by_cases e : j = 0
    · subst e
      rw [if_pos rfl, if_pos rfl]
      rcases hw.2.2.2.2.2.2 with w | ⟨w, k, k0, k1, k2⟩
      · exact Or.inl w
      · refine Or.inr ⟨w, ?_⟩
        show H 4 r ∈ lsH H r
        exact lsF_mem.mpr ⟨k, k0, by omega, k2⟩
    · rw [if_neg e, if_neg e]
      exact Or.inl ⟨rfl, rfl⟩
  have loop : ∀ (d j : Nat) (x : Int) (I2 : Nat → Nat → Int32) (J2 : Nat → Nat → Int64), j + d = 8 → C.drop j = crs (tkS L R H r (dr L cold (H 1 r)) (sit L H (H 1 r))) L (lsH H r) d (kn H r ||| bitT C j) x (if j = 0 then - donP L H r True else bgn C j) → RdA I I2 v r H C j → (j = 0 ∧ gi I2 113 ((6 * v) + r).toNat = H 4 r ∧ gi I2 114 ((6 * v) + r).toNat = H 5 r ∨ ¬ j = 0 ∧ gi I2 113 ((6 * v) + r).toNat = -1 ∧ gi I2 114 ((6 * v) + r).toNat = 0) → gi I2 122 (r).toNat = bgn C j → (j = 0 → x = fstP L H r True) → (x = -1 ∨ x ∈ woN C (lsH H r) j) → (∀ i, i < j → cp C i ∈ woN C (lsH H r) i) → (∀ i, i < j → ce C i ≤ light) → (0 < j → 0 < light) → (woN C (lsH H r) j).length + j ≤ 8 → j ≤ C.length → Fr [121] [] J J2 → WP k LAY m_X12_readsOn 33 [(0, vR (some 74)), (1, vI v), (2, vI r), (3, vI light), (4, vI ((6 * v) + r)), (5, vI x), (6, vI 1)] [] (mem (rv0 P) I2 J2) Q := by
    intro d
    induction d with
    | zero =>
      intro j x I2 J2 hj hd hA hB h22 hx0 hm hcm hce hlt hlen hjl hJ
      have hxm : x = -1 := hm.elim id (fun z => by
        have := List.length_pos_of_mem z
        omega)
      have hdl : C.length ≤ j := List.drop_eq_nil_iff.mp hd
      obtain ⟨s1, s2, s3, s4⟩ := stop_12 (C := C) (light := light) (lf := H 4 r) (dn := donP L H r True) (it := H 5 r) (j := j) hl.1 hjl hce hlt (fun k k0 k1 => absurd k1 (by omega)) (Or.inl (by omega))
      subst hxm
      refine B_X12_readsOn_33 (by omega) ⟨⟨by omega, by omega⟩, fun _ => hQ I2 J2 (by rw [s1]; exact hA) (we1 j hcm s1 s3 s4) ?_ ?_ (by rw [s2]; exact h22) hJ, fun w => absurd rfl w⟩
      · rw [s3, if_neg (by omega)]
        rcases hB with hB | hB
        · omega
        · exact hB.2.1
      · rw [s4, if_neg (by omega)]
        rcases hB with hB | hB
        · omega
        · exact hB.2.2
    | succ d ih =>
      intro j x I2 J2 hj hd hA hB h22 hx0 hm hcm hce hlt hlen hjl hJ
      have hB' : j = 0 ∧ gi I2 113 ((6 * v) + r).toNat = H 4 r ∧ gi I2 114 ((6 * v) + r).toNat = H 5 r ∨ gi I2 113 ((6 * v) + r).toNat = -1 ∧ gi I2 114 ((6 * v) + r).toNat = 0 := hB.elim Or.inl (fun z => Or.inr z.2)
      obtain ⟨hX2, k13, k8, kkn, kls, k4⟩ := hA.rx hX hr (fun i hi => (woN_mem (hcm i hi)).1) hB'
      have hb0 : 0 ≤ bgn C j := by
        unfold bgn
        split
        · exact Int.le_refl _
        · exact (hCr (j - 1) (by omega)).2.1
      have hbl : 0 < j → bgn C j ≤ light := fun e => by
        unfold bgn
        rw [if_neg (by omega)]
        exact hce (j - 1) (by omega)
      have hxr : x = -1 ∨ 0 ≤ x ∧ x < nP L := hm.elim Or.inl (fun z => Or.inr (hrg _ (woN_mem z).1))
      have hgt : ∀ q ∈ C.drop j, (if j = 0 then - donP L H r True else bgn C j) < q.2 := by
        rw [hd]
        exact crs_gt hrg (fun kk p hp => (htk kk p hp).1) _ _ _ _ hxr
      have hge : ∀ k, j ≤ k → k < C.length → bgn C j ≤ ce C k ∧ (0 < j → bgn C j < ce C k) := by
        intro k k0 k1
        have h1 := hgt _ (drop_mem k0 k1)
        have h2 := (hCr k k1).2.1
        by_cases e : j = 0
        · refine ⟨?_, fun w => absurd e (by omega)⟩
          have : bgn C j = 0 := by unfold bgn; rw [if_pos e]
          omega
        · rw [if_neg e] at h1
          exact ⟨by show bgn C j ≤ (C.getD k (0, 0)).2; omega, fun _ => h1⟩
      have stop1 : j = C.length ∨ light ≤ bgn C j → Q none (mem (rv0 P) I2 J2) := by
        intro hs
        obtain ⟨s1, s2, s3, s4⟩ := stop_12 (C := C) (light := light) (lf := H 4 r) (dn := donP L H r True) (it := H 5 r) (j := j) hl.1 hjl hce hlt hge hs
        refine hQ I2 J2 (by rw [s1]; exact hA) (we1 j hcm s1 s3 s4) ?_ ?_ (by rw [s2]; exact h22) hJ
        · rw [s3]
          rcases hB with hB | hB
          · rw [if_pos hB.1]; exact hB.2.1
          · rw [if_neg hB.1]; exact hB.2.1
        · rw [s4]
          rcases hB with hB | hB
          · rw [if_pos hB.1]; exact hB.2.2
          · rw [if_neg hB.1]; exact hB.2.2
      have hbx : x = -1 → C.drop j = [] := fun e => by rw [hd, crs, if_pos e]
      refine B_X12_readsOn_33 (by omega) ⟨⟨by omega, by omega⟩, fun e => stop1 (Or.inl (by have := List.drop_eq_nil_iff.mp (hbx e); omega)), fun hx1 => ?_⟩
      have hxm := hm.elim (fun z => absurd z hx1) id
      have hxp : 0 ≤ x ∧ x < nP L := hrg _ (woN_mem hxm).1
      rw [h22]
      refine ⟨⟨by omega, by omega⟩, ⟨by omega, by omega⟩, fun e => stop1 (Or.inr e), fun hlb => ⟨by decide, fun w => absurd w (by decide), fun _ => ⟨⟨by omega, by omega⟩, ?_⟩⟩⟩
      rw [crs, if_neg hx1] at hd
      obtain ⟨c1, c2, c3⟩ := drop_cons hd
      have hcp : cp C j = x := by show (C.getD j (0, 0)).1 = x; rw [c2]
      generalize ht : tkS L R H r (dr L cold (H 1 r)) (sit L H (H 1 r)) (kn H r ||| bitT C j) x = t at c2 c3
      have htb : 1 ≤ t ∧ t ≤ 500 := by rw [← ht]; exact htk _ _ hxp
      have hcej : ce C j = max 0 ((if j = 0 then - donP L H r True else bgn C j) + t) := by show (C.getD j (0, 0)).2 = _; rw [c2]
      have hcr := hCr j c1
      have hgj : ∀ k, j ≤ k → k < C.length → ce C j ≤ ce C k := by
        intro k k0 k1
        by_cases e : k = j
        · rw [e]; exact Int.le_refl _
        · have h1 : ce C k = (C.getD k (0, 0)).2 := rfl
          have h2 := drop_mem (C := C) (j := j + 1) (k := k) (by omega) k1
          rw [c3] at h2
          have := crs_gt hrg (fun kk p hp => (htk kk p hp).1) _ _ _ _ (nxt_in.elim Or.inl (fun z => Or.inr (hrg _ z.1))) _ h2
          rw [hcej, h1]
          omega
      have stop3 : ∀ (I7 : Nat → Nat → Int32) (J7 : Nat → Nat → Int64) (w z : Int), Fr [] SA I2 I7 → Fr [121] [] J2 J7 → light < ce C j → w = (if j = 0 then donP L H r True else 0) + light - bgn C j → z = light → WP k LAY m_X12_readsOn 33 [(0, vR (some 74)), (1, vI v), (2, vI r), (3, vI light), (4, vI ((6 * v) + r)), (5, vI x), (6, vI 0)] [] (mem (rv0 P) (si (si (si I7 113 ((6 * v) + r).toNat x) 114 ((6 * v) + r).toNat w) 122 (r).toNat z) J7) Q := by
        intro I7 J7 w z hF hJ7 h4 hw2 hz
        subst hz
        have hwr : inR w := by
          rw [hw2]
          split
          · exact ⟨by omega, by omega⟩
          · exact ⟨by omega, by omega⟩
        have e22 : gi (si (si (si I7 113 ((6 * v) + r).toNat x) 114 ((6 * v) + r).toNat w) 122 (r).toNat z) 122 (r).toNat = z := gi_same _ _ _ ⟨by omega, by omega⟩
        obtain ⟨s1, s2, s3, s4⟩ := stop_3 (C := C) (light := z) (lf := H 4 r) (dn := donP L H r True) (it := H 5 r) (j := j) (by omega) c1 hce (by omega) h4 hgj
        refine B_X12_readsOn_33 (by omega) ?_
        rw [e22]
        refine ⟨⟨by omega, by omega⟩, fun w2 => absurd w2 hx1, fun _ => ⟨⟨by omega, by omega⟩, ⟨by omega, by omega⟩, fun _ => ?_, fun w2 => absurd (Int.le_refl _) w2⟩⟩
        have hwr2 : 1 ≤ (if j = 0 then donP L H r True else 0) + z - bgn C j ∧ (if j = 0 then donP L H r True else 0) + z - bgn C j ≤ 499 := by
          have hb00 : j = 0 → bgn C j = 0 := fun e => by unfold bgn; rw [if_pos e]
          by_cases e : j = 0
          · rw [if_pos e] at hcej ⊢
            have := hb00 e
            omega
          · rw [if_neg e] at hcej ⊢
            omega
        refine hQ _ J7 ?_ ⟨by rw [s1]; exact hcm, Or.inr ⟨by rw [s4]; exact hwr2, by rw [s3, s1, hcp]; exact hxm⟩⟩ ?_ ?_ (e22.trans s2.symm) (hJ.tr hJ7)
        · rw [s1]
          refine hA.mv (fun c k a1 a2 a3 a4 => ?_) (fun c k a1 => ?_)
          · rw [si_at, if_neg (by omega), si_at, if_neg (by omega), si_at, if_neg (by omega)]
            exact hF c k (by simp) (by simp; omega)
          · unfold tch at a1
            rw [si_at, if_neg (by omega), si_at, if_neg (by omega), si_at, if_neg (by omega)]
            exact hF c k (by simp) (by simp; omega)
        · rw [gi_cell _ _ _ _ (by decide), gi_cell _ _ _ _ (by decide), gi_same _ _ _ ⟨by omega, by omega⟩, s3, hcp]
        · rw [gi_cell _ _ _ _ (by decide), gi_same _ _ _ hwr, s4, hw2]
      have goon : ∀ (I7 : Nat → Nat → Int32) (J7 : Nat → Nat → Int64) (z : Int), Fr [] SA I2 I7 → Fr [121] [] J2 J7 → z = ce C j → ce C j ≤ light → WPm (k - 1) LAY m_X12_unlists [vR (some 74), vI ((6 * v) + r), vI x] (mem (P, some 5, some 22) (si (si (si I7 113 ((6 * v) + r).toNat (-1)) 114 ((6 * v) + r).toNat 0) 122 (r).toNat z) J7) (retV (fun I12 J13 => WPm (k - 1) LAY m_X12_writesDown [vR (some 74), vI v, vI r, vI x] (mem (P, some 5, some 22) (si (si (si I12 111 ((6 * v) + r).toNat (or32 (gi I12 111 ((6 * v) + r).toNat) (shl32 1 x))) 123 (r).toNat (or32 (gi I12 123 (r).toNat) (shl32 1 x))) 74 77 ((gi I12 74 77) + 1)) J13) (retV (fun I15 J16 => WPm (k - 1) LAY m_X12_nextPage [vR (some 74), vI v, vI r] (mem (P, some 5, some 22) I15 J16) (retI (fun v17 I18 J19 => WP k LAY m_X12_readsOn 33 [(0, vR (some 74)), (1, vI v), (2, vI r), (3, vI light), (4, vI ((6 * v) + r)), (5, vI v17), (6, vI 1)] [] (mem (P, some 5, some 22) I18 J19) Q) (P, some 5, some 22))) (P, some 5, some 22))) (P, some 5, some 22)) := by
        intro I7 J7 z hF hJ7 hz hcl
        have hA7 := hA
        obtain ⟨a1, a2, ⟨a3, a40, a48⟩, a5, a6, a7, a8⟩ := hA7
        have hzr : inR z := by rw [hz]; exact ⟨by omega, by omega⟩
        have m0 : ∀ c k, ¬ c = 113 → ¬ c = 114 → ¬ c = 122 → ¬ (c = 74 ∧ (k = 69 ∨ k = 70 ∨ k = 71)) → si (si (si I7 113 ((6 * v) + r).toNat (-1)) 114 ((6 * v) + r).toNat 0) 122 (r).toNat z c k = I2 c k := by
          intro c k b1 b2 b3 b4
          rw [si_at, if_neg (by omega), si_at, if_neg (by omega), si_at, if_neg (by omega)]
          exact hF c k (by simp) (by simp; omega)
        have m1 : ∀ c k : Nat, ¬ tch v r c k → si (si (si I7 113 ((6 * v) + r).toNat (-1)) 114 ((6 * v) + r).toNat 0) 122 (r).toNat z c k = I2 c k := by
          intro c k b1
          unfold tch at b1
          rw [si_at, if_neg (by omega), si_at, if_neg (by omega), si_at, if_neg (by omega)]
          exact hF c k (by simp) (by simp; omega)
        have m113 : gi (si (si (si I7 113 ((6 * v) + r).toNat (-1)) 114 ((6 * v) + r).toNat 0) 122 (r).toNat z) 113 ((6 * v) + r).toNat = -1 := by
          rw [gi_cell _ _ _ _ (by decide), gi_cell _ _ _ _ (by decide), gi_same _ _ _ (by decide)]
        have m114 : gi (si (si (si I7 113 ((6 * v) + r).toNat (-1)) 114 ((6 * v) + r).toNat 0) 122 (r).toNat z) 114 ((6 * v) + r).toNat = 0 := by
          rw [gi_cell _ _ _ _ (by decide), gi_same _ _ _ (by decide)]
        have m122 : gi (si (si (si I7 113 ((6 * v) + r).toNat (-1)) 114 ((6 * v) + r).toNat 0) 122 (r).toNat z) 122 (r).toNat = z := gi_same _ _ _ hzr
        have hA0 := hA.mv m0 m1
        generalize si (si (si I7 113 ((6 * v) + r).toNat (-1)) 114 ((6 * v) + r).toNat 0) 122 (r).toNat z = M0 at m113 m114 m122 hA0 ⊢
        obtain ⟨b1, b2, ⟨b3, b40, b48⟩, b5, b6, b7, b8⟩ := hA0
        refine S_X12_unlists (a := (6 * v) + r) (p := x) ⟨by omega, by omega⟩ ⟨by omega, by omega⟩ ⟨b40, b48⟩ (fun I12 u1 u2 u3 => ⟨_, _, rfl, rfl, ?_⟩)
        have hsh : shl32 1 x = ((2 ^ x.toNat : Nat) : Int) := by
          have e1 := shl1 (p := x.toNat) (by omega)
          rwa [Int.toNat_of_nonneg hxp.1] at e1
        have hp2 : 2 ^ x.toNat < 16384 := Nat.lt_of_lt_of_le (Nat.pow_lt_pow_right (by decide) (show x.toNat < 14 by omega)) (Nat.le_refl _)
        have hbt := bitT_lt (C := C) (fun k hk => by have := (hCr k hk).1; omega) j (by omega)
        have h2t : (H 2 r).toNat < 16384 := Nat.lt_of_lt_of_le hw.2.1.2 (pow_le14 (by omega))
        have hot : (H 2 r).toNat ||| bitT C j < 16384 := or_lt14 (n := 14) h2t hbt
        have v111 : gi I12 111 ((6 * v) + r).toNat = (((H 2 r).toNat ||| bitT C j : Nat) : Int) := (gi_eq (u1 111 _ (by omega) (by omega))).trans b2
        have v123 : gi I12 123 (r).toNat = ((bitT C j : Nat) : Int) := (gi_eq (u1 123 _ (by omega) (by omega))).trans b5
        have v77 : gi I12 74 77 = gi I 74 77 + j := (gi_eq (u1 74 77 (by omega) (by omega))).trans b6
        dsimp only
        rw [v111, v123, v77, hsh, or32_nat (by omega) (by omega), or32_nat (by omega) (by omega)]
        have n0 : ∀ c k, ¬ c = 111 → ¬ c = 123 → ¬ (c = 74 ∧ k = 77) → si (si (si I12 111 ((6 * v) + r).toNat ((((H 2 r).toNat ||| bitT C j) ||| 2 ^ x.toNat : Nat) : Int)) 123 (r).toNat ((bitT C j ||| 2 ^ x.toNat : Nat) : Int)) 74 77 (gi I 74 77 + j + 1) c k = I12 c k := by
          intro c k b1 b2 b3
          rw [si_at, if_neg (by omega), si_at, if_neg (by omega), si_at, if_neg (by omega)]
        have hor3 : ((H 2 r).toNat ||| bitT C j) ||| 2 ^ x.toNat < 16384 := or_lt14 (n := 14) hot hp2
        have hor4 : bitT C j ||| 2 ^ x.toNat < 16384 := or_lt14 (n := 14) hbt hp2
        have n111 : gi (si (si (si I12 111 ((6 * v) + r).toNat ((((H 2 r).toNat ||| bitT C j) ||| 2 ^ x.toNat : Nat) : Int)) 123 (r).toNat ((bitT C j ||| 2 ^ x.toNat : Nat) : Int)) 74 77 (gi I 74 77 + j + 1)) 111 ((6 * v) + r).toNat = ((((H 2 r).toNat ||| bitT C j) ||| 2 ^ x.toNat : Nat) : Int) := by
          rw [gi_cell _ _ _ _ (by decide), gi_cell _ _ _ _ (by decide), gi_same _ _ _ ⟨by omega, by omega⟩]
        have n123 : gi (si (si (si I12 111 ((6 * v) + r).toNat ((((H 2 r).toNat ||| bitT C j) ||| 2 ^ x.toNat : Nat) : Int)) 123 (r).toNat ((bitT C j ||| 2 ^ x.toNat : Nat) : Int)) 74 77 (gi I 74 77 + j + 1)) 123 (r).toNat = ((bitT C j ||| 2 ^ x.toNat : Nat) : Int) := by
          rw [gi_cell _ _ _ _ (by decide), gi_same _ _ _ ⟨by omega, by omega⟩]
        have n77 : gi (si (si (si I12 111 ((6 * v) + r).toNat ((((H 2 r).toNat ||| bitT C j) ||| 2 ^ x.toNat : Nat) : Int)) 123 (r).toNat ((bitT C j ||| 2 ^ x.toNat : Nat) : Int)) 74 77 (gi I 74 77 + j + 1)) 74 77 = gi I 74 77 + j + 1 := gi_same _ _ _ ⟨by omega, by omega⟩
        have nt : ∀ c k : Nat, ¬ tch v r c k → si (si (si I12 111 ((6 * v) + r).toNat ((((H 2 r).toNat ||| bitT C j) ||| 2 ^ x.toNat : Nat) : Int)) 123 (r).toNat ((bitT C j ||| 2 ^ x.toNat : Nat) : Int)) 74 77 (gi I 74 77 + j + 1) c k = I12 c k := by
          intro c k b1
          unfold tch at b1
          rw [si_at, if_neg (by omega), si_at, if_neg (by omega), si_at, if_neg (by omega)]
        generalize si (si (si I12 111 ((6 * v) + r).toNat ((((H 2 r).toNat ||| bitT C j) ||| 2 ^ x.toNat : Nat) : Int)) 123 (r).toNat ((bitT C j ||| 2 ^ x.toNat : Nat) : Int)) 74 77 (gi I 74 77 + j + 1) = M1 at n0 n111 n123 n77 nt ⊢
        have g0 : ∀ c k, ¬ c = 111 → ¬ c = 123 → ¬ (c = 74 ∧ k = 77) → ¬ c = 115 → ¬ c = 116 → M1 c k = M0 c k := fun c k p1 p2 p3 p4 p5 => (n0 c k p1 p2 p3).trans (u1 c k (by omega) (by omega))
        have e108 : gi M1 108 v.toNat = H 8 0 := by
          rw [gi_eq (g0 108 _ (by decide) (by decide) (by omega) (by decide) (by decide)), gi_eq (b1 108 _ (by unfold tch; omega))]
          exact rx_8 hX
        have e117 : gi M1 117 v.toNat = gi M0 117 v.toNat := gi_eq (g0 117 _ (by decide) (by decide) (by omega) (by decide) (by decide))
        refine S_X12_writes hv ⟨by omega, by omega⟩ ⟨by omega, by omega⟩ (by rw [e108]; exact hH8) (by rw [e117]; exact b8) (fun I15 y1 y2 y3 => ⟨_, _, rfl, rfl, ?_⟩)
        have y0 : ∀ c k, ¬ (117 ≤ c ∧ c ≤ 120) → I15 c k = M1 c k := fun c k p => y1 c k (by omega) (by omega)
        have hwo : (woN C (lsH H r) (j + 1)).length < (woN C (lsH H r) j).length := by
          show (wo (cp C j) (woN C (lsH H r) j)).length < (woN C (lsH H r) j).length
          rw [hcp]
          exact wo_lt hxm
        have hA15 : RdA I I15 v r H C (j + 1) := by
          refine ⟨fun c k p => ?_, ?_, ⟨?_, ?_⟩, ?_, ?_, ?_, y3⟩
          · have p' := p
            unfold tch at p'
            rw [y1 c k (by omega) (by omega), nt c k p, u1 c k (by omega) (by omega)]
            exact b1 c k p
          · rw [gi_eq (y0 111 _ (by decide)), n111, bitT, hcp, Nat.or_assoc]
          · rw [lsR_eq (y0 115 _ (by decide)) (fun k => y0 116 k (by decide)), lsR_eq (n0 115 _ (by decide) (by decide) (by omega)) (fun k => n0 116 k (by decide) (by decide) (by omega)), u2, b3, woN, hcp]
          · rw [show cnR I15 ((6 * v) + r) = cnR I12 ((6 * v) + r) from gi_eq ((y0 115 _ (by decide)).trans (n0 115 _ (by decide) (by decide) (by omega)))]
            exact u3
          · rw [gi_eq (y0 123 _ (by decide)), n123, bitT, hcp]
          · rw [gi_eq (y0 74 77 (by decide)), n77]
            omega
          · rw [y2, e108, kpL_eq (I := M0) (fun c k p q => g0 c k (by omega) (by omega) (by omega) (by omega) (by omega)), b7, psN, hcp]
        have z113 : gi I15 113 ((6 * v) + r).toNat = -1 := (gi_eq ((y0 113 _ (by decide)).trans (g0 113 _ (by decide) (by decide) (by omega) (by decide) (by decide)))).trans m113
        have z114 : gi I15 114 ((6 * v) + r).toNat = 0 := (gi_eq ((y0 114 _ (by decide)).trans (g0 114 _ (by decide) (by decide) (by omega) (by decide) (by decide)))).trans m114
        have z122 : gi I15 122 (r).toNat = z := (gi_eq ((y0 122 _ (by decide)).trans (g0 122 _ (by decide) (by decide) (by omega) (by decide) (by decide)))).trans m122
        have hcm' : ∀ i, i < j + 1 → cp C i ∈ woN C (lsH H r) i := by
          intro i hi
          rcases Nat.lt_or_ge i j with q | q
          · exact hcm i q
          · rw [show i = j by omega, hcp]
            exact hxm
        obtain ⟨hX5, -, -, kkn5, kls5, k45⟩ := hA15.rx hX hr (fun i hi => (woN_mem (hcm' i hi)).1) (Or.inr ⟨z113, z114⟩)
        have hb1 : bgn C (j + 1) = ce C j := by
          unfold bgn
          rw [if_neg (by omega)]
          rfl
        have hkk : kn H r ||| bitT C (j + 1) = (kn H r ||| bitT C j) ||| 2 ^ x.toNat := by
          rw [bitT, hcp]
          exact (Nat.or_assoc _ _ _).symm
        have hnx : fstP L (HR I15 v) r True = nxt L ((kn H r ||| bitT C j) ||| 2 ^ x.toNat) (lsH H r) := by
          have e1 : fstP L (HR I15 v) r True = nxt L (kn (HR I15 v) r) (lsH (HR I15 v) r) := by
            unfold fstP
            rw [if_neg (fun w => w.2.1 (k45.trans z113))]
          rw [e1, kkn5, kls5, woN_nxt (fun i hi => by rw [Nat.testBit_or, bitT_in hi, Bool.or_true]), hkk]
        refine S_X12_next (by omega) hX5 hr ⟨_, _, _, rfl, rfl, ?_⟩
        refine ih (j + 1) _ I15 J7 (by omega) ?_ hA15 (Or.inr ⟨by omega, z113, z114⟩) (by rw [z122, hz, hb1]) (fun w => absurd w (by omega)) ?_ hcm' ?_ (fun _ => by omega) (by omega) (by omega) (hJ.tr hJ7)
        · rw [c3, hnx, hkk, ← hcej, if_neg (show ¬ j + 1 = 0 by omega), hb1]
        · have := fstP_mem (hX5.2.2.1.2.2 r hr.1 hr.2)
          rwa [kls5] at this
        · intro i hi
          rcases Nat.lt_or_ge i j with q | q
          · exact hce i q
          · rw [show i = j by omega]
            exact hcl
      have h72' : gi I2 74 72 = -1 := (gi_eq (hA.1 74 72 (by unfold tch; omega))).trans h72
      have h73' : gi I2 74 73 = cold := (gi_eq (hA.1 74 73 (by unfold tch; omega))).trans h73
      have etk : takR L R (HR I2 v) (gi I2 74 73) r x (pop (kn (HR I2 v) r)) = t := by
        rw [h73', tkR (fun i i0 i1 => (k13 i i0 i1).1) hr k8, kkn, ht]
      refine ⟨fun q => ?_, fun q => ?_⟩
      · -- another page than the left one
        have hcj : ce C j = bgn C j + t := by
          rw [hcej]
          by_cases e : j = 0
          · have e0 : bgn C j = 0 := by unfold bgn; rw [if_pos e]
            have hB0 : gi I2 113 ((6 * v) + r).toNat = H 4 r := hB.elim (fun z => z.2.1) (fun z => absurd e z.1)
            have ed : donP L H r True = 0 := by
              unfold donP
              rw [if_neg (fun w => q (by rw [hB0, hx0 e]; exact w.2.2.symm))]
            rw [if_pos e, ed, e0]
            omega
          · rw [if_neg e]
            omega
        refine S_X12_long (L := L) (R := R) (H := HR I2 v) (kk := pop (kn (HR I2 v) r)) (by omega) hX2 hr hxp (kk_of (L := L) _ r h72') (fun I7 J7 hF hJ7 => ⟨_, _, _, rfl, rfl, ?_⟩)
        dsimp only
        rw [etk, hF.gv 122 _ (by simp) (by simp), h22]
        refine ⟨⟨by omega, by omega⟩, ⟨by omega, by omega⟩, fun w => stop3 I7 J7 _ _ hF hJ7 (by omega) ?_ (by omega), fun w => ⟨fun w2 => goon I7 J7 _ hF hJ7 (by omega) (by omega), fun w2 => absurd w2 (by omega)⟩⟩
        by_cases e : j = 0
        · have hB0 : gi I2 113 ((6 * v) + r).toNat = H 4 r := hB.elim (fun z => z.2.1) (fun z => absurd e z.1)
          have ed : donP L H r True = 0 := by
            unfold donP
            rw [if_neg (fun w => q (by rw [hB0, hx0 e]; exact w.2.2.symm))]
          rw [if_pos e, ed]
          omega
        · rw [if_neg e]
          omega
      · -- the page that he left
        have j0 : j = 0 := by
          rcases hB with hB | hB
          · exact hB.1
          · omega
        have hB0 : gi I2 113 ((6 * v) + r).toNat = H 4 r ∧ gi I2 114 ((6 * v) + r).toNat = H 5 r := hB.elim (fun z => z.2) (fun z => absurd j0 z.1)
        have e0 : bgn C j = 0 := by unfold bgn; rw [if_pos j0]
        have ed : donP L H r True = H 5 r := by
          unfold donP
          rw [if_pos ⟨trivial, by rw [← hx0 j0]; exact hx1, by rw [← hx0 j0, ← hB0.1]; exact q.symm⟩]
        rw [if_pos j0, ed] at hcej
        refine S_X12_long (L := L) (R := R) (H := HR I2 v) (kk := pop (kn (HR I2 v) r)) (by omega) hX2 hr hxp (kk_of (L := L) _ r h72') (fun I7 J7 hF hJ7 => ⟨_, _, _, rfl, rfl, ?_⟩)
        dsimp only
        rw [etk, hF.gv 122 _ (by simp) (by simp), h22, hB0.2]
        refine ⟨⟨by omega, by omega⟩, ⟨by omega, by omega⟩, fun w => stop3 I7 J7 _ _ hF hJ7 (by omega) ?_ (by omega), fun w => ⟨fun w2 => goon I7 J7 _ hF hJ7 (by omega) (by omega), fun w2 => goon I7 J7 _ hF hJ7 (by omega) (by omega)⟩⟩
        rw [if_pos j0, ed]
        omega
  refine WPm.of k_X12_readsOn.1 (Nat.le_of_ble_eq_true rfl) (B_X12_readsOn_0 (by omega) ⟨⟨by omega, by omega⟩, ?_⟩)
  have q0 : ∀ c k : Nat, ¬ ((c = 122 ∨ c = 123) ∧ (k : Int) = r) → si (si I 122 (r).toNat 0) 123 (r).toNat 0 c k = I c k := by
    intro c k p
    rw [si_at, if_neg (by omega), si_at, if_neg (by omega)]
  have q1 : ∀ c k, ¬ c = 122 → ¬ c = 123 → si (si I 122 (r).toNat 0) 123 (r).toNat 0 c k = I c k := fun c k p p' => q0 c k (by omega)
  have hX0 : RX (si (si I 122 (r).toNat 0) 123 (r).toNat 0) v L R H := hX.fr ⟨⟨fun c a b => funext fun k => q1 c k (by omega) (by omega), gi_eq (q1 74 13 (by decide) (by decide))⟩, fun c a b => funext fun k => q1 c k (by omega) (by omega)⟩
  refine S_X12_next (by omega) hX0 hr ⟨_, _, _, rfl, rfl, ?_⟩
  have q8 := hw.2.2.2.2.1
  have e15 : cnR (si (si I 122 (r).toNat 0) 123 (r).toNat 0) ((6 * v) + r) = H 6 r := (gi_eq (q1 115 _ (by decide) (by decide))).trans (rx_6 hX hr)
  refine loop 8 0 _ _ J rfl (by rw [if_pos rfl, show kn H r ||| bitT C 0 = kn H r from Nat.or_zero _]; exact hC0) ?_ (Or.inl ⟨rfl, (gi_eq (q1 113 _ (by decide) (by decide))).trans (rx_4 hX hr), (gi_eq (q1 114 _ (by decide) (by decide))).trans (rx_5 hX hr)⟩) ?_ (fun _ => rfl) (fstP_mem hw) (fun i hi => absurd hi (Nat.not_lt_zero _)) (fun i hi => absurd hi (Nat.not_lt_zero _)) (fun w => absurd w (Nat.lt_irrefl 0)) ?_ (Nat.zero_le _) (Fr.rf _ _ _)
  · refine ⟨fun c k p => q0 c k (fun w => p (by unfold tch; omega)), ?_, ⟨?_, by rw [e15]; exact q8⟩, gi_same _ _ _ (by decide), ?_, ?_, ?_⟩
    · rw [gi_eq (q1 111 _ (by decide) (by decide)), rx_2 hX hr]
      show H 2 r = (((H 2 r).toNat ||| 0 : Nat) : Int)
      rw [Nat.or_zero]
      have := hw.2.1.1
      omega
    · show lsR _ _ = lsH H r
      unfold lsR lsH
      rw [e15]
      refine lsF_congr (fun k k0 k1 => ?_)
      exact (gi_eq (q1 116 _ (by decide) (by decide))).trans (rx_7 hX hr ⟨k0, by omega⟩)
    · rw [gi_eq (q1 74 77 (by decide) (by decide))]
      exact (Int.add_zero _).symm
    · exact kpL_eq (fun c k p q => q1 c k (by omega) (by omega))
    · rw [gi_eq (q1 117 _ (by decide) (by decide))]
      exact h117
  · rw [gi_cell _ _ _ _ (by decide)]
    exact gi_same _ _ _ (by decide)
  · show (lsH H r).length + 0 ≤ 8
    unfold lsH
    rw [lsF_len]
    omega
end READS
