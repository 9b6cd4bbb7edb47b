section NITS
/-! ===== a night, as the records alone have it ===== -/
def cano (n : Int) (H : Hl) : Prop := (∀ (f : Nat) (i : Int), 1 ≤ f → f ≤ 6 → ¬ (0 ≤ i ∧ i < n) → H f i = 0) ∧ (∀ i, ¬ (0 ≤ i / 8 ∧ i / 8 < n) → H 7 i = 0) ∧ (∀ i, 0 ≤ i / 8 ∧ i / 8 < n → ¬ i % 8 < H 6 (i / 8) → H 7 i = 0) ∧ (∀ i, H 8 i = H 8 0) ∧ (∀ i, H 9 i = H 9 0) ∧ ∀ (f : Nat) (i : Int), f = 0 ∨ 10 ≤ f → H f i = 0
theorem cano_ext {n : Int} {H H' : Hl} (h : cano n H) (h' : cano n H') (hr : ∀ i, 0 ≤ i → i < n → H 1 i = H' 1 i ∧ H 2 i = H' 2 i ∧ H 3 i = H' 3 i ∧ H 4 i = H' 4 i ∧ H 5 i = H' 5 i ∧ lsH H i = lsH H' i ∧ (0 ≤ H 6 i ∧ H 6 i ≤ 8) ∧ (0 ≤ H' 6 i ∧ H' 6 i ≤ 8)) (h8 : H 8 0 = H' 8 0) (h9 : H 9 0 = H' 9 0) : H = H' := by
  obtain ⟨a1, a2, a3, a4, a5, a6⟩ := h
  obtain ⟨b1, b2, b3, b4, b5, b6⟩ := h'
  have h6 : ∀ i, 0 ≤ i → i < n → H 6 i = H' 6 i := by
    intro i i0 i1
    obtain ⟨-, -, -, -, -, hl, x1, x2⟩ := hr i i0 i1
    have := (lsF_inj hl).1
    omega
  have h7 : ∀ i k, 0 ≤ i → i < n → 0 ≤ k → k < H 6 i → H 7 (8 * i + k) = H' 7 (8 * i + k) := by
    intro i k i0 i1 k0 k1
    obtain ⟨-, -, -, -, -, hl, x1, x2⟩ := hr i i0 i1
    exact (lsF_inj hl).2 k k0 (by omega)
  have f16 : ∀ (f : Nat) (i : Int), 1 ≤ f → f ≤ 6 → H f i = H' f i := by
    intro f i f1 f6
    by_cases hi : 0 ≤ i ∧ i < n
    · obtain ⟨c1, c2, c3, c4, c5, -⟩ := hr i hi.1 hi.2
      have hc : f = 1 ∨ f = 2 ∨ f = 3 ∨ f = 4 ∨ f = 5 ∨ f = 6 := by omega
      rcases hc with rfl | rfl | rfl | rfl | rfl | rfl
      · exact c1
      · exact c2
      · exact c3
      · exact c4
      · exact c5
      · exact h6 i hi.1 hi.2
    · rw [a1 f i f1 f6 hi, b1 f i f1 f6 hi]
  have f7 : ∀ i, H 7 i = H' 7 i := by
    intro i
    by_cases hi : 0 ≤ i / 8 ∧ i / 8 < n
    · by_cases hk : i % 8 < H 6 (i / 8)
      · have := h7 (i / 8) (i % 8) hi.1 hi.2 (by omega) hk
        rwa [show 8 * (i / 8) + i % 8 = i by omega] at this
      · rw [a3 i hi hk, b3 i hi (by rw [← h6 _ hi.1 hi.2]; exact hk)]
    · rw [a2 i hi, b2 i hi]
  funext f i
  by_cases hf : f = 0 ∨ 10 ≤ f
  · rw [a6 f i hf, b6 f i hf]
  · have hc : (1 ≤ f ∧ f ≤ 6) ∨ f = 7 ∨ f = 8 ∨ f = 9 := by omega
    rcases hc with hc | rfl | rfl | rfl
    · exact f16 f i hc.1 hc.2
    · exact f7 i
    · rw [a4 i, b4 i, h8]
    · rw [a5 i, b5 i, h9]
theorem cano_HrC (row : Int → Int) (n : Int) : cano n (HrC row n) := by
  refine ⟨fun f i f1 f6 hi => ?_, fun i hi => tr_out hi, fun i hi hk => ?_, fun i => rfl, fun i => rfl, fun f i hf => HrC_big row n i hf⟩
  · have hc : f = 1 ∨ f = 2 ∨ f = 3 ∨ f = 4 ∨ f = 5 ∨ f = 6 := by omega
    rcases hc with rfl | rfl | rfl | rfl | rfl | rfl <;> exact tr_out hi
  · have e : HrC row n 6 (i / 8) = row ((3 + ((i / 8) * 14)) + 5) := tr_in hi
    rw [e] at hk
    have e7 : HrC row n 7 i = tr n (tr (row ((3 + ((i / 8) * 14)) + 5)) (row ((3 + ((i / 8) * 14)) + (6 + i % 8))) (i % 8)) (i / 8) := rfl
    rw [e7, tr_in hi]
    exact tr_out (fun q => hk q.2)
theorem HR_o1 (I : Nat → Nat → Int32) (v i : Int) (hi : ¬ (0 ≤ i ∧ i < gi I 83 (gi I 74 13).toNat)) : HR I v 1 i = 0 := tr_out hi
theorem HR_o2 (I : Nat → Nat → Int32) (v i : Int) (hi : ¬ (0 ≤ i ∧ i < gi I 83 (gi I 74 13).toNat)) : HR I v 2 i = 0 := tr_out hi
theorem HR_o3 (I : Nat → Nat → Int32) (v i : Int) (hi : ¬ (0 ≤ i ∧ i < gi I 83 (gi I 74 13).toNat)) : HR I v 3 i = 0 := tr_out hi
theorem HR_o4 (I : Nat → Nat → Int32) (v i : Int) (hi : ¬ (0 ≤ i ∧ i < gi I 83 (gi I 74 13).toNat)) : HR I v 4 i = 0 := tr_out hi
theorem HR_o5 (I : Nat → Nat → Int32) (v i : Int) (hi : ¬ (0 ≤ i ∧ i < gi I 83 (gi I 74 13).toNat)) : HR I v 5 i = 0 := tr_out hi
theorem HR_o6 (I : Nat → Nat → Int32) (v i : Int) (hi : ¬ (0 ≤ i ∧ i < gi I 83 (gi I 74 13).toNat)) : HR I v 6 i = 0 := tr_out hi
theorem HR_o7 (I : Nat → Nat → Int32) (v i : Int) (hi : ¬ (0 ≤ i / 8 ∧ i / 8 < gi I 83 (gi I 74 13).toNat)) : HR I v 7 i = 0 := tr_out hi
theorem HR_i6 (I : Nat → Nat → Int32) (v i : Int) (hi : 0 ≤ i ∧ i < gi I 83 (gi I 74 13).toNat) : HR I v 6 i = gi I 115 ((6 * v) + i).toNat := tr_in hi
theorem HR_i7 (I : Nat → Nat → Int32) (v i : Int) (hi : 0 ≤ i / 8 ∧ i / 8 < gi I 83 (gi I 74 13).toNat) (hk : ¬ i % 8 < HR I v 6 (i / 8)) : HR I v 7 i = 0 := by
  rw [HR_i6 I v _ hi] at hk
  have e7 : HR I v 7 i = tr (gi I 83 (gi I 74 13).toNat) (tr (gi I 115 ((6 * v) + (i / 8)).toNat) (gi I 116 ((8 * ((6 * v) + (i / 8))) + i % 8).toNat) (i % 8)) (i / 8) := rfl
  rw [e7, tr_in hi]
  exact tr_out (fun q => hk q.2)
theorem HR_v8 (I : Nat → Nat → Int32) (v i : Int) : HR I v 8 i = gi I 108 v.toNat := rfl
theorem HR_v9 (I : Nat → Nat → Int32) (v i : Int) : HR I v 9 i = gi I 109 v.toNat := rfl
theorem HR_c8 (I : Nat → Nat → Int32) (v i : Int) : HR I v 8 i = HR I v 8 0 := (HR_v8 I v i).trans (HR_v8 I v 0).symm
theorem HR_c9 (I : Nat → Nat → Int32) (v i : Int) : HR I v 9 i = HR I v 9 0 := (HR_v9 I v i).trans (HR_v9 I v 0).symm
theorem HR_o16 (I : Nat → Nat → Int32) (v : Int) (f : Nat) (i : Int) (f1 : 1 ≤ f) (f6 : f ≤ 6) (hi : ¬ (0 ≤ i ∧ i < gi I 83 (gi I 74 13).toNat)) : HR I v f i = 0 := by
  have hc : f = 1 ∨ f = 2 ∨ f = 3 ∨ f = 4 ∨ f = 5 ∨ f = 6 := by omega
  rcases hc with e | e | e | e | e | e
  · rw [e]; exact HR_o1 I v i hi
  · rw [e]; exact HR_o2 I v i hi
  · rw [e]; exact HR_o3 I v i hi
  · rw [e]; exact HR_o4 I v i hi
  · rw [e]; exact HR_o5 I v i hi
  · rw [e]; exact HR_o6 I v i hi
theorem cano_HR (I : Nat → Nat → Int32) (v : Int) : cano (gi I 83 (gi I 74 13).toNat) (HR I v) := ⟨HR_o16 I v, HR_o7 I v, HR_i7 I v, HR_c8 I v, HR_c9 I v, fun f i hf => HR_big I v i hf⟩
theorem lsF_getD (l : List Int) : lsF (fun k => l.getD k.toNat 0) l.length = l := by
  apply List.ext_getElem
  · rw [lsF_len]
  · intro i h1 h2
    rw [lsF_getE]
    show l.getD ((i : Int)).toNat 0 = l[i]
    rw [Int.toNat_natCast, List.getD_eq_getElem?_getD, List.getElem?_eq_getElem h2]
    rfl
theorem woN_in {C : List (Int × Int)} {l : List Int} {p : Int} : ∀ {j : Nat}, p ∈ l → (∀ i, i < j → ¬ p = cp C i) → p ∈ woN C l j
  | 0, h, _ => h
  | j + 1, h, hn => List.mem_filter.mpr ⟨woN_in h (fun i hi => hn i (Nat.lt_succ_of_lt hi)), decide_eq_true (hn j (Nat.lt_succ_self j))⟩
theorem woN_len {C : List (Int × Int)} {l : List Int} : ∀ j : Nat, (woN C l j).length ≤ l.length
  | 0 => Nat.le_refl _
  | j + 1 => Nat.le_trans (wo_len _ _) (woN_len j)
theorem crs_new {tk : Nat → Int → Int} {L : Lb} {l : List Int} : ∀ (n kk : Nat) (p m : Int), (p = -1 ∨ p ∈ l ∧ kk.testBit p.toNat = false) → ∀ j, j < (crs tk L l n kk p m).length → (cp (crs tk L l n kk p m) j ∈ l ∧ kk.testBit (cp (crs tk L l n kk p m) j).toNat = false) ∧ ∀ i, i < j → ¬ cp (crs tk L l n kk p m) i = cp (crs tk L l n kk p m) j
  | 0, _, _, _, _ => fun j hj => absurd hj (Nat.not_lt_zero _)
  | n + 1, kk, p, m, hp => by
    intro j hj
    by_cases e : p = -1
    · have ec : crs tk L l (n + 1) kk p m = [] := if_pos e
      rw [ec] at hj
      exact absurd hj (Nat.not_lt_zero _)
    · obtain ⟨p1, p2⟩ := hp.resolve_left e
      have ec : crs tk L l (n + 1) kk p m = (p, max 0 (m + tk kk p)) :: crs tk L l n (kk ||| 2 ^ p.toNat) (nxt L (kk ||| 2 ^ p.toNat) l) (max 0 (m + tk kk p)) := if_neg e
      have ih := crs_new (tk := tk) (L := L) (l := l) n (kk ||| 2 ^ p.toNat) (nxt L (kk ||| 2 ^ p.toNat) l) (max 0 (m + tk kk p)) ((nxt_in (L := L) (kk := kk ||| 2 ^ p.toNat) (l := l)).imp id (fun q => ⟨q.1, q.2.1⟩))
      rw [ec] at hj ⊢
      generalize crs tk L l n (kk ||| 2 ^ p.toNat) (nxt L (kk ||| 2 ^ p.toNat) l) (max 0 (m + tk kk p)) = C at hj ih ⊢
      cases j with
      | zero => exact ⟨⟨p1, p2⟩, fun i hi => absurd hi (Nat.not_lt_zero _)⟩
      | succ j =>
        obtain ⟨⟨a1, a2⟩, a3⟩ := ih j (Nat.lt_of_succ_lt_succ hj)
        rw [Nat.testBit_or, Bool.or_eq_false_iff] at a2
        refine ⟨⟨a1, a2.1⟩, fun i hi => ?_⟩
        cases i with
        | zero =>
          intro w
          have w' : p = cp C j := w
          rw [← w', Nat.testBit_two_pow_self] at a2
          exact Bool.noConfusion a2.2
        | succ i => exact a3 i (Nat.lt_of_succ_lt_succ hi)
theorem crs_stp {tk : Nat → Int → Int} {L : Lb} {l : List Int} (ht : ∀ kk p, 0 ≤ p ∧ p < nP L → 1 ≤ tk kk p ∧ tk kk p ≤ 500) (hl : ∀ p ∈ l, 0 ≤ p ∧ p < nP L) : ∀ (n kk : Nat) (p m : Int), (p = -1 ∨ 0 ≤ p ∧ p < nP L) → ∀ j, j < (crs tk L l n kk p m).length → ∃ t : Int, 1 ≤ t ∧ t ≤ 500 ∧ ce (crs tk L l n kk p m) j = max 0 ((if j = 0 then m else ce (crs tk L l n kk p m) (j - 1)) + t)
  | 0, _, _, _, _ => fun j hj => absurd hj (Nat.not_lt_zero _)
  | n + 1, kk, p, m, hp => by
    intro j hj
    by_cases e : p = -1
    · have ec : crs tk L l (n + 1) kk p m = [] := if_pos e
      rw [ec] at hj
      exact absurd hj (Nat.not_lt_zero _)
    · have p1 := hp.resolve_left e
      have ec : crs tk L l (n + 1) kk p m = (p, max 0 (m + tk kk p)) :: crs tk L l n (kk ||| 2 ^ p.toNat) (nxt L (kk ||| 2 ^ p.toNat) l) (max 0 (m + tk kk p)) := if_neg e
      have ih := crs_stp ht hl n (kk ||| 2 ^ p.toNat) (nxt L (kk ||| 2 ^ p.toNat) l) (max 0 (m + tk kk p)) ((nxt_in (L := L) (kk := kk ||| 2 ^ p.toNat) (l := l)).imp id (fun q => hl _ q.1))
      rw [ec] at hj ⊢
      generalize hC : crs tk L l n (kk ||| 2 ^ p.toNat) (nxt L (kk ||| 2 ^ p.toNat) l) (max 0 (m + tk kk p)) = C at hj ih ⊢
      cases j with
      | zero => exact ⟨tk kk p, (ht kk p p1).1, (ht kk p p1).2, rfl⟩
      | succ j =>
        obtain ⟨t, t1, t2, t3⟩ := ih j (Nat.lt_of_succ_lt_succ hj)
        refine ⟨t, t1, t2, ?_⟩
        rw [if_neg (Nat.succ_ne_zero j)]
        cases j with
        | zero => exact t3
        | succ j => exact t3
theorem cutN_gt {light : Int} : ∀ {C : List (Int × Int)}, cutN light C < C.length → light < ce C (cutN light C)
  | [], h => absurd h (Nat.not_lt_zero _)
  | q :: c, h => by
    by_cases e : q.2 ≤ light
    · have ec : cutN light (q :: c) = cutN light c + 1 := if_pos e
      rw [ec] at h ⊢
      exact cutN_gt (C := c) (Nat.lt_of_succ_lt_succ h)
    · have ec : cutN light (q :: c) = 0 := if_neg e
      rw [ec]
      exact Int.not_le.mp e
theorem coN_wfE {L : Lb} {R : Rl} {H : Hl} (hL : WfL L) (hH : WfH L H) {cold r : Int} (hr : 0 ≤ r ∧ r < nR L) : WfE (coN L R H cold r) (lsH H r) (ltN L R H cold (H 1 r)) (H 4 r) (donP L H r True) (H 5 r) := by
  have hw := hH.2.2 r hr.1 hr.2
  have hlt : 0 ≤ ltN L R H cold (H 1 r) ∧ ltN L R H cold (H 1 r) ≤ 3000 := lig_bd (R := R) H hL (H 1 r) (dr L cold (H 1 r))
  have hnew : ∀ j, j < (coN L R H cold r).length → (cp (coN L R H cold r) j ∈ lsH H r ∧ (kn H r).testBit (cp (coN L R H cold r) j).toNat = false) ∧ ∀ i, i < j → ¬ cp (coN L R H cold r) i = cp (coN L R H cold r) j := crs_new 8 (kn H r) (fstP L H r True) (- donP L H r True) ((fstP_mem hw).imp id (fun q => ⟨q, lsH_new hw q⟩))
  have hst : ∀ j, j < (coN L R H cold r).length → ∃ t : Int, 1 ≤ t ∧ t ≤ 500 ∧ ce (coN L R H cold r) j = max 0 ((if j = 0 then - donP L H r True else ce (coN L R H cold r) (j - 1)) + t) := crs_stp (tk := tkS L R H r (dr L cold (H 1 r)) (sit L H (H 1 r))) (fun kk p hp => takS_in hL hp) (fun p hp => lsH_rng hw hp) 8 (kn H r) (fstP L H r True) (- donP L H r True) (fstP_rng hw True)
  have hlr := left_rng hw
  have hdn : 0 ≤ donP L H r True ∧ donP L H r True ≤ 499 := by
    unfold donP
    split <;> omega
  have h45 : H 4 r = -1 ∧ H 5 r = 0 ∨ (1 ≤ H 5 r ∧ H 5 r ≤ 499) ∧ H 4 r ∈ lsH H r := by
    rcases hw.2.2.2.2.2.2 with q | ⟨q, k, k0, k1, k2⟩
    · exact Or.inl q
    · exact Or.inr ⟨q, lsF_mem.mpr ⟨k, k0, by omega, k2⟩⟩
  generalize ltN L R H cold (H 1 r) = light at hlt ⊢
  generalize coN L R H cold r = C at hnew hst ⊢
  generalize donP L H r True = dn at hst hdn ⊢
  have hle := rdn_le light C
  refine ⟨fun i hi => woN_in (hnew i (by omega)).1.1 (fun k hk w => (hnew i (by omega)).2 k hk w.symm), ?_⟩
  unfold lfN itN
  by_cases q : light = 0 ∨ C.length = 0
  · have e : rdn light C = 0 := by
      rcases q with q | q
      · unfold rdn
        rw [if_pos (by omega)]
      · omega
    rw [if_pos q, if_pos q, e]
    exact h45
  · rw [if_neg q, if_neg q]
    by_cases q2 : rdn light C < C.length ∧ bgn C (rdn light C) < light
    · rw [if_pos q2, if_pos q2]
      have hc : light < ce C (rdn light C) := by
        have e : rdn light C = cutN light C := by
          unfold rdn
          rw [if_neg (by omega)]
        rw [e] at q2 ⊢
        exact cutN_gt q2.1
      obtain ⟨t, t1, t5, te⟩ := hst _ q2.1
      refine Or.inr ⟨?_, woN_in (hnew _ q2.1).1.1 (fun k hk w => (hnew _ q2.1).2 k hk w.symm)⟩
      have hb : bgn C (rdn light C) = if rdn light C = 0 then 0 else ce C (rdn light C - 1) := rfl
      have q3 := q2.2
      rw [hb] at q3 ⊢
      by_cases z : rdn light C = 0
      · rw [if_pos z] at te q3 ⊢
        rw [if_pos z]
        omega
      · rw [if_neg z] at te q3 ⊢
        rw [if_neg z]
        omega
    · rw [if_neg q2, if_neg q2]
      exact Or.inl ⟨rfl, rfl⟩
abbrev wlN (L : Lb) (R : Rl) (H : Hl) (cold i : Int) : List Int := woN (coN L R H cold i) (lsH H i) (rdC L R H cold i)
def nitH (L : Lb) (R : Rl) (H : Hl) (cold : Int) : Hl := fun f i => match f with
  | 1 => tr (nR L) (H 1 i) i
  | 2 => tr (nR L) (((H 2 i).toNat ||| bitT (coN L R H cold i) (rdC L R H cold i) : Nat) : Int) i
  | 3 => tr (nR L) (H 3 i) i
  | 4 => tr (nR L) (lfN (ltN L R H cold (H 1 i)) (coN L R H cold i) (H 4 i)) i
  | 5 => tr (nR L) (itN (ltN L R H cold (H 1 i)) (coN L R H cold i) (donP L H i True) (H 5 i)) i
  | 6 => tr (nR L) ((wlN L R H cold i).length : Int) i
  | 7 => tr (nR L) (tr ((wlN L R H cold (i / 8)).length : Int) ((wlN L R H cold (i / 8)).getD (i % 8).toNat 0) (i % 8)) (i / 8)
  | 8 => H 8 0 + 1
  | 9 => min 9999 (H 9 0 + waA L R H cold)
  | _ => 0
theorem nit_big (L : Lb) (R : Rl) (H : Hl) (cold i : Int) {f : Nat} (hf : f = 0 ∨ 10 ≤ f) : nitH L R H cold f i = 0 := by
  unfold nitH
  split <;> first | omega | rfl
theorem cano_nit (L : Lb) (R : Rl) (H : Hl) (cold : Int) : cano (nR L) (nitH L R H cold) := by
  refine ⟨fun f i f1 f6 hi => ?_, fun i hi => tr_out hi, fun i hi hk => ?_, fun i => rfl, fun i => rfl, fun f i hf => nit_big L R H cold i hf⟩
  · have hc : f = 1 ∨ f = 2 ∨ f = 3 ∨ f = 4 ∨ f = 5 ∨ f = 6 := by omega
    rcases hc with rfl | rfl | rfl | rfl | rfl | rfl <;> exact tr_out hi
  · have e : nitH L R H cold 6 (i / 8) = ((wlN L R H cold (i / 8)).length : Int) := tr_in hi
    rw [e] at hk
    have e7 : nitH L R H cold 7 i = tr (nR L) (tr ((wlN L R H cold (i / 8)).length : Int) ((wlN L R H cold (i / 8)).getD (i % 8).toNat 0) (i % 8)) (i / 8) := rfl
    rw [e7, tr_in hi]
    exact tr_out (fun q => hk q.2)
theorem wlN_len {L : Lb} {R : Rl} {H : Hl} (hH : WfH L H) {cold i : Int} (hi : 0 ≤ i ∧ i < nR L) : (wlN L R H cold i).length ≤ 8 := by
  have h1 := woN_len (C := coN L R H cold i) (l := lsH H i) (rdC L R H cold i)
  have h2 : (lsH H i).length = (H 6 i).toNat := lsF_len _ _
  have h3 := (hH.2.2 i hi.1 hi.2).2.2.2.2.1
  show (woN (coN L R H cold i) (lsH H i) (rdC L R H cold i)).length ≤ 8
  omega
theorem nit_7 {L : Lb} {R : Rl} {H : Hl} {cold i k : Int} (hi : 0 ≤ i ∧ i < nR L) (hk : 0 ≤ k ∧ k < ((wlN L R H cold i).length : Int)) (h8 : k < 8) : nitH L R H cold 7 (8 * i + k) = (wlN L R H cold i).getD k.toNat 0 := by
  have e7 : nitH L R H cold 7 (8 * i + k) = tr (nR L) (tr ((wlN L R H cold ((8 * i + k) / 8)).length : Int) ((wlN L R H cold ((8 * i + k) / 8)).getD ((8 * i + k) % 8).toNat 0) ((8 * i + k) % 8)) ((8 * i + k) / 8) := rfl
  have d1 : (8 * i + k) / 8 = i := by omega
  have d2 : (8 * i + k) % 8 = k := by omega
  rw [e7, d1, d2, tr_in hi, tr_in hk]
theorem lsH_nit {L : Lb} {R : Rl} {H : Hl} (hH : WfH L H) {cold i : Int} (hi : 0 ≤ i ∧ i < nR L) : lsH (nitH L R H cold) i = wlN L R H cold i := by
  have e6 : nitH L R H cold 6 i = ((wlN L R H cold i).length : Int) := tr_in hi
  have h8 := wlN_len (R := R) hH (cold := cold) hi
  unfold lsH
  rw [e6, Int.toNat_natCast]
  refine Eq.trans (lsF_congr (fun k k0 k1 => ?_)) (lsF_getD (wlN L R H cold i))
  exact nit_7 hi ⟨k0, k1⟩ (by omega)
theorem nit_new {L : Lb} {R : Rl} {H : Hl} (hL : WfL L) (hH : WfH L H) {cold i : Int} (hi : 0 ≤ i ∧ i < nR L) : NewE L R H cold (nitH L R H cold) i := ⟨tr_in hi, tr_in hi, tr_in hi, lsH_nit hH hi, coN_wfE hL hH hi⟩
theorem nit_wf {L : Lb} {R : Rl} {H : Hl} (hL : WfL L) (hH : WfH L H) (h8 : H 8 0 ≤ 998) (cold : Int) : WfH L (nitH L R H cold) := by
  have hP := hL.2.1
  have wx := waA_bd (R := R) hL hH (cold := cold)
  refine ⟨⟨?_, ?_⟩, ⟨?_, ?_⟩, fun r r0 r1 => ?_⟩
  · show 0 ≤ H 8 0 + 1
    have := hH.1
    omega
  · show H 8 0 + 1 ≤ 999
    omega
  · show 0 ≤ min 9999 (H 9 0 + waA L R H cold)
    have := hH.2.1
    omega
  · show min 9999 (H 9 0 + waA L R H cold) ≤ 9999
    omega
  have hr : 0 ≤ r ∧ r < nR L := ⟨r0, r1⟩
  have hw := hH.2.2 r r0 r1
  obtain ⟨w1, w2, w3, w4, w5, w6, w7⟩ := hw.rc
  have hE := coN_wfE (R := R) hL hH (cold := cold) hr
  have hlen := wlN_len (R := R) hH (cold := cold) hr
  have hrg : ∀ p, p ∈ lsH H r → 0 ≤ p ∧ p < nP L := fun p hp => lsH_rng hw hp
  have hm : ∀ i, i < rdC L R H cold r → cp (coN L R H cold r) i ∈ lsH H r := fun i hi => (woN_mem (hE.1 i hi)).1
  have hnd : (wlN L R H cold r).Pairwise (fun a b => ¬ a = b) := by
    refine woN_nd ?_ _
    exact lsF_nd.mpr (fun i k i0 ik k1 => (w6 k (by omega) (by omega)).2.2 i i0 ik)
  have hmem : ∀ p, p ∈ wlN L R H cold r → p ∈ lsH H r ∧ ∀ i, i < rdC L R H cold r → ¬ p = cp (coN L R H cold r) i := fun p hp => woN_mem hp
  have hE2 : lfN (ltN L R H cold (H 1 r)) (coN L R H cold r) (H 4 r) = -1 ∧ itN (ltN L R H cold (H 1 r)) (coN L R H cold r) (donP L H r True) (H 5 r) = 0 ∨ (1 ≤ itN (ltN L R H cold (H 1 r)) (coN L R H cold r) (donP L H r True) (H 5 r) ∧ itN (ltN L R H cold (H 1 r)) (coN L R H cold r) (donP L H r True) (H 5 r) ≤ 499) ∧ lfN (ltN L R H cold (H 1 r)) (coN L R H cold r) (H 4 r) ∈ wlN L R H cold r := hE.2
  have e7 : ∀ k, 0 ≤ k → k < ((wlN L R H cold r).length : Int) → nitH L R H cold 7 (8 * r + k) = (wlN L R H cold r).getD k.toNat 0 := fun k k0 k1 => nit_7 hr ⟨k0, k1⟩ (by omega)
  refine WfO.of (s1 := H 1 r) (s2 := (((H 2 r).toNat ||| bitT (coN L R H cold r) (rdC L R H cold r) : Nat) : Int)) (s3 := H 3 r) (s4 := lfN (ltN L R H cold (H 1 r)) (coN L R H cold r) (H 4 r)) (s5 := itN (ltN L R H cold (H 1 r)) (coN L R H cold r) (donP L H r True) (H 5 r)) (s6 := ((wlN L R H cold r).length : Int)) (l := fun k => (wlN L R H cold r).getD k.toNat 0) ?_ (tr_in hr) (tr_in hr) (tr_in hr) (tr_in hr) (tr_in hr) (tr_in hr) e7
  clear e7
  generalize wlN L R H cold r = W at hlen hnd hmem hE2 ⊢
  generalize lfN (ltN L R H cold (H 1 r)) (coN L R H cold r) (H 4 r) = z4 at hE2 ⊢
  generalize itN (ltN L R H cold (H 1 r)) (coN L R H cold r) (donP L H r True) (H 5 r) = z5 at hE2 ⊢
  generalize rdC L R H cold r = j at hm hmem ⊢
  generalize coN L R H cold r = C at hm hmem ⊢
  have hbl : ∀ n, n ≤ j → bitT C n < 2 ^ (nP L).toNat := by
    intro n
    induction n with
    | zero => exact fun _ => Nat.two_pow_pos _
    | succ n ih =>
      intro hn
      have := hrg _ (hm n (by omega))
      exact or_lt14 (ih (by omega)) (Nat.pow_lt_pow_right (by decide) (by omega))
  have hnew : ∀ i, i < j → (kn H r).testBit (cp C i).toNat = false := fun i hi => lsH_new hw (hm i hi)
  have hdis : ((H 2 r).toNat ||| bitT C j) &&& (H 3 r).toNat = 0 := by
    refine Nat.eq_of_testBit_eq (fun b => ?_)
    have h0 : ((H 2 r).toNat &&& (H 3 r).toNat).testBit b = false := by rw [w4]; exact Nat.zero_testBit b
    rw [Nat.testBit_and, Nat.testBit_or, Nat.zero_testBit]
    rw [Nat.testBit_and] at h0
    cases e : (bitT C j).testBit b with
    | false => rw [Bool.or_false]; exact h0
    | true =>
      by_cases ex : ∃ i, i < j ∧ (cp C i).toNat = b
      · obtain ⟨i, hi, hb⟩ := ex
        have := hnew i hi
        rw [hb, Nat.testBit_or, Bool.or_eq_false_iff] at this
        rw [this.2, Bool.and_false]
      · rw [bitT_out (fun i hi w => ex ⟨i, hi, w⟩)] at e
        exact Bool.noConfusion e
  have hW := lsF_getD W
  have hnd' : ∀ i k : Int, 0 ≤ i → i < k → k < (W.length : Int) → ¬ W.getD i.toNat 0 = W.getD k.toNat 0 := by
    have := lsF_nd (f := fun k => W.getD k.toNat 0) (n := W.length)
    rw [hW] at this
    exact this.mp hnd
  have hin : ∀ k : Int, 0 ≤ k → k < (W.length : Int) → W.getD k.toNat 0 ∈ W := by
    intro k k0 k1
    have := lsF_mem (f := fun k => W.getD k.toNat 0) (n := W.length) (v := W.getD k.toNat 0)
    rw [hW] at this
    exact this.mpr ⟨k, k0, k1, rfl⟩
  refine ⟨w1, ⟨by omega, by rw [Int.toNat_natCast]; exact or_lt14 w2.2 (hbl j (Nat.le_refl _))⟩, w3, by rw [Int.toNat_natCast]; exact hdis, ⟨by omega, by omega⟩, fun k k0 k1 => ?_, ?_⟩
  · dsimp only
    obtain ⟨m1, m2⟩ := hmem _ (hin k k0 k1)
    refine ⟨hrg _ m1, ?_, fun i i0 i1 => hnd' i k i0 i1 k1⟩
    have h1 := lsH_new hw m1
    have hr0 := hrg _ m1
    rw [Nat.testBit_or, Bool.or_eq_false_iff] at h1
    rw [Int.toNat_natCast, Nat.testBit_or, Nat.testBit_or, h1.1, h1.2, bitT_out (fun i hi w => m2 i hi ?_)]
    · rfl
    · have := hrg _ (hm i hi)
      omega
  · rcases hE2 with hs | ⟨hs, hmm⟩
    · exact Or.inl hs
    · refine Or.inr ⟨hs, ?_⟩
      have := lsF_mem (f := fun k => W.getD k.toNat 0) (n := W.length) (v := z4)
      rw [hW] at this
      obtain ⟨k', a, b, c⟩ := this.mp hmm
      exact ⟨k', a, b, c⟩
theorem nit_rd {L : Lb} {R : Rl} {H : Hl} (hL : WfL L) (hH : WfH L H) (cold : Int) : rdN L (nitH L R H cold) = rdN L H + allR L R H cold := rdN_new hL hH (fun i i0 i1 => nit_new hL hH ⟨i0, i1⟩)
theorem rdN_le {L : Lb} {H : Hl} (hL : WfL L) : rdN L H ≤ 84 := by
  have hR6 := hL.2.2.1
  have h := smi_bd (n := (nR L).toNat) (f := fun r => (pop (H 2 (r : Int)).toNat : Int)) (b := 14) (by decide) (fun i hi => by
    have := pop_le (H 2 (i : Int)).toNat
    show 0 ≤ (pop (H 2 (i : Int)).toNat : Int) ∧ (pop (H 2 (i : Int)).toNat : Int) ≤ 14
    omega)
  unfold rdN
  omega
end NITS
