section REFEVEN
/-! ===== the reference: the next page, the pages kept ===== -/
theorem nxt_wo {L : Lb} {kk : Nat} {p : Int} (hb : kk.testBit p.toNat = true) : ∀ l : List Int, nxt L kk (wo p l) = nxt L kk l
  | [] => rfl
  | q :: l => by
    have ih := nxt_wo (L := L) hb l
    by_cases e : q = p
    · subst e
      have e1 : wo q (q :: l) = wo q l := by simp [wo]
      rw [e1, ih, nxt, if_neg (fun z => by rw [hb] at z; exact Bool.noConfusion z.1)]
    · have e1 : wo p (q :: l) = q :: wo p l := by simp [wo, e]
      rw [e1, nxt, nxt, ih]
theorem wo_lt {p : Int} : ∀ {l : List Int}, p ∈ l → (wo p l).length < l.length
  | [], h => absurd h (by simp)
  | q :: l, h => by
    have h0 := wo_len p l
    by_cases e : q = p
    · subst e
      have e1 : wo q (q :: l) = wo q l := by simp [wo]
      rw [e1, List.length_cons]
      omega
    · have e1 : wo p (q :: l) = q :: wo p l := by simp [wo, e]
      have hm : p ∈ l := (List.mem_cons.mp h).elim (fun z => absurd z.symm e) id
      have := wo_lt hm
      rw [e1, List.length_cons, List.length_cons]
      omega
theorem S_X12_next {k : Nat} {P : Option Nat} {I : Nat → Nat → Int32} {J : Nat → Nat → Int64} {Q : Option AV → Mem → Prop} {v : Int} {L : Lb} {R : Rl} {H : Hl} {r : Int} (hk : 2 ≤ k) (hX : RX I v L R H) (hr : 0 ≤ r ∧ r < nR L) (hQ : Q (some (vI (fstP L H r True))) (mem (rv0 P) I J)) : WPm k LAY m_X12_nextPage [vR (some 74), vI v, vI r] (mem (rv0 P) I J) Q := by
  have hL := hX.1.2.2.2.2.1
  have hR6 := hL.2.2.1
  have hP := hL.2.1
  have hv := hX.2.2.2
  have hb := rx_b hX
  have hw := hX.2.2.1.2.2 r hr.1 hr.2
  have q8 := hw.2.2.2.2.1
  have hkk := (kn_lt hL hX.2.2.1 hr).2
  have hl4 := (left_rng hw).1
  have loop : ∀ (d : Nat) (x : Int), 0 ≤ x → x + d = H 6 r → nxt L (kn H r) (lsT (fun k => H 7 (8 * r + k)) x d) = fstP L H r True → WP k LAY m_X12_nextPage 42 [(0, vR (some 74)), (1, vI v), (2, vI r), (3, vI ((6 * v) + r)), (4, vI x)] [] (mem (rv0 P) I J) Q := by
    intro d
    induction d with
    | zero =>
      intro x h0 hx he
      refine B_X12_nextPage_42 (by omega) ?_
      rw [rx_6 hX hr]
      exact ⟨⟨by omega, by omega⟩, ⟨by omega, by omega⟩, fun _ => Qat hQ he.symm, fun q => absurd q (by omega)⟩
    | succ d ih =>
      intro x h0 hx he
      obtain ⟨hv7, hu7, -⟩ := hw.2.2.2.2.2.1 x h0 (by omega)
      refine B_X12_nextPage_42 (by omega) ?_
      rw [rx_6 hX hr, rx_7 hX hr (k := x) ⟨by omega, by omega⟩, rx_L4 hX hv7, rx_kn hX hr, may_iff hL hv7 hkk]
      rw [lsT, nxt] at he
      refine ⟨⟨by omega, by omega⟩, ⟨by omega, by omega⟩, fun q => absurd q (by omega), fun _ => ⟨⟨by omega, by omega⟩, ⟨by omega, by omega⟩, ⟨by omega, by omega⟩, fun q => ?_, fun q => ?_⟩⟩
      · rw [if_neg (fun z => q z.2)] at he
        exact ih (x + 1) (by omega) (by omega) he
      · rw [if_pos ⟨hu7, q⟩] at he
        exact Qat hQ he.symm
  have go : fstP L H r True = nxt L (kn H r) (lsH H r) → WP k LAY m_X12_nextPage 42 [(0, vR (some 74)), (1, vI v), (2, vI r), (3, vI ((6 * v) + r)), (4, vI 0)] [] (mem (rv0 P) I J) Q := fun e => loop (H 6 r).toNat 0 (by decide) (by omega) (by rw [lsT_F, e]; rfl)
  refine WPm.of k_X12_nextPage.1 (Nat.le_of_ble_eq_true rfl) (B_X12_nextPage_0 (by omega) ?_)
  rw [rx_4 hX hr]
  refine ⟨⟨by omega, by omega⟩, fun q => ?_, fun q => ?_⟩
  · exact go (by unfold fstP; rw [if_neg (fun z => z.2.1 q)])
  · have h4 : 0 ≤ H 4 r ∧ H 4 r < nP L := hl4.elim (fun z => absurd z q) id
    rw [rx_L4 hX h4, rx_kn hX hr, may_iff hL h4 hkk]
    refine ⟨⟨by omega, by omega⟩, fun q2 => ?_, fun q2 => ?_⟩
    · exact go (by unfold fstP; rw [if_neg (fun z => q2 z.2.2)])
    · exact Qat hQ (by unfold fstP; rw [if_pos ⟨trivial, q, q2⟩])
def lsG {α : Type} (f : Int → α) (n : Nat) : List α := (List.range n).map (fun k : Nat => f (k : Int))
theorem lsG_succ {α : Type} (f : Int → α) (n : Nat) : lsG f (n + 1) = lsG f n ++ [f n] := by
  unfold lsG
  rw [List.range_succ, List.map_append]
  rfl
theorem lsG_congr {α : Type} {f g : Int → α} {n : Nat} (h : ∀ k : Int, 0 ≤ k → k < n → f k = g k) : lsG f n = lsG g n := by
  unfold lsG
  refine List.map_congr_left (fun k hk => ?_)
  have := List.mem_range.mp hk
  exact h k (by omega) (by omega)
theorem lsG_len {α : Type} (f : Int → α) (n : Nat) : (lsG f n).length = n := by simp [lsG]
theorem lsG_cons {α : Type} (f : Int → α) : ∀ n : Nat, lsG f (n + 1) = f 0 :: lsG (fun k => f (k + 1)) n
  | 0 => rfl
  | n + 1 => by
    rw [lsG_succ, lsG_cons f n, lsG_succ, List.cons_append]
    rfl
/-- the pages kept at a layer -/
abbrev enK (I : Nat → Nat → Int32) (v k : Int) : Int × Int × Int := (gi I 118 ((60 * v) + k).toNat, gi I 119 ((60 * v) + k).toNat, gi I 120 ((60 * v) + k).toNat)
def kpL (I : Nat → Nat → Int32) (v : Int) : List (Int × Int × Int) := lsG (enK I v) (gi I 117 v.toNat).toNat
def psh (l : List (Int × Int × Int)) (e : Int × Int × Int) : List (Int × Int × Int) := if l.length = 60 then l.tail ++ [e] else l ++ [e]
theorem tri3 {a b c a' b' c' : Int} (h1 : a = a') (h2 : b = b') (h3 : c = c') : (a, b, c) = (a', b', c') := by rw [h1, h2, h3]
theorem S_X12_writes {k : Nat} {P : Option Nat} {I : Nat → Nat → Int32} {J : Nat → Nat → Int64} {Q : Option AV → Mem → Prop} {v r p : Int} (hv : 0 ≤ v ∧ v < 22) (hr : inR r) (hp : inR p) (h8 : 0 ≤ gi I 108 v.toNat ∧ gi I 108 v.toNat ≤ 999) (h7 : 0 ≤ gi I 117 v.toNat ∧ gi I 117 v.toNat ≤ 60) (hQ : ∀ I' : Nat → Nat → Int32, (∀ c k : Nat, ¬ (118 ≤ c ∧ c ≤ 120 ∧ 60 * v ≤ (k : Int) ∧ (k : Int) < 60 * v + 60) → ¬ (c = 117 ∧ (k : Int) = v) → I' c k = I c k) → kpL I' v = psh (kpL I v) (gi I 108 v.toNat + 1, r, p) → (0 ≤ gi I' 117 v.toNat ∧ gi I' 117 v.toNat ≤ 60) → Q none (mem (rv0 P) I' J)) : WPm k LAY m_X12_writesDown [vR (some 74), vI v, vI r, vI p] (mem (rv0 P) I J) Q := by
  have put : ∀ (I2 : Nat → Nat → Int32) (m n : Int), 0 ≤ m → m < 60 → inR n → ∀ I3, I3 = si (si (si (si I2 118 ((60 * v) + m).toNat n) 119 ((60 * v) + m).toNat r) 120 ((60 * v) + m).toNat p) 117 v.toNat (m + 1) → (∀ c k : Nat, ¬ (118 ≤ c ∧ c ≤ 120 ∧ 60 * v ≤ (k : Int) ∧ (k : Int) < 60 * v + 60) → ¬ (c = 117 ∧ (k : Int) = v) → I3 c k = I2 c k) ∧ kpL I3 v = lsG (enK I2 v) m.toNat ++ [(n, r, p)] ∧ gi I3 117 v.toNat = m + 1 := by
    intro I2 m n m0 m1 hn I3 e
    subst e
    have g7 : gi (si (si (si (si I2 118 ((60 * v) + m).toNat n) 119 ((60 * v) + m).toNat r) 120 ((60 * v) + m).toNat p) 117 v.toNat (m + 1)) 117 v.toNat = m + 1 := gi_same _ _ _ ⟨by omega, by omega⟩
    refine ⟨fun c k a b => ?_, ?_, g7⟩
    · rw [si_at, if_neg (by omega), si_at, if_neg (by omega), si_at, if_neg (by omega), si_at, if_neg (by omega)]
    · unfold kpL
      rw [g7, show (m + 1).toNat = m.toNat + 1 by omega, lsG_succ, Int.toNat_of_nonneg m0]
      refine congr (congrArg _ (lsG_congr (fun k k0 k1 => ?_))) ?_
      · unfold enK
        rw [gi_cell _ _ _ _ (by decide), gi_cell _ _ _ _ (by decide), gi_cell _ _ _ _ (by decide), gi_idx _ _ _ (by omega), gi_cell _ _ _ _ (by decide), gi_cell _ _ _ _ (by decide), gi_idx _ _ _ (by omega), gi_cell _ _ _ _ (by decide), gi_cell _ _ _ _ (by decide), gi_idx _ _ _ (by omega), gi_cell _ _ _ _ (by decide), gi_cell _ _ _ _ (by decide)]
      · unfold enK
        rw [gi_cell _ _ _ _ (by decide), gi_cell _ _ _ _ (by decide), gi_cell _ _ _ _ (by decide), gi_same _ _ _ hn, gi_cell _ _ _ _ (by decide), gi_cell _ _ _ _ (by decide), gi_same _ _ _ hr, gi_cell _ _ _ _ (by decide), gi_same _ _ _ hp]
  refine WPm.of k_X12_writesDown.1 (Nat.le_of_ble_eq_true rfl) (B_X12_writesDown_0 (by omega) ?_)
  refine ⟨⟨by omega, by omega⟩, fun q => ⟨⟨by omega, by omega⟩, ?_⟩, fun q => ?_⟩
  · obtain ⟨a1, a2, a3⟩ := put I (gi I 117 v.toNat) (gi I 108 v.toNat + 1) (by omega) (by omega) ⟨by omega, by omega⟩ _ rfl
    refine hQ _ a1 ?_ (by rw [a3]; omega)
    rw [a2, psh, if_neg (by unfold kpL; rw [lsG_len]; omega)]
    rfl
  · have loop : ∀ (d n : Nat) (x : Int) (I2 : Nat → Nat → Int32), n + d = 59 → x = 60 * v + n → (∀ c k : Nat, ¬ (118 ≤ c ∧ c ≤ 120 ∧ 60 * v ≤ (k : Int) ∧ (k : Int) < 60 * v + 60) → I2 c k = I c k) → (∀ k : Int, 0 ≤ k → k < n → enK I2 v k = enK I v (k + 1)) → (∀ k : Int, (n : Int) ≤ k → k < 60 → enK I2 v k = enK I v k) → WP k LAY m_X12_writesDown 17 [(0, vR (some 74)), (1, vI v), (2, vI r), (3, vI p), (4, vI x)] [] (mem (rv0 P) I2 J) Q := by
      intro d
      induction d with
      | zero =>
        intro n x I2 hn hx f1 f2 f3
        refine B_X12_writesDown_17 (by omega) ?_
        refine ⟨⟨by omega, by omega⟩, ⟨by omega, by omega⟩, fun _ => ⟨⟨by omega, by omega⟩, fun y4 hy4 => ?_⟩, fun w => absurd w (by omega)⟩
        have e7 : gi I2 117 v.toNat = 60 := (gi_eq (f1 117 _ (by omega))).trans q
        have e8 : gi I2 108 v.toNat = gi I 108 v.toNat := gi_eq (f1 108 _ (by omega))
        have e7' : gi (si I2 117 v.toNat (gi I2 117 v.toNat - 1)) 117 v.toNat = 59 := by rw [e7]; exact gi_same _ _ _ (by decide)
        have e8' : gi (si I2 117 v.toNat (gi I2 117 v.toNat - 1)) 108 v.toNat = gi I 108 v.toNat := by rw [gi_cell _ _ _ _ (by decide), e8]
        rw [e7'] at hy4
        subst hy4
        rw [e7', e8]
        obtain ⟨a1, a2, a3⟩ := put (si I2 117 v.toNat (gi I2 117 v.toNat - 1)) 59 (gi I 108 v.toNat + 1) (by decide) (by decide) ⟨by omega, by omega⟩ _ rfl
        refine ⟨⟨by omega, by omega⟩, hQ _ (fun c k a b => ?_) ?_ (by rw [a3]; decide)⟩
        · rw [a1 c k a b, si_at, if_neg (by omega)]
          exact f1 c k a
        · rw [a2, psh, if_pos (by unfold kpL; rw [lsG_len, q]; rfl)]
          unfold kpL
          rw [q, show (60 : Int).toNat = 59 + 1 by decide, lsG_cons]
          have key : lsG (enK (si I2 117 v.toNat (gi I2 117 v.toNat - 1)) v) 59 = lsG (fun k => enK I v (k + 1)) 59 := by
            refine lsG_congr (fun k k0 k1 => ?_)
            have e : enK (si I2 117 v.toNat (gi I2 117 v.toNat - 1)) v k = enK I2 v k := by
              unfold enK
              rw [gi_cell _ _ _ _ (by decide), gi_cell _ _ _ _ (by decide), gi_cell _ _ _ _ (by decide)]
            rw [e]
            exact f2 k k0 (by omega)
          exact congrArg (fun z => z ++ [(gi I 108 v.toNat + 1, r, p)]) key
      | succ d ih =>
        intro n x I2 hn hx f1 f2 f3
        refine B_X12_writesDown_17 (by omega) ?_
        refine ⟨⟨by omega, by omega⟩, ⟨by omega, by omega⟩, fun w => absurd w (by omega), fun _ => ⟨⟨by omega, by omega⟩, ⟨by omega, by omega⟩, ?_⟩⟩
        have hin : ∀ c j, inR (gi I2 c j) := fun c j => gi_in I2 c j
        have eM : ∀ k : Int, 0 ≤ k → k < 60 → enK (si (si (si I2 118 x.toNat (gi I2 118 (x + 1).toNat)) 119 x.toNat (gi I2 119 (x + 1).toNat)) 120 x.toNat (gi I2 120 (x + 1).toNat)) v k = if k = n then enK I2 v (k + 1) else enK I2 v k := by
          intro k k0 k1
          by_cases e : k = n
          · rw [if_pos e]
            have i1 : ((60 * v) + k).toNat = x.toNat := by omega
            have i2 : ((60 * v) + (k + 1)).toNat = (x + 1).toNat := by omega
            refine tri3 ?_ ?_ ?_
            · rw [i1, i2, gi_cell _ _ _ _ (by decide), gi_cell _ _ _ _ (by decide), gi_same _ _ _ (hin _ _)]
            · rw [i1, i2, gi_cell _ _ _ _ (by decide), gi_same _ _ _ (gi_in _ _ _)]
            · rw [i1, i2, gi_same _ _ _ (gi_in _ _ _)]
          · rw [if_neg e]
            unfold enK
            rw [gi_cell _ _ _ _ (by decide), gi_cell _ _ _ _ (by decide), gi_idx _ _ _ (by omega), gi_cell _ _ _ _ (by decide), gi_idx _ _ _ (by omega), gi_cell _ _ _ _ (by decide), gi_idx _ _ _ (by omega), gi_cell _ _ _ _ (by decide), gi_cell _ _ _ _ (by decide)]
        refine ih (n + 1) _ _ (by omega) (by omega) (fun c k a => ?_) (fun k k0 k1 => ?_) (fun k k0 k1 => ?_)
        · rw [si_at, if_neg (by omega), si_at, if_neg (by omega), si_at, if_neg (by omega)]
          exact f1 c k a
        · rw [eM k k0 (by omega)]
          by_cases e : k = n
          · rw [if_pos e]
            exact f3 (k + 1) (by omega) (by omega)
          · rw [if_neg e]
            exact f2 k k0 (by omega)
        · rw [eM k (by omega) k1, if_neg (by omega)]
          exact f3 k (by omega) k1
    exact loop 59 0 (60 * v) I (by decide) (by omega) (fun _ _ _ => rfl) (fun k a b => absurd b (by omega)) (fun _ _ _ => rfl)
end REFEVEN
