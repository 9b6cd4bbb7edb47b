section COURSE
/-! ===== in which order a reader would read, and when each page ends ===== -/
def lsT (f : Int → Int) : Int → Nat → List Int
  | _, 0 => []
  | i, d + 1 => f i :: lsT f (i + 1) d
theorem lsT_snoc (f : Int → Int) : ∀ (d : Nat) (i : Int), lsT f i (d + 1) = lsT f i d ++ [f (i + d)]
  | 0, i => by
    show [f i] = [] ++ [f (i + ((0 : Nat) : Int))]
    rw [List.nil_append, show i + ((0 : Nat) : Int) = i by omega]
  | d + 1, i => by
    show f i :: lsT f (i + 1) (d + 1) = f i :: lsT f (i + 1) d ++ [f (i + ((d + 1 : Nat) : Int))]
    rw [lsT_snoc f d (i + 1), List.cons_append, show i + 1 + (d : Int) = i + ((d + 1 : Nat) : Int) by omega]
theorem lsT_F (f : Int → Int) : ∀ n : Nat, lsT f 0 n = lsF f n
  | 0 => rfl
  | n + 1 => by rw [lsT_snoc, lsF_succ, lsT_F f n, show (0 : Int) + (n : Int) = n by omega]
def lsH (H : Hl) (r : Int) : List Int := lsF (fun k => H 7 (8 * r + k)) (H 6 r).toNat
/-- the first page of a list that one may read, knowing so many -/
def nxt (L : Lb) (kk : Nat) : List Int → Int
  | [] => -1
  | p :: l => if kk.testBit p.toNat = false ∧ dif (ndN L p.toNat) kk = 0 then p else nxt L kk l
theorem nxt_in {L : Lb} {kk : Nat} : ∀ {l : List Int}, nxt L kk l = -1 ∨ (nxt L kk l ∈ l ∧ kk.testBit (nxt L kk l).toNat = false ∧ dif (ndN L (nxt L kk l).toNat) kk = 0)
  | [] => Or.inl rfl
  | p :: l => by
    unfold nxt
    split
    · exact Or.inr ⟨List.mem_cons_self, ‹_ ∧ _›.1, ‹_ ∧ _›.2⟩
    · rcases nxt_in (L := L) (kk := kk) (l := l) with h | ⟨h1, h2⟩
      · exact Or.inl h
      · exact Or.inr ⟨List.mem_cons_of_mem _ h1, h2⟩
theorem lsH_rng {L : Lb} {H : Hl} {r : Int} (hw : WfO L H r) {p : Int} (hp : p ∈ lsH H r) : 0 ≤ p ∧ p < nP L := by
  obtain ⟨k, k0, k1, k2⟩ := lsF_mem.mp hp
  have h6 := hw.2.2.2.2.1
  have := (hw.2.2.2.2.2.1 k k0 (by omega)).1
  rw [← k2]
  exact this
theorem may_iff {L : Lb} (hL : WfL L) {p : Int} (hp : 0 ≤ p ∧ p < nP L) {kk : Nat} (hk : kk < 16384) : and32 (L 4 p) (xor32 ((kk : Nat) : Int) (-1)) = 0 ↔ dif (ndN L p.toNat) kk = 0 := by
  have hP := hL.2.1
  have h1 := nd_lt hL (q := p.toNat) (by omega)
  have h2 : ndN L p.toNat < 16384 := Nat.lt_of_lt_of_le h1.2 (pow_le14 (by omega))
  have e : L 4 p = ((ndN L p.toNat : Nat) : Int) := by
    unfold ndN
    rw [Int.toNat_of_nonneg hp.1] at h1 ⊢
    omega
  rw [e, andn32_nat (by omega) (by omega)]
  exact Int.natCast_eq_zero
theorem bit_iff {p : Int} (hp : 0 ≤ p ∧ p < 14) {kk : Nat} (hk : kk < 16384) : and32 ((kk : Nat) : Int) (shl32 1 p) = 0 ↔ kk.testBit p.toNat = false := by
  have := andp_iff (x := kk) (by omega) (k := p.toNat) (by omega)
  rwa [Int.toNat_of_nonneg hp.1] at this
theorem S_X0_next {k : Nat} {P : Option Nat} {I : Nat → Nat → Int32} {J : Nat → Nat → Int64} {Q : Option AV → Mem → Prop} {L : Lb} {R : Rl} {H : Hl} {r : Int} {kk : Nat} (hk : 2 ≤ k) (hX : CX I L R H) (hr : 0 ≤ r ∧ r < nR L) (hkk : kk < 16384) (hQ : Q (some (vI (nxt L kk (lsH H r)))) (mem (rv0 P) I J)) : WPm k LAY m_X0_nextPage [vR (some 39), vI r, vI (kk : Int)] (mem (rv0 P) I J) Q := by
  have hL := hX.1.2.2.2.1
  have hR6 := hL.2.2.1
  have hP := hL.2.1
  have hw := hX.2.2.2.2 r hr.1 hr.2
  have q8 := hw.2.2.2.2.1
  refine WPm.of k_X0_nextPage.1 (Nat.le_of_ble_eq_true rfl) (B_X0_nextPage_0 (by omega) ?_)
  rw [cx_6 hX hr]
  have loop : ∀ (d : Nat) (x : Int), 0 ≤ x → x + d = H 6 r → nxt L kk (lsT (fun k => H 7 (8 * r + k)) x d) = nxt L kk (lsH H r) → WP k LAY m_X0_nextPage 13 [(0, vR (some 39)), (1, vI r), (2, vI (kk : Int)), (3, vI (H 6 r)), (4, vI x)] [] (mem (rv0 P) I J) Q := by
    intro d
    induction d with
    | zero =>
      intro x h0 hx he
      refine B_X0_nextPage_13 (by omega) ⟨⟨by omega, by omega⟩, ⟨by omega, by omega⟩, fun _ => Qat hQ he.symm, fun q => absurd q (by omega)⟩
    | succ d ih =>
      intro x h0 hx he
      have hv := (hw.2.2.2.2.2.1 x h0 (by omega)).1
      refine B_X0_nextPage_13 (by omega) ?_
      rw [cx_6 hX hr, cx_7 hX hr (k := x) ⟨by omega, by omega⟩, bit_iff ⟨hv.1, by omega⟩ hkk, cx_L4 hX hv, may_iff hL hv hkk]
      rw [lsT, nxt] at he
      refine ⟨⟨by omega, by omega⟩, ⟨by omega, by omega⟩, fun q => absurd q (by omega), fun _ => ⟨fun q => absurd q (by omega), fun _ => ⟨⟨by omega, by omega⟩, fun q => absurd q (by omega), fun _ => ⟨⟨by omega, by omega⟩, fun q => absurd q (by omega), fun _ => ⟨fun q => ?_, fun q => ⟨⟨by omega, by omega⟩, fun q2 => ?_, fun q2 => ?_⟩⟩⟩⟩⟩⟩
      · rw [if_neg (fun z => q z.1)] at he
        exact ih (x + 1) (by omega) (by omega) he
      · rw [if_neg (fun z => q2 z.2)] at he
        exact ih (x + 1) (by omega) (by omega) he
      · rw [if_pos ⟨q, q2⟩] at he
        exact Qat hQ he.symm
  exact ⟨⟨by omega, by omega⟩, loop (H 6 r).toNat 0 (by decide) (by omega) (by rw [lsT_F]; rfl)⟩
/-- the course: pages with the minutes in which they end -/
def crs (tk : Nat → Int → Int) (L : Lb) (l : List Int) : Nat → Nat → Int → Int → List (Int × Int)
  | 0, _, _, _ => []
  | n + 1, kk, p, m => if p = -1 then [] else (p, max 0 (m + tk kk p)) :: crs tk L l n (kk ||| 2 ^ p.toNat) (nxt L (kk ||| 2 ^ p.toNat) l) (max 0 (m + tk kk p))
theorem crs_len (tk : Nat → Int → Int) (L : Lb) (l : List Int) : ∀ (n kk : Nat) (p m : Int), (crs tk L l n kk p m).length ≤ n
  | 0, _, _, _ => Nat.le_refl _
  | n + 1, kk, p, m => by
    unfold crs
    split
    · simp
    · have := crs_len tk L l n (kk ||| 2 ^ p.toNat) (nxt L (kk ||| 2 ^ p.toNat) l) (max 0 (m + tk kk p))
      simp
      omega
def crsAt (f g : Nat → Int) : Nat → List (Int × Int) → Prop
  | _, [] => True
  | i, q :: c => f i = q.1 ∧ g i = q.2 ∧ crsAt f g (i + 1) c
def tkS (L : Lb) (R : Rl) (H : Hl) (r d s : Int) : Nat → Int → Int := fun kk p => takS L R (H 8 0) r p d s (pop kk)
abbrev SC : List (Nat × Nat) := [(39, 4), (39, 5)]
theorem crs_loop {k : Nat} {P : Option Nat} {J : Nat → Nat → Int64} {Q : Option AV → Mem → Prop} {L : Lb} {R : Rl} {H : Hl} {r d s : Int} (hk : 6 ≤ k) (hr : 0 ≤ r ∧ r < nR L) (hd : mil d) (hs : mil s) : ∀ (n : Nat) (kk : Nat) (p m : Int) (I : Nat → Nat → Int32), CX I L R H → kk < 2 ^ (nP L).toNat → (p = -1 ∨ 0 ≤ p ∧ p < nP L) → -1000 ≤ m → m ≤ 500 * (8 - (n : Int)) → n ≤ 8 → gi I 39 4 = 8 - (n : Int) → (∀ I', Fr [37, 38, 40, 41] [(39, 4)] I I' → (∀ i : Nat, (i : Int) < 8 - n → gi I' 40 i = gi I 40 i ∧ gi I' 41 i = gi I 41 i) → gi I' 39 4 = 8 - (n : Int) + (crs (tkS L R H r d s) L (lsH H r) n kk p m).length → crsAt (gi I' 40) (gi I' 41) (8 - n) (crs (tkS L R H r d s) L (lsH H r) n kk p m) → Q none (mem (rv0 P) I' J)) → WP k LAY m_X0_lay 109 [(0, vR (some 39)), (1, vI r), (2, vI d), (3, vI s), (5, vI (kk : Int)), (7, vI p), (8, vI m)] [] (mem (rv0 P) I J) Q := by
  intro n
  induction n with
  | zero =>
    intro kk p m I hX hkk hp hm1 hm2 hn hl hQ
    have h9 := hQ I (Fr.rf _ _ _) (fun i _ => ⟨rfl, rfl⟩) (by rw [hl]; rfl) trivial
    have hP := hX.1.2.2.2.1.2.1
    refine B_X0_lay_109 (by omega) ⟨⟨by omega, by omega⟩, fun _ => h9, fun _ => ⟨fun _ => h9, fun q => absurd (show 8 ≤ gi I 39 4 by omega) q⟩⟩
  | succ n ih =>
    intro kk p m I hX hkk hp hm1 hm2 hn hl hQ
    have hL := hX.1.2.2.2.1
    have hP := hL.2.1
    have hR6 := hL.2.2.1
    have hk14 : kk < 16384 := Nat.lt_of_lt_of_le hkk (pow_le14 (by omega))
    by_cases hp1 : p = -1
    · have h9 := hQ I (Fr.rf _ _ _) (fun i _ => ⟨rfl, rfl⟩) (by rw [hl]; unfold crs; rw [if_pos hp1, List.length_nil]; omega) (by unfold crs; rw [if_pos hp1]; exact trivial)
      exact B_X0_lay_109 (by omega) ⟨⟨by omega, by omega⟩, fun _ => h9, fun q => absurd hp1 q⟩
    · have hpp : 0 ≤ p ∧ p < nP L := hp.elim (fun q => absurd q hp1) id
      have hpo := pop_le kk
      have w5 := (hL.2.2.2.2.2.2.2.2.1 r hr.1 hr.2)
      have w25 := hL.2.2.2.2.2.1
      have wn := hX.2.2.1
      have hF7 : Fr [37, 38] [] I (si (si (si (si (si (si (si I 38 7 (L 5 r)) 38 8 (L 6 r)) 38 16 (pop kk)) 38 10 d) 38 17 s) 38 11 (L 25 0)) 38 18 (H 8 0)) := by
        refine Fr.up (Fr.up (Fr.up (Fr.up (Fr.up (Fr.up (Fr.up (Fr.rf _ _ _) _ _ _ ?_) _ _ _ ?_) _ _ _ ?_) _ _ _ ?_) _ _ _ ?_) _ _ _ ?_) _ _ _ ?_ <;> exact Or.inl (by decide)
      refine B_X0_lay_109 (by omega) ?_
      rw [bc_pop hk14, cx_L5 hX hr, cx_L6 hX hr, cx_inch hX, cx_8 hX]
      refine ⟨⟨by omega, by omega⟩, fun q => absurd q hp1, fun _ => ⟨fun q => absurd q (by omega), fun _ => ⟨⟨by omega, by omega⟩, ?_⟩⟩⟩
      refine S_X9_page (L := L) (R := R) (by omega) (hX.fr (hF7.cx (by decide) (by decide))).1 (vals_set rfl rfl rfl ⟨by omega, by omega⟩ ⟨by omega, by omega⟩ ⟨by omega, by omega⟩ ⟨by omega, by omega⟩ ⟨by omega, by omega⟩ ⟨by omega, by omega⟩ ⟨by omega, by omega⟩) hpp (envB_of hL hX.2.2 hr hd hs ⟨by omega, by omega⟩) (fun I4 hF4 => ⟨_, _, _, rfl, rfl, ?_⟩)
      have ht : 1 ≤ tkS L R H r d s kk p ∧ tkS L R H r d s kk p ≤ 500 := takS_in hL hpp
      have e4 : gi I4 39 4 = 8 - ((n + 1 : Nat) : Int) := (hF4.gv 39 4 (by decide) (by decide)).trans ((hF7.gv 39 4 (by decide) (by decide)).trans hl)
      rw [show takS L R (H 8 0) r p d s (pop kk) = tkS L R H r d s kk p from rfl]
      show inR (m + tkS L R H r d s kk p) ∧ (0 ≤ gi I4 39 4 ∧ gi I4 39 4 < 8) ∧ _
      rw [e4]
      have hp2 : 2 ^ p.toNat < 2 ^ (nP L).toNat := Nat.pow_lt_pow_right (by decide) (by omega)
      have hkk2 : kk ||| 2 ^ p.toNat < 2 ^ (nP L).toNat := or_lt14 hkk hp2
      have hkk3 : kk ||| 2 ^ p.toNat < 16384 := Nat.lt_of_lt_of_le hkk2 (pow_le14 (by omega))
      have eor : or32 ((kk : Nat) : Int) (shl32 1 p) = ((kk ||| 2 ^ p.toNat : Nat) : Int) := by
        have e1 := shl1 (p := p.toNat) (by omega)
        rw [Int.toNat_of_nonneg hpp.1] at e1
        rw [e1, or32_nat (by omega) (pow_lt31 (by omega))]
      rw [eor]
      have eix : (8 - ((n + 1 : Nat) : Int)).toNat = 8 - (n + 1) := by omega
      rw [eix]
      have hF5 : Fr [37, 38, 40, 41] [(39, 4)] I4 (si (si (si I4 40 (8 - (n + 1)) p) 41 (8 - (n + 1)) (max 0 (m + tkS L R H r d s kk p))) 39 4 (8 - ((n + 1 : Nat) : Int) + 1)) := (((Fr.rf _ _ _).up _ _ _ (Or.inl (by decide))).up _ _ _ (Or.inl (by decide))).up _ _ _ (Or.inr (by decide))
      have hF6 := ((hF7.mono (cs' := [37, 38, 40, 41]) (fs' := [(39, 4)]) (by simp) (by simp)).tr (hF4.mono (by simp) (by simp))).tr hF5
      have hX5 := hX.fr (hF6.cx (by decide) (by decide))
      have z39 : gi (si (si (si I4 40 (8 - (n + 1)) p) 41 (8 - (n + 1)) (max 0 (m + tkS L R H r d s kk p))) 39 4 (8 - ((n + 1 : Nat) : Int) + 1)) 39 4 = 8 - (n : Int) := by
        rw [gi_same _ _ _ ⟨by omega, by omega⟩]
        omega
      have z40 : gi (si (si (si I4 40 (8 - (n + 1)) p) 41 (8 - (n + 1)) (max 0 (m + tkS L R H r d s kk p))) 39 4 (8 - ((n + 1 : Nat) : Int) + 1)) 40 (8 - (n + 1)) = p := by
        rw [gi_cell _ _ _ _ (by decide), gi_cell _ _ _ _ (by decide)]
        exact gi_same _ _ _ ⟨by omega, by omega⟩
      have z41 : gi (si (si (si I4 40 (8 - (n + 1)) p) 41 (8 - (n + 1)) (max 0 (m + tkS L R H r d s kk p))) 39 4 (8 - ((n + 1 : Nat) : Int) + 1)) 41 (8 - (n + 1)) = max 0 (m + tkS L R H r d s kk p) := by
        rw [gi_cell _ _ _ _ (by decide)]
        exact gi_same _ _ _ ⟨by omega, by omega⟩
      have zlo : ∀ i : Nat, i < 8 - (n + 1) → gi (si (si (si I4 40 (8 - (n + 1)) p) 41 (8 - (n + 1)) (max 0 (m + tkS L R H r d s kk p))) 39 4 (8 - ((n + 1 : Nat) : Int) + 1)) 40 i = gi I 40 i ∧ gi (si (si (si I4 40 (8 - (n + 1)) p) 41 (8 - (n + 1)) (max 0 (m + tkS L R H r d s kk p))) 39 4 (8 - ((n + 1 : Nat) : Int) + 1)) 41 i = gi I 41 i := by
        intro i hi
        constructor
        · rw [gi_cell _ _ _ _ (by decide), gi_cell _ _ _ _ (by decide), gi_idx _ _ _ (by omega), hF4.gv 40 i (by decide) (by simp)]
          exact hF7.gv 40 i (by decide) (by simp)
        · rw [gi_cell _ _ _ _ (by decide), gi_idx _ _ _ (by omega), gi_cell _ _ _ _ (by decide), hF4.gv 41 i (by decide) (by simp)]
          exact hF7.gv 41 i (by decide) (by simp)
      generalize si (si (si I4 40 (8 - (n + 1)) p) 41 (8 - (n + 1)) (max 0 (m + tkS L R H r d s kk p))) 39 4 (8 - ((n + 1 : Nat) : Int) + 1) = I5 at hF5 hF6 hX5 z39 z40 z41 zlo ⊢
      refine ⟨⟨by omega, by omega⟩, ⟨by omega, by omega⟩, ?_⟩
      refine S_X0_next (by omega) hX5 hr hkk3 ⟨_, _, _, rfl, rfl, ?_⟩
      have hx := nxt_in (L := L) (kk := kk ||| 2 ^ p.toNat) (l := lsH H r)
      have hx2 : nxt L (kk ||| 2 ^ p.toNat) (lsH H r) = -1 ∨ 0 ≤ nxt L (kk ||| 2 ^ p.toNat) (lsH H r) ∧ nxt L (kk ||| 2 ^ p.toNat) (lsH H r) < nP L := hx.elim Or.inl (fun z => Or.inr (lsH_rng (hX.2.2.2.2 r hr.1 hr.2) z.1))
      refine ih (kk ||| 2 ^ p.toNat) _ _ I5 hX5 hkk2 hx2 (by omega) (by omega) (by omega) z39 (fun I' f1 f2 f3 f4 => ?_)
      have ec : crs (tkS L R H r d s) L (lsH H r) (n + 1) kk p m = (p, max 0 (m + tkS L R H r d s kk p)) :: crs (tkS L R H r d s) L (lsH H r) n (kk ||| 2 ^ p.toNat) (nxt L (kk ||| 2 ^ p.toNat) (lsH H r)) (max 0 (m + tkS L R H r d s kk p)) := by
        rw [crs, if_neg hp1]
      refine hQ I' (hF6.tr f1) (fun i hi => ?_) ?_ ?_
      · obtain ⟨a1, a2⟩ := f2 i (by omega)
        obtain ⟨b1, b2⟩ := zlo i (by omega)
        exact ⟨a1.trans b1, a2.trans b2⟩
      · rw [f3, ec, List.length_cons]
        omega
      · rw [ec]
        obtain ⟨a1, a2⟩ := f2 (8 - (n + 1)) (by omega)
        refine ⟨a1.trans z40, a2.trans z41, ?_⟩
        rw [show 8 - (n + 1) + 1 = 8 - n by omega]
        exact f4
/-- with which page he begins, and how far he is in it already -/
def fstP (L : Lb) (H : Hl) (r : Int) (g : Prop) [Decidable g] : Int := if g ∧ ¬ H 4 r = -1 ∧ dif (ndN L (H 4 r).toNat) (kn H r) = 0 then H 4 r else nxt L (kn H r) (lsH H r)
def donP (L : Lb) (H : Hl) (r : Int) (g : Prop) [Decidable g] : Int := if g ∧ ¬ fstP L H r g = -1 ∧ fstP L H r g = H 4 r then H 5 r else 0
def cour (L : Lb) (R : Rl) (H : Hl) (r d s : Int) (g : Prop) [Decidable g] : List (Int × Int) := crs (tkS L R H r d s) L (lsH H r) 8 (kn H r) (fstP L H r g) (- donP L H r g)
theorem left_rng {L : Lb} {H : Hl} {r : Int} (hw : WfO L H r) : (H 4 r = -1 ∨ 0 ≤ H 4 r ∧ H 4 r < nP L) ∧ 0 ≤ H 5 r ∧ H 5 r ≤ 499 := by
  rcases hw.2.2.2.2.2.2 with ⟨h1, h2⟩ | ⟨h1, k, k0, k1, k2⟩
  · exact ⟨Or.inl h1, by omega, by omega⟩
  · have := (hw.2.2.2.2.2.1 k k0 k1).1
    exact ⟨Or.inr (by rw [← k2]; exact this), by omega, by omega⟩
theorem fstP_rng {L : Lb} {H : Hl} {r : Int} (hw : WfO L H r) (g : Prop) [Decidable g] : fstP L H r g = -1 ∨ 0 ≤ fstP L H r g ∧ fstP L H r g < nP L := by
  unfold fstP
  split
  · exact (left_rng hw).1
  · exact nxt_in.elim Or.inl (fun z => Or.inr (lsH_rng hw z.1))
theorem S_X0_lay {k : Nat} {P : Option Nat} {I : Nat → Nat → Int32} {J : Nat → Nat → Int64} {Q : Option AV → Mem → Prop} {L : Lb} {R : Rl} {H : Hl} {r d s z : Int} {g : Prop} [Decidable g] (hk : 6 ≤ k) (hX : CX I L R H) (hr : 0 ≤ r ∧ r < nR L) (hd : mil d) (hs : mil s) (hg : (g ∧ z = 1) ∨ (¬ g ∧ z = 0)) (hQ : ∀ I', Fr [37, 38, 40, 41] SC I I' → gi I' 39 4 = (cour L R H r d s g).length → gi I' 39 5 = donP L H r g → crsAt (gi I' 40) (gi I' 41) 0 (cour L R H r d s g) → Q none (mem (rv0 P) I' J)) : WPm k LAY m_X0_lay [vR (some 39), vI r, vI d, vI s, vI z] (mem (rv0 P) I J) Q := by
  have hL := hX.1.2.2.2.1
  have hP := hL.2.1
  have hR6 := hL.2.2.1
  have hw := hX.2.2.2.2 r hr.1 hr.2
  obtain ⟨hkl, hk14⟩ := kn_lt hL hX.2.2 hr
  obtain ⟨hl4, hl5⟩ := left_rng hw
  have hf := fstP_rng hw g
  have hnx := nxt_in (L := L) (kk := kn H r) (l := lsH H r)
  have hnr : nxt L (kn H r) (lsH H r) = -1 ∨ 0 ≤ nxt L (kn H r) (lsH H r) ∧ nxt L (kn H r) (lsH H r) < nP L := hnx.elim Or.inl (fun z => Or.inr (lsH_rng hw z.1))
  have go : ∀ (p dn m : Int), p = fstP L H r g → dn = donP L H r g → m = -dn → WP k LAY m_X0_lay 109 [(0, vR (some 39)), (1, vI r), (2, vI d), (3, vI s), (5, vI ((kn H r : Nat) : Int)), (7, vI p), (8, vI m)] [] (mem (rv0 P) (si (si I 39 5 dn) 39 4 0) J) Q := by
    intro p dn m e1 e2 e3
    have hdn : 0 ≤ dn ∧ dn ≤ 499 := by
      rw [e2]
      unfold donP
      split <;> omega
    have hF : Fr [37, 38, 40, 41] SC I (si (si I 39 5 dn) 39 4 0) := ((Fr.rf _ _ _).up _ _ _ (Or.inr (by decide))).up _ _ _ (Or.inr (by decide))
    have z5 : gi (si (si I 39 5 dn) 39 4 0) 39 5 = dn := by
      rw [gi_idx _ _ _ (by decide)]
      exact gi_same _ _ _ ⟨by omega, by omega⟩
    refine crs_loop (by omega) hr hd hs 8 (kn H r) p m _ (hX.fr (hF.cx (by decide) (by decide))) hkl (by rw [e1]; exact hf) (by omega) (by omega) (Nat.le_refl _) (gi_same _ _ _ (by decide)) (fun I' f1 f2 f3 f4 => ?_)
    have ec : crs (tkS L R H r d s) L (lsH H r) 8 (kn H r) p m = cour L R H r d s g := by
      unfold cour
      rw [e1, e3, e2]
    rw [ec] at f3 f4
    refine hQ I' (hF.tr (f1.mono (by simp) (by simp))) (by rw [f3]; omega) ?_ f4
    rw [f1.gv 39 5 (by decide) (by decide), z5, e2]
  refine WPm.of k_X0_lay.1 (Nat.le_of_ble_eq_true rfl) (B_X0_lay_0 (by omega) ?_)
  rw [cx_kn hX hr, cx_4 hX hr]
  refine ⟨⟨by omega, by omega⟩, ⟨by omega, by omega⟩, fun y3 hy3 => ?_⟩
  subst hy3
  have c5 := cx_5 hX hr
  have nog : ¬ g → fstP L H r g = nxt L (kn H r) (lsH H r) ∧ donP L H r g = 0 := fun hn => ⟨by unfold fstP; rw [if_neg (fun w => hn w.1)], by unfold donP; rw [if_neg (fun w => hn w.1)]⟩
  refine ⟨⟨by omega, by omega⟩, fun q => ?_, fun q => ⟨⟨by omega, by omega⟩, fun q2 => ?_, fun q2 => ?_⟩⟩
  · have hn : ¬ g := fun w => by rcases hg with ⟨_, h⟩ | ⟨h, _⟩; omega; exact h w
    obtain ⟨n1, n2⟩ := nog hn
    refine S_X0_next (by omega) hX hr hk14 ⟨_, _, _, rfl, rfl, ⟨by omega, by omega⟩, fun q3 => go _ 0 _ n1.symm n2.symm rfl, fun q3 => ⟨fun _ => go _ 0 _ n1.symm n2.symm rfl, fun q4 => absurd q4 q3⟩⟩
  · have hy : g := by rcases hg with ⟨h, _⟩ | ⟨_, h⟩; exact h; omega
    have n1 : fstP L H r g = nxt L (kn H r) (lsH H r) := by unfold fstP; rw [if_neg (fun w => w.2.1 q2)]
    have n2 : donP L H r g = 0 := by unfold donP; rw [if_neg (fun w => w.2.1 (w.2.2.trans q2))]
    refine S_X0_next (by omega) hX hr hk14 ⟨_, _, _, rfl, rfl, ⟨by omega, by omega⟩, fun q3 => go _ 0 _ n1.symm n2.symm rfl, fun q3 => ⟨fun _ => go _ 0 _ n1.symm n2.symm rfl, fun q4 => absurd (q4.trans q2) q3⟩⟩
  · have hy : g := by rcases hg with ⟨h, _⟩ | ⟨_, h⟩; exact h; omega
    have hlr : 0 ≤ H 4 r ∧ H 4 r < nP L := hl4.elim (fun w => absurd w q2) id
    rw [cx_L4 hX hlr, may_iff hL hlr hk14, c5]
    refine ⟨⟨by omega, by omega⟩, fun q3 => ?_, fun q3 => ⟨fun w => absurd w q2, fun _ => ⟨fun w => absurd rfl w, fun _ => ⟨⟨by omega, by omega⟩, ?_⟩⟩⟩⟩
    · have n1 : fstP L H r g = nxt L (kn H r) (lsH H r) := by unfold fstP; rw [if_neg (fun w => q3 w.2.2)]
      have n2 : ¬ nxt L (kn H r) (lsH H r) = H 4 r ∨ nxt L (kn H r) (lsH H r) = -1 := by
        by_cases e : nxt L (kn H r) (lsH H r) = H 4 r
        · rcases hnx with h | h
          · exact Or.inr h
          · rw [e] at h
            exact absurd h.2.2 q3
        · exact Or.inl e
      have n3 : donP L H r g = 0 := by
        unfold donP
        rw [n1, if_neg (fun w => n2.elim (fun z => z w.2.2) (fun z => w.2.1 z))]
      refine S_X0_next (by omega) hX hr hk14 ⟨_, _, _, rfl, rfl, ⟨by omega, by omega⟩, fun q4 => go _ 0 _ n1.symm n3.symm rfl, fun q4 => ⟨fun _ => go _ 0 _ n1.symm n3.symm rfl, fun q5 => absurd q5 (n2.elim id (fun z => absurd z q4))⟩⟩
    · have n1 : fstP L H r g = H 4 r := by unfold fstP; rw [if_pos ⟨hy, q2, q3⟩]
      have n3 : donP L H r g = H 5 r := by
        unfold donP
        rw [n1, if_pos ⟨hy, q2, rfl⟩]
      exact go _ _ _ n1.symm n3.symm rfl
end COURSE
