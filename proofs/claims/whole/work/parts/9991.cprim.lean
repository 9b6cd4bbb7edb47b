section CPRIM
/-! ===== the class: names, words and numbers of a statement ===== -/
theorem cpc_le {k : Nat} (hk : k < 4) : cpc k + fNm k ≤ 30 ∧ firstN.getD k 0 = (fNm k : Int) := by
  have e : k = 0 ∨ k = 1 ∨ k = 2 ∨ k = 3 := by omega
  rcases e with e | e | e | e <;> subst e <;> exact ⟨by decide, by decide⟩
set_option maxHeartbeats 1000000 in
theorem S_findName {k : Nat} {I : Nat → Nat → Int32} {J : Nat → Nat → Int64} {Q : Option AV → Mem → Prop} {T : Nat → Int} {n p s : Nat} {cnt : Int} {f : Nat → List Nat} (hk : 3 ≤ k) (hX : TX T n) (hp : p ≤ n) (hC : CT I T n p) (hcn : gi I 23 s = cnt) (hc : 0 ≤ cnt ∧ cnt ≤ cpc s) (hnS' : ∀ i : Nat, (i : Int) < cnt → nmS I s i (f i)) (hnO' : ∀ i : Nat, (i : Int) < cnt → nmOk (f i)) (hs : s < 4) (hnm : nmT T n p) (h : ∀ v, v = fd f cnt (lR T n p) → Q (some (vI v)) (mem (some 22, some 5, some 22) I J)) : WPm k LAY m_X7_findName [vR (some 22), vI (s : Int), vR (some 1)] (mem (some 22, some 5, some 22) I J) Q := by
  have hr := hnm.ok hp
  have hcp := cpc_le hs
  have hn := hX.1
  refine WPm.of k_X7_findName.1 (Nat.le_of_ble_eq_true rfl) (B_X7_findName_22_0 (Nat.zero_le k) ?_)
  have outer : ∀ (d i : Nat) (x3 : Int), cnt.toNat = i + d → x3 = i → (∀ v, v = fdF f (lR T n p) d i → Q (some (vI v)) (mem (some 22, some 5, some 22) I J)) → WP k LAY m_X7_findName 2 [(0, vR (some 22)), (1, vI (s : Int)), (2, vR (some 1)), (3, vI x3)] [] (mem (some 22, some 5, some 22) I J) Q := by
    intro d
    induction d with
    | zero =>
      intro i x3 hd hx hQ
      subst hx
      refine B_X7_findName_22_2 (Nat.zero_le k) ⟨by omega, by unfold inR; omega, ?_⟩
      rw [Int.toNat_natCast, hcn]
      exact ⟨fun _ => hQ _ rfl, fun c => absurd (by omega) c⟩
    | succ d ih =>
      intro i x3 hd hx hQ
      subst hx
      refine B_X7_findName_22_2 (Nat.zero_le k) ⟨by omega, by unfold inR; omega, ?_⟩
      rw [Int.toNat_natCast, hcn]
      refine ⟨fun c => absurd c (by omega), fun _ => ?_⟩
      rw [hcp.2, show ((fNm s : Int) + (i : Int)) * 6 = (((fNm s + i) * 6 : Nat) : Int) by omega]
      have hiL : (i : Int) < cnt := by omega
      have hnS := hnS' i hiL
      have hnO := hnO' i hiL
      have inner : ∀ (e j : Nat) (x5 : Int), j + e = 6 → x5 = j → (∀ j', j' < j → nml (f i) j' = nml (lR T n p) j') → WP k LAY m_X7_findName 27 [(0, vR (some 22)), (1, vI (s : Int)), (2, vR (some 1)), (3, vI (i : Int)), (4, vI (((fNm s + i) * 6 : Nat) : Int)), (5, vI x5)] [] (mem (some 22, some 5, some 22) I J) Q := by
        intro e
        induction e with
        | zero =>
          intro j x5 hj hx5 hall
          subst hx5
          have ej : j = 6 := by omega
          subst ej
          refine B_X7_findName_22_27 (by omega) ⟨by decide, fun _ => ⟨fun c => absurd rfl c, fun _ => hQ _ ?_⟩, fun c => absurd (by decide) c⟩
          rw [fdF, if_pos ((nml_eq hnO hr.1).mp hall)]
        | succ e ihe =>
          intro j x5 hj hx5 hall
          subst hx5
          have hlt := lt_at hX hp hC hnm.2.1 (show j < 6 by omega)
          have hidx : (((fNm s + i) * 6 : Nat) : Int) + (j : Int) = (((fNm s + i) * 6 + j : Nat) : Int) := by omega
          have hcell := hnS j (by omega)
          have i3 : inR (gi I 1 3 + (j : Int)) := by rw [hC.2.2.1]; have := tS_rng (T := T) hp; unfold inR; omega
          -- where they differ
          have bad : nml (f i) j ≠ nml (lR T n p) j → (¬ (j : Int) = 6 → WP k LAY m_X7_findName 2 [(0, vR (some 22)), (1, vI (s : Int)), (2, vR (some 1)), (3, vI ((i : Int) + 1))] [] (mem (some 22, some 5, some 22) I J) Q) ∧ ((j : Int) = 6 → Q (some (vI (i : Int))) (mem (some 22, some 5, some 22) I J)) := fun hne => ⟨fun _ => ih (i + 1) _ (by omega) (by omega) (fun v hv => hQ v (by
            rw [fdF, if_neg (fun t => hne (by rw [t]))]
            exact hv)), fun c => by omega⟩
          have good : nml (f i) j = nml (lR T n p) j → WP k LAY m_X7_findName 27 [(0, vR (some 22)), (1, vI (s : Int)), (2, vR (some 1)), (3, vI (i : Int)), (4, vI (((fNm s + i) * 6 : Nat) : Int)), (5, vI ((j : Int) + 1))] [] (mem (some 22, some 5, some 22) I J) Q := fun heq => ihe (j + 1) _ (by omega) (by omega) (fun j' hj' => by
            by_cases c : j' = j
            · rw [c]; exact heq
            · exact hall j' (by omega))
          refine B_X7_findName_22_27 (by omega) ?_
          rw [hidx, Int.toNat_natCast, hcell]
          refine ⟨by unfold inR; omega, fun c => absurd c (by omega), fun _ => ⟨by omega, i3, fun c => ?_, fun c => ?_⟩⟩
          · have e0 := hlt.1 c
            exact ⟨fun c2 => bad (fun t => c2 (t.trans e0)), fun c2 => good (c2.trans e0.symm)⟩
          · have e0 := hlt.2 c
            refine ⟨by rw [hC.1.1]; omega, e0.2, ?_⟩
            rw [e0.1]
            exact ⟨fun c2 => bad c2, fun c2 => good c2⟩
      exact inner 6 0 0 rfl rfl (fun j' hj' => absurd hj' (Nat.not_lt_zero _))
  exact outer cnt.toNat 0 0 (Nat.zero_add _).symm rfl h
/-- a list's names with one more -/
def putN (N : Nt) (k i : Nat) (r : List Nat) : Nt := fun k' i' => if k' = k ∧ i' = i then r else N k' i'
def putL (L : Lt) (f i : Nat) (z : Int) : Lt := fun f' i' => if f' = f ∧ i' = i then z else L f' i'
theorem putL_s (L : Lt) (f i : Nat) (z : Int) : putL L f i z f i = z := if_pos ⟨rfl, rfl⟩
theorem putL_o (L : Lt) {f i f' i' : Nat} (z : Int) (h : ¬ (f' = f ∧ i' = i)) : putL L f i z f' i' = L f' i' := if_neg h
theorem putN_s (N : Nt) (k i : Nat) (r : List Nat) : putN N k i r k i = r := if_pos ⟨rfl, rfl⟩
theorem putN_o (N : Nt) {k i k' i' : Nat} (r : List Nat) (h : ¬ (k' = k ∧ i' = i)) : putN N k i r k' i' = N k' i' := if_neg h
/-- a name of a kind is given, its own fields not told yet -/
def giveL (L : Lt) (s : Nat) : Lt := putL L 0 s (L 0 s + 1)
set_option maxHeartbeats 1000000 in
theorem S_giveName {k : Nat} {I : Nat → Nat → Int32} {J : Nat → Nat → Int64} {Q : Option AV → Mem → Prop} {T : Nat → Int} {n p s : Nat} {c : Int} (hk : 3 ≤ k) (hX : TX T n) (hp : p ≤ n) (hC : CT I T n p) (hs : s < 4) (hc : gi I 23 s = c) (hc0 : 0 ≤ c ∧ c < cpc s) (hnm : nmT T n p) (h : ∀ I', Fr [23, 24] [] I I' → nmS I' s c.toNat (lR T n p) → (∀ i, (∀ j, j < 6 → i ≠ (fNm s + c.toNat) * 6 + j) → gi I' 24 i = gi I 24 i) → gi I' 23 s = c + 1 → (∀ i, i ≠ s → gi I' 23 i = gi I 23 i) → Q none (mem (some 22, some 5, some 22) I' J)) : WPm k LAY m_X7_giveName [vR (some 22), vI (s : Int), vR (some 1)] (mem (some 22, some 5, some 22) I J) Q := by
  have hcp := cpc_le hs
  have hn := hX.1
  refine WPm.of k_X7_giveName.1 (Nat.le_of_ble_eq_true rfl) (B_X7_giveName_22_0 (Nat.zero_le k) ⟨by omega, ?_⟩)
  rw [Int.toNat_natCast, hc, hcp.2, show ((fNm s : Int) + c) * 6 = (((fNm s + c.toNat) * 6 : Nat) : Int) by omega]
  have loop : ∀ (e j : Nat) (x4 : Int) (I1 : Nat → Nat → Int32), j + e = 6 → x4 = j → Fr [24] [] I I1 → (∀ j', j' < j → gi I1 24 ((fNm s + c.toNat) * 6 + j') = nml (lR T n p) j') → (∀ i, (∀ j', j' < 6 → i ≠ (fNm s + c.toNat) * 6 + j') → gi I1 24 i = gi I 24 i) → WP k LAY m_X7_giveName 19 [(0, vR (some 22)), (1, vI (s : Int)), (2, vR (some 1)), (3, vI (((fNm s + c.toNat) * 6 : Nat) : Int)), (4, vI x4)] [] (mem (some 22, some 5, some 22) I1 J) Q := by
    intro e
    induction e with
    | zero =>
      intro j x4 I1 hj hx hF hall hoth
      subst hx
      have ej : j = 6 := by omega
      subst ej
      have hc1 : gi I1 23 s = c := by rw [hF.gvc s (by decide) (by decide)]; exact hc
      have hcc : (cpc s : Int) ≤ 14 := by
        have e : s = 0 ∨ s = 1 ∨ s = 2 ∨ s = 3 := by omega
        rcases e with e | e | e | e <;> subst e <;> decide
      refine B_X7_giveName_22_19 (by omega) ⟨by decide, fun _ => ⟨by omega, ?_⟩, fun q => absurd (by decide) q⟩
      rw [Int.toNat_natCast, hc1]
      refine h _ ((hF.mono (fun t ht => List.mem_cons_of_mem _ ht) (fun q hq => by cases hq)).up 23 _ _ (Or.inl (by decide))) (fun j hj => ?_) (fun i hi => ?_) ?_ (fun i hi => ?_)
      · rw [gi_cell _ _ _ _ (by decide)]
        exact hall j hj
      · rw [gi_cell _ _ _ _ (by decide)]
        exact hoth i hi
      · rw [gi_si _ _ _ _ _ (by unfold inR; omega), if_pos ⟨rfl, rfl⟩]
      · rw [gi_idx _ _ _ hi, hF.gvc i (by decide) (by decide)]
    | succ e ihe =>
      intro j x4 I1 hj hx hF hall hoth
      subst hx
      have hC1 : CT I1 T n p := hC.fr hF (by decide) (by decide)
      have hlt := lt_at hX hp hC1 hnm.2.1 (show j < 6 by omega)
      have hidx : (((fNm s + c.toNat) * 6 : Nat) : Int) + (j : Int) = (((fNm s + c.toNat) * 6 + j : Nat) : Int) := by omega
      have i3 : inR (gi I1 1 3 + (j : Int)) := by rw [hC1.2.2.1]; have := tS_rng (T := T) hp; unfold inR; omega
      have nx : ∀ z, inR z → z = nml (lR T n p) j → WP k LAY m_X7_giveName 19 [(0, vR (some 22)), (1, vI (s : Int)), (2, vR (some 1)), (3, vI (((fNm s + c.toNat) * 6 : Nat) : Int)), (4, vI ((j : Int) + 1))] [] (mem (some 22, some 5, some 22) (si I1 24 ((fNm s + c.toNat) * 6 + j) z) J) Q := fun z hz ez => ihe (j + 1) _ _ (by omega) (by omega) (hF.up 24 _ _ (Or.inl (by decide))) (fun j' hj' => by
        rw [gi_si _ _ _ _ _ hz]
        by_cases q : j' = j
        · rw [if_pos ⟨rfl, by rw [q]⟩, ez, q]
        · rw [if_neg (fun t => q (by have := t.2; omega))]
          exact hall j' (by omega)) (fun i hi => by
        rw [gi_idx _ _ _ (hi j (by omega))]
        exact hoth i hi)
      refine B_X7_giveName_22_19 (by omega) ?_
      rw [hidx, Int.toNat_natCast]
      refine ⟨by unfold inR; omega, fun q => absurd q (by omega), fun _ => ⟨i3, fun q => ⟨by omega, nx 0 (by decide) (hlt.1 q).symm⟩, fun q => ⟨by rw [hC1.1.1]; omega, by omega, nx _ (hlt.2 q).2 (hlt.2 q).1⟩⟩⟩
  exact loop 6 0 0 I rfl rfl (Fr.rf _ _ _) (fun j' hj' => absurd hj' (Nat.not_lt_zero _)) (fun _ _ => rfl)
/-! what statements ask for -/
theorem S_wantOwn {k : Nat} {I : Nat → Nat → Int32} {J : Nat → Nat → Int64} {Q : Option AV → Mem → Prop} {T : Nat → Int} {n p : Nat} {w : Int} (hk : 9 ≤ k) (hX : TX T n) (hp : p ≤ n) (hC : CT I T n p) (hw : 0 ≤ w ∧ w < 25) (h1 : bd T n p = -1 ∧ wd T n p w → ∀ I', CT I' T n (tE T n p) → Fr [] FLx I I' → Q (some (vI 1)) (mem (some 22, some 5, some 22) I' J)) (h0 : ¬ (bd T n p = -1 ∧ wd T n p w) → Q (some (vI 0)) (mem (some 22, some 5, some 22) (si (si I 3 2 1) 3 3 (gi I 1 6)) J)) : WPm k LAY m_X3_wantOwn [vR (some 3), vI w] (mem (some 22, some 5, some 22) I J) Q := by
  refine WPm.of k_X3_wantOwn.1 (Nat.le_of_ble_eq_true rfl) (B_X3_wantOwn_0 (by omega) ⟨by unfold inR; omega, ?_⟩)
  rw [hC.w w hw.1]
  exact ⟨fun c => S_step (by omega) hX hp hC (by rw [c.2.1]; decide) c.1 (fun I' a b => ⟨_, _, rfl, rfl, h1 c I' a b⟩), h0⟩
theorem S_askNumber {k : Nat} {I : Nat → Nat → Int32} {J : Nat → Nat → Int64} {Q : Option AV → Mem → Prop} {T : Nat → Int} {n p : Nat} {lo hi : Int} (hk : 9 ≤ k) (hX : TX T n) (hp : p ≤ n) (hC : CT I T n p) (hlo : inR lo) (hhi : inR hi) (h1 : bd T n p = -1 ∧ kR T n p = 2 → (lo ≤ vl T n p ∧ vl T n p ≤ hi) → ∀ I', CT I' T n (tE T n p) → Fr [] FLx I I' → Q (some (vI (vl T n p))) (mem (some 22, some 5, some 22) I' J)) (h4 : bd T n p = -1 ∧ kR T n p = 2 → ¬ (lo ≤ vl T n p ∧ vl T n p ≤ hi) → Q (some (vI (-1))) (mem (some 22, some 5, some 22) (si (si I 3 2 4) 3 3 (gi I 1 3)) J)) (h0 : ¬ (bd T n p = -1 ∧ kR T n p = 2) → Q (some (vI (-1))) (mem (some 22, some 5, some 22) (si (si I 3 2 1) 3 3 (gi I 1 6)) J)) : WPm k LAY m_X3_askNumber [vR (some 3), vI lo, vI hi] (mem (some 22, some 5, some 22) I J) Q := by
  refine WPm.of k_X3_askNumber.1 (Nat.le_of_ble_eq_true rfl) (B_X3_askNumber_0 (by omega) ?_)
  rw [hC.k.2.1, hC.2.2.2.2.1]
  refine ⟨fun c => ⟨hlo, fun c1 => h4 c (by omega), fun c1 => ⟨hhi, fun c2 => ?_, fun c2 => h4 c (by omega)⟩⟩, h0⟩
  exact S_step (by omega) hX hp hC (by rw [c.2]; decide) c.1 (fun I' a b => ⟨_, _, rfl, rfl, h1 c ⟨by omega, c2⟩ I' a b⟩)
theorem S_askName {k : Nat} {I : Nat → Nat → Int32} {J : Nat → Nat → Int64} {Q : Option AV → Mem → Prop} {T : Nat → Int} {n p s : Nat} {cnt : Int} {f : Nat → List Nat} (hk : 9 ≤ k) (hX : TX T n) (hp : p ≤ n) (hC : CT I T n p) (hcn : gi I 23 s = cnt) (hc : 0 ≤ cnt ∧ cnt ≤ cpc s) (hnS' : ∀ i : Nat, (i : Int) < cnt → nmS I s i (f i)) (hnO' : ∀ i : Nat, (i : Int) < cnt → nmOk (f i)) (hs : s < 4) (h1 : nmT T n p → ∀ v : Nat, fd f cnt (lR T n p) = (v : Int) → (v : Int) < cnt → Q (some (vI (v : Int))) (mem (some 22, some 5, some 22) I J)) (h3 : nmT T n p → fd f cnt (lR T n p) = -1 → Q (some (vI (-1))) (mem (some 22, some 5, some 22) (si (si I 3 2 3) 3 3 (gi I 1 3)) J)) (h0 : ¬ nmT T n p → Q (some (vI (-1))) (mem (some 22, some 5, some 22) (si (si I 3 2 1) 3 3 (gi I 1 6)) J)) : WPm k LAY m_X3_askName [vR (some 3), vI (s : Int)] (mem (some 22, some 5, some 22) I J) Q := by
  refine WPm.of k_X3_askName.1 (Nat.le_of_ble_eq_true rfl) (B_X3_askName_0 (by omega) ?_)
  rw [hC.k.2.2.2.1]
  refine ⟨fun c => S_findName (by omega) hX hp hC hcn hc hnS' hnO' hs c (fun v hv => ⟨_, _, _, rfl, rfl, ?_⟩), h0⟩
  have hcc : (cpc s : Int) ≤ 14 := by
    have e : s = 0 ∨ s = 1 ∨ s = 2 ∨ s = 3 := by omega
    rcases e with e | e | e | e <;> subst e <;> decide
  have hf := fd_in f hc.1 (lR T n p)
  rw [← hv] at hf
  refine ⟨by unfold inR; omega, fun c2 => ?_, fun c2 => ?_⟩
  · have e : v = ((v.toNat : Nat) : Int) := by omega
    have := h1 c v.toNat (by rw [← hv]; exact e) (by omega)
    rw [← e] at this
    exact this
  · subst c2
    exact h3 c hv.symm
/-- no sort has the name -/
def newN (L : Lt) (N : Nt) (r : List Nat) : Prop := ∀ s, s < 4 → fd (N s) (L 0 s) r = -1
set_option maxHeartbeats 1000000 in
theorem S_give {k : Nat} {I : Nat → Nat → Int32} {J : Nat → Nat → Int64} {Q : Option AV → Mem → Prop} {T : Nat → Int} {n p q s : Nat} {L : Lt} {N : Nt} {R : Rt} (hk : 9 ≤ k) (hX : TX T n) (hp : p ≤ n) (hC : CT I T n p) (hS : SCs I L N R q) (hW : WL L N R) (hs : s < 4) (hc0 : L 0 s < cpc s) (h1 : nmT T n p → newN L N (lR T n p) → ∀ I', CT I' T n (tE T n p) → Fr [23, 24] FLx I I' → nmS I' s (L 0 s).toNat (lR T n p) → (∀ i, (∀ j, j < 6 → i ≠ (fNm s + (L 0 s).toNat) * 6 + j) → gi I' 24 i = gi I 24 i) → gi I' 23 s = L 0 s + 1 → (∀ i, i ≠ s → gi I' 23 i = gi I 23 i) → Q (some (vI 1)) (mem (some 22, some 5, some 22) I' J)) (h2 : nmT T n p → ¬ newN L N (lR T n p) → Q (some (vI 0)) (mem (some 22, some 5, some 22) (si (si I 3 2 2) 3 3 (gi I 1 3)) J)) (h0 : ¬ nmT T n p → Q (some (vI 0)) (mem (some 22, some 5, some 22) (si (si I 3 2 1) 3 3 (gi I 1 6)) J)) : WPm k LAY m_X3_give [vR (some 3), vI (s : Int)] (mem (some 22, some 5, some 22) I J) Q := by
  refine WPm.of k_X3_give.1 (Nat.le_of_ble_eq_true rfl) (B_X3_give_0 (by omega) ?_)
  rw [hC.k.2.2.2.1]
  refine ⟨fun c => ?_, h0⟩
  have hc := hW.c hs
  have loop : ∀ (d t : Nat) (x2 : Int), t + d = 4 → x2 = t → (∀ u, u < t → fd (N u) (L 0 u) (lR T n p) = -1) → WP k LAY m_X3_give 18 [(0, vR (some 3)), (1, vI (s : Int)), (2, vI x2)] [] (mem (some 22, some 5, some 22) I J) Q := by
    intro d
    induction d with
    | zero =>
      intro t x2 ht hx hall
      subst hx
      have et : t = 4 := by omega
      subst et
      refine B_X3_give_18 (by omega) ⟨by decide, fun _ => ?_, fun q => absurd (by decide) q⟩
      refine S_giveName (by omega) hX hp hC hs (hS.1 s hs) ⟨hc.1, hc0⟩ c (fun I1 a1 a2 a3 a4 a5 => ⟨_, _, rfl, rfl, ?_⟩)
      refine S_step (by omega) hX hp (hC.fr a1 (by decide) (by decide)) (by rw [c.2.1]; decide) c.1 (fun I2 b1 b2 => ⟨_, _, rfl, rfl, ?_⟩)
      refine h1 c hall I2 b1 ((a1.mono (fun t ht => ht) (fun q hq => by cases hq)).tr (b2.mono (fun t ht => by cases ht) (fun q hq => Or.inl hq))) (fun j hj => ?_) (fun i hi => ?_) ?_ (fun i hi => ?_)
      · rw [b2.gvc _ (by decide) (by decide)]
        exact a2 j hj
      · rw [b2.gvc _ (by decide) (by decide)]
        exact a3 i hi
      · rw [b2.gvc _ (by decide) (by decide), a4]
      · rw [b2.gvc _ (by decide) (by decide)]
        exact a5 i hi
    | succ d ih =>
      intro t x2 ht hx hall
      subst hx
      refine B_X3_give_18 (by omega) ⟨by unfold inR; omega, fun q => absurd q (by omega), fun _ => ?_⟩
      refine S_findName (by omega) hX hp hC (hS.1 t (by omega)) (hW.c (show t < 4 by omega)) (fun i hi => hS.2.2.2.2.2.2.2.1 t i (by omega) hi) (fun i hi => hW.2.2.2.2.2.1 t i (by omega) hi) (show t < 4 by omega) c (fun v hv => ⟨_, _, _, rfl, rfl, ?_⟩)
      have hct := hW.c (show t < 4 by omega)
      have hcc : (cpc t : Int) ≤ 14 := by
        have e : t = 0 ∨ t = 1 ∨ t = 2 ∨ t = 3 := by omega
        rcases e with e | e | e | e <;> subst e <;> decide
      have hf := fd_in (N t) hct.1 (lR T n p)
      rw [← hv] at hf
      refine ⟨by unfold inR; omega, fun c2 => ?_, fun c2 => ?_⟩
      · exact ih (t + 1) _ (by omega) (by omega) (fun u hu => by
          by_cases e : u = t
          · rw [e, ← hv, c2]
          · exact hall u (by omega))
      · exact h2 c (fun q => c2 (by rw [hv]; exact q t (by omega)))
  exact loop 4 0 0 rfl rfl (fun u hu => absurd hu (Nat.not_lt_zero _))
end CPRIM
