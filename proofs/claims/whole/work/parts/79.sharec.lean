section SHAREC
/-! ===== the class's search for the best way to share ===== -/
theorem mxF_le {n : Nat} {f : Nat → Int} {b : Int} (hb : 0 ≤ b) (h : ∀ i, i < n → f i ≤ b) : mxF n f ≤ b := by
  induction n with
  | zero => exact hb
  | succ n ih =>
    have h1 := ih (fun i hi => h i (by omega))
    have h2 := h n (by omega)
    rw [mxF]
    omega
theorem shmo_bd {L : Lb} {R : Rl} {H : Hl} (hL : WfL L) (pg : Nat → Nat) (m k w : Nat) : 0 ≤ shmo L R H pg m k w ∧ shmo L R H pg m k w ≤ 7000 := ⟨mxF_nn _ _, mxF_le (by decide) (fun i _ => (shn_bd hL).2)⟩
theorem shal_bd {L : Lb} {R : Rl} {H : Hl} (hL : WfL L) (pg : Nat → Nat) {m : Nat} (hm : m ≤ 3) (k w : Nat) : 0 ≤ shal L R H pg m k w ∧ shal L R H pg m k w ≤ 21000 := by
  have := smi_bd (n := m) (f := fun s => shw L R H pg m s k w) (b := 7000) (by decide) (fun i _ => shw_bd hL)
  unfold shal
  omega
theorem shq_lt {pg : Nat → Nat} {m s n : Nat} (hpg : ∀ i, i < n → pg i < 14) : ∀ (k w : Nat), k ≤ n → shq pg m s k w < 2 ^ 14
  | 0, _, _ => by
    show 0 < 2 ^ 14
    decide
  | k + 1, w, h => by
    rw [shq]
    refine or_lt14 (shq_lt hpg k _ (by omega)) ?_
    split
    · exact Nat.pow_lt_pow_right (by decide) (hpg k (by omega))
    · decide
theorem shc_lt {L : Lb} {H : Hl} (hL : WfL L) {pg : Nat → Nat} {m s n : Nat} (hpg : ∀ i, i < n → pg i < 14) (k w : Nat) (hk : k ≤ n) : shc L H pg m s k w < 16384 := clo_lt hL _ _ (shq_lt hpg k w hk)
def shd (m k w i : Nat) : Nat := (w / m ^ (k - 1 - i)) % m
theorem shd_ch {m k w s i : Nat} (hs : s < m) : shd m (k + 1) (m * w + s) i = if i < k then shd m k w i else if i = k then s else shd m (k + 1) (m * w + s) i := by
  unfold shd
  by_cases h : i < k
  · rw [if_pos h, show k + 1 - 1 - i = (k - 1 - i) + 1 by omega, Nat.pow_succ, Nat.mul_comm (m ^ _) m, ← Nat.div_div_eq_div_mul, child_div hs]
  · rw [if_neg h]
    by_cases e : i = k
    · rw [if_pos e, show k + 1 - 1 - i = 0 by omega, Nat.pow_zero, Nat.div_one, child_mod hs]
    · rw [if_neg e]
/-- what was measured -/
def shI (I : Nat → Nat → Int32) (L : Lb) (R : Rl) (H : Hl) (pg : Nat → Nat) (m n : Nat) : Prop := gi I 54 7 = n ∧ gi I 54 8 = m ∧ (∀ s : Nat, s < m → gi I 58 s = lno L R H s) ∧ (∀ s : Nat, s < m → ∀ p : Nat, p < (nP L).toNat → gi I 59 (s * 14 + p) = tnw L R H s p) ∧ (∀ s : Nat, s < m → ∀ j : Nat, j < n → gi I 60 (s * 8 + j) = ((clo L (kn H s) 0 (2 ^ pg j) : Nat) : Int))
/-- the parts as they are behind the first k pages -/
def shP (I : Nat → Nat → Int32) (L : Lb) (R : Rl) (H : Hl) (pg : Nat → Nat) (m k w : Nat) : Prop := ∀ s : Nat, s < m → gi I 61 s = ((shc L H pg m s k w : Nat) : Int) ∧ gi I 62 s = shw L R H pg m s k w
def shG (I : Nat → Nat → Int32) (m k w : Nat) : Prop := ∀ i : Nat, i < k → gi I 56 i = ((shd m k w i : Nat) : Int)
/-- the best that was found so far -/
def shO (I : Nat → Nat → Int32) (L : Lb) (R : Rl) (H : Hl) (pg : Nat → Nat) (m n : Nat) : Option Nat → Prop
  | none => gi I 54 3 = -1
  | some b => gi I 54 3 = shmo L R H pg m n b ∧ gi I 54 4 = shal L R H pg m n b ∧ shcn L R H pg m n b ∧ ∀ i : Nat, i < n → gi I 57 i = ((shd m n b i : Nat) : Int)
def shov (L : Lb) (R : Rl) (H : Hl) (pg : Nat → Nat) (m n : Nat) (o : Option Nat) (P : Nat → Prop) : Prop := ∀ v, P v → shcn L R H pg m n v → ∃ b, o = some b ∧ geq (shkey L R H pg m n b) (shkey L R H pg m n v)
theorem shov.tr {L : Lb} {R : Rl} {H : Hl} {pg : Nat → Nat} {m n : Nat} {o o' : Option Nat} {P : Nat → Prop} (h : shov L R H pg m n o P) (h' : shov L R H pg m n o' (fun b => o = some b)) (hc : ∀ b, o = some b → shcn L R H pg m n b) : shov L R H pg m n o' P := fun v hv hf => by
  obtain ⟨b, e, g⟩ := h v hv hf
  obtain ⟨b', e', g'⟩ := h' b e (hc b e)
  exact ⟨b', e', g'.tr g⟩
abbrev FSh : List (Nat × Nat) := [(54, 3), (54, 4)]
abbrev CSh : List Nat := [56, 57, 61, 62]
theorem shI_fr {I I' : Nat → Nat → Int32} {L : Lb} {R : Rl} {H : Hl} {pg : Nat → Nat} {m n : Nat} (h : Fr CSh FSh I I') (hI : shI I L R H pg m n)   : shI I' L R H pg m n := by
  obtain ⟨a, b, c, d, e⟩ := hI
  exact ⟨(h.gv 54 7 (by decide) (by decide)).trans a, (h.gv 54 8 (by decide) (by decide)).trans b, fun s hs => (h.gv 58 s (by decide) (by simp)).trans (c s hs), fun s hs p hp => (h.gv 59 _ (by decide) (by simp)).trans (d s hs p hp), fun s hs j hj => (h.gv 60 _ (by decide) (by simp)).trans (e s hs j hj)⟩
theorem S_X6_mins {k : Nat} {P : Option Nat} {I : Nat → Nat → Int32} {J : Nat → Nat → Int64} {Q : Option AV → Mem → Prop} {L : Lb} {R : Rl} {H : Hl} {pg : Nat → Nat} {m n s a : Nat} (hX : CX I L R H) (hI : shI I L R H pg m n) (hm : m ≤ 3) (hs : s < m) (ha : a < 16384) (hQ : Q (some (vI (wrk L R H s a))) (mem (rv0 P) I J)) : WPm k LAY m_X6_minutesOf [vR (some 54), vI (s : Int), vI (a : Int)] (mem (rv0 P) I J) Q := by
  have hL := hX.1.2.2.2.1
  have hP := hL.2.1
  refine WPm.of k_X6_minutesOf.1 (Nat.le_of_ble_eq_true rfl) (B_X6_minutesOf_0 (by omega) ?_)
  have loop : ∀ (d p : Nat) (x y : Int), p + d = (nP L).toNat → x = p → y = smi p (fun p => if a.testBit p = true then tnw L R H s p else 0) → WP k LAY m_X6_minutesOf 5 [(0, vR (some 54)), (1, vI (s : Int)), (2, vI (a : Int)), (3, vI y), (4, vI x)] [] (mem (P, some 5, some 22) I J) Q := by
    intro d
    induction d with
    | zero =>
      intro p x y hp hx hy
      refine B_X6_minutesOf_5 (by omega) ?_
      rw [cx_p hX]
      refine ⟨⟨by omega, by omega⟩, fun _ => ?_, fun q => absurd q (by omega)⟩
      exact Qat hQ (by rw [hy]; unfold wrk; rw [show (nP L).toNat = p by omega])
    | succ d ih =>
      intro p x y hp hx hy
      subst hx
      refine B_X6_minutesOf_5 (by omega) ?_
      rw [cx_p hX, andp_iff (by omega) (by omega)]
      refine ⟨⟨by omega, by omega⟩, fun q => absurd q (by omega), fun _ => ⟨fun q => ?_, fun q => ⟨⟨by omega, by omega⟩, ?_⟩⟩⟩
      · refine ih (p + 1) _ _ (by omega) (by omega) ?_
        rw [wrk_loop, if_neg (by rw [q]; decide)]
        omega
      · rw [show (((s : Int) * 14) + (p : Int)).toNat = s * 14 + p by omega, hI.2.2.2.1 s hs p (by omega)]
        refine ih (p + 1) _ _ (by omega) (by omega) ?_
        rw [wrk_loop, if_pos (by cases h : a.testBit p; exact absurd h q; rfl), hy]
  exact loop (nP L).toNat 0 0 0 (Nat.zero_add _) rfl rfl
theorem sh_cut {I : Nat → Nat → Int32} {L : Lb} {R : Rl} {H : Hl} (hL : WfL L) {pg : Nat → Nat} {m n d k w b : Nat} (hm : 0 < m) (hkd : k + d = n) (ho : shO I L R H pg m n (some b)) (hb : b / m ^ d < w) (hct : gi I 54 3 < shmo L R H pg m k w ∨ shmo L R H pg m k w = gi I 54 3 ∧ ¬ shal L R H pg m k w < gi I 54 4) : shov L R H pg m n (some b) (fun v => v / m ^ d = w) := by
  intro v hv hf
  have hv : v / m ^ d = w := hv
  refine ⟨b, rfl, ?_⟩
  subst hkd
  obtain ⟨-, u1, u2⟩ := shcn_up hL hm d k v hf
  rw [hv] at u1 u2
  have hbv : b < v := by
    by_cases h : b < v
    · exact h
    · have := Nat.div_le_div_right (c := m ^ d) (Nat.le_of_not_lt h)
      omega
  obtain ⟨o1, o2, -, -⟩ := ho
  unfold geq shkey
  dsimp only
  omega
theorem shO_fr {I I' : Nat → Nat → Int32} {L : Lb} {R : Rl} {H : Hl} {pg : Nat → Nat} {m n : Nat} {o : Option Nat} (h : ∀ c j, c = 54 ∨ c = 57 → gi I' c j = gi I c j) (ho : shO I L R H pg m n o) : shO I' L R H pg m n o := by
  rcases o with _ | b
  · exact (h 54 3 (Or.inl rfl)).trans ho
  · obtain ⟨a, b2, c, d⟩ := ho
    exact ⟨(h 54 3 (Or.inl rfl)).trans a, (h 54 4 (Or.inl rfl)).trans b2, c, fun i hi => (h 57 i (Or.inr rfl)).trans (d i hi)⟩
theorem shO_cn {I : Nat → Nat → Int32} {L : Lb} {R : Rl} {H : Hl} {pg : Nat → Nat} {m n : Nat} {o : Option Nat} (ho : shO I L R H pg m n o) : ∀ b, o = some b → shcn L R H pg m n b := fun b e => by
  subst e
  exact ho.2.2.1
theorem S_X6_share {P : Option Nat} {J : Nat → Nat → Int64} {L : Lb} {R : Rl} {H : Hl} {pg : Nat → Nat} {m n : Nat} (hm : 0 < m ∧ m ≤ 3) (hn : n ≤ 8) (hpg : ∀ i, i < n → pg i < 14) : ∀ (d k w kk : Nat) (I : Nat → Nat → Int32) (o : Option Nat) (Q : Option AV → Mem → Prop), k + d = n → d + 2 ≤ kk → CX I L R H → shI I L R H pg m n → shP I L R H pg m k w → shG I m k w → shcn L R H pg m k w → shO I L R H pg m n o → (∀ b, o = some b → b / m ^ d < w) →
    (∀ I' o', Fr CSh FSh I I' → shP I' L R H pg m k w → shG I' m k w → shO I' L R H pg m n o' → (o' = o ∨ ∃ b, o' = some b ∧ b / m ^ d = w) → shov L R H pg m n o' (fun b => o = some b) → shov L R H pg m n o' (fun v => v / m ^ d = w) → Q none (mem (rv0 P) I' J)) → WPm kk LAY m_X6_share [vR (some 54), vI (k : Int), vI (shmo L R H pg m k w), vI (shal L R H pg m k w)] (mem (rv0 P) I J) Q := by
  intro d
  induction d with
  | zero =>
    intro k w kk I o Q hkd hkk hX hI hp hg hc ho hb hQ
    have hL := hX.1.2.2.2.1
    have mb := shmo_bd (R := R) (H := H) hL pg m k w
    have ab := shal_bd (R := R) (H := H) hL pg hm.2 k w
    have ek : k = n := by omega
    subst ek
    have e1 : ∀ b, b / m ^ 0 = b := fun b => by rw [Nat.pow_zero, Nat.div_one]
    have i7 := hI.1
    have i8 := hI.2.1
    have upd : shov L R H pg m k (some w) (fun b => o = some b) → (inR (k : Int) ∧ (((k : Int) < (gi I 54 7) → (WP kk LAY m_X6_share 28 [(0, vR (some 54)), (1, vI (k : Int)), (2, vI (shmo L R H pg m k w)), (3, vI (shal L R H pg m k w)), (4, vI 0)] [] (mem (P, some 5, some 22) I J) Q)) ∧ (¬ (k : Int) < (gi I 54 7) → (Q none (mem (P, some 5, some 22) (fc (si (si I 54 3 (shmo L R H pg m k w)) 54 4 (shal L R H pg m k w)) 56 0 57 0 8) J))))) := by
      intro hov
      rw [i7]
      refine ⟨⟨by omega, by omega⟩, fun q => absurd q (by omega), fun _ => ?_⟩
      have hF : Fr CSh FSh I (fc (si (si I 54 3 (shmo L R H pg m k w)) 54 4 (shal L R H pg m k w)) 56 0 57 0 8) := by
        intro c j h1 h2
        have c57 : c ≠ 57 := fun t => h1 (by rw [t]; decide)
        rw [show fc (si (si I 54 3 (shmo L R H pg m k w)) 54 4 (shal L R H pg m k w)) 56 0 57 0 8 c = si (si I 54 3 (shmo L R H pg m k w)) 54 4 (shal L R H pg m k w) c from if_neg c57]
        exact (((Fr.rf CSh FSh I).up 54 3 _ (Or.inr (by decide))).up 54 4 _ (Or.inr (by decide))) c j h1 h2
      have f : ∀ c j, c ≠ 57 → c ≠ 54 → gi (fc (si (si I 54 3 (shmo L R H pg m k w)) 54 4 (shal L R H pg m k w)) 56 0 57 0 8) c j = gi I c j := fun c j h1 h2 => by
        rw [gi_fcell _ _ _ _ _ _ h1, gi_cell _ _ _ _ h2, gi_cell _ _ _ _ h2]
      have g3 : gi (fc (si (si I 54 3 (shmo L R H pg m k w)) 54 4 (shal L R H pg m k w)) 56 0 57 0 8) 54 3 = shmo L R H pg m k w := by
        rw [gi_fcell _ _ _ _ _ _ (by decide), gi_idx _ _ _ (by decide), gi_same _ _ _ ⟨by omega, by omega⟩]
      have g4 : gi (fc (si (si I 54 3 (shmo L R H pg m k w)) 54 4 (shal L R H pg m k w)) 56 0 57 0 8) 54 4 = shal L R H pg m k w := by
        rw [gi_fcell _ _ _ _ _ _ (by decide), gi_same _ _ _ ⟨by omega, by omega⟩]
      have g57 : ∀ i : Nat, i < k → gi (fc (si (si I 54 3 (shmo L R H pg m k w)) 54 4 (shal L R H pg m k w)) 56 0 57 0 8) 57 i = gi I 56 i := fun i hi => by
        rw [gi_fc, if_pos ⟨rfl, by omega, by omega⟩, show 0 + (i - 0) = i by omega, gi_cell _ _ _ _ (by decide), gi_cell _ _ _ _ (by decide)]
      generalize fc (si (si I 54 3 (shmo L R H pg m k w)) 54 4 (shal L R H pg m k w)) 56 0 57 0 8 = I' at hF f g3 g4 g57 ⊢
      refine hQ I' (some w) hF (fun s hs => ?_) (fun i hi => (f 56 i (by decide) (by decide)).trans (hg i hi)) ⟨g3, g4, hc, fun i hi => (g57 i hi).trans (hg i hi)⟩ (Or.inr ⟨w, rfl, e1 w⟩) hov (fun v hv _ => ?_)
      · rw [f 61 s (by decide) (by decide), f 62 s (by decide) (by decide)]
        exact hp s hs
      · have hv : v = w := (e1 v).symm.trans hv
        exact ⟨w, rfl, by rw [hv]; exact geq.rf _⟩
    have cut : ∀ b, o = some b → (gi I 54 3 < shmo L R H pg m k w ∨ shmo L R H pg m k w = gi I 54 3 ∧ ¬ shal L R H pg m k w < gi I 54 4) → Q none (mem (P, some 5, some 22) I J) := fun b hob hct => by
      subst hob
      exact hQ I (some b) (Fr.rf _ _ _) hp hg ho (Or.inl rfl) (fun v hv _ => ⟨b, rfl, by rw [Option.some.inj hv]; exact geq.rf _⟩) (sh_cut hL hm.1 hkd ho (hb b rfl) hct)
    refine WPm.of k_X6_share.1 (Nat.le_of_ble_eq_true rfl) (B_X6_share_0 (by omega) ?_)
    rcases o with _ | b
    · have h3 : gi I 54 3 = -1 := ho
      exact ⟨fun _ => upd (fun v hv _ => absurd (show (none : Option Nat) = some v from hv) (by simp)), fun q => absurd h3 q⟩
    · have o3 := ho.1
      have o4 := ho.2.1
      have bb := shmo_bd (R := R) (H := H) hL pg m k b
      have ba := shal_bd (R := R) (H := H) hL pg hm.2 k b
      have up2 : shmo L R H pg m k w < gi I 54 3 ∨ shmo L R H pg m k w = gi I 54 3 ∧ shal L R H pg m k w < gi I 54 4 → shov L R H pg m k (some w) (fun b' => some b = some b') := fun hlt v hv _ => ⟨w, rfl, by
        have hv : b = v := Option.some.inj hv
        subst hv
        unfold geq shkey
        dsimp only
        omega⟩
      refine ⟨fun q => absurd q (by omega), fun _ => ⟨⟨by omega, by omega⟩, fun q => cut b rfl (Or.inl q), fun q => ⟨fun q2 => upd (up2 (Or.inl (by omega))), fun q2 => ⟨⟨by omega, by omega⟩, fun q3 => upd (up2 (Or.inr ⟨q2, q3⟩)), fun q3 => cut b rfl (Or.inr ⟨q2, q3⟩)⟩⟩⟩⟩
  | succ d ih =>
    intro k w kk I o Q hkd hkk hX hI hp hg hc ho hb hQ
    have hL := hX.1.2.2.2.1
    have mb := shmo_bd (R := R) (H := H) hL pg m k w
    have ab := shal_bd (R := R) (H := H) hL pg hm.2 k w
    have i7 := hI.1
    have cut : ∀ b, o = some b → (gi I 54 3 < shmo L R H pg m k w ∨ shmo L R H pg m k w = gi I 54 3 ∧ ¬ shal L R H pg m k w < gi I 54 4) → Q none (mem (P, some 5, some 22) I J) := fun b hob hct => by
      subst hob
      exact hQ I (some b) (Fr.rf _ _ _) hp hg ho (Or.inl rfl) (fun v hv _ => ⟨b, rfl, by rw [Option.some.inj hv]; exact geq.rf _⟩) (sh_cut hL hm.1 hkd ho (hb b rfl) hct)
    -- what stands in a child's own part
    have chd : ∀ v : Nat, v / m ^ (d + 1) = v / m ^ d / m := fun v => by rw [Nat.pow_succ, Nat.div_div_eq_div_mul]
    have loop : ∀ (e s : Nat) (x : Int) (I1 : Nat → Nat → Int32) (o1 : Option Nat), s + e = m → x = s → Fr CSh FSh I I1 → shP I1 L R H pg m k w → shG I1 m k w → shO I1 L R H pg m n o1 → (o1 = o ∨ ∃ b, o1 = some b ∧ b / m ^ (d + 1) = w) → (∀ b, o1 = some b → b / m ^ d < m * w + s) → shov L R H pg m n o1 (fun b => o = some b) → shov L R H pg m n o1 (fun v => ∃ s', s' < s ∧ v / m ^ d = m * w + s') → WP kk LAY m_X6_share 28 [(0, vR (some 54)), (1, vI (k : Int)), (2, vI (shmo L R H pg m k w)), (3, vI (shal L R H pg m k w)), (4, vI x)] [] (mem (P, some 5, some 22) I1 J) Q := by
      intro e
      induction e with
      | zero =>
        intro s x I1 o1 hse hx hF hp1 hg1 ho1 hr1 hb1 hv1 hw1
        refine B_X6_share_28 (by omega) ?_
        rw [(shI_fr hF hI).2.1]
        refine ⟨⟨by omega, by omega⟩, fun _ => hQ I1 o1 hF hp1 hg1 ho1 hr1 hv1 (fun v hv hf => ?_), fun q => absurd q (by omega)⟩
        refine hw1 v ⟨v / m ^ d % m, ?_, ?_⟩ hf
        · rw [show s = m by omega]
          exact Nat.mod_lt _ hm.1
        · rw [← show v / m ^ (d + 1) = w from hv, chd, Nat.div_add_mod]
      | succ e ih2 =>
        intro s x I1 o1 hse hx hF hp1 hg1 ho1 hr1 hb1 hv1 hw1
        subst hx
        have hs : s < m := by omega
        have hX1 := hX.fr (hF.cx (by decide) (by decide))
        have hI1 := shI_fr hF hI
        have p61 := (hp1 s hs).1
        have p62 := (hp1 s hs).2
        have i58 := hI1.2.2.1 s hs
        have i60 := hI1.2.2.2.2 s hs k (by omega)
        have lb := lno_bd (R := R) (H := H) hL s
        have cb1 := shc_lt (H := H) hL (m := m) (s := s) hpg k w (by omega)
        have cb2 : clo L (kn H s) 0 (2 ^ pg k) < 16384 := clo_lt hL _ _ (show 2 ^ pg k < 2 ^ 14 from Nat.pow_lt_pow_right (by decide) (hpg k (by omega)))
        have cb3 := dif_lt (b := shc L H pg m s k w) cb2
        have sch := shw_ch (L := L) (R := R) (H := H) (pg := pg) (m := m) (s := s) (s' := s) (k := k) (w := w) hs
        rw [if_pos rfl] at sch
        have wb := shw_bd (R := R) (H := H) hL (pg := pg) (m := m) (s := s) (k := k + 1) (w := m * w + s)
        have wb0 := shw_bd (R := R) (H := H) hL (pg := pg) (m := m) (s := s) (k := k) (w := w)
        have nex : ∀ I2 o2, Fr CSh FSh I I2 → shP I2 L R H pg m k w → shG I2 m k w → shO I2 L R H pg m n o2 → (o2 = o1 ∨ ∃ b, o2 = some b ∧ b / m ^ d = m * w + s) → shov L R H pg m n o2 (fun b => o1 = some b) → shov L R H pg m n o2 (fun v => v / m ^ d = m * w + s) → WP kk LAY m_X6_share 28 [(0, vR (some 54)), (1, vI (k : Int)), (2, vI (shmo L R H pg m k w)), (3, vI (shal L R H pg m k w)), (4, vI ((s : Int) + 1))] [] (mem (P, some 5, some 22) I2 J) Q := by
          intro I2 o2 f1 f2 f3 f4 f5 f6 f7
          refine ih2 (s + 1) _ I2 o2 (by omega) rfl f1 f2 f3 f4 ?_ (fun b hb2 => ?_) (hv1.tr f6 (shO_cn ho1)) (fun v hv hf => ?_)
          · rcases f5 with f5 | ⟨b, g1, g2⟩
            · rw [f5]; exact hr1
            · exact Or.inr ⟨b, g1, by rw [chd, g2, child_div hs]⟩
          · rcases f5 with f5 | ⟨b', g1, g2⟩
            · have := hb1 b (f5.symm.trans hb2)
              omega
            · have : b' = b := Option.some.inj (g1.symm.trans hb2)
              rw [← this, g2]
              omega
          · obtain ⟨s', g1, g2⟩ := hv
            by_cases q : s' = s
            · subst q
              exact f7 v g2 hf
            · exact (hw1.tr f6 (shO_cn ho1)) v ⟨s', by omega, g2⟩ hf
        have skip : shn L R H pg m s (k + 1) (m * w + s) = -1 → WP kk LAY m_X6_share 28 [(0, vR (some 54)), (1, vI (k : Int)), (2, vI (shmo L R H pg m k w)), (3, vI (shal L R H pg m k w)), (4, vI ((s : Int) + 1))] [] (mem (P, some 5, some 22) I1 J) Q := fun hno => nex I1 o1 hF hp1 hg1 ho1 (Or.inl rfl) (fun b hb2 _ => ⟨b, hb2, geq.rf _⟩) (fun v hv hf => by
          have hu := (shcn_up (R := R) (H := H) hL (pg := pg) hm.1 d (k + 1) v (by rw [show k + 1 + d = n by omega]; exact hf)).1 s hs
          rw [show v / m ^ d = m * w + s from hv] at hu
          exact absurd hno hu)
        have recu : shn L R H pg m s (k + 1) (m * w + s) ≠ -1 → WPm (kk - 1) LAY m_X6_share [vR (some 54), vI ((k : Int) + 1), vI (max (shmo L R H pg m k w) (shn L R H pg m s (k + 1) (m * w + s))), vI (shal L R H pg m k w + wrk L R H s (dif (clo L (kn H s) 0 (2 ^ pg k)) (shc L H pg m s k w)))] (mem (P, some 5, some 22) (si (si (si I1 56 k (s : Int)) 61 s (or32 ((shc L H pg m s k w : Nat) : Int) ((dif (clo L (kn H s) 0 (2 ^ pg k)) (shc L H pg m s k w) : Nat) : Int))) 62 s (shw L R H pg m s (k + 1) (m * w + s))) J) (retV (fun I14 J15 => WP kk LAY m_X6_share 28 [(0, vR (some 54)), (1, vI (k : Int)), (2, vI (shmo L R H pg m k w)), (3, vI (shal L R H pg m k w)), (4, vI ((s : Int) + 1))] [] (mem (P, some 5, some 22) (si (si I14 61 s ((shc L H pg m s k w : Nat) : Int)) 62 s (shw L R H pg m s k w)) J15) Q) (P, some 5, some 22)) := by
          intro hno
          obtain ⟨c1, c2, c3⟩ := sh_step (R := R) hL hs hc hno
          have cb4 := shc_lt (H := H) hL (m := m) (s := s) hpg (k + 1) (m * w + s) (by omega)
          have eo : or32 ((shc L H pg m s k w : Nat) : Int) ((dif (clo L (kn H s) 0 (2 ^ pg k)) (shc L H pg m s k w) : Nat) : Int) = ((shc L H pg m s (k + 1) (m * w + s) : Nat) : Int) := by
            rw [or32_nat (by omega) (by omega), or_dif_self, shc_ch hs, if_pos rfl]
          rw [← c2, ← c3, eo]
          have hF2 : Fr CSh FSh I1 (si (si (si I1 56 k (s : Int)) 61 s ((shc L H pg m s (k + 1) (m * w + s) : Nat) : Int)) 62 s (shw L R H pg m s (k + 1) (m * w + s))) := (((Fr.rf _ _ I1).up 56 _ _ (Or.inl (by decide))).up 61 _ _ (Or.inl (by decide))).up 62 _ _ (Or.inl (by decide))
          have a61 : gi (si (si (si I1 56 k (s : Int)) 61 s ((shc L H pg m s (k + 1) (m * w + s) : Nat) : Int)) 62 s (shw L R H pg m s (k + 1) (m * w + s))) 61 s = ((shc L H pg m s (k + 1) (m * w + s) : Nat) : Int) := by
            rw [gi_cell _ _ _ _ (by decide), gi_same _ _ _ ⟨by omega, by omega⟩]
          have a62 : gi (si (si (si I1 56 k (s : Int)) 61 s ((shc L H pg m s (k + 1) (m * w + s) : Nat) : Int)) 62 s (shw L R H pg m s (k + 1) (m * w + s))) 62 s = shw L R H pg m s (k + 1) (m * w + s) := gi_same _ _ _ ⟨by omega, by omega⟩
          have b61 : ∀ s' : Nat, s' ≠ s → gi (si (si (si I1 56 k (s : Int)) 61 s ((shc L H pg m s (k + 1) (m * w + s) : Nat) : Int)) 62 s (shw L R H pg m s (k + 1) (m * w + s))) 61 s' = gi I1 61 s' := fun s' h => by
            rw [gi_cell _ _ _ _ (by decide), gi_idx _ _ _ h, gi_cell _ _ _ _ (by decide)]
          have b62 : ∀ s' : Nat, s' ≠ s → gi (si (si (si I1 56 k (s : Int)) 61 s ((shc L H pg m s (k + 1) (m * w + s) : Nat) : Int)) 62 s (shw L R H pg m s (k + 1) (m * w + s))) 62 s' = gi I1 62 s' := fun s' h => by
            rw [gi_idx _ _ _ h, gi_cell _ _ _ _ (by decide), gi_cell _ _ _ _ (by decide)]
          have a56 : gi (si (si (si I1 56 k (s : Int)) 61 s ((shc L H pg m s (k + 1) (m * w + s) : Nat) : Int)) 62 s (shw L R H pg m s (k + 1) (m * w + s))) 56 k = (s : Int) := by
            rw [gi_cell _ _ _ _ (by decide), gi_cell _ _ _ _ (by decide), gi_same _ _ _ ⟨by omega, by omega⟩]
          have b56 : ∀ i : Nat, i ≠ k → gi (si (si (si I1 56 k (s : Int)) 61 s ((shc L H pg m s (k + 1) (m * w + s) : Nat) : Int)) 62 s (shw L R H pg m s (k + 1) (m * w + s))) 56 i = gi I1 56 i := fun i h => by
            rw [gi_cell _ _ _ _ (by decide), gi_cell _ _ _ _ (by decide), gi_idx _ _ _ h]
          have b54 : ∀ c j, c = 54 ∨ c = 57 → gi (si (si (si I1 56 k (s : Int)) 61 s ((shc L H pg m s (k + 1) (m * w + s) : Nat) : Int)) 62 s (shw L R H pg m s (k + 1) (m * w + s))) c j = gi I1 c j := fun c j h => by
            rw [gi_cell _ _ _ _ (by omega), gi_cell _ _ _ _ (by omega), gi_cell _ _ _ _ (by omega)]
          generalize si (si (si I1 56 k (s : Int)) 61 s ((shc L H pg m s (k + 1) (m * w + s) : Nat) : Int)) 62 s (shw L R H pg m s (k + 1) (m * w + s)) = I2 at hF2 a61 a62 b61 b62 a56 b56 b54 ⊢
          have hX2 := hX1.fr (hF2.cx (by decide) (by decide))
          have hp2 : shP I2 L R H pg m (k + 1) (m * w + s) := fun s' hs' => by
            by_cases q : s' = s
            · subst q
              exact ⟨a61, a62⟩
            · rw [b61 s' q, b62 s' q, shc_ch hs, shw_ch hs, if_neg (fun t => q t.symm), if_neg (fun t => q t.symm)]
              exact hp1 s' hs'
          have hg2 : shG I2 m (k + 1) (m * w + s) := fun i hi => by
            rw [shd_ch hs]
            by_cases q : i = k
            · rw [q, a56, if_neg (Nat.lt_irrefl _), if_pos rfl]
            · rw [b56 i q, if_pos (by omega)]
              exact hg1 i (by omega)
          refine ih (k + 1) (m * w + s) (kk - 1) I2 o1 _ (by omega) (by omega) hX2 (shI_fr hF2 hI1) hp2 hg2 c1 (shO_fr b54 ho1) hb1 (fun I' o' f1 f2 f3 f4 f5 f6 f7 => ⟨_, _, rfl, rfl, ?_⟩)
          try dsimp only
          have hF3 : Fr CSh FSh I1 (si (si I' 61 s ((shc L H pg m s k w : Nat) : Int)) 62 s (shw L R H pg m s k w)) := ((hF2.tr f1).up 61 _ _ (Or.inl (by decide))).up 62 _ _ (Or.inl (by decide))
          refine nex _ o' (hF.tr hF3) (fun s' hs' => ?_) (fun i hi => ?_) (shO_fr (fun c j h => ?_) f4) f5 f6 f7
          · by_cases q : s' = s
            · subst q
              exact ⟨by rw [gi_cell _ _ _ _ (by decide), gi_same _ _ _ ⟨by omega, by omega⟩], gi_same _ _ _ ⟨by omega, by omega⟩⟩
            · have := f2 s' hs'
              rw [shc_ch hs, shw_ch hs, if_neg (fun t => q t.symm), if_neg (fun t => q t.symm)] at this
              rw [gi_cell _ _ _ _ (show 61 ≠ 62 by decide), gi_idx _ _ _ q, gi_idx _ _ _ q, gi_cell _ _ _ _ (show 62 ≠ 61 by decide)]
              exact this
          · have := f3 i (by omega)
            rw [shd_ch hs, if_pos hi] at this
            rw [gi_cell _ _ _ _ (by decide), gi_cell _ _ _ _ (by decide)]
            exact this
          · rw [gi_cell _ _ _ _ (by omega), gi_cell _ _ _ _ (by omega)]
        refine B_X6_share_28 (by omega) ?_
        rw [hI1.2.1]
        refine ⟨⟨by omega, by omega⟩, fun q => absurd q (by omega), fun _ => ⟨⟨by omega, by omega⟩, ⟨by omega, by omega⟩, fun y4 hy4 => ?_⟩⟩
        rw [Int.toNat_natCast, show (((s : Int) * 8) + (k : Int)).toNat = s * 8 + k by omega, i60, p61, andn32_nat (by omega) (by omega)] at hy4
        subst hy4
        refine S_X6_mins hX1 hI1 hm.2 hs (by omega) ⟨_, _, _, rfl, rfl, ?_⟩
        try dsimp only
        rw [Int.toNat_natCast, Int.toNat_natCast, p61, p62, ← sch, i58]
        have en : shn L R H pg m s (k + 1) (m * w + s) = ngt (shw L R H pg m s (k + 1) (m * w + s)) (lno L R H s) := rfl
        unfold ngt at en
        refine ⟨⟨by omega, by omega⟩, fun q => ⟨fun q2 => skip ?_, fun q2 => ⟨by omega, fun y10 hy => ?_⟩⟩, fun q => ⟨⟨by omega, by omega⟩, ⟨by omega, by omega⟩, ?_⟩⟩
        · rw [en, if_neg q, if_pos (by omega)]
        · rw [div32_pos ⟨by omega, by omega⟩ ⟨by omega, by omega⟩] at hy
          rw [if_neg q, if_neg (by omega), ← hy] at en
          rw [← en]
          exact ⟨fun q3 => skip q3, fun q3 => ⟨⟨by omega, by omega⟩, ⟨by omega, by omega⟩, recu q3⟩⟩
        · rw [if_pos q] at en
          have r := recu (by rw [en]; decide)
          rw [en] at r
          exact r
    have body : (inR (k : Int) ∧ (((k : Int) < (gi I 54 7) → (WP kk LAY m_X6_share 28 [(0, vR (some 54)), (1, vI (k : Int)), (2, vI (shmo L R H pg m k w)), (3, vI (shal L R H pg m k w)), (4, vI 0)] [] (mem (P, some 5, some 22) I J) Q)) ∧ (¬ (k : Int) < (gi I 54 7) → (Q none (mem (P, some 5, some 22) (fc (si (si I 54 3 (shmo L R H pg m k w)) 54 4 (shal L R H pg m k w)) 56 0 57 0 8) J))))) := by
      rw [i7]
      refine ⟨⟨by omega, by omega⟩, fun _ => loop m 0 0 I o (Nat.zero_add _) rfl (Fr.rf _ _ _) hp hg ho (Or.inl rfl) (fun b hb2 => ?_) (fun b hb2 _ => ⟨b, hb2, geq.rf _⟩) (fun v hv _ => ?_), fun q => absurd q (by omega)⟩
      · have h1 := hb b hb2
        rw [chd, Nat.div_lt_iff_lt_mul hm.1, Nat.mul_comm] at h1
        exact h1
      · obtain ⟨s', g, -⟩ := hv
        exact absurd g (Nat.not_lt_zero _)
    refine WPm.of k_X6_share.1 (Nat.le_of_ble_eq_true rfl) (B_X6_share_0 (by omega) ?_)
    rcases o with _ | b
    · exact ⟨fun _ => body, fun q => absurd ho q⟩
    · have o3 := ho.1
      have o4 := ho.2.1
      have bb := shmo_bd (R := R) (H := H) hL pg m n b
      exact ⟨fun _ => body, fun _ => ⟨⟨by omega, by omega⟩, fun q => cut b rfl (Or.inl q), fun q => ⟨fun q2 => body, fun q2 => ⟨⟨by omega, by omega⟩, fun q3 => body, fun q3 => cut b rfl (Or.inr ⟨q2, q3⟩)⟩⟩⟩⟩
end SHAREC
