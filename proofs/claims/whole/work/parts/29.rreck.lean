section RREC
/-! ===== the reference reckons a rule ===== -/
theorem gl_row {J J' : Nat → Nat → Int64} {c : Nat} (h : J' c = J c) : gl J' c = gl J c := by
  funext k
  unfold gl
  rw [h]
theorem reck_loop {k : Nat} {P : Option Nat} {I : Nat → Nat → Int32} {Q : Option AV → Mem → Prop} {v : Int} {L : Lb} {R : Rl} {H : Hl} {r kk ln pr : Int} {g : Bool} (hk : 3 ≤ k) (hX : RX I v L R H) (hr : 0 ≤ r ∧ r < nR L) (hA : askR I v L H r kk ln pr) (hE : envOk (envR L H (gi I 74 73) r kk ln pr)) (x2 tO : Int) (hT : (1600 * (gi I 74 13)) + x2 = tO) (hT2 : tO ≤ 3200) : ∀ (cs : List Int) (ts : List Bool) (st : List Int) (n : Nat) (x y : Int) (J : Nat → Nat → Int64), tok g cs ts → tyS ts st → st.length ≤ 60 → stk (gl J 121) st → cds (encR I) n cs → x = n → y = st.length → x + cs.length = tO → (∀ J', Fr [121] [] J J' → Q (some (vL ((evs (envR L H (gi I 74 73) r kk ln pr) cs st).headD 0))) (mem (rv0 P) I J')) → WP k LAY m_X12_reckons 14 [(0, vR (some 74)), (2, vI x2), (3, vI y), (4, vI x)] [] (mem (rv0 P) I J) Q := by
  intro cs
  have hb := rx_b hX
  induction cs with
  | nil =>
    intro ts st n x y J ht hS hd hK hC hx hy hl hQ
    have e : x = tO := by simp at hl; omega
    refine B_X12_reckons_14 (by omega) ⟨⟨by omega, by omega⟩, ⟨by omega, by omega⟩, fun _ => ?_, fun q => absurd q (by omega)⟩
    have hg : ts = [g] := ht
    subst hg
    match st, hS, hK with
    | [w], _, hK => exact QatL (hQ J (Fr.rf _ _ _)) hK.1.symm
    | [], hS, _ => exact hS.elim
    | _ :: _ :: _, hS, _ => exact hS.2.2.elim
  | cons c cs ih =>
    intro ts st n x y J ht hS hd hK hC hx hy hl hQ
    have hlc : x + cs.length + 1 = tO := by simp at hl; omega
    have hc : enc (gi I 95 (x).toNat) (gi I 96 (x).toNat) = c := by
      rw [hx, Int.toNat_natCast]
      exact hC.1
    have hst := tyS_len hS
    have nx : ∀ (st' : List Int) (ts' : List Bool) (y' : Int) (i : Nat) (z : Int) (s : List Int), st' = z :: s → inL z → i = s.length → stk (gl J 121) s → tok g cs ts' → tyS ts' st' → st'.length ≤ 60 → y' = st'.length → evs (envR L H (gi I 74 73) r kk ln pr) (c :: cs) st = evs (envR L H (gi I 74 73) r kk ln pr) cs st' → WP k LAY m_X12_reckons 14 [(0, vR (some 74)), (2, vI x2), (3, vI y'), (4, vI (x + 1))] [] (mem (rv0 P) I (sl J 121 i z)) Q := by
      intro st' ts' y' i z s e hz hi hs ht' hS' hd' hy' he
      subst e
      refine ih ts' (z :: s) (n + 1) (x + 1) y' _ ht' hS' hd' (stk_putL hz hi hs) hC.2 (by omega) hy' (by omega) ?_
      intro J' hF
      have := hQ J' (((Fr.rf [121] [] J).upL 121 i z (Or.inl (by decide))).tr hF)
      rw [he] at this
      exact this
    refine B_X12_reckons_14 (by omega) ?_
    rcases tok_step hE ht hS with ⟨h1, h2, h3, h4, ts', h5, h6⟩ | ⟨h1, a, b, s, ts', rfl, ha, hb', h01, h5, h6⟩ | ⟨rfl, a, s, ts', rfl, ha, h5, h6⟩
    · have hpt : gi I 95 (x).toNat < 10 ∨ gi I 95 (x).toNat = 30 := by
        rcases enc_part hc h2 h1 with q | q | q | q | q | q | q | q | q | q | q <;> omega
      refine ⟨⟨by omega, by omega⟩, ⟨by omega, by omega⟩, fun q => absurd q (by omega), fun _ => ⟨⟨by omega, by omega⟩, fun q => absurd hpt q, fun _ => ?_⟩⟩
      have hz : mil (if c < 10000 then c else envR L H (gi I 74 73) r kk ln pr (c - 10000)) := by
        split
        · omega
        · exact hE c (h4 (by omega))
      refine S_X12_part hX (by omega) hr hA hc h2 h1 (gi_in _ _ _) ⟨_, _, _, rfl, rfl, ⟨by omega, by omega⟩, ?_⟩
      refine nx _ ts' _ _ _ st rfl ⟨by omega, by omega⟩ (by omega) hK h5 h6 (by simp; omega) (by simp; omega) ?_
      show evs _ cs _ = _
      rw [if_pos h1]
    · obtain ⟨e1, e2⟩ := enc_op hc h1.1
      have hyl : y = s.length + 2 := by rw [hy]; simp; omega
      have k1 : gl J 121 (y + (-1)).toNat = b := by
        rw [show (y + (-1)).toNat = (a :: s).length by simp; omega]
        exact hK.1
      have k2 : gl J 121 ((y + (-1)) - 1).toNat = a := by
        rw [show ((y + (-1)) - 1).toNat = s.length by omega]
        exact hK.2.1
      rw [k1, k2]
      refine ⟨⟨by omega, by omega⟩, ⟨by omega, by omega⟩, fun q => absurd q (by omega), fun _ => ⟨⟨by omega, by omega⟩, fun _ => ⟨fun _ => ⟨⟨by omega, by omega⟩, ⟨by omega, by omega⟩, ?_⟩, fun q => absurd q (by omega)⟩, fun q => absurd q (by omega)⟩⟩
      refine S_X12_two (by omega) ⟨by omega, by omega⟩ ha hb' (fun q => h01 (by omega)) ?_
      rw [← e2]
      refine ⟨_, _, _, rfl, rfl, ?_⟩
      have hm := opv_mil (c := c) ha hb'
      refine nx _ ts' _ _ _ s rfl ⟨by omega, by omega⟩ (by omega) hK.2.2 h5 h6 (by simp at hd ⊢; omega) (by simp; omega) ?_
      show evs _ cs _ = _
      rw [if_neg (show ¬ c < 10100 by omega), if_neg (show ¬ c = 10112 by omega)]
    · obtain ⟨e1, e2⟩ := enc_op hc (by decide)
      have hyl : y = s.length + 1 := by rw [hy]; simp
      have k2 : gl J 121 (y - 1).toNat = a := by
        rw [show (y - 1).toNat = s.length by omega]
        exact hK.1
      rw [k2]
      refine ⟨⟨by omega, by omega⟩, ⟨by omega, by omega⟩, fun q => absurd q (by omega), fun _ => ⟨⟨by omega, by omega⟩, fun _ => ⟨fun q => absurd (show gi I 95 (x).toNat = 22 by omega) q, fun _ => ⟨⟨by omega, by omega⟩, ?_⟩⟩, fun q => absurd q (by omega)⟩⟩
      refine nx _ ts' _ _ _ s rfl ⟨by omega, by omega⟩ (by omega) hK.2 h5 h6 (by simp at hd ⊢; omega) (by simp; omega) rfl
theorem S_X12_reck {k : Nat} {P : Option Nat} {I : Nat → Nat → Int32} {J : Nat → Nat → Int64} {Q : Option AV → Mem → Prop} {v : Int} {L : Lb} {R : Rl} {H : Hl} {r kk ln pr x1 x2 : Int} (ρ : Nat) (hk : 3 ≤ k) (hρ : ρ < 3) (hX : RX I v L R H) (hr : 0 ≤ r ∧ r < nR L) (hA : askR I v L H r kk ln pr) (hne : ¬ R ρ = []) (hE : envOk (envR L H (gi I 74 73) r kk ln pr)) (h1 : x1 = gi I (89 + 2 * ρ) (gi I 74 13).toNat) (h2 : x2 = gi I (90 + 2 * ρ) (gi I 74 13).toNat) (hQ : mil (ev (envR L H (gi I 74 73) r kk ln pr) (R ρ)) → (decide (ρ = 2) = true → o1 (ev (envR L H (gi I 74 73) r kk ln pr) (R ρ))) → ∀ J', Fr [121] [] J J' → Q (some (vL (ev (envR L H (gi I 74 73) r kk ln pr) (R ρ)))) (mem (rv0 P) I J')) : WPm k LAY m_X12_reckons [vR (some 74), vI x1, vI x2] (mem (rv0 P) I J) Q := by
  obtain ⟨hLR, hRR, hg, hb, hL, hR⟩ := hX.1
  have ht : tok (decide (ρ = 2)) (R ρ) [] := (hR ρ hρ).elim (fun q => absurd q hne) id
  have hn1 : ¬ gi I (89 + 2 * ρ) (gi I 74 13).toNat = -1 := by
    intro q
    apply hne
    rw [← hRR]
    exact if_neg (fun z => z.2 q)
  obtain ⟨f0, f1, f2⟩ := (hg ρ hρ).elim (fun q => absurd q hn1) id
  have hc : RR I ρ = (List.range' ((1600 * gi I 74 13) + gi I (89 + 2 * ρ) (gi I 74 13).toNat).toNat ((gi I (90 + 2 * ρ) (gi I 74 13).toNat).toNat - (gi I (89 + 2 * ρ) (gi I 74 13).toNat).toNat)).map (encR I) := if_pos ⟨hρ, hn1⟩
  rw [hRR, ← h1, ← h2] at hc
  rw [← h1] at f0 f1
  rw [← h2] at f1 f2
  have hlen : (R ρ).length = x2.toNat - x1.toNat := by rw [hc]; simp
  refine WPm.of k_X12_reckons.1 (Nat.le_of_ble_eq_true rfl) (B_X12_reckons_0 (by omega) ?_)
  have hty := evs_ty hE (R ρ) [] [] ht trivial
  refine reck_loop hk hX hr hA hE x2 _ rfl (by omega) (R ρ) [] [] ((1600 * gi I 74 13) + x1).toNat _ _ _ ht trivial (by simp) trivial ?_ (by omega) rfl (by omega) (fun J' hF => hQ hty.1 hty.2 J' hF)
  conv => arg 3; rw [hc]
  exact cds_map _ _ _
theorem RR_none {I : Nat → Nat → Int32} {L : Lb} {R : Rl} (hC : RL I L R) (ρ : Nat) (hρ : ρ < 3) : R ρ = [] ↔ gi I (89 + 2 * ρ) (gi I 74 13).toNat = -1 := by
  obtain ⟨-, hRC, hg, -, -⟩ := hC
  rw [← hRC]
  unfold RR
  by_cases h : gi I (89 + 2 * ρ) (gi I 74 13).toNat = -1
  · rw [if_neg (fun q => q.2 h)]
    exact ⟨fun _ => h, fun _ => rfl⟩
  · rw [if_pos ⟨hρ, h⟩]
    have := (hg ρ hρ).elim (fun q => absurd q h) id
    simp [h]
    omega
/-- how long a page takes, how long an inch burns, as the reference asks it -/
def takR (L : Lb) (R : Rl) (H : Hl) (cold r p kk : Int) : Int := takS L R (H 8 0) r p (dr L cold (H 1 r)) (sit L H (H 1 r)) kk
def burR (L : Lb) (R : Rl) (H : Hl) (cold r kk : Int) : Int := burS L R (H 8 0) r (dr L cold (H 1 r)) (sit L H (H 1 r)) kk
abbrev SA : List (Nat × Nat) := [(74, 69), (74, 70), (74, 71)]
theorem FrA (I : Nat → Nat → Int32) (a b c : Int) : Fr [] SA I (si (si (si I 74 69 a) 74 70 b) 74 71 c) := (((Fr.rf _ _ I).up 74 69 a (Or.inr (by decide))).up 74 70 b (Or.inr (by decide))).up 74 71 c (Or.inr (by decide))
theorem gi_A {I : Nat → Nat → Int32} {a b c : Int} (ha : inR a) (hb : inR b) (hc : inR c) : gi (si (si (si I 74 69 a) 74 70 b) 74 71 c) 74 69 = a ∧ gi (si (si (si I 74 69 a) 74 70 b) 74 71 c) 74 70 = b ∧ gi (si (si (si I 74 69 a) 74 70 b) 74 71 c) 74 71 = c := by
  simp [gi_si _ _ _ _ _ ha, gi_si _ _ _ _ _ hb, gi_si _ _ _ _ _ hc]
theorem envR_ok {L : Lb} {H : Hl} (hL : WfL L) (hH : WfH L H) {cold r kk ln pr : Int} (hr : 0 ≤ r ∧ r < nR L) (hk : mil kk) (h1 : mil ln) (h2 : mil pr) : envOk (envR L H cold r kk ln pr) := by
  have hw := (hH.2.2 r hr.1 hr.2).1
  have hs := sit_bd H hL (H 1 r)
  have w7 := hL.2.2.2.2.2.2.2.2.2 (H 1 r) hw.1 hw.2
  have hdr : 0 ≤ dr L cold (H 1 r) ∧ dr L cold (H 1 r) ≤ 12 := by
    unfold dr
    split <;> omega
  exact envS_ok hL ⟨⟨by have := hH.1; omega, by have := hH.1; omega⟩, ⟨by omega, by omega⟩, ⟨by omega, by omega⟩, hk, h1, h2, hr⟩
/-- what he knows, as the reference takes it -/
def kkR (I : Nat → Nat → Int32) (H : Hl) (r kk : Int) : Prop := mil kk ∧ (gi I 74 72 = -1 ∧ kk = pop (kn H r) ∨ gi I 74 72 = kk ∧ ¬ kk = -1)
theorem S_X12_long {k : Nat} {P : Option Nat} {I : Nat → Nat → Int32} {J : Nat → Nat → Int64} {Q : Option AV → Mem → Prop} {v : Int} {L : Lb} {R : Rl} {H : Hl} {r p kk : Int} (hk : 4 ≤ k) (hX : RX I v L R H) (hr : 0 ≤ r ∧ r < nR L) (hp : 0 ≤ p ∧ p < nP L) (hkk : kkR I H r kk) (hQ : ∀ I' J', Fr [] SA I I' → Fr [121] [] J J' → Q (some (vI (takR L R H (gi I 74 73) r p kk))) (mem (rv0 P) I' J')) : WPm k LAY m_X12_longOf [vR (some 74), vI v, vI r, vI p] (mem (rv0 P) I J) Q := by
  have hL := hX.1.2.2.2.2.1
  have hR6 := hL.2.2.1
  have hP := hL.2.1
  have hPp := hL.2.2.2.2.2.2.2.1 p hp.1 hp.2
  have hb := rx_b hX
  have hv := hX.2.2.2
  refine WPm.of k_X12_longOf.1 (Nat.le_of_ble_eq_true rfl) (B_X12_longOf_0 (by omega) ?_)
  have hF := FrA I v r p
  refine ⟨hb, fun q => ?_, fun q => ⟨⟨by omega, by omega⟩, ?_⟩⟩
  · have hne : ¬ R 1 = [] := fun z => q ((RR_none hX.1 1 (by decide)).mp z)
    have hX' := hX.fr (hF.rx (by decide) (by decide))
    obtain ⟨g1, g2, g3⟩ := gi_A (I := I) (a := v) (b := r) (c := p) ⟨by omega, by omega⟩ ⟨by omega, by omega⟩ ⟨by omega, by omega⟩
    have c72 := hF.gv 74 72 (by decide) (by decide)
    have c73 := hF.gv 74 73 (by decide) (by decide)
    have cb := hF.gv 74 13 (by decide) (by decide)
    refine S_X12_reck (v := v) (L := L) (R := R) (H := H) (r := r) (kk := kk) (ln := L 2 p) (pr := L 3 p) 1 (by omega) (by decide) hX' hr ⟨g1, g2, ?_, ?_⟩ hne (envR_ok hL hX.2.2.1 hr hkk.1 ⟨by omega, by omega⟩ ⟨by omega, by omega⟩) ?_ ?_ (fun hmi _ J' hJ => ⟨_, _, _, rfl, rfl, ?_⟩)
    · rw [g3]
      exact Or.inr ⟨hp, rfl, rfl⟩
    · rw [c72]
      exact hkk.2
    · rw [cb, gi_row (hF.cell 91 (by decide) (by decide))]
    · rw [cb, gi_row (hF.cell 92 (by decide) (by decide))]
    · have hq := hQ _ J' hF hJ
      unfold takR takS at hq
      rw [if_neg hne] at hq
      rw [c73] at hmi ⊢
      refine ⟨⟨by omega, by omega⟩, fun a => ⟨fun b => Qat hq ?_, fun b => Qat hq ?_⟩, fun a => Qat hq ?_⟩
      all_goals show max 1 (min 500 (ev (envR L H (gi I 74 73) r kk (L 2 p) (L 3 p)) (R 1))) = _
      all_goals omega
  · have hne : R 1 = [] := (RR_none hX.1 1 (by decide)).mpr q
    have hq := hQ _ J hF (Fr.rf _ _ _)
    unfold takR takS at hq
    rw [if_pos hne] at hq
    rw [rx_L2 hX hp]
    exact hq
theorem S_X12_burn {k : Nat} {P : Option Nat} {I : Nat → Nat → Int32} {J : Nat → Nat → Int64} {Q : Option AV → Mem → Prop} {v : Int} {L : Lb} {R : Rl} {H : Hl} {r kk : Int} (hk : 4 ≤ k) (hX : RX I v L R H) (hr : 0 ≤ r ∧ r < nR L) (hkk : kkR I H r kk) (hQ : ∀ I' J', Fr [] SA I I' → Fr [121] [] J J' → Q (some (vI (burR L R H (gi I 74 73) r kk))) (mem (rv0 P) I' J')) : WPm k LAY m_X12_burnsOf [vR (some 74), vI v, vI r] (mem (rv0 P) I J) Q := by
  have hL := hX.1.2.2.2.2.1
  have hR6 := hL.2.2.1
  have hb := rx_b hX
  have hv := hX.2.2.2
  refine WPm.of k_X12_burnsOf.1 (Nat.le_of_ble_eq_true rfl) (B_X12_burnsOf_0 (by omega) ?_)
  have hF := FrA I v r (-1)
  refine ⟨hb, fun q => ?_, fun q => ?_⟩
  · have hne : ¬ R 0 = [] := fun z => q ((RR_none hX.1 0 (by decide)).mp z)
    have hX' := hX.fr (hF.rx (by decide) (by decide))
    obtain ⟨g1, g2, g3⟩ := gi_A (I := I) (a := v) (b := r) (c := -1) ⟨by omega, by omega⟩ ⟨by omega, by omega⟩ (by decide)
    have c72 := hF.gv 74 72 (by decide) (by decide)
    have c73 := hF.gv 74 73 (by decide) (by decide)
    have cb := hF.gv 74 13 (by decide) (by decide)
    refine S_X12_reck (v := v) (L := L) (R := R) (H := H) (r := r) (kk := kk) (ln := 0) (pr := 0) 0 (by omega) (by decide) hX' hr ⟨g1, g2, ?_, ?_⟩ hne (envR_ok hL hX.2.2.1 hr hkk.1 (by decide) (by decide)) ?_ ?_ (fun hmi _ J' hJ => ⟨_, _, _, rfl, rfl, ?_⟩)
    · exact Or.inl ⟨g3, rfl, rfl⟩
    · rw [c72]
      exact hkk.2
    · rw [cb, gi_row (hF.cell 89 (by decide) (by decide))]
    · rw [cb, gi_row (hF.cell 90 (by decide) (by decide))]
    · have hq := hQ _ J' hF hJ
      unfold burR burS at hq
      rw [if_neg hne] at hq
      rw [c73] at hmi ⊢
      refine ⟨⟨by omega, by omega⟩, fun a => ⟨fun b => Qat hq ?_, fun b => Qat hq ?_⟩, fun a => Qat hq ?_⟩
      all_goals show max 0 (min 500 (ev (envR L H (gi I 74 73) r kk 0 0) (R 0))) = _
      all_goals omega
  · have hne : R 0 = [] := (RR_none hX.1 0 (by decide)).mpr q
    have hq := hQ _ J hF (Fr.rf _ _ _)
    unfold burR burS at hq
    rw [if_pos hne] at hq
    rw [rx_inch hX]
    exact hq
theorem lig_dr {L : Lb} {R : Rl} {H : Hl} {cold t : Int} {r : Nat} (q : H 1 (r : Int) = t) : burR L R H cold r (pop (kn H r)) = burS L R (H 8 0) r (dr L cold t) (sit L H t) (pop (kn H r)) := by
  unfold burR
  rw [q]
theorem S_X12_light {k : Nat} {P : Option Nat} {I : Nat → Nat → Int32} {J : Nat → Nat → Int64} {Q : Option AV → Mem → Prop} {v : Int} {L : Lb} {R : Rl} {H : Hl} {t : Int} (hk : 6 ≤ k) (hX : RX I v L R H) (ht : inR t) (h72 : gi I 74 72 = -1) (hQ : ∀ I' J', Fr [] SA I I' → Fr [121] [] J J' → Q (some (vI (lig L R H t (dr L (gi I 74 73) t)))) (mem (rv0 P) I' J')) : WPm k LAY m_X12_lightOf [vR (some 74), vI v, vI t] (mem (rv0 P) I J) Q := by
  have hL := hX.1.2.2.2.2.1
  have hR6 := hL.2.2.1
  have hv := hX.2.2.2
  have hs := sit_bd H hL t
  refine WPm.of k_X12_lightOf.1 (Nat.le_of_ble_eq_true rfl) (B_X12_lightOf_0 (by omega) ?_)
  have loop : ∀ (e r : Nat) (x y : Int) (I' : Nat → Nat → Int32) (J' : Nat → Nat → Int64), r + e = (nR L).toNat → x = r → y = smi r (fun r => if H 1 (r : Int) = t then burS L R (H 8 0) r (dr L (gi I 74 73) t) (sit L H t) (pop (kn H r)) else 0) → Fr [] SA I I' → Fr [121] [] J J' → WP k LAY m_X12_lightOf 5 [(0, vR (some 74)), (1, vI v), (2, vI t), (3, vI y), (4, vI x)] [] (mem (rv0 P) I' J') Q := by
    intro e
    induction e with
    | zero =>
      intro r x y I' J' hr hx hy hF hJ
      have hX' := hX.fr (hF.rx (by decide) (by decide))
      refine B_X12_lightOf_5 (by omega) ?_
      rw [rx_n hX']
      refine ⟨rx_b hX', ⟨by omega, by omega⟩, fun _ => ?_, fun q => absurd q (by omega)⟩
      exact Qat (hQ I' J' hF hJ) (by rw [hy]; unfold lig; rw [show (nR L).toNat = r by omega])
    | succ e ih =>
      intro r x y I' J' hr hx hy hF hJ
      have hX' := hX.fr (hF.rx (by decide) (by decide))
      have hrr : (0 : Int) ≤ r ∧ (r : Int) < nR L := ⟨by omega, by omega⟩
      refine B_X12_lightOf_5 (by omega) ?_
      subst hx
      have hpo := pop_le (kn H r)
      rw [rx_n hX', rx_1 hX' hrr]
      have es : smi (r + 1) (fun r => if H 1 (r : Int) = t then burS L R (H 8 0) r (dr L (gi I 74 73) t) (sit L H t) (pop (kn H r)) else 0) = smi r (fun r => if H 1 (r : Int) = t then burS L R (H 8 0) r (dr L (gi I 74 73) t) (sit L H t) (pop (kn H r)) else 0) + (if H 1 (r : Int) = t then burS L R (H 8 0) r (dr L (gi I 74 73) t) (sit L H t) (pop (kn H r)) else 0) := rfl
      refine ⟨rx_b hX', ⟨by omega, by omega⟩, fun q => absurd q (by omega), fun _ => ⟨⟨by omega, by omega⟩, ht, fun q => ?_, fun q => ?_⟩⟩
      · refine ih (r + 1) _ _ _ _ (by omega) (by omega) ?_ hF hJ
        rw [es, if_neg q]
        omega
      · have c72 := hF.gv 74 72 (by decide) (by decide)
        have c73 := hF.gv 74 73 (by decide) (by decide)
        refine S_X12_burn (R := R) (kk := pop (kn H r)) (by omega) hX' hrr ⟨⟨by omega, by omega⟩, Or.inl ⟨by omega, rfl⟩⟩ (fun I2 J2 hF2 hJ2 => ⟨_, _, _, rfl, rfl, ?_⟩)
        refine ih (r + 1) _ _ _ _ (by omega) (by omega) ?_ (hF.tr hF2) (hJ.tr hJ2)
        rw [es, if_pos q, c73, lig_dr q]
        omega
  exact loop _ 0 0 0 I J (Nat.zero_add _) rfl rfl (Fr.rf _ _ _) (Fr.rf _ _ _)
end RREC
