section CNON
/-! ===== the class reads a rule: its nonterminals ===== -/
def KD (l o : Nat) : Nat := 20 + l + 8 * (8 - o)
def seqR (z : List Int) (r1 r2 : Res) : Res := match r1 with
  | .inl e => .inl e
  | .inr c => pre (c.1 ++ z) r2
noncomputable def cloR (T : Nat → Int) (n : Nat) (x : Int) (r : Res) : Res := match r with
  | .inl e => .inl e
  | .inr c => if kR T n c.2 = 3 ∧ vl T n c.2 = x then .inr (c.1, tE T n c.2) else .inl (1, pl T n c.2)
noncomputable def minR (T : Nat → Int) (n : Nat) (z : Int) (r1 r2 : Res) : Res := match r1 with
  | .inl e => .inl e
  | .inr c1 => if kR T n c1.2 = 3 ∧ vl T n c1.2 = 44 then (match r2 with
    | .inl e => .inl e
    | .inr c2 => if kR T n c2.2 = 3 ∧ vl T n c2.2 = 41 then .inr (c1.1 ++ c2.1 ++ [z], tE T n c2.2) else .inl (1, pl T n c2.2)) else .inl (1, pl T n c1.2)
theorem cloR_y {T : Nat → Int} {n : Nat} {x : Int} {c : List Int × Nat} (h : sgn T n c.2 x) : cloR T n x (.inr c) = .inr (c.1, tE T n c.2) := if_pos h
theorem cloR_n {T : Nat → Int} {n : Nat} {x : Int} {c : List Int × Nat} (h : ¬ sgn T n c.2 x) : cloR T n x (.inr c) = .inl (1, pl T n c.2) := if_neg h
theorem minR_n {T : Nat → Int} {n : Nat} {z : Int} {c1 : List Int × Nat} {r2 : Res} (h : ¬ sgn T n c1.2 44) : minR T n z (.inr c1) r2 = .inl (1, pl T n c1.2) := if_neg h
theorem minR_e {T : Nat → Int} {n : Nat} {z : Int} {c1 : List Int × Nat} {e : Int × Int} (h : sgn T n c1.2 44) : minR T n z (.inr c1) (.inl e) = .inl e := if_pos h
theorem minR_b {T : Nat → Int} {n : Nat} {z : Int} {c1 c2 : List Int × Nat} (h : sgn T n c1.2 44) (h2 : ¬ sgn T n c2.2 41) : minR T n z (.inr c1) (.inr c2) = .inl (1, pl T n c2.2) := (if_pos h).trans (if_neg h2)
theorem minR_y {T : Nat → Int} {n : Nat} {z : Int} {c1 c2 : List Int × Nat} (h : sgn T n c1.2 44) (h2 : sgn T n c2.2 41) : minR T n z (.inr c1) (.inr c2) = .inr (c1.1 ++ c2.1 ++ [z], tE T n c2.2) := (if_pos h).trans (if_pos h2)
theorem opT_R (T : Nat → Int) (n p : Nat) : inR (opT T n p) := by
  rcases opT_in T n p with h | h
  · rw [h]; decide
  · unfold inR; omega
theorem C_num {T : Nat → Int} {n o p : Nat} (hX : TX T n) (hp : p ≤ n) (hb : bd T n p = -1) (h2 : kR T n p = 2) : CN m_X3_parsePart (KD 1 o) T n o p (.inr ([vl T n p], tE T n p)) := by
  intro k I J Q q hK hC ho hq hqp hQ
  unfold KD at hK
  have hk' := hC.k
  have hg := tE_gt (T := T) hp (by omega)
  have hv := vl_d (T := T) hp h2
  have hn := hX.1
  have iV : inR (vl T n p) := by unfold inR; omega
  refine WPm.of k_X3_parsePart.1 (Nat.le_of_ble_eq_true rfl) (B_X3_parsePart_0 (by omega) ⟨fun c => absurd (hk'.2.1.mpr ⟨hb, h2⟩) c, fun _ => ?_⟩)
  rw [hC.2.2.2.2.1]
  refine S_emit hq (by omega) ⟨_, _, rfl, rfl, ?_⟩
  dsimp only
  refine S_step (by omega) hX hp (hC.fr (cs := [33]) (fs := [(22, 13)]) (((Fr.rf _ _ _).up 33 _ _ (Or.inl (by decide))).up 22 13 _ (Or.inr (by decide))) (by decide) (by decide)) (by omega) hb (fun I2 hC2 hF2 => ⟨_, _, rfl, rfl, ?_⟩)
  exact hQ I2 (Cok.one hX iV hq ho hC2 hF2 hg.2.1 hg.1 hqp)
theorem C_val {T : Nat → Int} {n o p : Nat} (hX : TX T n) (hp : p ≤ n) (hb : bd T n p = -1) (h1 : kR T n p = 1) (hv : isV (10000 + ow T n p)) : CN m_X3_parsePart (KD 1 o) T n o p (.inr ([10000 + ow T n p], tE T n p)) := by
  intro k I J Q q hK hC ho hq hqp hQ
  unfold KD at hK
  have hk' := hC.k
  have hg := tE_gt (T := T) hp (by omega)
  have hn := hX.1
  have hr := isV_rng hv
  have hne : ow T n p ≠ 23 ∧ ow T n p ≠ 24 := by unfold isV at hv; omega
  have iV : inR (10000 + ow T n p) := by unfold inR; omega
  have e5 : gi I 1 5 = ow T n p := by rw [hC.2.2.2.2.1, vl_w h1]
  have e2 : gi I 1 2 = 2 := hk'.2.2.1.mpr ⟨hb, h1, by omega⟩
  refine WPm.of k_X3_parsePart.1 (Nat.le_of_ble_eq_true rfl) (B_X3_parsePart_0 (by omega) ?_)
  rw [e5, e2]
  refine ⟨fun _ => ⟨fun _ => ⟨fun c => absurd rfl c, fun _ => ⟨fun c => absurd c hne.1, fun _ => ⟨fun _ => ?_, fun c => absurd c hne.2⟩⟩⟩, fun c => absurd c.1 (by decide)⟩, fun c => absurd c (by decide)⟩
  refine S_isVal (by unfold inR; omega) (fun v hv2 => ⟨_, _, _, rfl, rfl, ?_⟩)
  rcases hv2 with ⟨rfl, -⟩ | ⟨-, q0⟩
  · refine ⟨by decide, fun _ => ?_, fun c => absurd c (by decide)⟩
    refine S_emit hq (by omega) ⟨_, _, rfl, rfl, ?_⟩
    dsimp only
    refine S_step (by omega) hX hp (hC.fr (cs := [33]) (fs := [(22, 13)]) (((Fr.rf _ _ _).up 33 _ _ (Or.inl (by decide))).up 22 13 _ (Or.inr (by decide))) (by decide) (by decide)) (by omega) hb (fun I2 hC2 hF2 => ⟨_, _, rfl, rfl, ?_⟩)
    exact hQ I2 (Cok.one hX iV hq ho hC2 hF2 hg.2.1 hg.1 hqp)
  · exact absurd hv q0
theorem C_bad {T : Nat → Int} {n o p : Nat} (hX : TX T n) (hp : p ≤ n) (h2 : ¬ (bd T n p = -1 ∧ kR T n p = 2)) (h40 : ¬ sgn T n p 40) (hm : ¬ (bd T n p = -1 ∧ (wd T n p 23 ∨ wd T n p 24))) (hv : ¬ (bd T n p = -1 ∧ kR T n p = 1 ∧ isV (10000 + ow T n p))) : CN m_X3_parsePart (KD 1 o) T n o p (.inl (1, pl T n p)) := by
  intro k I J Q q hK hC ho hq hqp hQ
  unfold KD at hK
  have hk' := hC.k
  have href : Q (some (vI 0)) (mem (some 22, some 5, some 22) (si (si I 3 2 1) 3 3 (gi I 1 6)) J) := hQ _ (Cer.ref hC (Fr.rf _ _ _) (by omega))
  refine WPm.of k_X3_parsePart.1 (Nat.le_of_ble_eq_true rfl) (B_X3_parsePart_0 (by omega) ⟨fun _ => ⟨fun _ => ⟨fun _ => ?_, fun c => ⟨fun c2 => ?_, fun c2 => ⟨fun c3 => ?_, fun c3 => ?_⟩⟩⟩, fun c => absurd ((hC.s 40).mp c) h40⟩, fun c => absurd (hk'.2.1.mp c) h2⟩)
  · refine S_isVal (by decide) (fun v hv2 => ⟨_, _, _, rfl, rfl, ?_⟩)
    rcases hv2 with ⟨-, q0⟩ | ⟨rfl, -⟩
    · exact absurd q0 (by unfold isV; decide)
    · exact ⟨by decide, fun c => absurd rfl c, fun _ => href⟩
  · have := (hC.w 23 (by decide)).mp ⟨c, c2⟩
    exact absurd ⟨this.1, Or.inl this.2⟩ hm
  · have hb := hk'.2.2.1.mp c
    have e5 : gi I 1 5 = ow T n p := by rw [hC.2.2.2.2.1, vl_w hb.2.1]
    have hoi := ow_in T n p
    rw [e5]
    refine S_isVal (by unfold inR; omega) (fun v hv2 => ⟨_, _, _, rfl, rfl, ?_⟩)
    rcases hv2 with ⟨-, q0⟩ | ⟨rfl, -⟩
    · exact absurd ⟨hb.1, hb.2.1, q0⟩ hv
    · exact ⟨by decide, fun c => absurd rfl c, fun _ => href⟩
  · have := (hC.w 24 (by decide)).mp ⟨c, c3⟩
    exact absurd ⟨this.1, Or.inr this.2⟩ hm
theorem C_par7 {T : Nat → Int} {n o p : Nat} (hX : TX T n) (hp : p ≤ n) (h40 : sgn T n p 40) : CN m_X3_parsePart (KD 1 7) T n 7 p (.inl (5, tS T n p)) := by
  intro k I J Q q hK hC ho hq hqp hQ
  unfold KD at hK
  have hk' := hC.k
  refine WPm.of k_X3_parsePart.1 (Nat.le_of_ble_eq_true rfl) (B_X3_parsePart_0 (by omega) ⟨fun _ => ⟨fun c => absurd ((hC.s 40).mpr h40) c, fun _ => ?_⟩, fun c => absurd (hk'.2.1.mp c).2 (by rw [h40.1]; decide)⟩)
  refine S_open1 (o := 7) (by omega) hX hp hC (by rw [h40.1]; decide) (bd_3 (Or.inl h40.1)) ho (Nat.le_refl _) (fun c => absurd rfl c) (fun _ => ⟨_, _, _, rfl, rfl, ?_⟩)
  exact ⟨by decide, fun _ => hQ _ (Cer.o7 hC (Fr.rf _ _ _) (by omega)), fun c => absurd rfl c⟩
theorem C_par {T : Nat → Int} {n o p : Nat} {r : Res} (hX : TX T n) (hp : p ≤ n) (h40 : sgn T n p 40) (ho7 : o < 7) (h : CN m_X3_parseSum (KD 3 (o + 1)) T n (o + 1) (tE T n p) r) : CN m_X3_parsePart (KD 1 o) T n o p (cloR T n 41 r) := by
  intro k I J Q q hK hC ho hq hqp hQ
  unfold KD at hK
  have hk' := hC.k
  have hg := tE_gt (T := T) hp (by rw [h40.1]; decide)
  refine WPm.of k_X3_parsePart.1 (Nat.le_of_ble_eq_true rfl) (B_X3_parsePart_0 (by omega) ⟨fun _ => ⟨fun c => absurd ((hC.s 40).mpr h40) c, fun _ => ?_⟩, fun c => absurd (hk'.2.1.mp c).2 (by rw [h40.1]; decide)⟩)
  refine S_open1 (o := o) (by omega) hX hp hC (by rw [h40.1]; decide) (bd_3 (Or.inl h40.1)) ho (by omega) (fun _ I1 hC1 ho1 hF1 => ⟨_, _, _, rfl, rfl, ?_⟩) (fun c => by omega)
  refine ⟨by decide, fun c => absurd c (by decide), fun _ => ?_⟩
  have h01 : Cok I I1 T n (o + 1) q p [] (tE T n p) := Cok.st hC1 ho1 hq hF1 hg.2.1 (by omega)
  refine h (k - 1) I1 J _ q (by unfold KD; omega) hC1 ho1 h01.2.2.1 (by omega) ?_
  cases r with
  | inl e => exact fun I2 hE => ⟨_, _, _, rfl, rfl, by decide, fun _ => hQ I2 (h01.er hE), fun c => absurd rfl c⟩
  | inr c =>
    intro I2 h2
    have h02 : Cok I I2 T n (o + 1) q p c.1 c.2 := h01.tr h2
    refine ⟨_, _, _, rfl, rfl, by decide, fun c => absurd c (by decide), fun _ => ?_⟩
    refine S_close1 (by omega) hX h02.2.2.2.2.2.2.1 h02.1 (by decide) h02.2.1 (fun hs I3 hC3 ho3 hF3 => ⟨_, _, _, rfl, rfl, by decide, fun c => absurd c (by decide), fun _ => ?_⟩) (fun hs I3 hC3 hF3 hd3 => ⟨_, _, _, rfl, rfl, by decide, fun _ => ?_, fun c => absurd rfl c⟩)
    · rw [cloR_y hs] at hQ
      have hg2 := tE_gt (T := T) h02.2.2.2.2.2.2.1 (by rw [hs.1]; decide)
      have h23 : Cok I2 I3 T n o (q + c.1.length) c.2 [] (tE T n c.2) := Cok.st hC3 ho3 h02.2.2.1 hF3 hg2.2.1 (by omega)
      have h03 := h02.tr h23
      rw [List.append_nil] at h03
      exact hQ I3 h03
    · rw [cloR_n hs] at hQ
      have hq2 := h02.2.2.1
      exact hQ _ (Cer.fr h02.2.2.2.2.2.1 (Cer.ref hC3 hF3 (by omega)))
/-! min, max, and what is in a row -/
theorem S_emN {k : Nat} {I0 I1 : Nat → Nat → Int32} {J : Nat → Nat → Int64} {Q : Option AV → Mem → Prop} {z : Int} {e : Int × Int} (hE : Cer I0 I1 e) (hQ : ∀ I', Cer I0 I' e → Q (some (vI 0)) (mem (some 22, some 5, some 22) I' J)) : WPm k LAY m_X7_emit [vR (some 22), vI z] (mem (some 22, some 5, some 22) I1 J) (retV (fun I' J' => Q (some (vI 0)) (mem (some 22, some 5, some 22) I' J')) (some 22, some 5, some 22)) := S_emitF hE.2.2.1 (fun _ a b => ⟨_, _, rfl, rfl, hQ _ (hE.em a b)⟩)
theorem Cer.want {I I1 : Nat → Nat → Int32} {T : Nat → Int} {n o q p0 : Nat} {c : List Int} {p1 : Nat} (h : Cok I I1 T n o q p0 c p1) : Cer I (si (si I1 3 2 1) 3 3 (gi I1 1 6)) (1, pl T n p1) := Cer.ref h.1 h.2.2.2.2.2.1 (by rw [h.2.2.1]; omega)
theorem S_emK {k : Nat} {I I1 : Nat → Nat → Int32} {J : Nat → Nat → Int64} {Q : Option AV → Mem → Prop} {T : Nat → Int} {n o q p : Nat} {c : List Int} {p1 : Nat} {z : Int} (hX : TX T n) (hz : inR z) (h : Cok I I1 T n o q (p + 1) c p1) (hq : q ≤ p) (hQ : ∀ I', Cok I I' T n o q p (c ++ [z]) p1 → Q none (mem (some 22, some 5, some 22) I' J)) : WPm k LAY m_X7_emit [vR (some 22), vI z] (mem (some 22, some 5, some 22) I1 J) Q := by
  have hn := hX.1
  have h1 := h.2.2.2.2.2.2.1
  have h2 := h.2.2.2.2.2.2.2
  exact S_emit h.2.2.1 (by omega) (hQ _ (Cok.emit hX hz h hq))
theorem seqR_0 {c : List Int × Nat} {r2 : Res} : seqR [] (.inr c) r2 = pre c.1 r2 := by
  show pre (c.1 ++ []) r2 = _
  rw [List.append_nil]
theorem C_min23a {T : Nat → Int} {n o p : Nat} (hX : TX T n) (hp : p ≤ n) (hb : bd T n p = -1) (hw : wd T n p 23) (h40 : ¬ sgn T n (tE T n p) 40) : CN m_X3_parsePart (KD 1 o) T n o p (.inl (1, pl T n (tE T n p))) := by
  intro k I J Q q hK hC ho hq hqp hQ
  unfold KD at hK
  have hk' := hC.k
  have hg := tE_gt (T := T) hp (by rw [hw.1]; decide)
  have hw' := (hC.w 23 (by decide)).mpr ⟨hb, hw⟩
  refine WPm.of k_X3_parsePart.1 (Nat.le_of_ble_eq_true rfl) (B_X3_parsePart_0 (by omega) ⟨fun _ => ⟨fun _ => ⟨fun c => absurd hw'.1 c, fun _ => ⟨fun _ => ?_, fun c => absurd hw'.2 c⟩⟩, fun c => absurd (hw'.1.symm.trans c.1) (by decide)⟩, fun c => absurd (hw'.1.symm.trans c) (by decide)⟩)
  refine S_step (by omega) hX hp hC (by rw [hw.1]; decide) hb (fun I1 hC1 hF1 => ⟨_, _, rfl, rfl, fun c => absurd ((hC1.s 40).mp c) h40, fun _ => ?_⟩)
  exact hQ _ (Cer.want (Cok.st (o' := o) hC1 (by rw [hF1.gv 3 4 (by decide) (by decide)]; exact ho) hq hF1.x1 hg.2.1 (Nat.le_of_lt hg.1)))
theorem C_min23b {T : Nat → Int} {n p : Nat} (hX : TX T n) (hp : p ≤ n) (hb : bd T n p = -1) (hw : wd T n p 23) (h40 : sgn T n (tE T n p) 40) : CN m_X3_parsePart (KD 1 7) T n 7 p (.inl (5, tS T n (tE T n p))) := by
  intro k I J Q q hK hC ho hq hqp hQ
  unfold KD at hK
  have hk' := hC.k
  have hg := tE_gt (T := T) hp (by rw [hw.1]; decide)
  have hw' := (hC.w 23 (by decide)).mpr ⟨hb, hw⟩
  refine WPm.of k_X3_parsePart.1 (Nat.le_of_ble_eq_true rfl) (B_X3_parsePart_0 (by omega) ⟨fun _ => ⟨fun _ => ⟨fun c => absurd hw'.1 c, fun _ => ⟨fun _ => ?_, fun c => absurd hw'.2 c⟩⟩, fun c => absurd (hw'.1.symm.trans c.1) (by decide)⟩, fun c => absurd (hw'.1.symm.trans c) (by decide)⟩)
  refine S_step (by omega) hX hp hC (by rw [hw.1]; decide) hb (fun I1 hC1 hF1 => ⟨_, _, rfl, rfl, fun _ => ?_, fun c => absurd ((hC1.s 40).mpr h40) c⟩)
  have hE := Cer.o7 hC1 hF1.p (by rw [hF1.gv 22 13 (by decide) (by decide), hq]; omega)
  refine S_open1 (o := 7) (by omega) hX hg.2.1 hC1 (by rw [h40.1]; decide) (bd_3 (Or.inl h40.1)) (by rw [hF1.gv 3 4 (by decide) (by decide)]; exact ho) (Nat.le_refl _) (fun c => absurd rfl c) (fun _ => ⟨_, _, _, rfl, rfl, ?_⟩)
  exact ⟨by decide, fun _ => ⟨fun _ => S_emN hE hQ, fun _ => S_emN hE hQ⟩, fun c => absurd rfl c⟩
set_option maxHeartbeats 1000000 in
theorem C_min23 {T : Nat → Int} {n o p : Nat} {r1 r2 : Res} (hX : TX T n) (hp : p ≤ n) (hb : bd T n p = -1) (hw : wd T n p 23) (h40 : sgn T n (tE T n p) 40) (ho7 : o < 7) (h1 : CN m_X3_parseSum (KD 3 (o + 1)) T n (o + 1) (tE T n (tE T n p)) r1) (h2 : ∀ c, r1 = .inr c → sgn T n c.2 44 → CN m_X3_parseSum (KD 3 (o + 1)) T n (o + 1) (tE T n c.2) r2) : CN m_X3_parsePart (KD 1 o) T n o p (minR T n 10105 r1 r2) := by
  intro k I J Q q hK hC ho hq hqp hQ
  unfold KD at hK
  have hk' := hC.k
  have hg := tE_gt (T := T) hp (by rw [hw.1]; decide)
  have hg1 := tE_gt (T := T) hg.2.1 (by rw [h40.1]; decide)
  have hw' := (hC.w 23 (by decide)).mpr ⟨hb, hw⟩
  refine WPm.of k_X3_parsePart.1 (Nat.le_of_ble_eq_true rfl) (B_X3_parsePart_0 (by omega) ⟨fun _ => ⟨fun _ => ⟨fun c => absurd hw'.1 c, fun _ => ⟨fun _ => ?_, fun c => absurd hw'.2 c⟩⟩, fun c => absurd (hw'.1.symm.trans c.1) (by decide)⟩, fun c => absurd (hw'.1.symm.trans c) (by decide)⟩)
  refine S_step (by omega) hX hp hC (by rw [hw.1]; decide) hb (fun I1 hC1 hF1 => ⟨_, _, rfl, rfl, fun _ => ?_, fun c => absurd ((hC1.s 40).mpr h40) c⟩)
  refine S_open1 (o := o) (by omega) hX hg.2.1 hC1 (by rw [h40.1]; decide) (bd_3 (Or.inl h40.1)) (by rw [hF1.gv 3 4 (by decide) (by decide)]; exact ho) (by omega) (fun _ I2 hC2 ho2 hF2 => ⟨_, _, _, rfl, rfl, ?_⟩) (fun c => by omega)
  refine ⟨by decide, fun c => absurd c (by decide), fun _ => ?_⟩
  have h02 : Cok I I2 T n (o + 1) q (p + 1) [] (tE T n (tE T n p)) := Cok.st hC2 ho2 hq (hF1.x1.tr hF2) hg1.2.1 (by omega)
  refine h1 (k - 1) I2 J _ q (by unfold KD; omega) hC2 ho2 h02.2.2.1 (by omega) ?_
  cases r1 with
  | inl e =>
    intro I3 hE3
    have hE := h02.er hE3
    exact ⟨_, _, _, rfl, rfl, by decide, fun _ => ⟨fun _ => S_emN hE hQ, fun _ => S_emN hE hQ⟩, fun c => absurd rfl c⟩
  | inr c1 =>
    intro I3 h3
    have h03 : Cok I I3 T n (o + 1) q (p + 1) c1.1 c1.2 := h02.tr h3
    have hp3 := h03.2.2.2.2.2.2.1
    have hl3 := h03.2.2.2.2.2.2.2
    refine ⟨_, _, _, rfl, rfl, by decide, fun c => absurd c (by decide), fun _ => ?_⟩
    refine S_want (by omega) hX hp3 h03.1 (by decide) (fun hs I4 hC4 hF4 => ⟨_, _, _, rfl, rfl, by decide, fun c => absurd c (by decide), fun _ => ?_⟩) (fun hs => ⟨_, _, _, rfl, rfl, by decide, fun _ => ?_, fun c => absurd rfl c⟩)
    · have hg3 := tE_gt (T := T) hp3 (by rw [hs.1]; decide)
      have h34 : Cok I3 I4 T n (o + 1) (q + c1.1.length) c1.2 [] (tE T n c1.2) := Cok.st hC4 (by rw [hF4.gv 3 4 (by decide) (by decide)]; exact h03.2.1) h03.2.2.1 hF4.x1 hg3.2.1 (by omega)
      have h04 := h03.tr h34
      rw [List.append_nil] at h04
      refine h2 c1 rfl hs (k - 1) I4 J _ (q + c1.1.length) (by unfold KD; omega) hC4 h04.2.1 h04.2.2.1 (by omega) ?_
      cases r2 with
      | inl e =>
        rw [minR_e hs] at hQ
        intro I5 hE5
        have hE := h04.er hE5
        exact ⟨_, _, _, rfl, rfl, by decide, fun _ => ⟨fun _ => S_emN hE hQ, fun _ => S_emN hE hQ⟩, fun c => absurd rfl c⟩
      | inr c2 =>
        intro I5 h5
        have h05 := h04.tr h5
        have hp5 := h05.2.2.2.2.2.2.1
        refine ⟨_, _, _, rfl, rfl, by decide, fun c => absurd c (by decide), fun _ => ?_⟩
        refine S_close1 (by omega) hX hp5 h05.1 (by decide) h05.2.1 (fun hs2 I6 hC6 ho6 hF6 => ⟨_, _, _, rfl, rfl, by decide, fun c => absurd c (by decide), fun _ => ?_⟩) (fun hs2 I6 hC6 hF6 hd6 => ⟨_, _, _, rfl, rfl, by decide, fun _ => ?_, fun c => absurd rfl c⟩)
        · rw [minR_y hs hs2] at hQ
          have hg5 := tE_gt (T := T) hp5 (by rw [hs2.1]; decide)
          have h56 : Cok I5 I6 T n o (q + (c1.1 ++ c2.1).length) c2.2 [] (tE T n c2.2) := Cok.st hC6 ho6 h05.2.2.1 hF6 hg5.2.1 (by omega)
          have h06 := h05.tr h56
          rw [List.append_nil] at h06
          exact ⟨fun c => absurd hw'.2 c, fun _ => S_emK hX (by decide) h06 hqp (fun I7 h7 => ⟨_, _, rfl, rfl, hQ I7 h7⟩)⟩
        · rw [minR_b hs hs2] at hQ
          have hq5 := h05.2.2.1
          have hE := Cer.fr h05.2.2.2.2.2.1 (Cer.ref hC6 hF6 (by omega))
          exact ⟨fun _ => S_emN hE hQ, fun _ => S_emN hE hQ⟩
    · rw [minR_n hs] at hQ
      have hE := Cer.want h03
      exact ⟨fun _ => S_emN hE hQ, fun _ => S_emN hE hQ⟩
theorem C_min24a {T : Nat → Int} {n o p : Nat} (hX : TX T n) (hp : p ≤ n) (hb : bd T n p = -1) (hw : wd T n p 24) (h40 : ¬ sgn T n (tE T n p) 40) : CN m_X3_parsePart (KD 1 o) T n o p (.inl (1, pl T n (tE T n p))) := by
  intro k I J Q q hK hC ho hq hqp hQ
  unfold KD at hK
  have hk' := hC.k
  have hg := tE_gt (T := T) hp (by rw [hw.1]; decide)
  have hw' := (hC.w 24 (by decide)).mpr ⟨hb, hw⟩
  refine WPm.of k_X3_parsePart.1 (Nat.le_of_ble_eq_true rfl) (B_X3_parsePart_0 (by omega) ⟨fun _ => ⟨fun _ => ⟨fun c => absurd hw'.1 c, fun _ => ⟨fun c => absurd (hw'.2.symm.trans c) (by decide), fun _ => ⟨fun c => absurd hw'.2 c, fun _ => ?_⟩⟩⟩, fun c => absurd (hw'.1.symm.trans c.1) (by decide)⟩, fun c => absurd (hw'.1.symm.trans c) (by decide)⟩)
  refine S_step (by omega) hX hp hC (by rw [hw.1]; decide) hb (fun I1 hC1 hF1 => ⟨_, _, rfl, rfl, fun c => absurd ((hC1.s 40).mp c) h40, fun _ => ?_⟩)
  exact hQ _ (Cer.want (Cok.st (o' := o) hC1 (by rw [hF1.gv 3 4 (by decide) (by decide)]; exact ho) hq hF1.x1 hg.2.1 (Nat.le_of_lt hg.1)))
theorem C_min24b {T : Nat → Int} {n p : Nat} (hX : TX T n) (hp : p ≤ n) (hb : bd T n p = -1) (hw : wd T n p 24) (h40 : sgn T n (tE T n p) 40) : CN m_X3_parsePart (KD 1 7) T n 7 p (.inl (5, tS T n (tE T n p))) := by
  intro k I J Q q hK hC ho hq hqp hQ
  unfold KD at hK
  have hk' := hC.k
  have hg := tE_gt (T := T) hp (by rw [hw.1]; decide)
  have hw' := (hC.w 24 (by decide)).mpr ⟨hb, hw⟩
  refine WPm.of k_X3_parsePart.1 (Nat.le_of_ble_eq_true rfl) (B_X3_parsePart_0 (by omega) ⟨fun _ => ⟨fun _ => ⟨fun c => absurd hw'.1 c, fun _ => ⟨fun c => absurd (hw'.2.symm.trans c) (by decide), fun _ => ⟨fun c => absurd hw'.2 c, fun _ => ?_⟩⟩⟩, fun c => absurd (hw'.1.symm.trans c.1) (by decide)⟩, fun c => absurd (hw'.1.symm.trans c) (by decide)⟩)
  refine S_step (by omega) hX hp hC (by rw [hw.1]; decide) hb (fun I1 hC1 hF1 => ⟨_, _, rfl, rfl, fun _ => ?_, fun c => absurd ((hC1.s 40).mpr h40) c⟩)
  have hE := Cer.o7 hC1 hF1.p (by rw [hF1.gv 22 13 (by decide) (by decide), hq]; omega)
  refine S_open1 (o := 7) (by omega) hX hg.2.1 hC1 (by rw [h40.1]; decide) (bd_3 (Or.inl h40.1)) (by rw [hF1.gv 3 4 (by decide) (by decide)]; exact ho) (Nat.le_refl _) (fun c => absurd rfl c) (fun _ => ⟨_, _, _, rfl, rfl, ?_⟩)
  exact ⟨by decide, fun _ => ⟨fun _ => S_emN hE hQ, fun _ => S_emN hE hQ⟩, fun c => absurd rfl c⟩
set_option maxHeartbeats 1000000 in
theorem C_min24 {T : Nat → Int} {n o p : Nat} {r1 r2 : Res} (hX : TX T n) (hp : p ≤ n) (hb : bd T n p = -1) (hw : wd T n p 24) (h40 : sgn T n (tE T n p) 40) (ho7 : o < 7) (h1 : CN m_X3_parseSum (KD 3 (o + 1)) T n (o + 1) (tE T n (tE T n p)) r1) (h2 : ∀ c, r1 = .inr c → sgn T n c.2 44 → CN m_X3_parseSum (KD 3 (o + 1)) T n (o + 1) (tE T n c.2) r2) : CN m_X3_parsePart (KD 1 o) T n o p (minR T n 10106 r1 r2) := by
  intro k I J Q q hK hC ho hq hqp hQ
  unfold KD at hK
  have hk' := hC.k
  have hg := tE_gt (T := T) hp (by rw [hw.1]; decide)
  have hg1 := tE_gt (T := T) hg.2.1 (by rw [h40.1]; decide)
  have hw' := (hC.w 24 (by decide)).mpr ⟨hb, hw⟩
  refine WPm.of k_X3_parsePart.1 (Nat.le_of_ble_eq_true rfl) (B_X3_parsePart_0 (by omega) ⟨fun _ => ⟨fun _ => ⟨fun c => absurd hw'.1 c, fun _ => ⟨fun c => absurd (hw'.2.symm.trans c) (by decide), fun _ => ⟨fun c => absurd hw'.2 c, fun _ => ?_⟩⟩⟩, fun c => absurd (hw'.1.symm.trans c.1) (by decide)⟩, fun c => absurd (hw'.1.symm.trans c) (by decide)⟩)
  refine S_step (by omega) hX hp hC (by rw [hw.1]; decide) hb (fun I1 hC1 hF1 => ⟨_, _, rfl, rfl, fun _ => ?_, fun c => absurd ((hC1.s 40).mpr h40) c⟩)
  refine S_open1 (o := o) (by omega) hX hg.2.1 hC1 (by rw [h40.1]; decide) (bd_3 (Or.inl h40.1)) (by rw [hF1.gv 3 4 (by decide) (by decide)]; exact ho) (by omega) (fun _ I2 hC2 ho2 hF2 => ⟨_, _, _, rfl, rfl, ?_⟩) (fun c => by omega)
  refine ⟨by decide, fun c => absurd c (by decide), fun _ => ?_⟩
  have h02 : Cok I I2 T n (o + 1) q (p + 1) [] (tE T n (tE T n p)) := Cok.st hC2 ho2 hq (hF1.x1.tr hF2) hg1.2.1 (by omega)
  refine h1 (k - 1) I2 J _ q (by unfold KD; omega) hC2 ho2 h02.2.2.1 (by omega) ?_
  cases r1 with
  | inl e =>
    intro I3 hE3
    have hE := h02.er hE3
    exact ⟨_, _, _, rfl, rfl, by decide, fun _ => ⟨fun _ => S_emN hE hQ, fun _ => S_emN hE hQ⟩, fun c => absurd rfl c⟩
  | inr c1 =>
    intro I3 h3
    have h03 : Cok I I3 T n (o + 1) q (p + 1) c1.1 c1.2 := h02.tr h3
    have hp3 := h03.2.2.2.2.2.2.1
    have hl3 := h03.2.2.2.2.2.2.2
    refine ⟨_, _, _, rfl, rfl, by decide, fun c => absurd c (by decide), fun _ => ?_⟩
    refine S_want (by omega) hX hp3 h03.1 (by decide) (fun hs I4 hC4 hF4 => ⟨_, _, _, rfl, rfl, by decide, fun c => absurd c (by decide), fun _ => ?_⟩) (fun hs => ⟨_, _, _, rfl, rfl, by decide, fun _ => ?_, fun c => absurd rfl c⟩)
    · have hg3 := tE_gt (T := T) hp3 (by rw [hs.1]; decide)
      have h34 : Cok I3 I4 T n (o + 1) (q + c1.1.length) c1.2 [] (tE T n c1.2) := Cok.st hC4 (by rw [hF4.gv 3 4 (by decide) (by decide)]; exact h03.2.1) h03.2.2.1 hF4.x1 hg3.2.1 (by omega)
      have h04 := h03.tr h34
      rw [List.append_nil] at h04
      refine h2 c1 rfl hs (k - 1) I4 J _ (q + c1.1.length) (by unfold KD; omega) hC4 h04.2.1 h04.2.2.1 (by omega) ?_
      cases r2 with
      | inl e =>
        rw [minR_e hs] at hQ
        intro I5 hE5
        have hE := h04.er hE5
        exact ⟨_, _, _, rfl, rfl, by decide, fun _ => ⟨fun _ => S_emN hE hQ, fun _ => S_emN hE hQ⟩, fun c => absurd rfl c⟩
      | inr c2 =>
        intro I5 h5
        have h05 := h04.tr h5
        have hp5 := h05.2.2.2.2.2.2.1
        refine ⟨_, _, _, rfl, rfl, by decide, fun c => absurd c (by decide), fun _ => ?_⟩
        refine S_close1 (by omega) hX hp5 h05.1 (by decide) h05.2.1 (fun hs2 I6 hC6 ho6 hF6 => ⟨_, _, _, rfl, rfl, by decide, fun c => absurd c (by decide), fun _ => ?_⟩) (fun hs2 I6 hC6 hF6 hd6 => ⟨_, _, _, rfl, rfl, by decide, fun _ => ?_, fun c => absurd rfl c⟩)
        · rw [minR_y hs hs2] at hQ
          have hg5 := tE_gt (T := T) hp5 (by rw [hs2.1]; decide)
          have h56 : Cok I5 I6 T n o (q + (c1.1 ++ c2.1).length) c2.2 [] (tE T n c2.2) := Cok.st hC6 ho6 h05.2.2.1 hF6 hg5.2.1 (by omega)
          have h06 := h05.tr h56
          rw [List.append_nil] at h06
          exact ⟨fun _ => S_emK hX (by decide) h06 hqp (fun I7 h7 => ⟨_, _, rfl, rfl, hQ I7 h7⟩), fun c => absurd (hw'.2.symm.trans c) (by decide)⟩
        · rw [minR_b hs hs2] at hQ
          have hq5 := h05.2.2.1
          have hE := Cer.fr h05.2.2.2.2.2.1 (Cer.ref hC6 hF6 (by omega))
          exact ⟨fun _ => S_emN hE hQ, fun _ => S_emN hE hQ⟩
    · rw [minR_n hs] at hQ
      have hE := Cer.want h03
      exact ⟨fun _ => S_emN hE hQ, fun _ => S_emN hE hQ⟩
theorem C_prod0 {k : Nat} {I : Nat → Nat → Int32} {J : Nat → Nat → Int64} {Q : Option AV → Mem → Prop} {x2 : Int} (hk : 1 ≤ k) (hx : inR x2) (h : Q (some (vI 0)) (mem (some 22, some 5, some 22) I J)) : WP k LAY m_X3_parseProduct 7 [(0, vR (some 3)), (1, vI 0), (2, vI x2)] [] (mem (some 22, some 5, some 22) I J) Q := B_X3_parseProduct_7 hk ⟨hx, fun _ => ⟨Or.inl rfl, h⟩, fun _ => ⟨by decide, fun _ => ⟨Or.inl rfl, h⟩, fun c => absurd rfl c⟩⟩
theorem C_prod {T : Nat → Int} {n o p : Nat} {r1 r2 : Res} (h1 : CN m_X3_parsePart (KD 1 o) T n o p r1) (h2 : ∀ c, r1 = .inr c → CLp m_X3_parseProduct (KD 2 o) T n o c.2 r2) : CN m_X3_parseProduct (KD 2 o) T n o p (seqR [] r1 r2) := by
  intro k I J Q q hK hC ho hq hqp hQ
  have hK' := hK
  unfold KD at hK'
  refine WPm.of k_X3_parseProduct.1 (Nat.le_of_ble_eq_true rfl) (B_X3_parseProduct_0 (by omega) ?_)
  refine h1 (k - 1) I J _ q (by unfold KD; omega) hC ho hq hqp ?_
  cases r1 with
  | inl e => exact fun I1 hE => ⟨_, _, _, rfl, rfl, C_prod0 (by omega) (by decide) (hQ I1 hE)⟩
  | inr c =>
    intro I1 h01
    refine ⟨_, _, _, rfl, rfl, ?_⟩
    have hl := h01.2.2.2.2.2.2.2
    have hQ' : CO I J Q T n o q p (pre c.1 r2) := seqR_0 (c := c) (r2 := r2) ▸ hQ
    exact h2 c rfl k I1 J Q (q + c.1.length) 0 hK h01.1 h01.2.1 h01.2.2.1 (by omega) (Nat.zero_le _) (CO.pre h01 hQ')
theorem C_prodx {T : Nat → Int} {n o p : Nat} (hp : p ≤ n) (hop : ¬ pOp T n p) : CLp m_X3_parseProduct (KD 2 o) T n o p (.inr ([], p)) := by
  intro k I J Q q x2 hK hC ho hq hqp hx hQ
  have hK' := hK
  unfold KD at hK'
  have hx' : inR ((x2 : Nat) : Int) := by
    have := hC.1.1
    have := gi_in I 1 1
    unfold inR at this ⊢
    omega
  have hQ' : Q (some (vI 1)) (mem (some 22, some 5, some 22) I J) := hQ I (Cok.start hC ho hq (Fr.rf _ _ _) (fun _ => rfl) rfl hp (Nat.le_refl _))
  refine B_X3_parseProduct_7 (by omega) ⟨hx', fun _ => ⟨Or.inr rfl, hQ'⟩, fun _ => ⟨by decide, fun c => absurd c (by decide), fun _ => ?_⟩⟩
  refine S_sop hC ⟨_, _, _, rfl, rfl, ?_⟩
  refine S_isProd (opT_R T n p) (fun v hv => ⟨_, _, _, rfl, rfl, ?_⟩)
  rw [if_neg (show ¬ (10102 ≤ opT T n p ∧ opT T n p ≤ 10104) from hop)] at hv
  subst hv
  exact ⟨by decide, fun _ => ⟨Or.inr rfl, hQ'⟩, fun c => absurd rfl c⟩
set_option maxHeartbeats 1000000 in
theorem C_prods {T : Nat → Int} {n o p : Nat} {r1 r2 : Res} (hX : TX T n) (hp : p ≤ n) (hop : pOp T n p) (h1 : CN m_X3_parsePart (KD 1 o) T n o (tE T n p) r1) (h2 : ∀ c, r1 = .inr c → CLp m_X3_parseProduct (KD 2 o) T n o c.2 r2) : CLp m_X3_parseProduct (KD 2 o) T n o p (seqR [opT T n p] r1 r2) := by
  intro k I J Q q x2 hK hC ho hq hqp hx hQ
  have hK' := hK
  unfold KD at hK'
  have hk0 : kR T n p ≠ 0 := by rw [opT_3 (by unfold pOp at hop; omega)]; decide
  have hb : bd T n p = -1 := bd_3 (Or.inl (opT_3 (by unfold pOp at hop; omega)))
  have hg := tE_gt (T := T) hp hk0
  have hn := hX.1
  have ix1 : inR (((x2 : Nat) : Int) + 1) := by unfold inR; omega
  refine B_X3_parseProduct_7 (by omega) ⟨by unfold inR; omega, fun c => absurd c (by omega), fun _ => ⟨by decide, fun c => absurd c (by decide), fun _ => ?_⟩⟩
  refine S_sop hC ⟨_, _, _, rfl, rfl, ?_⟩
  refine S_isProd (opT_R T n p) (fun v hv => ⟨_, _, _, rfl, rfl, ?_⟩)
  rw [if_pos (show 10102 ≤ opT T n p ∧ opT T n p ≤ 10104 from hop)] at hv
  subst hv
  refine ⟨by decide, fun c => absurd c (by decide), fun _ => ?_⟩
  refine S_sop hC ⟨_, _, _, rfl, rfl, ?_⟩
  refine S_step (by omega) hX hp hC hk0 hb (fun I1 hC1 hF1 => ⟨_, _, rfl, rfl, ?_⟩)
  have h01 : Cok I I1 T n o q (p + 1) [] (tE T n p) := Cok.st hC1 (by rw [hF1.gv 3 4 (by decide) (by decide)]; exact ho) hq hF1.x1 hg.2.1 (by omega)
  refine h1 (k - 1) I1 J _ q (by unfold KD; omega) hC1 h01.2.1 h01.2.2.1 (by omega) ?_
  cases r1 with
  | inl e =>
    intro I2 hE2
    have hE := h01.er hE2
    exact ⟨_, _, _, rfl, rfl, S_emitF hE.2.2.1 (fun I3 a b => ⟨_, _, rfl, rfl, C_prod0 (by omega) ix1 (hQ I3 (hE.em a b))⟩)⟩
  | inr c =>
    intro I2 h2'
    have h02 : Cok I I2 T n o q (p + 1) c.1 c.2 := h01.tr h2'
    refine ⟨_, _, _, rfl, rfl, S_emK hX (opT_R T n p) h02 hqp (fun I3 h03 => ⟨_, _, rfl, rfl, ?_⟩)⟩
    have hl := h03.2.2.2.2.2.2.2
    have hl2 := h02.2.2.2.2.2.2.2
    rw [List.length_append, List.length_cons, List.length_nil] at hl
    have hr := h2 c rfl k I3 J Q (q + (c.1 ++ [opT T n p]).length) (x2 + 1) hK h03.1 h03.2.1 h03.2.2.1 (by rw [List.length_append, List.length_cons, List.length_nil]; omega) (by omega) (CO.pre h03 hQ)
    exact hr
theorem C_sum0 {k : Nat} {I : Nat → Nat → Int32} {J : Nat → Nat → Int64} {Q : Option AV → Mem → Prop} {x2 : Int} (hk : 1 ≤ k) (hx : inR x2) (h : Q (some (vI 0)) (mem (some 22, some 5, some 22) I J)) : WP k LAY m_X3_parseSum 7 [(0, vR (some 3)), (1, vI 0), (2, vI x2)] [] (mem (some 22, some 5, some 22) I J) Q := B_X3_parseSum_7 hk ⟨hx, fun _ => ⟨Or.inl rfl, h⟩, fun _ => ⟨by decide, fun _ => ⟨Or.inl rfl, h⟩, fun c => absurd rfl c⟩⟩
theorem C_sum {T : Nat → Int} {n o p : Nat} {r1 r2 : Res} (h1 : CN m_X3_parseProduct (KD 2 o) T n o p r1) (h2 : ∀ c, r1 = .inr c → CLp m_X3_parseSum (KD 3 o) T n o c.2 r2) : CN m_X3_parseSum (KD 3 o) T n o p (seqR [] r1 r2) := by
  intro k I J Q q hK hC ho hq hqp hQ
  have hK' := hK
  unfold KD at hK'
  refine WPm.of k_X3_parseSum.1 (Nat.le_of_ble_eq_true rfl) (B_X3_parseSum_0 (by omega) ?_)
  refine h1 (k - 1) I J _ q (by unfold KD; omega) hC ho hq hqp ?_
  cases r1 with
  | inl e => exact fun I1 hE => ⟨_, _, _, rfl, rfl, C_sum0 (by omega) (by decide) (hQ I1 hE)⟩
  | inr c =>
    intro I1 h01
    refine ⟨_, _, _, rfl, rfl, ?_⟩
    have hl := h01.2.2.2.2.2.2.2
    have hQ' : CO I J Q T n o q p (pre c.1 r2) := seqR_0 (c := c) (r2 := r2) ▸ hQ
    exact h2 c rfl k I1 J Q (q + c.1.length) 0 hK h01.1 h01.2.1 h01.2.2.1 (by omega) (Nat.zero_le _) (CO.pre h01 hQ')
theorem C_sumx {T : Nat → Int} {n o p : Nat} (hp : p ≤ n) (hop : ¬ sOp T n p) : CLp m_X3_parseSum (KD 3 o) T n o p (.inr ([], p)) := by
  intro k I J Q q x2 hK hC ho hq hqp hx hQ
  have hK' := hK
  unfold KD at hK'
  have hx' : inR ((x2 : Nat) : Int) := by
    have := hC.1.1
    have := gi_in I 1 1
    unfold inR at this ⊢
    omega
  have hQ' : Q (some (vI 1)) (mem (some 22, some 5, some 22) I J) := hQ I (Cok.start hC ho hq (Fr.rf _ _ _) (fun _ => rfl) rfl hp (Nat.le_refl _))
  refine B_X3_parseSum_7 (by omega) ⟨hx', fun _ => ⟨Or.inr rfl, hQ'⟩, fun _ => ⟨by decide, fun c => absurd c (by decide), fun _ => ?_⟩⟩
  refine S_sop hC ⟨_, _, _, rfl, rfl, opT_R T n p, fun c => absurd (by unfold sOp; omega) hop, fun _ => ⟨fun _ => ⟨Or.inr rfl, hQ'⟩, fun c => absurd (by unfold sOp; omega) hop⟩⟩
set_option maxHeartbeats 1000000 in
theorem C_sums {T : Nat → Int} {n o p : Nat} {r1 r2 : Res} (hX : TX T n) (hp : p ≤ n) (hop : sOp T n p) (h1 : CN m_X3_parseProduct (KD 2 o) T n o (tE T n p) r1) (h2 : ∀ c, r1 = .inr c → CLp m_X3_parseSum (KD 3 o) T n o c.2 r2) : CLp m_X3_parseSum (KD 3 o) T n o p (seqR [opT T n p] r1 r2) := by
  intro k I J Q q x2 hK hC ho hq hqp hx hQ
  have hK' := hK
  unfold KD at hK'
  have hk0 : kR T n p ≠ 0 := by rw [opT_3 (by unfold sOp at hop; omega)]; decide
  have hb : bd T n p = -1 := bd_3 (Or.inl (opT_3 (by unfold sOp at hop; omega)))
  have hg := tE_gt (T := T) hp hk0
  have hn := hX.1
  have ix1 : inR (((x2 : Nat) : Int) + 1) := by unfold inR; omega
  refine B_X3_parseSum_7 (by omega) ⟨by unfold inR; omega, fun c => absurd c (by omega), fun _ => ⟨by decide, fun c => absurd c (by decide), fun _ => ?_⟩⟩
  have main : WPm (k - 1) LAY m_X3_signOperator [vR (some 3)] (mem (some 22, some 5, some 22) I J) (retI (fun v9 I10 J11 => WPm (k - 1) LAY m_X10_step [vR (some 1)] (mem (some 22, some 5, some 22) I10 J11) (retV (fun I13 J14 => WPm (k - 1) LAY m_X3_parseProduct [vR (some 3)] (mem (some 22, some 5, some 22) I13 J14) (retI (fun v15 I16 J17 => WPm (k - 1) LAY m_X7_emit [vR (some 22), vI v9] (mem (some 22, some 5, some 22) I16 J17) (retV (fun I19 J20 => WP k LAY m_X3_parseSum 7 [(0, vR (some 3)), (1, vI v15), (2, vI ((x2 : Int) + 1))] [] (mem (some 22, some 5, some 22) I19 J20) Q) (some 22, some 5, some 22))) (some 22, some 5, some 22))) (some 22, some 5, some 22))) (some 22, some 5, some 22)) := by
    refine S_sop hC ⟨_, _, _, rfl, rfl, ?_⟩
    refine S_step (by omega) hX hp hC hk0 hb (fun I1 hC1 hF1 => ⟨_, _, rfl, rfl, ?_⟩)
    have h01 : Cok I I1 T n o q (p + 1) [] (tE T n p) := Cok.st hC1 (by rw [hF1.gv 3 4 (by decide) (by decide)]; exact ho) hq hF1.x1 hg.2.1 (by omega)
    refine h1 (k - 1) I1 J _ q (by unfold KD; omega) hC1 h01.2.1 h01.2.2.1 (by omega) ?_
    cases r1 with
    | inl e =>
      intro I2 hE2
      have hE := h01.er hE2
      exact ⟨_, _, _, rfl, rfl, S_emitF hE.2.2.1 (fun I3 a b => ⟨_, _, rfl, rfl, C_sum0 (by omega) ix1 (hQ I3 (hE.em a b))⟩)⟩
    | inr c =>
      intro I2 h2'
      have h02 : Cok I I2 T n o q (p + 1) c.1 c.2 := h01.tr h2'
      refine ⟨_, _, _, rfl, rfl, S_emK hX (opT_R T n p) h02 hqp (fun I3 h03 => ⟨_, _, rfl, rfl, ?_⟩)⟩
      have hl := h03.2.2.2.2.2.2.2
      have hl2 := h02.2.2.2.2.2.2.2
      rw [List.length_append, List.length_cons, List.length_nil] at hl
      have hr := h2 c rfl k I3 J Q (q + (c.1 ++ [opT T n p]).length) (x2 + 1) hK h03.1 h03.2.1 h03.2.2.1 (by rw [List.length_append, List.length_cons, List.length_nil]; omega) (by omega) (CO.pre h03 hQ)
      exact hr
  refine S_sop hC ⟨_, _, _, rfl, rfl, opT_R T n p, fun _ => main, fun c => ⟨fun c2 => absurd hop (by unfold sOp; omega), fun _ => main⟩⟩
theorem C_both0 {k : Nat} {I : Nat → Nat → Int32} {J : Nat → Nat → Int64} {Q : Option AV → Mem → Prop} {x2 : Int} (hk : 1 ≤ k) (hx : inR x2) (h : Q (some (vI 0)) (mem (some 22, some 5, some 22) I J)) : WP k LAY m_X3_parseBoth 7 [(0, vR (some 3)), (1, vI 0), (2, vI x2)] [] (mem (some 22, some 5, some 22) I J) Q := B_X3_parseBoth_7 hk ⟨hx, fun _ => ⟨Or.inl rfl, h⟩, fun _ => ⟨by decide, fun _ => ⟨Or.inl rfl, h⟩, fun c => absurd rfl c⟩⟩
theorem C_both {T : Nat → Int} {n o p : Nat} {r1 r2 : Res} (h1 : CN m_X3_parseFact (KD 4 o) T n o p r1) (h2 : ∀ c, r1 = .inr c → CLp m_X3_parseBoth (KD 5 o) T n o c.2 r2) : CN m_X3_parseBoth (KD 5 o) T n o p (seqR [] r1 r2) := by
  intro k I J Q q hK hC ho hq hqp hQ
  have hK' := hK
  unfold KD at hK'
  refine WPm.of k_X3_parseBoth.1 (Nat.le_of_ble_eq_true rfl) (B_X3_parseBoth_0 (by omega) ?_)
  refine h1 (k - 1) I J _ q (by unfold KD; omega) hC ho hq hqp ?_
  cases r1 with
  | inl e => exact fun I1 hE => ⟨_, _, _, rfl, rfl, C_both0 (by omega) (by decide) (hQ I1 hE)⟩
  | inr c =>
    intro I1 h01
    refine ⟨_, _, _, rfl, rfl, ?_⟩
    have hl := h01.2.2.2.2.2.2.2
    have hQ' : CO I J Q T n o q p (pre c.1 r2) := seqR_0 (c := c) (r2 := r2) ▸ hQ
    exact h2 c rfl k I1 J Q (q + c.1.length) 0 hK h01.1 h01.2.1 h01.2.2.1 (by omega) (Nat.zero_le _) (CO.pre h01 hQ')
theorem C_bothx {T : Nat → Int} {n o p : Nat} (hp : p ≤ n) (hop : ¬ (bd T n p = -1 ∧ wd T n p 20)) : CLp m_X3_parseBoth (KD 5 o) T n o p (.inr ([], p)) := by
  intro k I J Q q x2 hK hC ho hq hqp hx hQ
  have hK' := hK
  unfold KD at hK'
  have hx' : inR ((x2 : Nat) : Int) := by
    have := hC.1.1
    have := gi_in I 1 1
    unfold inR at this ⊢
    omega
  have hQ' : Q (some (vI 1)) (mem (some 22, some 5, some 22) I J) := hQ I (Cok.start hC ho hq (Fr.rf _ _ _) (fun _ => rfl) rfl hp (Nat.le_refl _))
  refine B_X3_parseBoth_7 (by omega) ⟨hx', fun _ => ⟨Or.inr rfl, hQ'⟩, fun _ => ⟨by decide, fun c => absurd c (by decide), fun _ => ?_⟩⟩
  exact ⟨fun _ => ⟨Or.inr rfl, hQ'⟩, fun c => absurd ((hC.w 20 (by decide)).mp c) hop⟩
set_option maxHeartbeats 1000000 in
theorem C_boths {T : Nat → Int} {n o p : Nat} {r1 r2 : Res} (hX : TX T n) (hp : p ≤ n) (hop : bd T n p = -1 ∧ wd T n p 20) (h1 : CN m_X3_parseFact (KD 4 o) T n o (tE T n p) r1) (h2 : ∀ c, r1 = .inr c → CLp m_X3_parseBoth (KD 5 o) T n o c.2 r2) : CLp m_X3_parseBoth (KD 5 o) T n o p (seqR [10110] r1 r2) := by
  intro k I J Q q x2 hK hC ho hq hqp hx hQ
  have hK' := hK
  unfold KD at hK'
  have hk0 : kR T n p ≠ 0 := by rw [hop.2.1]; decide
  have hb := hop.1
  have hg := tE_gt (T := T) hp hk0
  have hn := hX.1
  have ix1 : inR (((x2 : Nat) : Int) + 1) := by unfold inR; omega
  refine B_X3_parseBoth_7 (by omega) ⟨by unfold inR; omega, fun c => absurd c (by omega), fun _ => ⟨by decide, fun c => absurd c (by decide), fun _ => ?_⟩⟩
  refine ⟨fun c => absurd ((hC.w 20 (by decide)).mpr hop) c, fun _ => ?_⟩
  refine S_step (by omega) hX hp hC hk0 hb (fun I1 hC1 hF1 => ⟨_, _, rfl, rfl, ?_⟩)
  have h01 : Cok I I1 T n o q (p + 1) [] (tE T n p) := Cok.st hC1 (by rw [hF1.gv 3 4 (by decide) (by decide)]; exact ho) hq hF1.x1 hg.2.1 (by omega)
  refine h1 (k - 1) I1 J _ q (by unfold KD; omega) hC1 h01.2.1 h01.2.2.1 (by omega) ?_
  cases r1 with
  | inl e =>
    intro I2 hE2
    have hE := h01.er hE2
    exact ⟨_, _, _, rfl, rfl, S_emitF hE.2.2.1 (fun I3 a b => ⟨_, _, rfl, rfl, C_both0 (by omega) ix1 (hQ I3 (hE.em a b))⟩)⟩
  | inr c =>
    intro I2 h2'
    have h02 : Cok I I2 T n o q (p + 1) c.1 c.2 := h01.tr h2'
    refine ⟨_, _, _, rfl, rfl, S_emK hX (by decide) h02 hqp (fun I3 h03 => ⟨_, _, rfl, rfl, ?_⟩)⟩
    have hl := h03.2.2.2.2.2.2.2
    have hl2 := h02.2.2.2.2.2.2.2
    rw [List.length_append, List.length_cons, List.length_nil] at hl
    have hr := h2 c rfl k I3 J Q (q + (c.1 ++ [10110]).length) (x2 + 1) hK h03.1 h03.2.1 h03.2.2.1 (by rw [List.length_append, List.length_cons, List.length_nil]; omega) (by omega) (CO.pre h03 hQ)
    exact hr
theorem C_test0 {k : Nat} {I : Nat → Nat → Int32} {J : Nat → Nat → Int64} {Q : Option AV → Mem → Prop} {x2 : Int} (hk : 1 ≤ k) (hx : inR x2) (h : Q (some (vI 0)) (mem (some 22, some 5, some 22) I J)) : WP k LAY m_X3_parseTest 7 [(0, vR (some 3)), (1, vI 0), (2, vI x2)] [] (mem (some 22, some 5, some 22) I J) Q := B_X3_parseTest_7 hk ⟨hx, fun _ => ⟨Or.inl rfl, h⟩, fun _ => ⟨by decide, fun _ => ⟨Or.inl rfl, h⟩, fun c => absurd rfl c⟩⟩
theorem C_test {T : Nat → Int} {n o p : Nat} {r1 r2 : Res} (h1 : CN m_X3_parseBoth (KD 5 o) T n o p r1) (h2 : ∀ c, r1 = .inr c → CLp m_X3_parseTest (KD 6 o) T n o c.2 r2) : CN m_X3_parseTest (KD 6 o) T n o p (seqR [] r1 r2) := by
  intro k I J Q q hK hC ho hq hqp hQ
  have hK' := hK
  unfold KD at hK'
  refine WPm.of k_X3_parseTest.1 (Nat.le_of_ble_eq_true rfl) (B_X3_parseTest_0 (by omega) ?_)
  refine h1 (k - 1) I J _ q (by unfold KD; omega) hC ho hq hqp ?_
  cases r1 with
  | inl e => exact fun I1 hE => ⟨_, _, _, rfl, rfl, C_test0 (by omega) (by decide) (hQ I1 hE)⟩
  | inr c =>
    intro I1 h01
    refine ⟨_, _, _, rfl, rfl, ?_⟩
    have hl := h01.2.2.2.2.2.2.2
    have hQ' : CO I J Q T n o q p (pre c.1 r2) := seqR_0 (c := c) (r2 := r2) ▸ hQ
    exact h2 c rfl k I1 J Q (q + c.1.length) 0 hK h01.1 h01.2.1 h01.2.2.1 (by omega) (Nat.zero_le _) (CO.pre h01 hQ')
theorem C_testx {T : Nat → Int} {n o p : Nat} (hp : p ≤ n) (hop : ¬ (bd T n p = -1 ∧ wd T n p 19)) : CLp m_X3_parseTest (KD 6 o) T n o p (.inr ([], p)) := by
  intro k I J Q q x2 hK hC ho hq hqp hx hQ
  have hK' := hK
  unfold KD at hK'
  have hx' : inR ((x2 : Nat) : Int) := by
    have := hC.1.1
    have := gi_in I 1 1
    unfold inR at this ⊢
    omega
  have hQ' : Q (some (vI 1)) (mem (some 22, some 5, some 22) I J) := hQ I (Cok.start hC ho hq (Fr.rf _ _ _) (fun _ => rfl) rfl hp (Nat.le_refl _))
  refine B_X3_parseTest_7 (by omega) ⟨hx', fun _ => ⟨Or.inr rfl, hQ'⟩, fun _ => ⟨by decide, fun c => absurd c (by decide), fun _ => ?_⟩⟩
  exact ⟨fun _ => ⟨Or.inr rfl, hQ'⟩, fun c => absurd ((hC.w 19 (by decide)).mp c) hop⟩
set_option maxHeartbeats 1000000 in
theorem C_tests {T : Nat → Int} {n o p : Nat} {r1 r2 : Res} (hX : TX T n) (hp : p ≤ n) (hop : bd T n p = -1 ∧ wd T n p 19) (h1 : CN m_X3_parseBoth (KD 5 o) T n o (tE T n p) r1) (h2 : ∀ c, r1 = .inr c → CLp m_X3_parseTest (KD 6 o) T n o c.2 r2) : CLp m_X3_parseTest (KD 6 o) T n o p (seqR [10111] r1 r2) := by
  intro k I J Q q x2 hK hC ho hq hqp hx hQ
  have hK' := hK
  unfold KD at hK'
  have hk0 : kR T n p ≠ 0 := by rw [hop.2.1]; decide
  have hb := hop.1
  have hg := tE_gt (T := T) hp hk0
  have hn := hX.1
  have ix1 : inR (((x2 : Nat) : Int) + 1) := by unfold inR; omega
  refine B_X3_parseTest_7 (by omega) ⟨by unfold inR; omega, fun c => absurd c (by omega), fun _ => ⟨by decide, fun c => absurd c (by decide), fun _ => ?_⟩⟩
  refine ⟨fun c => absurd ((hC.w 19 (by decide)).mpr hop) c, fun _ => ?_⟩
  refine S_step (by omega) hX hp hC hk0 hb (fun I1 hC1 hF1 => ⟨_, _, rfl, rfl, ?_⟩)
  have h01 : Cok I I1 T n o q (p + 1) [] (tE T n p) := Cok.st hC1 (by rw [hF1.gv 3 4 (by decide) (by decide)]; exact ho) hq hF1.x1 hg.2.1 (by omega)
  refine h1 (k - 1) I1 J _ q (by unfold KD; omega) hC1 h01.2.1 h01.2.2.1 (by omega) ?_
  cases r1 with
  | inl e =>
    intro I2 hE2
    have hE := h01.er hE2
    exact ⟨_, _, _, rfl, rfl, S_emitF hE.2.2.1 (fun I3 a b => ⟨_, _, rfl, rfl, C_test0 (by omega) ix1 (hQ I3 (hE.em a b))⟩)⟩
  | inr c =>
    intro I2 h2'
    have h02 : Cok I I2 T n o q (p + 1) c.1 c.2 := h01.tr h2'
    refine ⟨_, _, _, rfl, rfl, S_emK hX (by decide) h02 hqp (fun I3 h03 => ⟨_, _, rfl, rfl, ?_⟩)⟩
    have hl := h03.2.2.2.2.2.2.2
    have hl2 := h02.2.2.2.2.2.2.2
    rw [List.length_append, List.length_cons, List.length_nil] at hl
    have hr := h2 c rfl k I3 J Q (q + (c.1 ++ [10111]).length) (x2 + 1) hK h03.1 h03.2.1 h03.2.2.1 (by rw [List.length_append, List.length_cons, List.length_nil]; omega) (by omega) (CO.pre h03 hQ)
    exact hr
/-! a fact -/
def notR (r : Res) : Res := match r with
  | .inl e => .inl e
  | .inr c => .inr (c.1 ++ [10112], c.2)
noncomputable def cmpR (T : Nat → Int) (n : Nat) (r1 r2 : Res) : Res := match r1 with
  | .inl e => .inl e
  | .inr c => if 10107 ≤ opT T n c.2 ∧ opT T n c.2 ≤ 10109 then (match r2 with
    | .inl e => .inl e
    | .inr d => .inr (c.1 ++ d.1 ++ [opT T n c.2], d.2)) else .inl (1, pl T n c.2)
theorem cmpR_n {T : Nat → Int} {n : Nat} {c : List Int × Nat} {r2 : Res} (h : ¬ tOp T n c.2) : cmpR T n (.inr c) r2 = .inl (1, pl T n c.2) := if_neg h
theorem cmpR_e {T : Nat → Int} {n : Nat} {c : List Int × Nat} {e : Int × Int} (h : tOp T n c.2) : cmpR T n (.inr c) (.inl e) = .inl e := if_pos h
theorem cmpR_y {T : Nat → Int} {n : Nat} {c d : List Int × Nat} (h : tOp T n c.2) : cmpR T n (.inr c) (.inr d) = .inr (c.1 ++ d.1 ++ [opT T n c.2], d.2) := if_pos h
theorem Cok.less {I I2 : Nat → Nat → Int32} {T : Nat → Int} {n o q p0 : Nat} {c : List Int} {p1 : Nat} (h : Cok I I2 T n (o + 1) q p0 c p1) : Cok I (si I2 3 4 (gi I2 3 4 - 1)) T n o q p0 c p1 := by
  have hi := gi_in I2 3 4
  have h2 : Cok I2 (si I2 3 4 (gi I2 3 4 - 1)) T n o (q + c.length) p1 [] p1 := Cok.st (h.1.fr (cs := []) (fs := [(3, 4)]) ((Fr.rf _ _ _).up 3 4 _ (Or.inr (by decide))) (by decide) (by decide)) (by
    rw [h.2.1] at hi ⊢
    rw [gi_si _ _ _ _ _ (by unfold inR at hi ⊢; omega), if_pos ⟨rfl, rfl⟩]
    omega) h.2.2.1 ((Fr.rf _ _ _).up 3 4 _ (Or.inr (by decide))) h.2.2.2.2.2.2.1 (Nat.le_refl _)
  have := h.tr h2
  rwa [List.append_nil] at this
theorem C_not7 {T : Nat → Int} {n p : Nat} (hX : TX T n) (hp : p ≤ n) (hb : bd T n p = -1) (hw : wd T n p 21) : CN m_X3_parseFact (KD 4 7) T n 7 p (.inl (5, tS T n p)) := by
  intro k I J Q q hK hC ho hq hqp hQ
  unfold KD at hK
  have hw' := (hC.w 21 (by decide)).mpr ⟨hb, hw⟩
  refine WPm.of k_X3_parseFact.1 (Nat.le_of_ble_eq_true rfl) (B_X3_parseFact_0 (by omega) ⟨fun c => absurd hw' c, fun _ => ?_⟩)
  refine S_open1 (o := 7) (by omega) hX hp hC (by rw [hw.1]; decide) hb ho (Nat.le_refl _) (fun c => absurd rfl c) (fun _ => ⟨_, _, _, rfl, rfl, ?_⟩)
  exact ⟨by decide, fun _ => hQ _ (Cer.o7 hC (Fr.rf _ _ _) (by omega)), fun c => absurd rfl c⟩
theorem Cer.less {I I2 : Nat → Nat → Int32} {e : Int × Int} {z : Int} (h : Cer I I2 e) : Cer I (si I2 3 4 z) e := ⟨by rw [gi_idx _ _ _ (by decide)]; exact h.1, by rw [gi_idx _ _ _ (by decide)]; exact h.2.1, by rw [gi_cell _ _ _ _ (by decide)]; exact h.2.2.1, h.2.2.2.up 3 4 _ (Or.inr (by decide))⟩
theorem C_not {T : Nat → Int} {n o p : Nat} {r : Res} (hX : TX T n) (hp : p ≤ n) (hb : bd T n p = -1) (hw : wd T n p 21) (ho7 : o < 7) (h : CN m_X3_parseFact (KD 4 (o + 1)) T n (o + 1) (tE T n p) r) : CN m_X3_parseFact (KD 4 o) T n o p (notR r) := by
  intro k I J Q q hK hC ho hq hqp hQ
  unfold KD at hK
  have hg := tE_gt (T := T) hp (by rw [hw.1]; decide)
  have hw' := (hC.w 21 (by decide)).mpr ⟨hb, hw⟩
  refine WPm.of k_X3_parseFact.1 (Nat.le_of_ble_eq_true rfl) (B_X3_parseFact_0 (by omega) ⟨fun c => absurd hw' c, fun _ => ?_⟩)
  refine S_open1 (o := o) (by omega) hX hp hC (by rw [hw.1]; decide) hb ho (by omega) (fun _ I1 hC1 ho1 hF1 => ⟨_, _, _, rfl, rfl, ?_⟩) (fun c => by omega)
  refine ⟨by decide, fun c => absurd c (by decide), fun _ => ?_⟩
  have h01 : Cok I I1 T n (o + 1) q (p + 1) [] (tE T n p) := Cok.st hC1 ho1 hq hF1 hg.2.1 (by omega)
  refine WPm.of k_X3_parseNegated.1 (Nat.le_of_ble_eq_true rfl) (B_X3_parseNegated_0 (by omega) ?_)
  refine h (k - 1 - 1) I1 J _ q (by unfold KD; omega) hC1 ho1 h01.2.2.1 (by omega) ?_
  cases r with
  | inl e =>
    intro I2 hE2
    have hE : Cer I (si I2 3 4 (gi I2 3 4 - 1)) e := (h01.er hE2).less
    exact ⟨_, _, _, rfl, rfl, S_emitF hE.2.2.1 (fun I3 a b => ⟨_, _, rfl, rfl, Or.inl rfl, ⟨_, _, _, rfl, rfl, by decide, fun _ => hQ I3 (hE.em a b), fun c => absurd rfl c⟩⟩)⟩
  | inr c =>
    intro I2 h2
    have h02 : Cok I I2 T n (o + 1) q (p + 1) c.1 c.2 := h01.tr h2
    refine ⟨_, _, _, rfl, rfl, ?_⟩
    exact S_emK hX (by decide) h02.less hqp (fun I3 h03 => ⟨_, _, rfl, rfl, Or.inr rfl, ⟨_, _, _, rfl, rfl, by decide, fun c => absurd c (by decide), fun _ => hQ I3 h03⟩⟩)
theorem C_brk7 {T : Nat → Int} {n p : Nat} (hX : TX T n) (hp : p ≤ n) (h91 : sgn T n p 91) : CN m_X3_parseFact (KD 4 7) T n 7 p (.inl (5, tS T n p)) := by
  intro k I J Q q hK hC ho hq hqp hQ
  unfold KD at hK
  have hs := (hC.s 91).mpr h91
  refine WPm.of k_X3_parseFact.1 (Nat.le_of_ble_eq_true rfl) (B_X3_parseFact_0 (by omega) ⟨fun _ => ⟨fun c => absurd hs c, fun _ => ?_⟩, fun c => absurd (hs.1.symm.trans c.1) (by decide)⟩)
  refine S_open1 (o := 7) (by omega) hX hp hC (by rw [h91.1]; decide) (bd_3 (Or.inl h91.1)) ho (Nat.le_refl _) (fun c => absurd rfl c) (fun _ => ⟨_, _, _, rfl, rfl, ?_⟩)
  exact ⟨by decide, fun _ => hQ _ (Cer.o7 hC (Fr.rf _ _ _) (by omega)), fun c => absurd rfl c⟩
theorem C_brk {T : Nat → Int} {n o p : Nat} {r : Res} (hX : TX T n) (hp : p ≤ n) (h91 : sgn T n p 91) (ho7 : o < 7) (h : CN m_X3_parseTest (KD 6 (o + 1)) T n (o + 1) (tE T n p) r) : CN m_X3_parseFact (KD 4 o) T n o p (cloR T n 93 r) := by
  intro k I J Q q hK hC ho hq hqp hQ
  unfold KD at hK
  have hg := tE_gt (T := T) hp (by rw [h91.1]; decide)
  have hs := (hC.s 91).mpr h91
  refine WPm.of k_X3_parseFact.1 (Nat.le_of_ble_eq_true rfl) (B_X3_parseFact_0 (by omega) ⟨fun _ => ⟨fun c => absurd hs c, fun _ => ?_⟩, fun c => absurd (hs.1.symm.trans c.1) (by decide)⟩)
  refine S_open1 (o := o) (by omega) hX hp hC (by rw [h91.1]; decide) (bd_3 (Or.inl h91.1)) ho (by omega) (fun _ I1 hC1 ho1 hF1 => ⟨_, _, _, rfl, rfl, ?_⟩) (fun c => by omega)
  refine ⟨by decide, fun c => absurd c (by decide), fun _ => ?_⟩
  have h01 : Cok I I1 T n (o + 1) q p [] (tE T n p) := Cok.st hC1 ho1 hq hF1 hg.2.1 (by omega)
  refine h (k - 1) I1 J _ q (by unfold KD; omega) hC1 ho1 h01.2.2.1 (by omega) ?_
  cases r with
  | inl e => exact fun I2 hE => ⟨_, _, _, rfl, rfl, by decide, fun _ => hQ I2 (h01.er hE), fun c => absurd rfl c⟩
  | inr c =>
    intro I2 h2
    have h02 : Cok I I2 T n (o + 1) q p c.1 c.2 := h01.tr h2
    refine ⟨_, _, _, rfl, rfl, by decide, fun c => absurd c (by decide), fun _ => ?_⟩
    refine S_close1 (by omega) hX h02.2.2.2.2.2.2.1 h02.1 (by decide) h02.2.1 (fun hs I3 hC3 ho3 hF3 => ⟨_, _, _, rfl, rfl, by decide, fun c => absurd c (by decide), fun _ => ?_⟩) (fun hs I3 hC3 hF3 hd3 => ⟨_, _, _, rfl, rfl, by decide, fun _ => ?_, fun c => absurd rfl c⟩)
    · rw [cloR_y hs] at hQ
      have hg2 := tE_gt (T := T) h02.2.2.2.2.2.2.1 (by rw [hs.1]; decide)
      have h23 : Cok I2 I3 T n o (q + c.1.length) c.2 [] (tE T n c.2) := Cok.st hC3 ho3 h02.2.2.1 hF3 hg2.2.1 (by omega)
      have h03 := h02.tr h23
      rw [List.append_nil] at h03
      exact hQ I3 h03
    · rw [cloR_n hs] at hQ
      have hq2 := h02.2.2.1
      exact hQ _ (Cer.fr h02.2.2.2.2.2.1 (Cer.ref hC3 hF3 (by omega)))
theorem C_all {T : Nat → Int} {n o p : Nat} (hX : TX T n) (hp : p ≤ n) (hb : bd T n p = -1) (hw : wd T n p 22) : CN m_X3_parseFact (KD 4 o) T n o p (.inr ([1], tE T n p)) := by
  intro k I J Q q hK hC ho hq hqp hQ
  unfold KD at hK
  have hg := tE_gt (T := T) hp (by rw [hw.1]; decide)
  have hw' := (hC.w 22 (by decide)).mpr ⟨hb, hw⟩
  refine WPm.of k_X3_parseFact.1 (Nat.le_of_ble_eq_true rfl) (B_X3_parseFact_0 (by omega) ⟨fun _ => ⟨fun _ => ⟨fun c => absurd hw' c, fun _ => ?_⟩, fun c => absurd (hw'.1.symm.trans c.1) (by decide)⟩, fun c => absurd (hw'.2.symm.trans c.2) (by decide)⟩)
  refine S_step (by omega) hX hp hC (by rw [hw.1]; decide) hb (fun I1 hC1 hF1 => ⟨_, _, rfl, rfl, ?_⟩)
  have h01 : Cok I I1 T n o q (p + 1) [] (tE T n p) := Cok.st hC1 (by rw [hF1.gv 3 4 (by decide) (by decide)]; exact ho) hq hF1.x1 hg.2.1 (by omega)
  exact S_emK hX (by decide) h01 hqp (fun I2 h02 => ⟨_, _, rfl, rfl, hQ I2 h02⟩)
set_option maxHeartbeats 1000000 in
theorem C_cmp {T : Nat → Int} {n o p : Nat} {r1 r2 : Res} (hX : TX T n) (h21 : ¬ (bd T n p = -1 ∧ wd T n p 21)) (h91 : ¬ sgn T n p 91) (h22 : ¬ (bd T n p = -1 ∧ wd T n p 22)) (h1 : CN m_X3_parseSum (KD 3 o) T n o p r1) (h2 : ∀ c, r1 = .inr c → tOp T n c.2 → CN m_X3_parseSum (KD 3 o) T n o (tE T n c.2) r2) : CN m_X3_parseFact (KD 4 o) T n o p (cmpR T n r1 r2) := by
  intro k I J Q q hK hC ho hq hqp hQ
  unfold KD at hK
  refine WPm.of k_X3_parseFact.1 (Nat.le_of_ble_eq_true rfl) (B_X3_parseFact_0 (by omega) ⟨fun _ => ⟨fun _ => ⟨fun _ => ?_, fun c => absurd ((hC.w 22 (by decide)).mp c) h22⟩, fun c => absurd ((hC.s 91).mp c) h91⟩, fun c => absurd ((hC.w 21 (by decide)).mp c) h21⟩)
  refine h1 (k - 1) I J _ q (by unfold KD; omega) hC ho hq hqp ?_
  cases r1 with
  | inl e => exact fun I2 hE => ⟨_, _, _, rfl, rfl, by decide, fun c => absurd rfl c, fun _ => hQ I2 hE⟩
  | inr c =>
    intro I1 h01
    have hp1 := h01.2.2.2.2.2.2.1
    have hl1 := h01.2.2.2.2.2.2.2
    refine ⟨_, _, _, rfl, rfl, by decide, fun _ => ?_, fun c => absurd c (by decide)⟩
    refine S_sop h01.1 ⟨_, _, _, rfl, rfl, ?_⟩
    refine S_isTest (opT_R T n c.2) (fun v hv => ⟨_, _, _, rfl, rfl, ?_⟩)
    by_cases ht : tOp T n c.2
    · rw [if_pos (show 10107 ≤ opT T n c.2 ∧ opT T n c.2 ≤ 10109 from ht)] at hv
      subst hv
      refine ⟨by decide, fun _ => ?_, fun c => absurd c (by decide)⟩
      have hk3 := opT_3 (T := T) (n := n) (p := c.2) (by unfold tOp at ht; omega)
      have hg1 := tE_gt (T := T) hp1 (by rw [hk3]; decide)
      refine S_step (by omega) hX hp1 h01.1 (by rw [hk3]; decide) (bd_3 (Or.inl hk3)) (fun I2 hC2 hF2 => ⟨_, _, rfl, rfl, ?_⟩)
      have h12 : Cok I1 I2 T n o (q + c.1.length) (c.2 + 1) [] (tE T n c.2) := Cok.st hC2 (by rw [hF2.gv 3 4 (by decide) (by decide)]; exact h01.2.1) h01.2.2.1 hF2.x1 hg1.2.1 (by omega)
      refine h2 c rfl ht (k - 1) I2 J _ (q + c.1.length) (by unfold KD; omega) hC2 h12.2.1 h12.2.2.1 (by omega) ?_
      cases r2 with
      | inl e =>
        rw [cmpR_e ht] at hQ
        intro I3 hE3
        have hE := h01.er (h12.er hE3)
        exact ⟨_, _, _, rfl, rfl, S_emitF hE.2.2.1 (fun I4 a b => ⟨_, _, rfl, rfl, Or.inl rfl, hQ I4 (hE.em a b)⟩)⟩
      | inr d =>
        rw [cmpR_y ht] at hQ
        intro I3 h3
        have h13 : Cok I1 I3 T n o (q + c.1.length) (c.2 + 1) d.1 d.2 := h12.tr h3
        refine ⟨_, _, _, rfl, rfl, S_emK hX (opT_R T n c.2) h13 (by omega) (fun I4 h14 => ⟨_, _, rfl, rfl, Or.inr rfl, hQ I4 ?_⟩)⟩
        have := h01.tr h14
        rwa [← List.append_assoc] at this
    · rw [if_neg (show ¬ (10107 ≤ opT T n c.2 ∧ opT T n c.2 ≤ 10109) from ht)] at hv
      subst hv
      rw [cmpR_n ht] at hQ
      exact ⟨by decide, fun c => absurd rfl c, fun _ => hQ _ (Cer.want h01)⟩
end CNON
