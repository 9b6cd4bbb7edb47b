section RNON
/-! ===== the reference reads a rule: nonterminals by continuation ===== -/
def fcn (I : Nat → Nat → Int32) (T : Nat → Int) (n p f : Nat) : Bool → Prop
  | false => gi I 102 f < 2 ∧ fst I T n p f
  | true => (gi I 101 f = 1 ∨ gi I 101 f = 5) ∧ gi I 102 f = 0 ∧ gi I 103 f ≠ 0
def pcn (I I' : Nat → Nat → Int32) (T : Nat → Int) (n p' f : Nat) : Bool → Prop
  | false => gi I' 102 f = gi I 102 f
  | true => (gi I' 102 f = 1 ∧ ¬ pOp T n p' ∧ ¬ sOp T n p') ∨ gi I' 102 f = 2
def lfn (I : Nat → Nat → Int32) (T : Nat → Int) (n p f : Nat) : Bool → Prop
  | false => gi I 102 f < 2
  | true => (gi I 101 f = 1 ∨ gi I 101 f = 5) ∧ ((gi I 102 f = 1 ∧ ¬ pOp T n p ∧ ¬ sOp T n p) ∨ gi I 102 f = 2)
def RG (I : Nat → Nat → Int32) (J : Nat → Nat → Int64) (T : Nat → Int) (n p b f o m cd bud : Nat) (cx : Int) : Prop := RS I J T n p b f o m cd ∧ gi I 74 50 = 0 ∧ b < 2 ∧ f ≤ o ∧ o ≤ 7 ∧ m ≤ 5 * f + o + bud ∧ cd + m ≤ p ∧ p ≤ n ∧ ctx I f m cx
def RO (tst : Bool) (k : Nat) (P : Option Nat) (I : Nat → Nat → Int32) (J : Nat → Nat → Int64) (Q : Option AV → Mem → Prop) (T : Nat → Int) (n b f o m cd : Nat) (lo : Int) : Res → Prop
  | .inl e => ∀ I' J', RE I I' J J' (1600 * b + cd) (1600 * b + 1600) e → Q none (mem (P, some 5, some 22) I' J')
  | .inr c => ∀ I' J', RA I' J' T n c.2 b f o m cd lo c.1 → RK I I' f m (1600 * b + cd) (1600 * b + 1600) → pcn I I' T n c.2 f tst → Fr [] [(74, 7)] J J' → WP k LAY m_X12_reads 43 [(0, vR (some 74)), (2, vI 1)] [] (mem (P, some 5, some 22) I' J') Q
def RN (tst : Bool) (bud : Nat) (cx lo : Int) (T : Nat → Int) (n o p : Nat) (r : Res) : Prop := ∀ (k : Nat) (P : Option Nat) (I : Nat → Nat → Int32) (J : Nat → Nat → Int64) (Q : Option AV → Mem → Prop) (b f m cd : Nat), 12 ≤ k → RG I J T n p b f o m cd bud cx → fcn I T n p f tst → RO tst k P I J Q T n b f o m cd lo r → WP k LAY m_X12_reads 43 [(0, vR (some 74)), (2, vI 1)] [] (mem (P, some 5, some 22) I J) Q
def RLp (tst : Bool) (bud : Nat) (cx lo : Int) (T : Nat → Int) (n o p : Nat) (r : Res) : Prop := ∀ (k : Nat) (P : Option Nat) (I : Nat → Nat → Int32) (J : Nat → Nat → Int64) (Q : Option AV → Mem → Prop) (b f m cd : Nat) (c : List Int), 12 ≤ k → RA I J T n p b f o m cd lo c → b < 2 → f ≤ o → o ≤ 7 → m ≤ 5 * f + o + bud → ctx I f m cx → lfn I T n p f tst → RO tst k P I J Q T n b f o m cd lo (pre c r) → WP k LAY m_X12_reads 43 [(0, vR (some 74)), (2, vI 1)] [] (mem (P, some 5, some 22) I J) Q
theorem ctx.up {I : Nat → Nat → Int32} {f m : Nat} {c c' : Int} (h : ctx I f m c) (hc : c ≤ c') : ctx I f m c' := ⟨h.1, h.2.1, h.2.2.elim Or.inl (fun q => Or.inr (by omega))⟩
/-- the outcome, told from a later memory -/
theorem RO.mv {tst : Bool} {k : Nat} {P : Option Nat} {I I1 : Nat → Nat → Int32} {J J1 : Nat → Nat → Int64} {Q : Option AV → Mem → Prop} {T : Nat → Int} {n b f o m cd : Nat} {lo : Int} {r : Res} (h : RO tst k P I J Q T n b f o m cd lo r) (hK : RK I I1 f m (1600 * b + cd) (1600 * b + 1600)) (hJ : Fr [] [(74, 7)] J J1) (hph : tst = false → gi I1 102 f = gi I 102 f) : RO tst k P I1 J1 Q T n b f o m cd lo r := by
  cases r with
  | inl e => exact fun I' J' hE => h I' J' (RE.tr hK.1 hJ hE (Nat.le_refl _))
  | inr c =>
    refine fun I' J' hA hK' hp hJ' => h I' J' hA (hK.tr hK' (Nat.le_refl _) (Nat.le_refl _) (Nat.le_refl _)) ?_ (hJ.tr hJ')
    cases tst with
    | false => exact Eq.trans hp (hph rfl)
    | true => exact hp
theorem RO.er {tst : Bool} {k : Nat} {P : Option Nat} {I I1 I' : Nat → Nat → Int32} {J J1 J' : Nat → Nat → Int64} {Q : Option AV → Mem → Prop} {T : Nat → Int} {n b f o m cd w : Nat} {lo : Int} {e : Int × Int} (h : RO tst k P I J Q T n b f o m cd lo (.inl e)) (hK : RKe I I1 (1600 * b + cd) (1600 * b + 1600)) (hJ : Fr [] [(74, 7)] J J1) (hE : RE I1 I' J1 J' w (1600 * b + 1600) e) (hw : 1600 * b + cd ≤ w) : Q none (mem (P, some 5, some 22) I' J') := h I' J' (RE.tr hK hJ hE hw)
theorem RE.s50 {I I' : Nat → Nat → Int32} {J J' : Nat → Nat → Int64} {w hi : Nat} {e : Int × Int} {v : Int} (h : RE I I' J J' w hi e) : RE I (si I' 74 50 v) J J' w hi e := by
  have hF : Fr [] FLq I' (si I' 74 50 v) := (Fr.rf _ _ _).up 74 50 _ (Or.inr (by decide))
  exact ⟨h.1.tr (RK.fl 0 0 w hi hF).1.x (Nat.le_refl _), by rw [gi_idx _ _ _ (by decide)]; exact h.2.1, by rw [gi_idx _ _ _ (by decide)]; exact h.2.2.1, h.2.2.2⟩
/-- a value behind an operator that is held back -/
theorem RA.push {I2 : Nat → Nat → Int32} {J2 : Nat → Nat → Int64} {T : Nat → Int} {n p2 b f o o' m cd : Nat} {lo lo' x : Int} {c c2 : List Int} (h2 : RA I2 J2 T n p2 b f o' (m + 1) (cd + c.length) lo' c2) (g : gi I2 106 m = x) (hc : cds (encR I2) (1600 * b + cd) c) (hx : 10 ≤ x ∧ x ≤ 22) (hlo : lo ≤ rk x) (hl : (lo + 1 ≤ lo' ∧ x ≠ 22 ∧ o' = o) ∨ (x = 22 ∧ lo ≤ lo' ∧ o' = o + 1)) : RA I2 J2 T n p2 b f o m cd lo (c ++ c2 ++ [10090 + x]) := by
  obtain ⟨c1, ps, e, ok, hS, hP, hcd, h50, h103, hpn, hle, hlen, ho⟩ := h2
  have hno : nots (ps ++ [x]) = nots ps + (if x = 22 then 1 else 0) := by
    rw [nots_app]
    show nots ps + (0 + _) = _
    rw [Nat.zero_add]
  have hoe : o' + nots ps = o + nots (ps ++ [x]) := by
    rw [hno]
    rcases hl with ⟨-, q1, q2⟩ | ⟨q1, -, q2⟩
    · rw [if_neg q1]; omega
    · rw [if_pos q1]; omega
  have hlo' : lo ≤ lo' := by omega
  subst e
  refine ⟨c ++ c1, ps ++ [x], by simp [cdo, List.append_assoc], fun y hy => ?_, ?_, Pd.app g hP, cds_app.mpr ⟨hc, by rw [Nat.add_assoc]; exact hcd⟩, h50, h103, hpn, ?_, ?_, by rw [← hoe]; exact ho⟩
  · rcases List.mem_append.mp hy with q | q
    · exact ⟨Int.le_trans hlo' (ok y q).1, (ok y q).2⟩
    · rw [List.mem_singleton] at q
      subst q
      exact ⟨hlo, hx⟩
  · rw [← hoe, List.length_append, List.length_append, List.length_cons, List.length_nil, show m + (ps.length + (0 + 1)) = m + 1 + ps.length by omega, ← Nat.add_assoc]
    exact hS
  · rw [List.length_append, List.length_append, List.length_append, List.length_cons, List.length_nil]
    rw [List.length_append] at hle
    omega
  · rw [hno, List.length_append, List.length_cons, List.length_nil]
    rcases hl with ⟨q0, q1, q2⟩ | ⟨q1, q0, q2⟩
    · rw [if_neg q1]; omega
    · rw [if_pos q1]; omega
theorem R_head {tst : Bool} {bud bud' : Nat} {cx cx' lo lo' : Int} {T : Nat → Int} {n o p : Nat} {r1 r2 : Res} (hb : bud' ≤ bud) (hc : cx' ≤ cx) (hl : lo' ≤ lo) (h1 : RN tst bud cx lo T n o p r1) (h2 : ∀ c, r1 = .inr c → RLp tst bud' cx' lo' T n o c.2 r2) : RN tst bud' cx' lo' T n o p (seqR [] r1 r2) := by
  intro k P I J Q b f m cd hk hG hfc hO
  obtain ⟨hS, h50, hb2, hfo, ho, hm, hcm, hp, hcx⟩ := hG
  refine h1 k P I J Q b f m cd hk ⟨hS, h50, hb2, hfo, ho, by omega, hcm, hp, hcx.up hc⟩ hfc ?_
  cases r1 with
  | inl e => exact fun I' J' hE => hO I' J' hE
  | inr c =>
    intro I' J' hA hK hpc hJ
    rw [seqR_0] at hO
    refine h2 c rfl k P I' J' Q b f m cd c.1 hk (hA.lo hl) hb2 hfo ho hm (hcx.rk hK hcx.pos) ?_ (hO.mv hK hJ ?_)
    · cases tst with
      | false => exact (Int.lt_of_le_of_lt (Int.le_of_eq hpc) hfc.1)
      | true =>
        refine ⟨?_, hpc⟩
        rw [hK.ph]
        exact hfc.1
    · intro e
      subst e
      exact hpc
theorem R_exit {tst : Bool} {bud : Nat} {cx lo : Int} {T : Nat → Int} {n o p : Nat} : RLp tst bud cx lo T n o p (.inr ([], p)) := by
  intro k P I J Q b f m cd c hk hA hb2 hfo ho hm hcx hlf hO
  refine hO I J (by show RA I J T n p b f o m cd lo (c ++ []); rw [List.append_nil]; exact hA) (RK.rf _ _ _ _ _) ?_ (Fr.rf _ _ _)
  cases tst with
  | false => rfl
  | true => exact hlf.2
set_option maxHeartbeats 1000000 in
theorem R_bin {bud : Nat} {least : Int} {T : Nat → Int} {n o p : Nat} {r1 r2 : Res} (hX : TX T n) (hbud : bud ≤ 4) (hop : (least = 6 ∧ pOp T n p) ∨ (least = 5 ∧ sOp T n p)) (h1 : RN false (bud + 1) (least + 1) (least + 1) T n o (tE T n p) r1) (h2 : ∀ c, r1 = .inr c → RLp false bud least least T n o c.2 r2) : RLp false bud least least T n o p (seqR [opT T n p] r1 r2) := by
  intro k P I J Q b f m cd c hk hA hb2 hfo ho hm hcx hlf hO
  obtain ⟨hT, h8, h46, h50, h103, hp, hl, h40⟩ := hA.cz
  have hlf' : gi I 102 f < 2 := hlf
  have hk3 : kR T n p = 3 := opT_3 (by unfold pOp sOp at hop; omega)
  have hg := tE_gt (T := T) hp (by rw [hk3]; decide)
  have hrx : rk (opT T n p - 10090) = least ∧ 10 ≤ opT T n p - 10090 ∧ opT T n p - 10090 ≤ 22 ∧ opT T n p - 10090 ≠ 22 := by
    unfold pOp sOp at hop
    refine ⟨?_, by omega, by omega, by omega⟩
    unfold rk
    rcases hop with ⟨e, q⟩ | ⟨e, q⟩
    · rw [if_neg (by omega), if_neg (by omega), if_neg (by omega), if_neg (by omega), if_neg (by omega), e]
    · rw [if_neg (by omega), if_neg (by omega), if_neg (by omega), if_neg (by omega), if_pos (by omega), e]
  refine L_bin hk hX hb2 hfo ho (by omega) hA hcx hlf' hop (fun I1 J1 hN => ?_)
  obtain ⟨a1, a2, a3, a4, a5, a6, a7, a8⟩ := hN
  refine h1 k P I1 J1 Q b f (m + 1) (cd + c.length) hk ⟨a1, a3, hb2, hfo, ho, by omega, by omega, hg.2.1, ?_⟩ ⟨by rw [a4]; exact hlf', Or.inr (Or.inl a5)⟩ ?_
  · have c1 := hcx.1
    have c2 := hcx.2.1
    unfold ctx
    rw [(a6.2.1 f (Nat.le_refl f)).2.2]
    refine ⟨c1, by omega, Or.inr ?_⟩
    rw [Nat.add_sub_cancel, a2, hrx.1]
    omega
  · have hw : 1600 * b + cd ≤ 1600 * b + (cd + c.length) := by omega
    cases r1 with
    | inl e => exact fun I2 J2 hE => RO.er (I1 := I1) (J1 := J1) hO a6.1 a8 hE hw
    | inr c1 =>
      intro I2 J2 hA2 hK2 hpc2 hJ2
      have hK02 := a6.tr hK2 (Nat.le_refl _) (Nat.le_succ m) hw
      have hcd2 : cds (encR I2) (1600 * b + cd) c := cds_congr (fun i x y => by
        unfold encR
        have := hK2.1.2 i (Or.inl (by omega))
        rw [this.1, this.2]) a7
      have hpu := hA2.push (lo := least) (by rw [hK2.2.2.2 m (Nat.lt_succ_self m)]; exact a2) hcd2 ⟨hrx.2.1, hrx.2.2.1⟩ (by omega) (Or.inl ⟨Int.le_refl _, hrx.2.2.2, rfl⟩)
      have hph2 : gi I2 102 f = gi I 102 f := Eq.trans hpc2 a4
      have ez : (10090 : Int) + (opT T n p - 10090) = opT T n p := by omega
      rw [ez] at hpu
      refine h2 c1 rfl k P I2 J2 Q b f m cd (c ++ c1.1 ++ [opT T n p]) hk hpu hb2 hfo ho hm (hcx.rk hK02 hcx.pos) (by show gi I2 102 f < 2; rw [hph2]; exact hlf') ?_
      have hO' : RO false k P I J Q T n b f o m cd least (pre (c ++ c1.1 ++ [opT T n p]) r2) := by
        have e : pre c (seqR [opT T n p] (.inr c1) r2) = pre (c ++ c1.1 ++ [opT T n p]) r2 := by
          cases r2 with
          | inl e => rfl
          | inr d =>
            show Sum.inr (c ++ ((c1.1 ++ [opT T n p]) ++ d.1), d.2) = Sum.inr ((c ++ c1.1 ++ [opT T n p]) ++ d.1, d.2)
            rw [List.append_assoc, List.append_assoc, List.append_assoc]
        rw [e] at hO
        exact hO
      exact hO'.mv hK02 (a8.tr hJ2) (fun _ => hph2)
set_option maxHeartbeats 1000000 in
theorem R_ao {bud : Nat} {least x cxs los : Int} {T : Nat → Int} {n o p : Nat} {r1 r2 : Res} (hX : TX T n) (hbud : bud ≤ 4) (hbd : bd T n p = -1) (hop : (least = 2 ∧ x = 20 ∧ wd T n p 20) ∨ (least = 1 ∧ x = 21 ∧ wd T n p 19)) (hcs : least < cxs) (hls : least + 1 ≤ los) (h1 : RN true (bud + 1) cxs los T n o (tE T n p) r1) (h2 : ∀ c, r1 = .inr c → RLp true bud least least T n o c.2 r2) : RLp true bud least least T n o p (seqR [10090 + x] r1 r2) := by
  intro k P I J Q b f m cd c hk hA hb2 hfo ho hm hcx hlf hO
  obtain ⟨hT, h8, h46, h50, h103, hp, hl, h40⟩ := hA.cz
  have hlf1 : (gi I 101 f = 1 ∨ gi I 101 f = 5) := hlf.1
  have hlf2 : gi I 102 f ≠ 0 := by
    rcases hlf.2 with q | q
    · rw [q.1]; decide
    · rw [q]; decide
  have hk1 : kR T n p = 1 := by unfold wd at hop; omega
  have hg := tE_gt (T := T) hp (by rw [hk1]; decide)
  have hrx : rk x = least ∧ 10 ≤ x ∧ x ≤ 22 ∧ x ≠ 22 := by
    refine ⟨?_, by omega, by omega, by omega⟩
    rcases hop with ⟨e, q, -⟩ | ⟨e, q, -⟩ <;> rw [e, q] <;> rfl
  refine L_ao hk hX hb2 hfo ho (by omega) hA hcx hlf1 hlf2 hbd hop (fun I1 J1 hN => ?_)
  obtain ⟨a1, a2, a3, a4, a5, a6, a7, a8⟩ := hN
  refine h1 k P I1 J1 Q b f (m + 1) (cd + c.length) hk ⟨a1, a3, hb2, hfo, ho, by omega, by omega, hg.2.1, ?_⟩ ⟨by rw [a6.ph]; exact hlf1, a4, by rw [a5]; decide⟩ ?_
  · have c1 := hcx.1
    have c2 := hcx.2.1
    unfold ctx
    rw [(a6.2.1 f (Nat.le_refl f)).2.2]
    refine ⟨c1, by omega, Or.inr ?_⟩
    rw [Nat.add_sub_cancel, a2, hrx.1]
    exact hcs
  · have hw : 1600 * b + cd ≤ 1600 * b + (cd + c.length) := by omega
    cases r1 with
    | inl e => exact fun I2 J2 hE => RO.er (I1 := I1) (J1 := J1) hO a6.1 a8 hE hw
    | inr c1 =>
      intro I2 J2 hA2 hK2 hpc2 hJ2
      have hK02 := a6.tr hK2 (Nat.le_refl _) (Nat.le_succ m) hw
      have hcd2 : cds (encR I2) (1600 * b + cd) c := cds_congr (fun i x y => by
        unfold encR
        have := hK2.1.2 i (Or.inl (by omega))
        rw [this.1, this.2]) a7
      have hpu := hA2.push (lo := least) (by rw [hK2.2.2.2 m (Nat.lt_succ_self m)]; exact a2) hcd2 ⟨hrx.2.1, hrx.2.2.1⟩ (by omega) (Or.inl ⟨hls, hrx.2.2.2, rfl⟩)
      refine h2 c1 rfl k P I2 J2 Q b f m cd (c ++ c1.1 ++ [10090 + x]) hk hpu hb2 hfo ho hm (hcx.rk hK02 hcx.pos) ⟨by rw [hK02.ph]; exact hlf1, hpc2⟩ ?_
      have hO' : RO true k P I J Q T n b f o m cd least (pre (c ++ c1.1 ++ [10090 + x]) r2) := by
        have e : pre c (seqR [10090 + x] (.inr c1) r2) = pre (c ++ c1.1 ++ [10090 + x]) r2 := by
          cases r2 with
          | inl e => rfl
          | inr d =>
            show Sum.inr (c ++ ((c1.1 ++ [10090 + x]) ++ d.1), d.2) = Sum.inr ((c ++ c1.1 ++ [10090 + x]) ++ d.1, d.2)
            rw [List.append_assoc, List.append_assoc, List.append_assoc]
        rw [e] at hO
        exact hO
      exact hO'.mv hK02 (a8.tr hJ2) (fun q => absurd q (by decide))
end RNON
