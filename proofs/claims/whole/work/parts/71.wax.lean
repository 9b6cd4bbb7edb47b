section WAXS
/-! ===== by wax: how many sets, what all have, what some have ===== -/
noncomputable def cX (N : Nat) (p : Nat → Prop) : Int := smi N (fun S => @ite Int (p S) (Classical.propDecidable _) 1 0)
theorem cX_split {N : Nat} {p a b : Nat → Prop} (h : ∀ S, S < N → (p S ↔ a S ∨ b S)) (hd : ∀ S, S < N → ¬ (a S ∧ b S)) : cX N p = cX N a + cX N b := by
  induction N with
  | zero => rfl
  | succ N ih =>
    have h1 := ih (fun S hS => h S (by omega)) (fun S hS => hd S (by omega))
    have e : ∀ q : Nat → Prop, cX (N + 1) q = cX N q + @ite Int (q N) (Classical.propDecidable _) 1 0 := fun q => rfl
    have hN := h N (by omega)
    have hdN := hd N (by omega)
    rw [e, e, e, h1]
    by_cases qa : a N
    · have qb : ¬ b N := fun t => hdN ⟨qa, t⟩
      rw [if_pos (hN.mpr (Or.inl qa)), if_pos qa, if_neg qb]
      omega
    · by_cases qb : b N
      · rw [if_pos (hN.mpr (Or.inr qb)), if_neg qa, if_pos qb]
        omega
      · rw [if_neg (fun t => (hN.mp t).elim qa qb), if_neg qa, if_neg qb]
        omega
theorem cX_zero {N : Nat} {p : Nat → Prop} (h : ∀ S, S < N → ¬ p S) : cX N p = 0 := by
  induction N with
  | zero => rfl
  | succ N ih =>
    have e : cX (N + 1) p = cX N p + @ite Int (p N) (Classical.propDecidable _) 1 0 := rfl
    rw [e, ih (fun S hS => h S (by omega)), if_neg (h N (by omega))]
    rfl
theorem cX_congr {N : Nat} {p q : Nat → Prop} (h : ∀ S, S < N → (p S ↔ q S)) : cX N p = cX N q := by
  have := cX_split (N := N) (p := p) (a := q) (b := fun _ => False) (fun S hS => by rw [h S hS]; simp) (fun S _ t => t.2)
  rw [this, cX_zero (fun _ _ t => t)]
  omega
theorem cX_one {N s : Nat} {p : Nat → Prop} (hs : s < N) (h : ∀ S, S < N → (p S ↔ S = s)) : cX N p = 1 := by
  induction N with
  | zero => omega
  | succ N ih =>
    have e : cX (N + 1) p = cX N p + @ite Int (p N) (Classical.propDecidable _) 1 0 := rfl
    rw [e]
    by_cases q : N = s
    · rw [cX_zero (fun S hS t => by have := (h S (by omega)).mp t; omega), if_pos ((h N (by omega)).mpr q)]
      rfl
    · rw [ih (by omega) (fun S hS => h S (by omega)), if_neg (fun t => q ((h N (by omega)).mp t))]
      rfl
theorem cX_bd (N : Nat) (p : Nat → Prop) : 0 ≤ cX N p ∧ cX N p ≤ N := by
  induction N with
  | zero => exact ⟨Int.le_refl _, Int.le_refl _⟩
  | succ N ih =>
    have e : cX (N + 1) p = cX N p + @ite Int (p N) (Classical.propDecidable _) 1 0 := rfl
    rw [e]
    by_cases q : p N
    · rw [if_pos q]; omega
    · rw [if_neg q]; omega
theorem cX_pos {N s : Nat} {p : Nat → Prop} (hs : s < N) (h : p s) : 1 ≤ cX N p := by
  have := cX_split (N := N) (p := p) (a := fun S => S = s) (b := fun S => p S ∧ ¬ S = s) (fun S _ => ⟨fun t => by
    by_cases q : S = s
    · exact Or.inl q
    · exact Or.inr ⟨t, q⟩, fun t => t.elim (fun u => by rw [u]; exact h) (fun u => u.1)⟩) (fun S _ t => t.2.2 t.1)
  rw [this, cX_one hs (fun S _ => Iff.rfl)]
  have := (cX_bd N (fun S => p S ∧ ¬ S = s)).1
  omega
def allOk (A : Int) (p : Nat → Prop) : Prop := (∀ S, ¬ p S) ∧ A = -1 ∨ (∃ S, p S) ∧ ∃ a : Nat, A = (a : Int) ∧ a < 16384 ∧ ∀ i, a.testBit i = true ↔ ∀ S, p S → S.testBit i = true
def somOk (B : Int) (p : Nat → Prop) : Prop := ∃ b : Nat, B = (b : Int) ∧ b < 16384 ∧ ∀ i, b.testBit i = true ↔ ∃ S, p S ∧ S.testBit i = true
def wSt (N : Nat) (I : Nat → Nat → Int32) (p : Nat → Prop) : Prop := gi I 51 7 = cX N p ∧ allOk (gi I 51 8) p ∧ somOk (gi I 51 9) p
theorem allOk.congr {A : Int} {p q : Nat → Prop} (h : ∀ S, p S ↔ q S) (hA : allOk A p) : allOk A q := by
  rw [show q = p from funext fun S => propext (h S).symm]
  exact hA
theorem somOk.congr {B : Int} {p q : Nat → Prop} (h : ∀ S, p S ↔ q S) (hB : somOk B p) : somOk B q := by
  rw [show q = p from funext fun S => propext (h S).symm]
  exact hB
theorem and32_m1 {s : Nat} (hs : s < 16384) : and32 (-1) (s : Int) = (s : Int) := by
  show (iI (-1) &&& iI (s : Int)).toBitVec.toInt = _
  rw [Int32.toBitVec_and, iI_bv, show (iI (-1)).toBitVec = BitVec.allOnes 32 by decide, BitVec.allOnes_and]
  exact bv_int (bv_nat (by omega)) (by omega)
theorem allOk.add {A : Int} {p : Nat → Prop} {s : Nat} (hs : s < 16384) (h : allOk A p) : allOk (and32 A (s : Int)) (fun S => p S ∨ S = s) := by
  rcases h with ⟨h1, h2⟩ | ⟨⟨T, hT⟩, a, h2, h3, h4⟩
  · rw [h2, and32_m1 hs]
    refine Or.inr ⟨⟨s, Or.inr rfl⟩, s, rfl, hs, fun i => ⟨fun t S u => u.elim (fun v => absurd v (h1 S)) (fun v => by rw [v]; exact t), fun t => t s (Or.inr rfl)⟩⟩
  · rw [h2, and32_nat (by omega) (by omega)]
    refine Or.inr ⟨⟨T, Or.inl hT⟩, _, rfl, Nat.lt_of_le_of_lt Nat.and_le_left h3, fun i => ?_⟩
    rw [Nat.testBit_and, Bool.and_eq_true, h4]
    exact ⟨fun t S u => u.elim (t.1 S) (fun v => by rw [v]; exact t.2), fun t => ⟨fun S u => t S (Or.inl u), t s (Or.inr rfl)⟩⟩
theorem somOk.add {B : Int} {p : Nat → Prop} {s : Nat} (hs : s < 16384) (h : somOk B p) : somOk (or32 B (s : Int)) (fun S => p S ∨ S = s) := by
  obtain ⟨b, h2, h3, h4⟩ := h
  refine ⟨b ||| s, ?_, or_lt14 (n := 14) h3 hs, fun i => ?_⟩
  · rw [h2, or32_nat (by omega) (by omega)]
  · rw [Nat.testBit_or, Bool.or_eq_true, h4]
    constructor
    · rintro (⟨S, u, v⟩ | v)
      · exact ⟨S, Or.inl u, v⟩
      · exact ⟨s, Or.inr rfl, v⟩
    · rintro ⟨S, u | u, v⟩
      · exact Or.inl ⟨S, u, v⟩
      · exact Or.inr (by rw [← u]; exact v)
/-- sets that fit -/
def solW (nd : Nat → Nat) (n : Nat) (t : Nat → Int) (mins : Int) (S : Nat) : Prop := S < 2 ^ n ∧ shut nd 0 n S ∧ mS n t S = mins
theorem mS_up {m n : Nat} {t : Nat → Int} {S : Nat} (ht : ∀ p, p < n → 0 ≤ t p) (h : m ≤ n) : mS n t S - mS m t S ≤ smi n t - smi m t := by
  induction n with
  | zero => rw [show m = 0 by omega]; exact Int.le_refl _
  | succ n ih =>
    by_cases q : m = n + 1
    · rw [q]; omega
    · have h1 := ih (fun p hp => ht p (by omega)) (by omega)
      have e : mS (n + 1) t S = mS n t S + (if S.testBit n = true then t n else 0) := rfl
      have e2 : smi (n + 1) t = smi n t + t n := rfl
      have h2 := ht n (by omega)
      rw [e, e2]
      split <;> omega
abbrev FW : List (Nat × Nat) := [(51, 7), (51, 8), (51, 9)]
theorem S_X8_csets {P : Option Nat} {J : Nat → Nat → Int64} {L : Lb} {R : Rl} {H : Hl} {mins : Int} {t : Nat → Int} (hm31 : mins < 2147483648) (ht : ∀ p, p < (nP L).toNat → 0 ≤ t p ∧ t p ≤ 500) : ∀ (d m s k : Nat) (rest : Int) (I : Nat → Nat → Int32) (Q : Option AV → Mem → Prop) (p : Nat → Prop), m + d = (nP L).toNat → d + 2 ≤ k → CX I L R H → (∀ p : Nat, p < (nP L).toNat → gi I 52 p = t p) → (∀ p : Nat, p ≤ (nP L).toNat → gi I 53 p = smi (nP L).toNat t - smi p t) → wSt (2 ^ (nP L).toNat) I p → (∀ S, p S → ¬ ext m s S) → s < 2 ^ m → shut (ndN L) 0 m s → rest = mins - mS m t s → 0 ≤ rest →
    (∀ I', Fr [] FW I I' → wSt (2 ^ (nP L).toNat) I' (fun S => p S ∨ solW (ndN L) (nP L).toNat t mins S ∧ ext m s S) → Q none (mem (rv0 P) I' J)) → WPm k LAY m_X8_chooseSets [vR (some 51), vI (m : Int), vI (s : Int), vI rest] (mem (rv0 P) I J) Q := by
  intro d
  induction d with
  | zero =>
    intro m s k rest I Q p hmd hk hX h52 h53 hw hdis hs hsh hre hr0 hQ
    have hL := hX.1.2.2.2.1
    have hP := hL.2.1
    have em : m = (nP L).toNat := by omega
    subst em
    have s14 : s < 16384 := Nat.lt_of_lt_of_le hs (pow_le14 (by omega))
    have mb := mS_bd (n := (nP L).toNat) (by omega) ht s
    obtain ⟨w1, w2, w3⟩ := hw
    have cb := cX_bd (2 ^ (nP L).toNat) p
    have hp14 := pow_le14 (p := (nP L).toNat) (by omega)
    refine WPm.of k_X8_chooseSets.1 (Nat.le_of_ble_eq_true rfl) (B_X8_chooseSets_0 (by omega) ?_)
    rw [cx_p hX]
    refine ⟨⟨by omega, by omega⟩, fun q => absurd q (by omega), fun _ => ⟨⟨by omega, by omega⟩, fun q => hQ I (Fr.rf _ _ _) ?_, fun q => hQ _ ((((Fr.rf _ _ I).up 51 7 _ (Or.inr (by decide))).up 51 8 _ (Or.inr (by decide))).up 51 9 _ (Or.inr (by decide))) ?_⟩⟩
    · have e : ∀ S, p S ↔ p S ∨ solW (ndN L) (nP L).toNat t mins S ∧ ext (nP L).toNat s S := fun S => ⟨Or.inl, fun u => u.elim id (fun v => by
        have := ext_eq hs v.1.1 v.2
        have h2 := v.1.2.2
        rw [this] at h2
        omega)⟩
      exact ⟨w1.trans (cX_congr (fun S _ => e S)), w2.congr e, w3.congr e⟩
    · have hsol : solW (ndN L) (nP L).toNat t mins s := ⟨hs, hsh, by omega⟩
      have e : ∀ S, (p S ∨ S = s) ↔ p S ∨ solW (ndN L) (nP L).toNat t mins S ∧ ext (nP L).toNat s S := fun S => ⟨fun u => u.imp id (fun v => by rw [v]; exact ⟨hsol, fun _ _ => rfl⟩), fun u => u.imp id (fun v => ext_eq hs v.1.1 v.2)⟩
      refine ⟨?_, ?_, ?_⟩
      · rw [gi_idx _ _ _ (by decide), gi_idx _ _ _ (by decide), gi_same _ _ _ ⟨by omega, by omega⟩, w1]
        have := cX_split (N := 2 ^ (nP L).toNat) (p := fun S => p S ∨ solW (ndN L) (nP L).toNat t mins S ∧ ext (nP L).toNat s S) (a := p) (b := fun S => S = s) (fun S _ => (e S).symm) (fun S _ u => hdis S u.1 (by rw [u.2]; exact fun _ _ => rfl))
        rw [this, cX_one hs (fun S _ => Iff.rfl)]
      · rw [gi_idx _ _ _ (by decide), gi_same _ _ _ (and32_in _ _)]
        exact (w2.add s14).congr e
      · rw [gi_same _ _ _ (or32_in _ _)]
        exact (w3.add s14).congr e
  | succ d ih =>
    intro m s k rest I Q p hmd hk hX h52 h53 hw hdis hs hsh hre hr0 hQ
    have hL := hX.1.2.2.2.1
    have hP := hL.2.1
    have s14 : s < 16384 := Nat.lt_of_lt_of_le hs (pow_le14 (by omega))
    have mb := mS_bd (n := m) (t := t) (by omega) (fun p hp => ht p (by omega)) s
    have tm := ht m (by omega)
    have hnd : ∀ p, p ≤ m → ndN L p < 2 ^ p := fun p hp => (nd_lt hL (by omega)).2
    have t0 : ∀ p, p < (nP L).toNat → 0 ≤ t p := fun p hp => (ht p hp).1
    have e1 : ((m : Int) + 1) = ((m + 1 : Nat) : Int) := rfl
    -- nothing more below
    have none' : (∀ S, solW (ndN L) (nP L).toNat t mins S → ¬ ext m s S) → Q none (mem (P, some 5, some 22) I J) := by
      intro hno
      have e : ∀ S, p S ↔ p S ∨ solW (ndN L) (nP L).toNat t mins S ∧ ext m s S := fun S => ⟨Or.inl, fun u => u.elim id (fun v => absurd v.2 (hno S v.1))⟩
      exact hQ I (Fr.rf _ _ _) ⟨hw.1.trans (cX_congr (fun S _ => e S)), hw.2.1.congr e, hw.2.2.congr e⟩
    have skip : ∀ (I2 : Nat → Nat → Int32) (p2 : Nat → Prop) (Q2 : Option AV → Mem → Prop), Fr [] FW I I2 → wSt (2 ^ (nP L).toNat) I2 p2 → (∀ S, p2 S → ¬ ext (m + 1) s S) → (∀ I', Fr [] FW I2 I' → wSt (2 ^ (nP L).toNat) I' (fun S => p2 S ∨ solW (ndN L) (nP L).toNat t mins S ∧ ext (m + 1) s S) → Q2 none (mem (rv0 P) I' J)) → WPm (k - 1) LAY m_X8_chooseSets [vR (some 51), vI ((m : Int) + 1), vI (s : Int), vI rest] (mem (P, some 5, some 22) I2 J) Q2 := fun I2 p2 Q2 hF hw2 hd2 h2 => ih (m + 1) s (k - 1) rest I2 Q2 p2 (by omega) (by omega) (hX.fr (hF.cx (by decide) (by decide))) (fun p hp => (hF.gv 52 p (by decide) (by simp)).trans (h52 p hp)) (fun p hp => (hF.gv 53 p (by decide) (by simp)).trans (h53 p hp)) hw2 hd2 (lt_succ_s hs) (shut_out hs hsh) (by rw [mS_out hs]; exact hre) hr0 h2
    have skp : (∀ S, solW (ndN L) (nP L).toNat t mins S → ext m s S → S.testBit m = false) → WPm (k - 1) LAY m_X8_chooseSets [vR (some 51), vI ((m : Int) + 1), vI (s : Int), vI rest] (mem (P, some 5, some 22) I J) (retV (fun I8 J9 => Q none (mem (P, some 5, some 22) I8 J9)) (P, some 5, some 22)) := by
      intro hno
      refine skip I p _ (Fr.rf _ _ _) hw (fun S u v => hdis S u ((ext_out hs).mp v).1) (fun I' f1 f2 => ⟨_, _, rfl, rfl, hQ I' f1 ?_⟩)
      have e : ∀ S, (p S ∨ solW (ndN L) (nP L).toNat t mins S ∧ ext (m + 1) s S) ↔ p S ∨ solW (ndN L) (nP L).toNat t mins S ∧ ext m s S := fun S => ⟨fun u => u.imp id (fun v => ⟨v.1, ((ext_out hs).mp v.2).1⟩), fun u => u.imp id (fun v => ⟨v.1, (ext_out hs).mpr ⟨v.2, hno S v.1 v.2⟩⟩)⟩
      exact ⟨f2.1.trans (cX_congr (fun S _ => e S)), f2.2.1.congr e, f2.2.2.congr e⟩
    have hmay : and32 (L 4 (m : Int)) (xor32 (s : Int) (-1)) = 0 ↔ dif (ndN L m) s = 0 := by
      have := may_iff hL (p := (m : Int)) ⟨by omega, by omega⟩ s14
      rwa [Int.toNat_natCast] at this
    have e4 : gi I 11 ((m : Int)).toNat = L 4 (m : Int) := cx_L4 hX ⟨by omega, by omega⟩
    have eor : or32 (s : Int) (shl32 1 (m : Int)) = ((s ||| 2 ^ m : Nat) : Int) := by rw [shl1 (by omega), or32_nat (by omega) (pow_lt31 (by omega))]
    refine WPm.of k_X8_chooseSets.1 (Nat.le_of_ble_eq_true rfl) (B_X8_chooseSets_0 (by omega) ?_)
    rw [cx_p hX, e4, hmay, show gi I 53 ((m : Int)).toNat = smi (nP L).toNat t - smi m t from h53 m (by omega), show gi I 52 ((m : Int)).toNat = t m from h52 m (by omega), eor]
    refine ⟨⟨by omega, by omega⟩, fun _ => ⟨⟨by omega, by omega⟩, ⟨by omega, by omega⟩, fun q => ⟨⟨by omega, by omega⟩, fun q2 => skp (fun S h1 h2 => ?_), fun q2 => ⟨fun q3 => skp (fun S h1 h2 => ?_), fun q3 => ?_⟩⟩, fun q => none' (fun S h1 h2 => ?_)⟩, fun q => absurd q (by omega)⟩
    · cases h : S.testBit m
      · rfl
      · have e := (ext_in hs).mpr ⟨h2, h⟩
        have hle : mS (m + 1) t S ≤ mS (nP L).toNat t S := mS_le t0 (by omega)
        rw [mS_ext e, mS_in] at hle
        have := h1.2.2
        omega
    · cases h : S.testBit m
      · rfl
      · have := (shut_need (hnd m (Nat.le_refl _)) (by omega) h1.2.1 h2 h).2
        rw [Nat.zero_or] at this
        exact absurd this q3
    · have := ih (m + 1) (s ||| 2 ^ m) (k - 1) (rest - t m) I (retV (fun I18 J19 => WPm (k - 1) LAY m_X8_chooseSets [vR (some 51), vI ((m : Int) + 1), vI (s : Int), vI rest] (mem (P, some 5, some 22) I18 J19) (retV (fun I21 J22 => Q none (mem (P, some 5, some 22) I21 J22)) (P, some 5, some 22))) (P, some 5, some 22)) p (by omega) (by omega) hX h52 h53 hw (fun S u v => hdis S u ((ext_in hs).mp v).1) (lt_succ_or hs) (shut_in hnd hs hsh (Nat.zero_testBit m) (by rw [Nat.zero_or]; exact q3)) (by rw [mS_in]; omega) (by omega) (fun I18 f1 f2 => ⟨_, _, rfl, rfl, ?_⟩)
      · exact this
      · refine skip I18 _ _ f1 f2 (fun S u v => ?_) (fun I' g1 g2 => ⟨_, _, rfl, rfl, hQ I' (f1.tr g1) ?_⟩)
        · rcases u with u | u
          · exact hdis S u ((ext_out hs).mp v).1
          · have a := ((ext_in hs).mp u.2).2
            rw [((ext_out hs).mp v).2] at a
            exact Bool.noConfusion a
        · have e : ∀ S, ((p S ∨ solW (ndN L) (nP L).toNat t mins S ∧ ext (m + 1) (s ||| 2 ^ m) S) ∨ solW (ndN L) (nP L).toNat t mins S ∧ ext (m + 1) s S) ↔ p S ∨ solW (ndN L) (nP L).toNat t mins S ∧ ext m s S := by
            intro S
            constructor
            · rintro ((u | u) | u)
              · exact Or.inl u
              · exact Or.inr ⟨u.1, ((ext_in hs).mp u.2).1⟩
              · exact Or.inr ⟨u.1, ((ext_out hs).mp u.2).1⟩
            · rintro (u | u)
              · exact Or.inl (Or.inl u)
              · cases h : S.testBit m
                · exact Or.inr ⟨u.1, (ext_out hs).mpr ⟨u.2, h⟩⟩
                · exact Or.inl (Or.inr ⟨u.1, (ext_in hs).mpr ⟨u.2, h⟩⟩)
          exact ⟨g2.1.trans (cX_congr (fun S _ => e S)), g2.2.1.congr e, g2.2.2.congr e⟩
    · have a1 := mS_up (S := S) t0 (show m ≤ (nP L).toNat by omega)
      have a2 := mS_ext (t := t) h2
      have a3 := h1.2.2
      omega
end WAXS
