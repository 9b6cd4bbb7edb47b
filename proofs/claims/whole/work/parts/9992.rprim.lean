section RPRIM
/-! ===== the reference: names, words and numbers of a statement ===== -/
def ER (I I' : Nat → Nat → Int32) (e : Int × Int) : Prop := Fr [] [(74, 8), (74, 9)] I I' ∧ gi I' 74 8 = e.1 ∧ gi I' 74 9 = e.2
theorem ER.of {I : Nat → Nat → Int32} {z y : Int} (hz : inR z) (hy : inR y) : ER I (si (si I 74 8 z) 74 9 y) (z, y) := ⟨((Fr.rf _ _ _).up 74 8 _ (Or.inr (by decide))).up 74 9 _ (Or.inr (by decide)), by rw [gi_idx _ _ _ (by decide), gi_si _ _ _ _ _ hz, if_pos ⟨rfl, rfl⟩], by rw [gi_si _ _ _ _ _ hy, if_pos ⟨rfl, rfl⟩]⟩
theorem ER.lex {I : Nat → Nat → Int32} {J : Nat → Nat → Int64} {T : Nat → Int} {n p : Nat} (hT : RT I J T n p) (hb : bd T n p ≠ -1) : ER I (si (si I 74 8 1) 74 9 (gi I 74 12)) (1, pl T n p) := by
  rw [pl_b hb, ← hT.2.2.2.2.1]
  exact ER.of (by decide) (gi_in _ _ _)
theorem ER.at {I : Nat → Nat → Int32} {J : Nat → Nat → Int64} {T : Nat → Int} {n p : Nat} (hT : RT I J T n p) (hb : bd T n p = -1) : ER I (si (si I 74 8 1) 74 9 (gi I 74 4)) (1, pl T n p) := by
  rw [pl_g hb, ← hT.2.2.1]
  exact ER.of (by decide) (gi_in _ _ _)
theorem ER.k {I : Nat → Nat → Int32} {J : Nat → Nat → Int64} {T : Nat → Int} {n p : Nat} {kd : Int} (hT : RT I J T n p) (hk : inR kd) : ER I (si (si I 74 8 kd) 74 9 (gi I 74 4)) (kd, tS T n p) := by
  rw [← hT.2.2.1]
  exact ER.of hk (gi_in _ _ _)
theorem ER.tok {I I' : Nat → Nat → Int32} {J : Nat → Nat → Int64} {T : Nat → Int} {n p : Nat} {e : Int × Int} (hT : RT I J T n p) (h : ER I I' e) : RT I' J T n p := hT.fr h.1 (by decide) (by decide) rfl
theorem gi_le {I : Nat → Nat → Int32} (h8 : gi I 74 8 = 0) : ¬ ¬ gi I 74 8 ≤ 0 := by omega
theorem R_must {k : Nat} {P : Option Nat} {I : Nat → Nat → Int32} {J : Nat → Nat → Int64} {Q : Option AV → Mem → Prop} {T : Nat → Int} {n p : Nat} {x : Int} (hk : 8 ≤ k) (hX : TX T n) (hp : p ≤ n) (hT : RT I J T n p) (h8 : gi I 74 8 = 0) (hx : inR x) (h1 : sgn T n p x → ∀ I' J', RT I' J' T n (tE T n p) → Fr [] FLr I I' → Fr [] [(74, 7)] J J' → Q none (mem (P, some 5, some 22) I' J')) (h0 : ¬ sgn T n p x → ∀ I', ER I I' (1, pl T n p) → Q none (mem (P, some 5, some 22) I' J)) : WPm k LAY m_X12_must [vR (some 74), vI x] (mem (P, some 5, some 22) I J) Q := by
  have h12 := hT.2.2.2.2.1
  refine WPm.of k_X12_must.1 (Nat.le_of_ble_eq_true rfl) (B_X12_must_0 (by omega) ⟨fun c => ⟨hx, ?_⟩, fun c => ⟨fun _ => ⟨hx, ?_⟩, fun q => absurd (by omega) q⟩⟩)
  · rw [hT.s x]
    exact ⟨fun q => ⟨fun q8 => absurd h8 q8, fun _ => ahead_of (by omega) hX hp hT (fun I' J' a b d => ⟨_, _, rfl, rfl, h1 q I' J' a b d⟩)⟩, fun q => ⟨fun _ => h0 q _ (ER.at hT (by omega)), fun q8 => absurd (by omega) q8⟩⟩
  · have e := ER.lex hT (fun t => c (h12.trans t))
    have ns : ¬ sgn T n p x := fun t => c (h12.trans (bd_3 (Or.inl t.1)))
    have e8 : gi (si (si I 74 8 1) 74 9 (gi I 74 12)) 74 8 = 1 := e.2.1
    exact ⟨fun _ => h0 ns _ e, fun _ => ⟨fun q => absurd q (by omega), fun _ => h0 ns _ e⟩⟩
theorem R_mustZ {k : Nat} {P : Option Nat} {I : Nat → Nat → Int32} {J : Nat → Nat → Int64} {Q : Option AV → Mem → Prop} {x : Int} (hk : 2 ≤ k) (h8 : 0 < gi I 74 8) (hx : inR x) (h : Q none (mem (P, some 5, some 22) I J)) : WPm k LAY m_X12_must [vR (some 74), vI x] (mem (P, some 5, some 22) I J) Q := by
  have n8 : ¬ gi I 74 8 ≤ 0 := by omega
  have z8 : ¬ gi I 74 8 = 0 := by omega
  exact WPm.of k_X12_must.1 (Nat.le_of_ble_eq_true rfl) (B_X12_must_0 (by omega) ⟨fun c => ⟨hx, fun q => ⟨fun _ => h, fun q8 => absurd q8 z8⟩, fun q => ⟨fun q8 => absurd q8 n8, fun _ => ⟨fun _ => h, fun q8 => absurd q8 z8⟩⟩⟩, fun c => ⟨fun q8 => absurd q8 n8, fun _ => ⟨hx, fun q => ⟨fun _ => h, fun q8 => absurd q8 z8⟩, fun q => ⟨fun q8 => absurd q8 n8, fun _ => ⟨fun _ => h, fun q8 => absurd q8 z8⟩⟩⟩⟩⟩)
theorem R_mustW {k : Nat} {P : Option Nat} {I : Nat → Nat → Int32} {J : Nat → Nat → Int64} {Q : Option AV → Mem → Prop} {T : Nat → Int} {n p w : Nat} {x : Int} (hk : 8 ≤ k) (hX : TX T n) (hp : p ≤ n) (hT : RT I J T n p) (h8 : gi I 74 8 = 0) (hw : w < 25) (hx : x = ((ownK.getD w 0 : Nat) : Int)) (hx2 : inL x) (h1 : bd T n p = -1 ∧ wd T n p w → ∀ I' J', RT I' J' T n (tE T n p) → Fr [] FLr I I' → Fr [] [(74, 7)] J J' → Q none (mem (P, some 5, some 22) I' J')) (h0 : ¬ (bd T n p = -1 ∧ wd T n p w) → ∀ I', ER I I' (1, pl T n p) → Q none (mem (P, some 5, some 22) I' J)) : WPm k LAY m_X12_must_ [vR (some 74), vL x] (mem (P, some 5, some 22) I J) Q := by
  have h12 := hT.2.2.2.2.1
  refine WPm.of k_X12_must_.1 (Nat.le_of_ble_eq_true rfl) (B_X12_must__0 (by omega) ⟨fun c => ⟨fun _ => ⟨hx2, ?_⟩, fun q => absurd (by omega) q⟩, fun c => ⟨fun _ => h0 (fun t => c (h12.trans t.1)) _ (ER.lex hT (fun t => c (h12.trans t))), fun q => absurd (by omega) q⟩⟩)
  rw [hT.w hp hw hx]
  have hb : bd T n p = -1 := h12.symm.trans c
  exact ⟨fun q => ⟨fun q8 => absurd h8 q8, fun _ => ahead_of (by omega) hX hp hT (fun I' J' a b d => ⟨_, _, rfl, rfl, h1 ⟨hb, q⟩ I' J' a b d⟩)⟩, fun q => ⟨fun _ => h0 (fun t => q t.2) _ (ER.at hT hb), fun q8 => absurd (by omega) q8⟩⟩
theorem R_mustWZ {k : Nat} {P : Option Nat} {I : Nat → Nat → Int32} {J : Nat → Nat → Int64} {Q : Option AV → Mem → Prop} {x : Int} (hk : 2 ≤ k) (h8 : 0 < gi I 74 8) (h : Q none (mem (P, some 5, some 22) I J)) : WPm k LAY m_X12_must_ [vR (some 74), vL x] (mem (P, some 5, some 22) I J) Q := by
  have n8 : ¬ gi I 74 8 ≤ 0 := by omega
  exact WPm.of k_X12_must_.1 (Nat.le_of_ble_eq_true rfl) (B_X12_must__0 (by omega) ⟨fun c => ⟨fun q8 => absurd q8 n8, fun _ => h⟩, fun c => ⟨fun q8 => absurd q8 n8, fun _ => ⟨fun q8 => absurd q8 n8, fun _ => h⟩⟩⟩)
theorem R_number {k : Nat} {P : Option Nat} {I : Nat → Nat → Int32} {J : Nat → Nat → Int64} {Q : Option AV → Mem → Prop} {T : Nat → Int} {n p : Nat} {lo hi : Int} (hk : 8 ≤ k) (hX : TX T n) (hp : p ≤ n) (hT : RT I J T n p) (h8 : gi I 74 8 = 0) (hlo : inR lo) (hhi : inR hi) (h1 : bd T n p = -1 ∧ kR T n p = 2 → (lo ≤ vl T n p ∧ vl T n p ≤ hi) → ∀ I' J', RT I' J' T n (tE T n p) → Fr [] FLr I I' → Fr [] [(74, 7)] J J' → Q (some (vI (vl T n p))) (mem (P, some 5, some 22) I' J')) (h4 : bd T n p = -1 ∧ kR T n p = 2 → ¬ (lo ≤ vl T n p ∧ vl T n p ≤ hi) → ∀ I' v, ER I I' (4, tS T n p) → Q (some (vI v)) (mem (P, some 5, some 22) I' J)) (h0 : ¬ (bd T n p = -1 ∧ kR T n p = 2) → ∀ I' v, ER I I' (1, pl T n p) → Q (some (vI v)) (mem (P, some 5, some 22) I' J)) : WPm k LAY m_X12_number [vR (some 74), vI lo, vI hi] (mem (P, some 5, some 22) I J) Q := by
  have h12 := hT.2.2.2.2.1
  have e3 : (gi I 74 3 = 2) ↔ kR T n p = 2 := by rw [hT.2.1]; omega
  refine WPm.of k_X12_number.1 (Nat.le_of_ble_eq_true rfl) (B_X12_number_0 (by omega) ⟨fun c => ⟨fun _ => ?_, fun q => absurd (by omega) q⟩, fun c => ⟨fun _ => h0 (fun t => c (h12.trans t.1)) _ _ (ER.lex hT (fun t => c (h12.trans t))), fun q => absurd (by omega) q⟩⟩)
  have hb : bd T n p = -1 := h12.symm.trans c
  rw [e3]
  refine ⟨fun q => ⟨fun q8 => absurd h8 q8, fun _ => ⟨hlo, hhi, ?_⟩⟩, fun q => ⟨fun _ => h0 (fun t => q t.2) _ _ (ER.at hT hb), fun q8 => absurd (by omega) q8⟩⟩
  rw [hT.2.2.2.2.2.1 (Or.inl q)]
  exact ⟨fun r => ⟨fun q8 => absurd h8 q8, fun _ => ahead_of (by omega) hX hp hT (fun I' J' a b d => ⟨_, _, rfl, rfl, h1 ⟨hb, q⟩ r I' J' a b d⟩)⟩, fun r => ⟨fun _ => h4 ⟨hb, q⟩ r _ _ (ER.k hT (by decide)), fun q8 => absurd (by omega) q8⟩⟩
theorem R_numberZ {k : Nat} {P : Option Nat} {I : Nat → Nat → Int32} {J : Nat → Nat → Int64} {Q : Option AV → Mem → Prop} {lo hi : Int} (hk : 2 ≤ k) (h8 : 0 < gi I 74 8) (h : Q (some (vI 0)) (mem (P, some 5, some 22) I J)) : WPm k LAY m_X12_number [vR (some 74), vI lo, vI hi] (mem (P, some 5, some 22) I J) Q := by
  have n8 : ¬ gi I 74 8 ≤ 0 := by omega
  exact WPm.of k_X12_number.1 (Nat.le_of_ble_eq_true rfl) (B_X12_number_0 (by omega) ⟨fun c => ⟨fun q8 => absurd q8 n8, fun _ => h⟩, fun c => ⟨fun q8 => absurd q8 n8, fun _ => ⟨fun q8 => absurd q8 n8, fun _ => h⟩⟩⟩)
set_option maxHeartbeats 1000000 in
theorem R_named {k : Nat} {P : Option Nat} {I : Nat → Nat → Int32} {J : Nat → Nat → Int64} {Q : Option AV → Mem → Prop} {b cd s : Nat} {L : Lt} {N : Nt} {R : Rt} {r : List Nat} (hk : 3 ≤ k) (hS : SRs I J b L N R cd) (hW : WL L N R) (h40 : gi I 74 40 = (b : Int)) (hb : b < 2) (hs : s < 4) (hr : nmOk r) (h : ∀ v, v = fd (N s) (L 0 s) r → Q (some (vI v)) (mem (P, some 5, some 22) I J)) : WPm k LAY m_X12_named [vR (some 74), vI (s : Int), vL ((pkN r : Nat) : Int)] (mem (P, some 5, some 22) I J) Q := by
  have hc := hW.c hs
  have e4 : s = 0 ∨ s = 1 ∨ s = 2 ∨ s = 3 := by omega
  have hcc : (cpc s : Int) ≤ 14 := by rcases e4 with e | e | e | e <;> subst e <;> decide
  have iPk : inL ((pkN r : Nat) : Int) := by
    have := pkN_lt63 (r := r) (fun c hc => by have := hr.2 c hc; omega) (by have := hr.1.2; omega)
    unfold inL
    omega
  obtain ⟨⟨s0, s1, s2, s3, -, -⟩, -, -, -, hnm, -, -⟩ := hS
  refine WPm.of k_X12_named.1 (Nat.le_of_ble_eq_true rfl) (B_X12_named_0 (Nat.zero_le k) ?_)
  have loop : ∀ (d i : Nat) (x4 : Int), (L 0 s).toNat = i + d → x4 = i → (∀ v, v = fdF (N s) r d i → Q (some (vI v)) (mem (P, some 5, some 22) I J)) → WP k LAY m_X12_named 3 [(0, vR (some 74)), (1, vI (s : Int)), (2, vL ((pkN r : Nat) : Int)), (4, vI x4)] [] (mem (P, some 5, some 22) I J) Q := by
    intro d
    induction d with
    | zero =>
      intro i x4 hd hx hQ
      subst hx
      refine B_X12_named_3 (by omega) ?_
      rw [h40]
      refine S_X12_many (n := L 0 s) (by omega) (by unfold inR; omega) (fun q => ?_) (fun q => ?_) (fun q => ?_) (fun q1 q2 q3 => ?_) ⟨_, _, _, rfl, rfl, by unfold inR; omega, by unfold inR; omega, fun _ => hQ _ rfl, fun c => absurd (by omega) c⟩
      · rw [Int.toNat_natCast, show s = 0 by omega]; exact s0
      · rw [Int.toNat_natCast, show s = 1 by omega]; exact s1
      · rw [Int.toNat_natCast, show s = 2 by omega]; exact s2
      · rw [Int.toNat_natCast, show s = 3 by omega]; exact s3
    | succ d ih =>
      intro i x4 hd hx hQ
      subst hx
      have hi : (i : Int) < L 0 s := by omega
      have hn1 := hnm s i hs hi
      have hO := hW.2.2.2.2.2.1 s i hs hi
      have iN : inL ((pkN (N s i) : Nat) : Int) := by
        have := pkN_lt63 (r := N s i) (fun c hc => by have := hO.2 c hc; omega) (by have := hO.1.2; omega)
        unfold inL
        omega
      refine B_X12_named_3 (by omega) ?_
      rw [h40]
      refine S_X12_many (n := L 0 s) (by omega) (by unfold inR; omega) (fun q => ?_) (fun q => ?_) (fun q => ?_) (fun q1 q2 q3 => ?_) ⟨_, _, _, rfl, rfl, by unfold inR; omega, by unfold inR; omega, fun c => absurd c (by omega), fun _ => ?_⟩
      · rw [Int.toNat_natCast, show s = 0 by omega]; exact s0
      · rw [Int.toNat_natCast, show s = 1 by omega]; exact s1
      · rw [Int.toNat_natCast, show s = 2 by omega]; exact s2
      · rw [Int.toNat_natCast, show s = 3 by omega]; exact s3
      · rw [h40]
        refine S_X12_name (n := ((pkN (N s i) : Nat) : Int)) (by omega) (by unfold inR; omega) (by omega) (fun q => ?_) (fun q => ?_) (fun q => ?_) (fun q1 q2 q3 => ?_) ⟨_, _, _, rfl, rfl, iN, iPk, fun c => ?_, fun c => ?_⟩
        · have es : s = 0 := by omega
          subst es
          refine ⟨by have h9 : L 0 0 ≤ 5 := hc.2; omega, ?_⟩
          rw [show (5 * (b : Int) + (i : Int)).toNat = 5 * b + i by omega]
          exact hn1
        · have es : s = 1 := by omega
          subst es
          refine ⟨by have h9 : L 0 1 ≤ 14 := hc.2; omega, ?_⟩
          rw [show (14 * (b : Int) + (i : Int)).toNat = 14 * b + i by omega]
          exact hn1
        · have es : s = 2 := by omega
          subst es
          refine ⟨by have h9 : L 0 2 ≤ 6 := hc.2; omega, ?_⟩
          rw [show (6 * (b : Int) + (i : Int)).toNat = 6 * b + i by omega]
          exact hn1
        · have es : s = 3 := by omega
          subst es
          refine ⟨by have h9 : L 0 3 ≤ 5 := hc.2; omega, ?_⟩
          rw [show (5 * (b : Int) + (i : Int)).toNat = 5 * b + i by omega]
          exact hn1
        · exact ih (i + 1) _ (by omega) (by omega) (fun v hv => hQ v (by
            rw [fdF, if_neg (fun t => c (by rw [t]))]
            exact hv))
        · refine hQ _ ?_
          rw [fdF, if_pos]
          exact pkN_inj (fun c hc => by have := hO.2 c hc; omega) (fun c hc => by have := hr.2 c hc; omega) (by omega)
  exact loop (L 0 s).toNat 0 0 (Nat.zero_add _).symm rfl h
/-- the word of a name, of an own word -/
theorem wd_pk {I : Nat → Nat → Int32} {J : Nat → Nat → Int64} {T : Nat → Int} {n p : Nat} (hp : p ≤ n) (hT : RT I J T n p) (hb : bd T n p = -1) (h1 : kR T n p = 1) : gl J 74 7 = ((pkN (lR T n p) : Nat) : Int) ∧ (∀ c ∈ lR T n p, 97 ≤ c ∧ c ≤ 122) ∧ (ow T n p = owI (lR T n p)) := by
  have hr := tE_rng (T := T) hp
  have how : ow T n p = owI (lR T n p) := by unfold ow; rw [if_pos h1]
  have hl7 : tE T n p - tS T n p ≤ 7 := by
    by_cases c : ow T n p = -1
    · have := (nmT.ok hp ⟨hb, h1, c⟩).2.2
      omega
    · exact (ow_len c).2
  refine ⟨?_, fun c hc => ?_, how⟩
  · rw [hT.2.2.2.2.2.2 h1, show min 8 (tE T n p - tS T n p) = tE T n p - tS T n p by omega]
    rfl
  · obtain ⟨j, hj, e⟩ := ltR_mem hc
    have := let_at h1 (show tS T n p ≤ tS T n p + j by omega) (by omega)
    omega
set_option maxHeartbeats 2000000 in
theorem R_fresh {k : Nat} {P : Option Nat} {I : Nat → Nat → Int32} {J : Nat → Nat → Int64} {Q : Option AV → Mem → Prop} {T : Nat → Int} {n p b cd : Nat} {L : Lt} {N : Nt} {R : Rt} (hk : 8 ≤ k) (hX : TX T n) (hp : p ≤ n) (hT : RT I J T n p) (h8 : gi I 74 8 = 0) (hS : SRs I J b L N R cd) (hW : WL L N R) (h40 : gi I 74 40 = (b : Int)) (hb2 : b < 2) (h1 : nmT T n p → newN L N (lR T n p) → ∀ I' J', RT I' J' T n (tE T n p) → Fr [] FLr I I' → Fr [] [(74, 7)] J J' → Q (some (vL ((pkN (lR T n p) : Nat) : Int))) (mem (P, some 5, some 22) I' J')) (h2 : nmT T n p → ¬ newN L N (lR T n p) → ∀ I' v, ER I I' (2, tS T n p) → Q (some (vL v)) (mem (P, some 5, some 22) I' J)) (h0 : ¬ nmT T n p → ∀ I' v, ER I I' (1, pl T n p) → Q (some (vL v)) (mem (P, some 5, some 22) I' J)) : WPm k LAY m_X12_fresh [vR (some 74)] (mem (P, some 5, some 22) I J) Q := by
  have h12 := hT.2.2.2.2.1
  have e3 : (gi I 74 3 = 1) ↔ kR T n p = 1 := by rw [hT.2.1]; omega
  -- with a fault told
  have z43 : ∀ I4 (x : Int), gi I4 74 8 ≠ 0 → 0 ≤ x → x ≤ 4 → (∀ v, Q (some (vL v)) (mem (P, some 5, some 22) I4 J)) → WP k LAY m_X12_fresh 43 [(0, vR (some 74)), (1, vI x)] [] (mem (P, some 5, some 22) I4 J) Q := fun I4 x q8 x0 x4 hQ => B_X12_fresh_43 (by omega) ⟨by unfold inR; omega, fun _ => ⟨fun _ => hQ _, fun q => absurd q q8⟩, fun _ => ⟨fun _ => ⟨fun _ => hQ _, fun q => absurd q q8⟩, fun q => absurd q q8⟩⟩
  refine WPm.of k_X12_fresh.1 (Nat.le_of_ble_eq_true rfl) (B_X12_fresh_0 (by omega) ⟨fun c => ⟨fun _ => ?_, fun q => absurd (by omega) q⟩, fun c => ⟨fun _ => h0 (fun t => c (h12.trans t.1)) _ _ (ER.lex hT (fun t => c (h12.trans t))), fun q => absurd (by omega) q⟩⟩)
  have hb : bd T n p = -1 := h12.symm.trans c
  rw [e3]
  have eat := ER.at hT hb
  have eat8 : gi (si (si I 74 8 1) 74 9 (gi I 74 4)) 74 8 = 1 := eat.2.1
  refine ⟨fun q => ⟨fun _ => z43 _ 0 (by omega) (by decide) (by decide) (fun v => h0 (fun t => q t.2.1) _ _ eat), fun q8 => absurd (by omega) q8⟩, fun q => ?_⟩
  obtain ⟨w1, w2, w3⟩ := wd_pk hp hT hb q
  rw [w1]
  refine S_X12_isOwn w2 (by rw [← w1]; exact gl_in _ _ _) (fun z hz => ⟨z, _, _, rfl, rfl, ?_⟩)
  rw [← w3] at hz
  dsimp only
  by_cases co : ow T n p = -1
  · rw [if_pos co] at hz
    subst hz
    have hnm : nmT T n p := ⟨hb, q, co⟩
    have hok := hnm.ok hp
    refine ⟨by decide, fun _ => ?_, fun t => absurd rfl t⟩
    have e2 := ER.k (kd := 2) hT (by decide)
    have e28 : gi (si (si I 74 8 2) 74 9 (gi I 74 4)) 74 8 = 2 := e2.2.1
    have loop : ∀ (d t : Nat) (x1 : Int), t + d = 4 → x1 = t → (∀ u, u < t → fd (N u) (L 0 u) (lR T n p) = -1) → WP k LAY m_X12_fresh 43 [(0, vR (some 74)), (1, vI x1)] [] (mem (P, some 5, some 22) I J) Q := by
      intro d
      induction d with
      | zero =>
        intro t x1 ht hx hall
        subst hx
        have et : t = 4 := by omega
        subst et
        refine B_X12_fresh_43 (by omega) ⟨by decide, fun _ => ⟨fun q8 => absurd h8 q8, fun _ => ?_⟩, fun r => absurd (by decide) r⟩
        rw [w1]
        exact ahead_of (by omega) hX hp hT (fun I' J' a b d => ⟨_, _, rfl, rfl, h1 hnm hall I' J' a b d⟩)
      | succ d ih =>
        intro t x1 ht hx hall
        subst hx
        refine B_X12_fresh_43 (by omega) ⟨by unfold inR; omega, fun r => absurd r (by omega), fun _ => ⟨fun q8 => absurd h8 q8, fun _ => ?_⟩⟩
        rw [w1]
        refine R_named (by omega) hS hW h40 hb2 (show t < 4 by omega) hok.1 (fun v hv => ⟨_, _, _, rfl, rfl, ?_⟩)
        have hct := hW.c (show t < 4 by omega)
        have hcc : (cpc t : Int) ≤ 14 := by
          have e : t = 0 ∨ t = 1 ∨ t = 2 ∨ t = 3 := by omega
          rcases e with e | e | e | e <;> subst e <;> decide
        have hf := fd_in (N t) hct.1 (lR T n p)
        rw [← hv] at hf
        refine ⟨by unfold inR; omega, fun r => ?_, fun r => ⟨fun _ => ?_, fun q8 => absurd (by omega) q8⟩⟩
        · exact ih (t + 1) _ (by omega) (by omega) (fun u hu => by
            by_cases e : u = t
            · rw [e, ← hv, r]
            · exact hall u (by omega))
        · exact z43 _ _ (by omega) (by omega) (by omega) (fun v' => h2 hnm (fun s => r (by rw [hv]; exact s t (by omega))) _ _ e2)
    exact loop 4 0 0 rfl rfl (fun u hu => absurd hu (Nat.not_lt_zero _))
  · rw [if_neg co] at hz
    subst hz
    exact ⟨by decide, fun t => absurd t (by decide), fun _ => ⟨fun _ => z43 _ 0 (by omega) (by decide) (by decide) (fun v => h0 (fun t => co t.2.2) _ _ eat), fun q8 => absurd (by omega) q8⟩⟩
set_option maxHeartbeats 2000000 in
theorem R_looked {k : Nat} {P : Option Nat} {I : Nat → Nat → Int32} {J : Nat → Nat → Int64} {Q : Option AV → Mem → Prop} {T : Nat → Int} {n p b cd s : Nat} {L : Lt} {N : Nt} {R : Rt} (hk : 8 ≤ k) (hp : p ≤ n) (hT : RT I J T n p) (h8 : gi I 74 8 = 0) (hS : SRs I J b L N R cd) (hW : WL L N R) (h40 : gi I 74 40 = (b : Int)) (hb2 : b < 2) (hs : s < 4) (h1 : nmT T n p → ∀ v : Nat, fd (N s) (L 0 s) (lR T n p) = (v : Int) → (v : Int) < L 0 s → Q (some (vI (v : Int))) (mem (P, some 5, some 22) I J)) (h3 : nmT T n p → fd (N s) (L 0 s) (lR T n p) = -1 → ∀ I', ER I I' (3, tS T n p) → Q (some (vI 0)) (mem (P, some 5, some 22) I' J)) (h0 : ¬ nmT T n p → ∀ I', ER I I' (1, pl T n p) → Q (some (vI 0)) (mem (P, some 5, some 22) I' J)) : WPm k LAY m_X12_looked [vR (some 74), vI (s : Int)] (mem (P, some 5, some 22) I J) Q := by
  have h12 := hT.2.2.2.2.1
  have e3 : (gi I 74 3 = 1) ↔ kR T n p = 1 := by rw [hT.2.1]; omega
  refine WPm.of k_X12_looked.1 (Nat.le_of_ble_eq_true rfl) (B_X12_looked_0 (by omega) ⟨fun c => ⟨fun _ => ?_, fun q => absurd (by omega) q⟩, fun c => ⟨fun _ => h0 (fun t => c (h12.trans t.1)) _ (ER.lex hT (fun t => c (h12.trans t))), fun q => absurd (by omega) q⟩⟩)
  have hb : bd T n p = -1 := h12.symm.trans c
  rw [e3]
  have eat := ER.at hT hb
  refine ⟨fun q => ⟨fun _ => h0 (fun t => q t.2.1) _ eat, fun q8 => absurd (by omega) q8⟩, fun q => ?_⟩
  obtain ⟨w1, w2, w3⟩ := wd_pk hp hT hb q
  rw [w1]
  refine S_X12_isOwn w2 (by rw [← w1]; exact gl_in _ _ _) (fun z hz => ⟨z, _, _, rfl, rfl, ?_⟩)
  rw [← w3] at hz
  dsimp only
  by_cases co : ow T n p = -1
  · rw [if_pos co] at hz
    subst hz
    have hnm : nmT T n p := ⟨hb, q, co⟩
    have hok := hnm.ok hp
    refine ⟨by decide, fun _ => ⟨fun _ => ?_, fun q8 => absurd (by omega) q8⟩, fun t => absurd rfl t⟩
    rw [w1]
    refine R_named (by omega) hS hW h40 hb2 hs hok.1 (fun v hv => ⟨_, _, _, rfl, rfl, ?_⟩)
    have hct := hW.c hs
    have hcc : (cpc s : Int) ≤ 14 := by
      have e : s = 0 ∨ s = 1 ∨ s = 2 ∨ s = 3 := by omega
      rcases e with e | e | e | e <;> subst e <;> decide
    have hf := fd_in (N s) hct.1 (lR T n p)
    rw [← hv] at hf
    refine ⟨fun q8 => absurd h8 q8, fun _ => ⟨by unfold inR; omega, fun r => ⟨fun _ => ?_, fun q8 => absurd (by omega) q8⟩, fun r => ⟨fun _ => h3 hnm (hv.symm.trans r) _ (ER.k hT (by decide)), fun q8 => absurd (by omega) q8⟩⟩⟩
    have e : v = ((v.toNat : Nat) : Int) := by omega
    have := h1 hnm v.toNat (by rw [← hv]; exact e) (by omega)
    rw [← e] at this
    exact this
  · rw [if_neg co] at hz
    subst hz
    exact ⟨by decide, fun t => absurd t (by decide), fun _ => ⟨fun _ => h0 (fun t => co t.2.2) _ eat, fun q8 => absurd (by omega) q8⟩⟩
theorem R_lookedZ {k : Nat} {P : Option Nat} {I : Nat → Nat → Int32} {J : Nat → Nat → Int64} {Q : Option AV → Mem → Prop} {x : Int} (hk : 2 ≤ k) (h8 : 0 < gi I 74 8) (h : Q (some (vI 0)) (mem (P, some 5, some 22) I J)) : WPm k LAY m_X12_looked [vR (some 74), vI x] (mem (P, some 5, some 22) I J) Q := by
  have n8 : ¬ gi I 74 8 ≤ 0 := by omega
  exact WPm.of k_X12_looked.1 (Nat.le_of_ble_eq_true rfl) (B_X12_looked_0 (by omega) ⟨fun c => ⟨fun q8 => absurd q8 n8, fun _ => h⟩, fun c => ⟨fun q8 => absurd q8 n8, fun _ => ⟨fun q8 => absurd q8 n8, fun _ => h⟩⟩⟩)
theorem R_asked {k : Nat} {P : Option Nat} {I : Nat → Nat → Int32} {J : Nat → Nat → Int64} {Q : Option AV → Mem → Prop} {T : Nat → Int} {n p b cd s : Nat} {L : Lt} {N : Nt} {R : Rt} (hk : 10 ≤ k) (hX : TX T n) (hp : p ≤ n) (hT : RT I J T n p) (h8 : gi I 74 8 = 0) (hS : SRs I J b L N R cd) (hW : WL L N R) (h40 : gi I 74 40 = (b : Int)) (hb2 : b < 2) (hs : s < 4) (h1 : nmT T n p → ∀ v : Nat, fd (N s) (L 0 s) (lR T n p) = (v : Int) → (v : Int) < L 0 s → ∀ I' J', RT I' J' T n (tE T n p) → Fr [] FLr I I' → Fr [] [(74, 7)] J J' → Q (some (vI (v : Int))) (mem (P, some 5, some 22) I' J')) (h3 : nmT T n p → fd (N s) (L 0 s) (lR T n p) = -1 → ∀ I', ER I I' (3, tS T n p) → Q (some (vI 0)) (mem (P, some 5, some 22) I' J)) (h0 : ¬ nmT T n p → ∀ I', ER I I' (1, pl T n p) → Q (some (vI 0)) (mem (P, some 5, some 22) I' J)) : WPm k LAY m_X12_asked [vR (some 74), vI (s : Int)] (mem (P, some 5, some 22) I J) Q := by
  refine WPm.of k_X12_asked.1 (Nat.le_of_ble_eq_true rfl) (B_X12_asked_0 (by omega) (R_looked (by omega) hp hT h8 hS hW h40 hb2 hs (fun a v b c => ⟨_, _, _, rfl, rfl, fun q8 => absurd h8 q8, fun _ => ?_⟩) (fun a b I' hE => ⟨_, _, _, rfl, rfl, ?_⟩) (fun a I' hE => ⟨_, _, _, rfl, rfl, ?_⟩)))
  · refine ahead_of (by omega) hX hp hT (fun I' J' d e f => ⟨_, _, rfl, rfl, fun _ => h1 a v b c I' J' d e f, fun q8 => ?_⟩)
    rw [e.gv 74 8 (by decide) (by decide)] at q8
    exact absurd (by omega) q8
  · have e8 : gi I' 74 8 = 3 := hE.2.1
    exact ⟨fun _ => ⟨fun q => absurd q (by omega), fun _ => h3 a b I' hE⟩, fun q => absurd q (by omega)⟩
  · have e8 : gi I' 74 8 = 1 := hE.2.1
    exact ⟨fun _ => ⟨fun q => absurd q (by omega), fun _ => h0 a I' hE⟩, fun q => absurd q (by omega)⟩
theorem R_askedZ {k : Nat} {P : Option Nat} {I : Nat → Nat → Int32} {J : Nat → Nat → Int64} {Q : Option AV → Mem → Prop} {x : Int} (hk : 3 ≤ k) (h8 : 0 < gi I 74 8) (h : Q (some (vI 0)) (mem (P, some 5, some 22) I J)) : WPm k LAY m_X12_asked [vR (some 74), vI x] (mem (P, some 5, some 22) I J) Q := by
  have n8 : ¬ gi I 74 8 ≤ 0 := by omega
  exact WPm.of k_X12_asked.1 (Nat.le_of_ble_eq_true rfl) (B_X12_asked_0 (by omega) (R_lookedZ (by omega) h8 ⟨_, _, _, rfl, rfl, fun _ => ⟨fun q => absurd q n8, fun _ => h⟩, fun q => by omega⟩))
theorem R_counts {k : Nat} {P : Option Nat} {I : Nat → Nat → Int32} {J : Nat → Nat → Int64} {Q : Option AV → Mem → Prop} {T : Nat → Int} {n p : Nat} {x : Int} (hk : 8 ≤ k) (hX : TX T n) (hp : p ≤ n) (hT : RT I J T n p) (h8 : gi I 74 8 = 0) (hx : x = 0 ∨ x = 1) (h1 : x = 0 → ∀ I' J', RT I' J' T n (tE T n p) → Fr [] FLr I I' → Fr [] [(74, 7)] J J' → Q (some (vI 1)) (mem (P, some 5, some 22) I' J')) (h6 : x = 1 → ∀ I', ER I I' (6, tS T n p) → Q (some (vI 0)) (mem (P, some 5, some 22) I' J)) : WPm k LAY m_X12_counts [vR (some 74), vI x] (mem (P, some 5, some 22) I J) Q := by
  refine WPm.of k_X12_counts.1 (Nat.le_of_ble_eq_true rfl) (B_X12_counts_0 (by omega) ⟨fun q => absurd h8 q, fun _ => ⟨by unfold inR; omega, fun q => ⟨fun q8 => absurd h8 q8, fun _ => ?_⟩, fun q => ⟨fun _ => h6 (by omega) _ (ER.k hT (by decide)), fun q8 => absurd (by omega) q8⟩⟩⟩)
  refine ahead_of (by omega) hX hp hT (fun I' J' d e f => ⟨_, _, rfl, rfl, fun q8 => ?_, fun _ => h1 q I' J' d e f⟩)
  rw [e.gv 74 8 (by decide) (by decide)] at q8
  exact absurd h8 q8
end RPRIM
