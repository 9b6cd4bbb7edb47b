section RST
/-! ===== the reference's statements ===== -/
def RSo (I : Nat → Nat → Int32) (J : Nat → Nat → Int64) (Q : Option AV → Mem → Prop) (P : Option Nat) (T : Nat → Int) (n b : Nat) : St → Prop
  | .inl e => ∀ I' J', gi I' 74 8 = e.1 → gi I' 74 9 = e.2 → FrBe b I I' → FrJ b J J' → Q none (mem (P, some 5, some 22) I' J')
  | .inr c => (∀ I' J' cd', RT I' J' T n c.2 → gi I' 74 8 = 0 → SRs I' J' b c.1.1 c.1.2.1 c.1.2.2 cd' → cd' ≤ c.2 → c.2 ≤ n → FrB b I I' → FrJ b J J' → Q none (mem (P, some 5, some 22) I' J')) ∧ (bd T n c.2 ≠ -1 → ∀ I' J', gi I' 74 8 = 1 → gi I' 74 9 = pl T n c.2 → FrBe b I I' → FrJ b J J' → Q none (mem (P, some 5, some 22) I' J'))
def RSt (md : MD) (T : Nat → Int) (n b : Nat) (L : Lt) (N : Nt) (R : Rt) (p : Nat) (r : St) : Prop := ∀ (k : Nat) (P : Option Nat) (I : Nat → Nat → Int32) (J : Nat → Nat → Int64) (Q : Option AV → Mem → Prop) (cd : Nat), 40 ≤ k → RT I J T n p → gi I 74 8 = 0 → gi I 74 40 = (b : Int) → SRs I J b L N R cd → cd ≤ p → RSo I J Q P T n b r → WPm k LAY md [vR (some 74)] (mem (P, some 5, some 22) I J) Q
theorem ER.b {I I' : Nat → Nat → Int32} {e : Int × Int} (b : Nat) (h : ER I I' e) : FrBe b I I' := fun c k _ _ w => h.1 c k (fun t => by cases t) (fun t => w (by
  simp only [List.mem_cons, List.not_mem_nil, or_false] at t ⊢
  rcases t with e | e <;> rw [e] <;> simp))
theorem FrB.g {b : Nat} {I I' : Nat → Nat → Int32} (h : FrB b I I') (c k : Nat) (h1 : ¬ inb b c k) (h2 : ¬ (101 ≤ c ∧ c ≤ 106)) (h3 : (c, k) ∉ FLq) : gi I' c k = gi I c k := congrArg Int32.toInt (h c k h1 h2 h3)
theorem FrB.g40 {b : Nat} {I I' : Nat → Nat → Int32} (h : FrB b I I') : gi I' 74 40 = gi I 74 40 := h.g 74 40 (by unfold inb; omega) (by omega) (by decide)
theorem SRs.ah {I I' : Nat → Nat → Int32} {J J' : Nat → Nat → Int64} {b : Nat} {L : Lt} {N : Nt} {R : Rt} {cd : Nat} (h : SRs I J b L N R cd) (hF : Fr [] FLr I I') (hJ : Fr [] [(74, 7)] J J') : SRs I' J' b L N R cd := h.fr (fun c k a b => hF.gvc k (fun t => by cases t) (fun q hq e => by
  simp only [List.mem_cons, List.not_mem_nil, or_false] at hq
  rcases hq with t | t | t | t | t <;> subst t <;> exact absurd e (by show ¬ (74 = c); omega))) (fun c k a b => hJ.lv c k (fun t => by cases t) (fun t => by
  simp only [List.mem_cons, List.not_mem_nil, or_false, Prod.mk.injEq] at t
  omega)) (hF.gv 74 39 (by decide) (by decide))
theorem rfr {I I' : Nat → Nat → Int32} (h : Fr [] FLr I I') : (∀ c k, c ≠ 74 → gi I' c k = gi I c k) ∧ gi I' 74 8 = gi I 74 8 ∧ gi I' 74 40 = gi I 74 40 ∧ gi I' 74 39 = gi I 74 39 := ⟨fun c k x => h.gvc k (fun t => by cases t) (fun q hq e => by
  simp only [List.mem_cons, List.not_mem_nil, or_false] at hq
  rcases hq with t | t | t | t | t <;> subst t <;> exact absurd e (fun u => x u.symm)), h.gv 74 8 (by decide) (by decide), h.gv 74 40 (by decide) (by decide), h.gv 74 39 (by decide) (by decide)⟩
theorem SRs.put {I I' : Nat → Nat → Int32} {J J' : Nat → Nat → Int64} {L L' : Lt} {N : Nt} {R : Rt} {b cd s : Nat} {r : List Nat} (hS : SRs I J b L N R cd) (hW : WL L N R) (hs : s < 4) (hn : nmb J' b s (L 0 s).toNat = ((pkN r : Nat) : Int)) (hno : ∀ k i : Nat, k < 4 → (i : Int) < L 0 k → nmb J' b k i = nmb J b k i) (hcn : gi I' 76 b = L' 0 0 ∧ gi I' 77 b = L' 0 1 ∧ gi I' 83 b = L' 0 2 ∧ gi I' 86 b = L' 0 3 ∧ gi I' 82 b = L' 0 4 ∧ gi I' 88 b = L' 0 5) (hL0 : ∀ j, j ≠ s → L' 0 j = L 0 j) (hLs : L' 0 s = L 0 s + 1) (h89 : ∀ c k, 89 ≤ c → c ≤ 96 → gi I' c k = gi I c k) (h39 : gi I' 74 39 = gi I 74 39) (hp1 : ∀ i : Nat, (i : Int) < L' 0 1 → gi I' 78 (14 * b + i) = L' 1 i ∧ gi I' 79 (14 * b + i) = L' 2 i ∧ gi I' 80 (14 * b + i) = L' 3 i ∧ gi I' 81 (14 * b + i) = L' 4 i) (hp2 : ∀ i : Nat, (i : Int) < L' 0 2 → gi I' 84 (6 * b + i) = L' 5 i ∧ gi I' 85 (6 * b + i) = L' 6 i) (hp3 : ∀ i : Nat, (i : Int) < L' 0 3 → gi I' 87 (5 * b + i) = L' 7 i) : SRs I' J' b L' (putN N s (L 0 s).toNat r) R cd := by
  have hc0 := hW.c hs
  obtain ⟨-, -, -, -, a5, a6, a7⟩ := hS
  refine ⟨hcn, hp1, hp2, hp3, fun k i hk hi => ?_, fun ρ hρ => ?_, by rw [h39]; exact a7⟩
  · by_cases e : k = s ∧ i = (L 0 s).toNat
    · rw [e.1, e.2, putN_s]
      exact hn
    · have hi2 : (i : Int) < L 0 k := by
        by_cases ek : k = s
        · subst ek
          rw [hLs] at hi
          have : i ≠ (L 0 k).toNat := fun t => e ⟨rfl, t⟩
          omega
        · rw [hL0 k ek] at hi
          exact hi
      rw [putN_o N r e, hno k i hk hi2]
      exact a5 k i hk hi2
  · rcases a6 ρ hρ with ⟨b1, b2⟩ | ⟨b1, a, b2, b3, b4, b5⟩
    · exact Or.inl ⟨b1, by rw [h89 _ _ (by omega) (by omega)]; exact b2⟩
    · refine Or.inr ⟨b1, a, by rw [h89 _ _ (by omega) (by omega)]; exact b2, by rw [h89 _ _ (by omega) (by omega)]; exact b3, b4, cds_congr (fun i _ _ => ?_) b5⟩
      unfold encR
      rw [h89 _ _ (by decide) (by decide), h89 _ _ (by decide) (by decide)]
/-- the cell of a kind's names -/
def nmc (s : Nat) : Nat := if s = 0 then 97 else if s = 1 then 98 else if s = 2 then 99 else 100
theorem nmb_put {J : Nat → Nat → Int64} {b s c : Nat} {z : Int} {cell : Nat} (hs : s < 4) (hcell : cell = nmc s) (hz : inL z) : nmb (sl J cell (cpc s * b + c) z) b s c = z ∧ ∀ k i : Nat, k < 4 → (k = s → i ≠ c) → nmb (sl J cell (cpc s * b + c) z) b k i = nmb J b k i := by
  have e : s = 0 ∨ s = 1 ∨ s = 2 ∨ s = 3 := by omega
  have cx : ∀ (c1 c2 k1 k2 : Nat), c2 ≠ c1 → gl (sl J c1 k1 z) c2 k2 = gl J c2 k2 := fun c1 c2 k1 k2 h => by simp [gl, sl, up2, h]
  rcases e with e | e | e | e <;> subst e <;> subst hcell
  · refine ⟨gl_same _ _ _ hz, fun k i hk hne => ?_⟩
    have ek : k = 0 ∨ k = 1 ∨ k = 2 ∨ k = 3 := by omega
    rcases ek with ek | ek | ek | ek <;> subst ek
    · exact gl_idx _ _ _ (fun t => hne rfl (by have t2 : 5 * b + i = 5 * b + c := t; omega))
    · exact cx 97 98 _ _ (by decide)
    · exact cx 97 99 _ _ (by decide)
    · exact cx 97 100 _ _ (by decide)
  · refine ⟨gl_same _ _ _ hz, fun k i hk hne => ?_⟩
    have ek : k = 0 ∨ k = 1 ∨ k = 2 ∨ k = 3 := by omega
    rcases ek with ek | ek | ek | ek <;> subst ek
    · exact cx 98 97 _ _ (by decide)
    · exact gl_idx _ _ _ (fun t => hne rfl (by have t2 : 14 * b + i = 14 * b + c := t; omega))
    · exact cx 98 99 _ _ (by decide)
    · exact cx 98 100 _ _ (by decide)
  · refine ⟨gl_same _ _ _ hz, fun k i hk hne => ?_⟩
    have ek : k = 0 ∨ k = 1 ∨ k = 2 ∨ k = 3 := by omega
    rcases ek with ek | ek | ek | ek <;> subst ek
    · exact cx 99 97 _ _ (by decide)
    · exact cx 99 98 _ _ (by decide)
    · exact gl_idx _ _ _ (fun t => hne rfl (by have t2 : 6 * b + i = 6 * b + c := t; omega))
    · exact cx 99 100 _ _ (by decide)
  · refine ⟨gl_same _ _ _ hz, fun k i hk hne => ?_⟩
    have ek : k = 0 ∨ k = 1 ∨ k = 2 ∨ k = 3 := by omega
    rcases ek with ek | ek | ek | ek <;> subst ek
    · exact cx 100 97 _ _ (by decide)
    · exact cx 100 98 _ _ (by decide)
    · exact cx 100 99 _ _ (by decide)
    · exact gl_idx _ _ _ (fun t => hne rfl (by have t2 : 5 * b + i = 5 * b + c := t; omega))
theorem pk_inL {r : List Nat} (h : nmOk r) : inL ((pkN r : Nat) : Int) := by
  have := pkN_lt63 (r := r) (fun c hc => by have := h.2 c hc; omega) (by have := h.1.2; omega)
  unfold inL
  omega
set_option maxHeartbeats 1000000 in
theorem R_book {T : Nat → Int} {n p b : Nat} {L : Lt} {N : Nt} {R : Rt} (hX : TX T n) (hp : p ≤ n) (hb2 : b < 2) (hW : WL L N R) (hk1 : kR T n p = 1) : RSt m_X12_booking T n b L N R p (ci (L 0 0 = 5) (.inl (6, tS T n p)) (rBook T n L N R (tE T n p))) := by
  intro k P I J Q cd hk hT h8 h40 hS hcd hQ
  have hg := tE_gt (T := T) hp (by omega)
  have hc0 := hW.c (k := 0) (by decide)
  have hc5 : L 0 0 ≤ 5 := hc0.2
  have h76 : gi I 76 b = L 0 0 := hS.1.1
  refine WPm.of k_X12_booking.1 (Nat.le_of_ble_eq_true rfl) (B_X12_booking_0 (by omega) ?_)
  rw [h40, Int.toNat_natCast, h76]
  refine ⟨by omega, fun q5 => ?_, fun q5 => ?_⟩
  · rw [ci_n q5] at hQ
    unfold rBook at hQ
    refine R_counts (by omega) hX hp hT h8 (Or.inl rfl) (fun _ I1 J1 a1 a2 a3 => ⟨_, _, _, rfl, rfl, by decide, fun _ => ?_, fun c => absurd c (by decide)⟩) (fun c => absurd c (by decide))
    obtain ⟨r1, r2, r3, r4⟩ := rfr a2
    have h41 : gi I1 74 40 = (b : Int) := r3.trans h40
    have hS1 := hS.ah a2 a3
    have hB1 := a2.q.b b
    have hJ1 := a3.j b
    rw [h41, Int.toNat_natCast, hS1.1.1]
    refine ⟨by omega, ?_⟩
    rw [show (5 * (b : Int) + L 0 0).toNat = 5 * b + (L 0 0).toNat by omega]
    have ij : inJ b 97 (5 * b + (L 0 0).toNat) := by unfold inJ; omega
    refine R_fresh (by omega) hX hg.2.1 a1 (r2.trans h8) hS1 hW h41 hb2 (fun h1 h2 I2 J2 c1 c2 c3 => ⟨_, _, _, rfl, rfl, ?_⟩) (fun h1 h2 I2 v hE => ⟨_, _, _, rfl, rfl, ?_⟩) (fun h1 I2 v hE => ⟨_, _, _, rfl, rfl, ?_⟩)
    · rw [pG_y h1 h2] at hQ
      have hg2 := tE_gt (T := T) hg.2.1 (by rw [h1.2.1]; decide)
      obtain ⟨s1, s2, s3, s4⟩ := rfr c2
      have e8 : gi I2 74 8 = 0 := s2.trans (r2.trans h8)
      have hS2 := hS1.ah c2 c3
      have e76 : gi I2 76 b = L 0 0 := hS2.1.1
      have iC : inR (L 0 0 + 1) := by unfold inR; omega
      refine ⟨by omega, fun q => absurd e8 q, fun _ => ?_⟩
      rw [s3.trans h41, Int.toNat_natCast, e76]
      have hok := (h1.ok hg.2.1).1
      obtain ⟨n1, n2⟩ := nmb_put (J := J2) (b := b) (s := 0) (c := (L 0 0).toNat) (cell := 97) (by decide) rfl (pk_inL hok)
      have hF : Fr [76] [] I2 (si I2 76 b (L 0 0 + 1)) := (Fr.rf _ _ _).up 76 _ _ (Or.inl (by decide))
      have gL := giveL_0 L 0
      refine ⟨by omega, hQ.1 _ _ cd (c1.fr hF (by decide) (by decide) (by simp [gl, sl, up2])) (by rw [gi_cell _ _ _ _ (by decide)]; exact e8) ?_ (by show cd ≤ tE T n (tE T n p); omega) hg2.2.1 ((hB1.tr (c2.q.b b)).up 76 b _ (Or.inl (by unfold inb; omega))) ((hJ1.tr (c3.j b)).up 97 _ _ ij)⟩
      refine SRs.put (L' := giveL L 0) hS2 hW (by decide) n1 (fun k i hk' hi => n2 k i hk' (fun e => by subst e; omega)) ⟨?_, ?_, ?_, ?_, ?_, ?_⟩ (fun j hj => (gL j).1 hj) (gL 0).2 (fun c k x y => gi_cell _ _ _ _ (by omega)) (gi_cell _ _ _ _ (by decide)) (fun i hi => ?_) (fun i hi => ?_) (fun i hi => ?_)
      · rw [gi_si _ _ _ _ _ iC, if_pos ⟨rfl, rfl⟩, (gL 0).2]
      · rw [gi_cell _ _ _ _ (by decide), (gL 1).1 (by decide)]; exact hS2.1.2.1
      · rw [gi_cell _ _ _ _ (by decide), (gL 2).1 (by decide)]; exact hS2.1.2.2.1
      · rw [gi_cell _ _ _ _ (by decide), (gL 3).1 (by decide)]; exact hS2.1.2.2.2.1
      · rw [gi_cell _ _ _ _ (by decide), (gL 4).1 (by decide)]; exact hS2.1.2.2.2.2.1
      · rw [gi_cell _ _ _ _ (by decide), (gL 5).1 (by decide)]; exact hS2.1.2.2.2.2.2
      · rw [(gL 1).1 (by decide)] at hi
        rw [gi_cell _ _ _ _ (by decide), gi_cell _ _ _ _ (by decide), gi_cell _ _ _ _ (by decide), gi_cell _ _ _ _ (by decide), giveL_f _ _ _ (by decide), giveL_f _ _ _ (by decide), giveL_f _ _ _ (by decide), giveL_f _ _ _ (by decide)]
        exact hS2.2.1 i hi
      · rw [(gL 2).1 (by decide)] at hi
        rw [gi_cell _ _ _ _ (by decide), gi_cell _ _ _ _ (by decide), giveL_f _ _ _ (by decide), giveL_f _ _ _ (by decide)]
        exact hS2.2.2.1 i hi
      · rw [(gL 3).1 (by decide)] at hi
        rw [gi_cell _ _ _ _ (by decide), giveL_f _ _ _ (by decide)]
        exact hS2.2.2.2.1 i hi
    · rw [pG_2 h1 h2] at hQ
      have e8 : gi I2 74 8 = 2 := hE.2.1
      exact ⟨by omega, fun _ => hQ _ _ e8 hE.2.2 (hB1.e.tr (hE.b b)) (hJ1.up 97 _ _ ij), fun q => by omega⟩
    · rw [pG_0 h1] at hQ
      have e8 : gi I2 74 8 = 1 := hE.2.1
      exact ⟨by omega, fun _ => hQ _ _ e8 hE.2.2 (hB1.e.tr (hE.b b)) (hJ1.up 97 _ _ ij), fun q => by omega⟩
  · rw [ci_y q5] at hQ
    refine R_counts (by omega) hX hp hT h8 (Or.inr rfl) (fun c => absurd c (by decide)) (fun _ I1 hE => ⟨_, _, _, rfl, rfl, by decide, fun c => absurd rfl c, fun _ => ?_⟩)
    exact hQ _ _ hE.2.1 hE.2.2 (hE.b b) (FrJ.rf _ _)
set_option maxHeartbeats 1000000 in
theorem R_inch {T : Nat → Int} {n p b : Nat} {L : Lt} {N : Nt} {R : Rt} (hX : TX T n) (hp : p ≤ n) (hb2 : b < 2) (hk1 : kR T n p = 1) : RSt m_X12_inching T n b L N R p (rInch T n L N R (tE T n p)) := by
  intro k P I J Q cd hk hT h8 h40 hS hcd hQ
  have hg := tE_gt (T := T) hp (by omega)
  unfold rInch at hQ
  refine WPm.of k_X12_inching.1 (Nat.le_of_ble_eq_true rfl) (B_X12_inching_0 (by omega) ?_)
  refine R_counts (by omega) hX hp hT h8 (Or.inl rfl) (fun _ I1 J1 a1 a2 a3 => ⟨_, _, _, rfl, rfl, by decide, fun _ => ?_, fun c => absurd c (by decide)⟩) (fun c => absurd c (by decide))
  obtain ⟨r1, r2, r3, r4⟩ := rfr a2
  have hB1 := a2.q.b b
  have hJ1 := a3.j b
  refine R_number (by omega) hX hg.2.1 a1 (r2.trans h8) (by decide) (by decide) (fun h1 h2 I2 J2 c1 c2 c3 => ⟨_, _, _, rfl, rfl, ?_⟩) (fun h1 h2 I2 v hE => ⟨_, _, _, rfl, rfl, ?_⟩) (fun h1 I2 v hE => ⟨_, _, _, rfl, rfl, ?_⟩)
  · rw [pNu_y h1 h2] at hQ
    have hg2 := tE_gt (T := T) hg.2.1 (by rw [h1.2]; decide)
    obtain ⟨s1, s2, s3, s4⟩ := rfr c2
    have e8 : gi I2 74 8 = 0 := s2.trans (r2.trans h8)
    have hS2 := (hS.ah a2 a3).ah c2 c3
    have iV : inR (vl T n (tE T n p)) := by unfold inR; omega
    refine ⟨fun q => absurd e8 q, fun _ => ?_⟩
    rw [s3.trans (r3.trans h40), Int.toNat_natCast]
    have hF : Fr [88] [] I2 (si I2 88 b (vl T n (tE T n p))) := (Fr.rf _ _ _).up 88 _ _ (Or.inl (by decide))
    refine ⟨by omega, hQ.1 _ _ cd (c1.fr hF (by decide) (by decide) rfl) (by rw [gi_cell _ _ _ _ (by decide)]; exact e8) ?_ (by show cd ≤ tE T n (tE T n p); omega) hg2.2.1 ((hB1.tr (c2.q.b b)).up 88 b _ (Or.inl (by unfold inb; omega))) (hJ1.tr (c3.j b))⟩
    show SRs (si I2 88 b (vl T n (tE T n p))) J2 b (putL L 0 5 (vl T n (tE T n p))) N R cd
    have pl0 : ∀ f i, ¬ (f = 0 ∧ i = 5) → putL L 0 5 (vl T n (tE T n p)) f i = L f i := fun f i h => putL_o L _ h
    obtain ⟨⟨t1, t2, t3, t4, t5, t6⟩, t7, t8, t9, t10, t11, t12⟩ := hS2
    refine ⟨⟨?_, ?_, ?_, ?_, ?_, ?_⟩, fun i hi => ?_, fun i hi => ?_, fun i hi => ?_, fun s i hs hi => ?_, fun ρ hρ => ?_, ?_⟩
    · rw [gi_cell _ _ _ _ (by decide), pl0 0 0 (by omega)]; exact t1
    · rw [gi_cell _ _ _ _ (by decide), pl0 0 1 (by omega)]; exact t2
    · rw [gi_cell _ _ _ _ (by decide), pl0 0 2 (by omega)]; exact t3
    · rw [gi_cell _ _ _ _ (by decide), pl0 0 3 (by omega)]; exact t4
    · rw [gi_cell _ _ _ _ (by decide), pl0 0 4 (by omega)]; exact t5
    · rw [gi_si _ _ _ _ _ iV, if_pos ⟨rfl, rfl⟩]; exact (putL_s _ _ _ _).symm
    · rw [pl0 0 1 (by omega)] at hi
      rw [gi_cell _ _ _ _ (by decide), gi_cell _ _ _ _ (by decide), gi_cell _ _ _ _ (by decide), gi_cell _ _ _ _ (by decide), pl0 1 i (by omega), pl0 2 i (by omega), pl0 3 i (by omega), pl0 4 i (by omega)]
      exact t7 i hi
    · rw [pl0 0 2 (by omega)] at hi
      rw [gi_cell _ _ _ _ (by decide), gi_cell _ _ _ _ (by decide), pl0 5 i (by omega), pl0 6 i (by omega)]
      exact t8 i hi
    · rw [pl0 0 3 (by omega)] at hi
      rw [gi_cell _ _ _ _ (by decide), pl0 7 i (by omega)]
      exact t9 i hi
    · rw [pl0 0 s (by omega)] at hi
      exact t10 s i hs hi
    · rcases t11 ρ hρ with ⟨d1, d2⟩ | ⟨d1, a, d2, d3, d4, d5⟩
      · exact Or.inl ⟨d1, by rw [gi_cell _ _ _ _ (by omega)]; exact d2⟩
      · refine Or.inr ⟨d1, a, by rw [gi_cell _ _ _ _ (by omega)]; exact d2, by rw [gi_cell _ _ _ _ (by omega)]; exact d3, d4, cds_congr (fun i _ _ => ?_) d5⟩
        unfold encR
        rw [gi_cell _ _ _ _ (by decide), gi_cell _ _ _ _ (by decide)]
    · rw [gi_cell _ _ _ _ (by decide)]; exact t12
  · rw [pNu_4 h1 h2] at hQ
    have e8 : gi I2 74 8 = 4 := hE.2.1
    exact ⟨fun _ => hQ _ _ e8 hE.2.2 (hB1.e.tr (hE.b b)) hJ1, fun q => by omega⟩
  · rw [pNu_0 h1] at hQ
    have e8 : gi I2 74 8 = 1 := hE.2.1
    exact ⟨fun _ => hQ _ _ e8 hE.2.2 (hB1.e.tr (hE.b b)) hJ1, fun q => by omega⟩
set_option maxHeartbeats 1000000 in
theorem R_table {T : Nat → Int} {n p b : Nat} {L : Lt} {N : Nt} {R : Rt} (hX : TX T n) (hp : p ≤ n) (hb2 : b < 2) (hW : WL L N R) (hk1 : kR T n p = 1) : RSt m_X12_tabling T n b L N R p (ci (L 0 3 = 5) (.inl (6, tS T n p)) (rTable T n L N R (tE T n p))) := by
  intro k P I J Q cd hk hT h8 h40 hS hcd hQ
  have hg := tE_gt (T := T) hp (by omega)
  have hc0 := hW.c (k := 3) (by decide)
  have hc5 : L 0 3 ≤ 5 := hc0.2
  have h86 : gi I 86 b = L 0 3 := hS.1.2.2.2.1
  refine WPm.of k_X12_tabling.1 (Nat.le_of_ble_eq_true rfl) (B_X12_tabling_0 (by omega) ?_)
  rw [h40, Int.toNat_natCast, h86]
  refine ⟨by omega, fun q5 => ?_, fun q5 => ?_⟩
  · rw [ci_n q5] at hQ
    unfold rTable at hQ
    refine R_counts (by omega) hX hp hT h8 (Or.inl rfl) (fun _ I1 J1 a1 a2 a3 => ⟨_, _, _, rfl, rfl, by decide, fun _ => ?_, fun c => absurd c (by decide)⟩) (fun c => absurd c (by decide))
    obtain ⟨r1, r2, r3, r4⟩ := rfr a2
    have h41 : gi I1 74 40 = (b : Int) := r3.trans h40
    have hS1 := hS.ah a2 a3
    have hB1 := a2.q.b b
    have hJ1 := a3.j b
    rw [h41, Int.toNat_natCast, hS1.1.2.2.2.1]
    refine ⟨by omega, ?_⟩
    rw [show (5 * (b : Int) + L 0 3).toNat = 5 * b + (L 0 3).toNat by omega]
    have ij : inJ b 100 (5 * b + (L 0 3).toNat) := by unfold inJ; omega
    have ib : inb b 87 (5 * b + (L 0 3).toNat) := by unfold inb; omega
    have rg : 0 ≤ 5 * (b : Int) + L 0 3 ∧ 5 * (b : Int) + L 0 3 < 10 := by omega
    -- with a fault told: nothing more but a write
    have z2 : ∀ I3 J3 v, gi I3 74 8 ≠ 0 → Q none (mem (P, some 5, some 22) (si I3 87 (5 * b + (L 0 3).toNat) v) J3) → ((¬ (gi I3 74 8) = 0 → Q none (mem (P, some 5, some 22) (si I3 87 (5 * b + (L 0 3).toNat) v) J3)) ∧ ((gi I3 74 8) = 0 → ((0 ≤ (gi I3 74 40) ∧ (gi I3 74 40) < 2) ∧ (Q none (mem (P, some 5, some 22) (si (si I3 87 (5 * b + (L 0 3).toNat) v) 86 (gi I3 74 40).toNat ((gi I3 86 (gi I3 74 40).toNat) + 1)) J3))))) := fun I3 J3 v q hh => ⟨fun _ => hh, fun q' => absurd q' q⟩
    have z1 : ∀ I3 J3, 0 < gi I3 74 8 → (∀ v, Q none (mem (P, some 5, some 22) (si I3 87 (5 * b + (L 0 3).toNat) v) J3)) → WPm (k - 1) LAY m_X12_number [vR (some 74), vI 0, vI 9] (mem (P, some 5, some 22) I3 J3) (retI (fun v14 I15 J16 => (¬ (gi I15 74 8) = 0 → (Q none (mem (P, some 5, some 22) (si I15 87 (5 * b + (L 0 3).toNat) v14) J16))) ∧ ((gi I15 74 8) = 0 → ((0 ≤ (gi I15 74 40) ∧ (gi I15 74 40) < 2) ∧ (Q none (mem (P, some 5, some 22) (si (si I15 87 (5 * b + (L 0 3).toNat) v14) 86 (gi I15 74 40).toNat ((gi I15 86 (gi I15 74 40).toNat) + 1)) J16))))) (P, some 5, some 22)) := fun I3 J3 q hh => R_numberZ (by omega) q ⟨_, _, _, rfl, rfl, z2 I3 J3 0 (by omega) (hh 0)⟩
    refine R_fresh (by omega) hX hg.2.1 a1 (r2.trans h8) hS1 hW h41 hb2 (fun h1 h2 I2 J2 c1 c2 c3 => ⟨_, _, _, rfl, rfl, rg, ?_⟩) (fun h1 h2 I2 v hE => ⟨_, _, _, rfl, rfl, rg, ?_⟩) (fun h1 I2 v hE => ⟨_, _, _, rfl, rfl, rg, ?_⟩)
    · rw [pG_y h1 h2] at hQ
      have hg2 := tE_gt (T := T) hg.2.1 (by rw [h1.2.1]; decide)
      obtain ⟨s1, s2, s3, s4⟩ := rfr c2
      have e8 : gi I2 74 8 = 0 := s2.trans (r2.trans h8)
      have hS2 := hS1.ah c2 c3
      have hB2 := hB1.tr (c2.q.b b)
      have hJ2 := (hJ1.tr (c3.j b)).up 100 _ ((pkN (lR T n (tE T n p)) : Nat) : Int) ij
      have hok := (h1.ok hg.2.1).1
      obtain ⟨n1, n2⟩ := nmb_put (J := J2) (b := b) (s := 3) (c := (L 0 3).toNat) (cell := 100) (by decide) rfl (pk_inL hok)
      have hT2 : RT I2 (sl J2 100 (5 * b + (L 0 3).toNat) ((pkN (lR T n (tE T n p)) : Nat) : Int)) T n (tE T n (tE T n p)) := c1.fr (Fr.rf [] [] I2) (by decide) (by decide) (by simp [gl, sl, up2])
      refine R_mustW (w := 10) (by omega) hX hg2.2.1 hT2 e8 (by decide) (by decide +kernel) (by decide) (fun h3 I3 J3 d1 d2 d3 => ⟨_, _, rfl, rfl, ?_⟩) (fun h3 I3 hE => ⟨_, _, rfl, rfl, ?_⟩)
      · rw [pW_y (w := 10) h3] at hQ
        have hg3 := tE_gt (T := T) hg2.2.1 (by rw [h3.2.1]; decide)
        obtain ⟨u1, u2, u3, u4⟩ := rfr d2
        have f8 : gi I3 74 8 = 0 := u2.trans e8
        have hB3 := hB2.tr (d2.q.b b)
        have hJ3 := hJ2.tr (d3.j b)
        refine R_number (by omega) hX hg3.2.1 d1 f8 (by decide) (by decide) (fun h4 h5 I4 J4 f1 f2 f3 => ⟨_, _, _, rfl, rfl, ?_⟩) (fun h4 h5 I4 v hE => ⟨_, _, _, rfl, rfl, ?_⟩) (fun h4 I4 v hE => ⟨_, _, _, rfl, rfl, ?_⟩)
        · rw [pNu_y h4 h5] at hQ
          have hg4 := tE_gt (T := T) hg3.2.1 (by rw [h4.2]; decide)
          obtain ⟨w1, w2, w3, w4⟩ := rfr f2
          generalize hp4 : tE T n (tE T n (tE T n (tE T n p))) = p4 at *
          generalize hv : vl T n (tE T n (tE T n (tE T n p))) = v at *
          have iV : inR v := by unfold inR; omega
          have g8 : gi I4 74 8 = 0 := w2.trans f8
          have g40 : gi I4 74 40 = (b : Int) := w3.trans (u3.trans (s3.trans h41))
          have x4 : ∀ c k, c ≠ 74 → gi I4 c k = gi I2 c k := fun c k x => (w1 c k x).trans (u1 c k x)
          have iC : inR (L 0 3 + 1) := by unfold inR; omega
          refine ⟨fun q => absurd g8 q, fun _ => ?_⟩
          rw [g40, Int.toNat_natCast, x4 86 b (by decide), hS2.1.2.2.2.1]
          have gL := giveL_0 (putL L 7 (L 0 3).toNat v) 3
          have hp0 : ∀ j, putL L 7 (L 0 3).toNat v 0 j = L 0 j := fun j => putL_o L _ (by omega)
          have hpo : ∀ f i, f ≠ 7 → putL L 7 (L 0 3).toNat v f i = L f i := fun f i h => putL_o L _ (fun t => h t.1)
          have hF : Fr [87, 86] [] I4 (si (si I4 87 (5 * b + (L 0 3).toNat) v) 86 b (L 0 3 + 1)) := ((Fr.rf _ _ _).up 87 _ _ (Or.inl (by decide))).up 86 _ _ (Or.inl (by decide))
          have n1' : nmb J4 b 3 (L 0 3).toNat = ((pkN (lR T n (tE T n p)) : Nat) : Int) := by
            rw [← n1]
            unfold nmb
            rw [f3.lv _ _ (by decide) (by simp), d3.lv _ _ (by decide) (by simp), f3.lv _ _ (by decide) (by simp), d3.lv _ _ (by decide) (by simp), f3.lv _ _ (by decide) (by simp), d3.lv _ _ (by decide) (by simp), f3.lv _ _ (by decide) (by simp), d3.lv _ _ (by decide) (by simp)]
            rfl
          have n2' : ∀ k i : Nat, k < 4 → (i : Int) < L 0 k → nmb J4 b k i = nmb J2 b k i := fun k i hk' hi => by
            rw [← n2 k i hk' (fun e => by subst e; omega)]
            unfold nmb
            rw [f3.lv _ _ (by decide) (by simp), d3.lv _ _ (by decide) (by simp), f3.lv _ _ (by decide) (by simp), d3.lv _ _ (by decide) (by simp), f3.lv _ _ (by decide) (by simp), d3.lv _ _ (by decide) (by simp), f3.lv _ _ (by decide) (by simp), d3.lv _ _ (by decide) (by simp)]
            rfl
          have er : ∀ c k, c ≠ 74 → c ≠ 87 → c ≠ 86 → gi (si (si I4 87 (5 * b + (L 0 3).toNat) v) 86 b (L 0 3 + 1)) c k = gi I2 c k := fun c k y1 y2 y3 => by rw [gi_cell _ _ _ _ y3, gi_cell _ _ _ _ y2, x4 _ _ y1]
          refine ⟨by omega, hQ.1 _ _ cd (f1.fr hF (by decide) (by decide) rfl) (by rw [gi_cell _ _ _ _ (by decide), gi_cell _ _ _ _ (by decide)]; exact g8) ?_ (by show cd ≤ p4; omega) hg4.2.1 (((hB3.tr (f2.q.b b)).up 87 _ _ (Or.inl ib)).up 86 b _ (Or.inl (by unfold inb; omega))) (hJ3.tr (f3.j b))⟩
          refine SRs.put (L' := giveL (putL L 7 (L 0 3).toNat v) 3) hS2 hW (by decide) n1' n2' ⟨?_, ?_, ?_, ?_, ?_, ?_⟩ (fun j hj => by rw [(gL j).1 hj, hp0]) (by rw [(gL 3).2, hp0]) (fun c k x y => er c k (by omega) (by omega) (by omega)) ?_ (fun i hi => ?_) (fun i hi => ?_) (fun i hi => ?_)
          · rw [er _ _ (by decide) (by decide) (by decide), (gL 0).1 (by decide), hp0]; exact hS2.1.1
          · rw [er _ _ (by decide) (by decide) (by decide), (gL 1).1 (by decide), hp0]; exact hS2.1.2.1
          · rw [er _ _ (by decide) (by decide) (by decide), (gL 2).1 (by decide), hp0]; exact hS2.1.2.2.1
          · rw [gi_si _ _ _ _ _ iC, if_pos ⟨rfl, rfl⟩, (gL 3).2, hp0]
          · rw [er _ _ (by decide) (by decide) (by decide), (gL 4).1 (by decide), hp0]; exact hS2.1.2.2.2.2.1
          · rw [er _ _ (by decide) (by decide) (by decide), (gL 5).1 (by decide), hp0]; exact hS2.1.2.2.2.2.2
          · rw [gi_cell _ _ _ _ (by decide), gi_cell _ _ _ _ (by decide), w4, u4]
          · rw [(gL 1).1 (by decide), hp0] at hi
            rw [er _ _ (by decide) (by decide) (by decide), er _ _ (by decide) (by decide) (by decide), er _ _ (by decide) (by decide) (by decide), er _ _ (by decide) (by decide) (by decide), giveL_f _ _ _ (by decide), giveL_f _ _ _ (by decide), giveL_f _ _ _ (by decide), giveL_f _ _ _ (by decide), hpo _ _ (by decide), hpo _ _ (by decide), hpo _ _ (by decide), hpo _ _ (by decide)]
            exact hS2.2.1 i hi
          · rw [(gL 2).1 (by decide), hp0] at hi
            rw [er _ _ (by decide) (by decide) (by decide), er _ _ (by decide) (by decide) (by decide), giveL_f _ _ _ (by decide), giveL_f _ _ _ (by decide), hpo _ _ (by decide), hpo _ _ (by decide)]
            exact hS2.2.2.1 i hi
          · rw [(gL 3).2, hp0] at hi
            rw [gi_cell _ _ _ _ (by decide), gi_si _ _ _ _ _ iV, giveL_f _ _ _ (by decide)]
            by_cases e : i = (L 0 3).toNat
            · rw [if_pos ⟨rfl, by rw [e]⟩, e, putL_s]
            · rw [if_neg (fun t => e (by have := t.2; omega)), putL_o L _ (fun t => e t.2), x4 _ _ (by decide)]
              exact hS2.2.2.2.1 i (by omega)
        · rw [pNu_4 h4 h5] at hQ
          have e8' : gi I4 74 8 = 4 := hE.2.1
          exact z2 I4 J3 v (by omega) (hQ _ _ (by rw [gi_cell _ _ _ _ (by decide)]; exact hE.2.1) (by rw [gi_cell _ _ _ _ (by decide)]; exact hE.2.2) ((hB3.e.tr (hE.b b)).up 87 _ _ (Or.inl ib)) hJ3)
        · rw [pNu_0 h4] at hQ
          have e8' : gi I4 74 8 = 1 := hE.2.1
          exact z2 I4 J3 v (by omega) (hQ _ _ (by rw [gi_cell _ _ _ _ (by decide)]; exact hE.2.1) (by rw [gi_cell _ _ _ _ (by decide)]; exact hE.2.2) ((hB3.e.tr (hE.b b)).up 87 _ _ (Or.inl ib)) hJ3)
      · rw [pW_n (w := 10) h3] at hQ
        have e8' : gi I3 74 8 = 1 := hE.2.1
        exact z1 I3 _ (by omega) (fun v => hQ _ _ (by rw [gi_cell _ _ _ _ (by decide)]; exact hE.2.1) (by rw [gi_cell _ _ _ _ (by decide)]; exact hE.2.2) ((hB2.e.tr (hE.b b)).up 87 _ _ (Or.inl ib)) hJ2)
    · rw [pG_2 h1 h2] at hQ
      have e8 : gi I2 74 8 = 2 := hE.2.1
      exact R_mustWZ (by omega) (by omega) ⟨_, _, rfl, rfl, z1 I2 _ (by omega) (fun v' => hQ _ _ (by rw [gi_cell _ _ _ _ (by decide)]; exact hE.2.1) (by rw [gi_cell _ _ _ _ (by decide)]; exact hE.2.2) ((hB1.e.tr (hE.b b)).up 87 _ _ (Or.inl ib)) (hJ1.up 100 _ _ ij))⟩
    · rw [pG_0 h1] at hQ
      have e8 : gi I2 74 8 = 1 := hE.2.1
      exact R_mustWZ (by omega) (by omega) ⟨_, _, rfl, rfl, z1 I2 _ (by omega) (fun v' => hQ _ _ (by rw [gi_cell _ _ _ _ (by decide)]; exact hE.2.1) (by rw [gi_cell _ _ _ _ (by decide)]; exact hE.2.2) ((hB1.e.tr (hE.b b)).up 87 _ _ (Or.inl ib)) (hJ1.up 100 _ _ ij))⟩
  · rw [ci_y q5] at hQ
    refine R_counts (by omega) hX hp hT h8 (Or.inr rfl) (fun c => absurd c (by decide)) (fun _ I1 hE => ⟨_, _, _, rfl, rfl, by decide, fun c => absurd rfl c, fun _ => ?_⟩)
    exact hQ _ _ hE.2.1 hE.2.2 (hE.b b) (FrJ.rf _ _)
end RST
