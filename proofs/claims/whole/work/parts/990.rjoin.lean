section RJOIN
/-! ===== behind a value: an operator, a frame's end ===== -/
theorem RA.cz {I : Nat → Nat → Int32} {J : Nat → Nat → Int64} {T : Nat → Int} {n p b f o m cd : Nat} {lo : Int} {c : List Int} (h : RA I J T n p b f o m cd lo c) : RT I J T n p ∧ gi I 74 8 = 0 ∧ gi I 74 46 = ((f + 1 : Nat) : Int) ∧ gi I 74 50 = 1 ∧ gi I 103 f = 0 ∧ p ≤ n ∧ cd + m + c.length ≤ p ∧ gi I 74 40 = (b : Int) := by
  obtain ⟨c1, ps, h1, h2, h3, h4, h5, h6, h7, h8, h9, h10, h11⟩ := h
  exact ⟨h3.1, h3.2.1, h3.2.2.2.1, h6, h7, h8, h9, h3.2.2.1⟩
theorem RK.ph {I I' : Nat → Nat → Int32} {f m w hi : Nat} (h : RK I I' f m w hi) : gi I' 101 f = gi I 101 f := (h.2.1 f (Nat.le_refl f)).1
theorem g174 {k : Nat} {P : Option Nat} {I1 : Nat → Nat → Int32} {J1 : Nat → Nat → Int64} {Q : Option AV → Mem → Prop} {T : Nat → Int} {n p b f o m cdx : Nat} {x : Int} (hk : 7 ≤ k) (hX : TX T n) (hp : p ≤ n) (hx : inR x) (hm : m ≤ 60) (hS : RS I1 J1 T n p b f o m cdx) (h : ∀ I' J', RS I' J' T n (tE T n p) b f o (m + 1) cdx → gi I' 106 m = x → gi I' 74 50 = 0 → gi I' 102 f = gi I1 102 f → gi I' 103 f = gi I1 103 f → (∀ w hi, RK I1 I' f m w hi) → (∀ i, encR I' i = encR I1 i) → Fr [] [(74, 7)] J1 J' → Q (some (vI 1)) (mem (P, some 5, some 22) I' J')) : WP k LAY m_X12_goesOn 174 [(0, vR (some 74))] [vI x, vR (some 74)] (mem (P, some 5, some 22) I1 J1) Q := by
  have h49 := hS.2.2.2.2.2.1
  refine B_X12_goesOn_174 (by omega) ?_
  rw [h49, Int.toNat_natCast]
  refine ⟨by omega, ?_⟩
  have hF : Fr [102, 103, 106] [(74, 49)] I1 (si (si I1 106 m x) 74 49 ((m : Int) + 1)) := ((Fr.rf _ _ _).up 106 _ _ (Or.inl (by decide))).up 74 49 _ (Or.inr (by decide))
  refine push_end hk hX hp hS hF ?_ (fun i hi => ?_) ?_ (fun i _ => ?_) ?_ ?_ h
  · rw [gi_si _ _ _ _ _ (by unfold inR; omega), if_pos ⟨rfl, rfl⟩]
    omega
  · rw [gi_cell _ _ _ _ (by decide), gi_idx _ _ _ (by omega)]
  · rw [gi_cell _ _ _ _ (by decide), gi_si _ _ _ _ _ hx, if_pos ⟨rfl, rfl⟩]
  · rw [gi_cell _ _ _ _ (by decide), gi_cell _ _ _ _ (by decide), gi_cell _ _ _ _ (by decide), gi_cell _ _ _ _ (by decide)]
    exact ⟨rfl, rfl⟩
  · rw [gi_cell _ _ _ _ (by decide), gi_cell _ _ _ _ (by decide)]
  · rw [gi_cell _ _ _ _ (by decide), gi_cell _ _ _ _ (by decide)]
theorem RNx.of {I I1 I' : Nat → Nat → Int32} {J J' : Nat → Nat → Int64} {T : Nat → Int} {n p b f o m cd : Nat} {c : List Int} {x ph bg : Int} (a1 : RK I I1 f m (1600 * b + cd) (1600 * b + 1600)) (a2 : cds (encR I1) (1600 * b + cd) c) (b1 : RS I' J' T n (tE T n p) b f o (m + 1) (cd + c.length)) (b2 : gi I' 106 m = x) (b3 : gi I' 74 50 = 0) (b4 : gi I' 102 f = ph) (b5 : gi I' 103 f = bg) (b6 : ∀ w hi, RK I1 I' f m w hi) (b7 : ∀ i, encR I' i = encR I1 i) (b8 : Fr [] [(74, 7)] J J') : RNx I I' J J' T n p b f o m cd c x ph bg := ⟨b1, b2, b3, b4, b5, a1.tr (b6 (1600 * b + cd) (1600 * b + 1600)) (Nat.le_refl _) (Nat.le_refl _) (Nat.le_refl _), cds_congr (fun i _ _ => (b7 i).symm) a2, b8⟩
set_option maxHeartbeats 1000000 in
theorem L_bin {k : Nat} {P : Option Nat} {I : Nat → Nat → Int32} {J : Nat → Nat → Int64} {Q : Option AV → Mem → Prop} {T : Nat → Int} {n p b f o m cd : Nat} {least : Int} {c : List Int} (hk : 12 ≤ k) (hX : TX T n) (hb2 : b < 2) (hf : f ≤ o) (ho : o ≤ 7) (hm : m ≤ 60) (h : RA I J T n p b f o m cd least c) (hc : ctx I f m least) (hph : gi I 102 f < 2) (hop : (least = 6 ∧ pOp T n p) ∨ (least = 5 ∧ sOp T n p)) (hQ : ∀ I' J', RNx I I' J J' T n p b f o m cd c (opT T n p - 10090) (gi I 102 f) 0 → WP k LAY m_X12_reads 43 [(0, vR (some 74)), (2, vI 1)] [] (mem (P, some 5, some 22) I' J') Q) : WP k LAY m_X12_reads 43 [(0, vR (some 74)), (2, vI 1)] [] (mem (P, some 5, some 22) I J) Q := by
  obtain ⟨hT, h8, h46, h50, h103, hp, hl, h40⟩ := h.cz
  have hop' : 10100 ≤ opT T n p ∧ opT T n p ≤ 10104 := by unfold pOp sOp at hop; omega
  have hk3 : kR T n p = 3 := opT_3 (by omega)
  have hbd : bd T n p = -1 := bd_3 (Or.inl hk3)
  have hs := opT_sgn (T := T) (n := n) (p := p)
  refine rd_go (by omega) h50 (go_sw (by omega) hp hT h8 h46 (by omega) hbd (fun _ _ _ => ?_) (fun _ _ q _ => by omega) (fun _ q _ => by omega) (fun y _ q _ _ => absurd ⟨hph, hop'⟩ q))
  -- the operator's number
  have fin : ∀ I1, RS I1 J T n p b f o m (cd + c.length) → cds (encR I1) (1600 * b + cd) c → RK I I1 f m (1600 * b + cd) (1600 * b + 1600) → (∀ i, gi I1 102 i = gi I 102 i ∧ gi I1 103 i = gi I 103 i) → WP (k - 1) LAY m_X12_goesOn 174 [(0, vR (some 74))] [vI (opT T n p - 10090), vR (some 74)] (mem (P, some 5, some 22) I1 J) (GQ k P Q) := fun I1 a1 a2 a3 a4 => by
    refine g174 (by omega) hX hp (by unfold inR; omega) hm a1 (fun I' J' b1 b2 b3 b4 b5 b6 b7 b8 => GQ.y b1.2.1 (hQ I' J' ?_))
    exact RNx.of a3 a2 b1 b2 b3 (b4.trans (a4 f).1) (b5.trans ((a4 f).2.trans h103)) b6 b7 b8
  have mid : ∀ x, x = least → WP (k - 1) LAY m_X12_goesOn 112 [(0, vR (some 74))] [vI x, vR (some 74)] (mem (P, some 5, some 22) I J) (GQ k P Q) := fun x hx => by
    subst hx
    refine B_X12_goesOn_112 (by omega) (h.join (by omega) hX (by unfold inR; omega) (by omega) hb2 hc hm (by omega) (fun I1 a1 a2 a3 a4 a5 => ⟨_, _, rfl, rfl, ?_⟩))
    dsimp only
    have hT1 := a1.1
    rw [hT1.s 43, hT1.s 45, hT1.s 42, hT1.s 47, hs.1, hs.2.1, hs.2.2.1, hs.2.2.2.1]
    have fi : ∀ y, y = opT T n p - 10090 → WP (k - 1) LAY m_X12_goesOn 174 [(0, vR (some 74))] [vI y, vR (some 74)] (mem (P, some 5, some 22) I1 J) (GQ k P Q) := fun y hy => hy ▸ fin I1 a1 a2 a3 a4
    exact ⟨fun q1 => ⟨fun q2 => ⟨fun q3 => ⟨fun q4 => fi 14 (by omega), fun q => fi 13 (by omega)⟩, fun q => fi 12 (by omega)⟩, fun q => fi 11 (by omega)⟩, fun q => fi 10 (by omega)⟩
  refine B_X12_goesOn_87 (by omega) ?_
  rw [hT.s 43, hT.s 45, hs.1, hs.2.1]
  unfold pOp sOp at hop
  exact ⟨fun q => mid 5 (by omega), fun q1 => ⟨fun q2 => mid 6 (by omega), fun q => mid 5 (by omega)⟩⟩
set_option maxHeartbeats 1000000 in
theorem L_cmp {k : Nat} {P : Option Nat} {I : Nat → Nat → Int32} {J : Nat → Nat → Int64} {Q : Option AV → Mem → Prop} {T : Nat → Int} {n p b f o m cd : Nat} {c : List Int} (hk : 12 ≤ k) (hX : TX T n) (hb2 : b < 2) (hf : f ≤ o) (ho : o ≤ 7) (hm : m ≤ 60) (h : RA I J T n p b f o m cd 5 c) (hc : ctx I f m 5) (hts : gi I 101 f = 1 ∨ gi I 101 f = 5) (hph : gi I 102 f = 0) (hop : tOp T n p) (hQ : ∀ I' J', RNx I I' J J' T n p b f o m cd c (opT T n p - 10090) 1 0 → WP k LAY m_X12_reads 43 [(0, vR (some 74)), (2, vI 1)] [] (mem (P, some 5, some 22) I' J') Q) : WP k LAY m_X12_reads 43 [(0, vR (some 74)), (2, vI 1)] [] (mem (P, some 5, some 22) I J) Q := by
  obtain ⟨hT, h8, h46, h50, h103, hp, hl, h40⟩ := h.cz
  have hop' : 10107 ≤ opT T n p ∧ opT T n p ≤ 10109 := hop
  have hk3 : kR T n p = 3 := opT_3 (by omega)
  have hbd : bd T n p = -1 := bd_3 (Or.inl hk3)
  have hs := opT_sgn (T := T) (n := n) (p := p)
  refine rd_go (by omega) h50 (go_sw (by omega) hp hT h8 h46 (by omega) hbd (fun _ _ q => by omega) (fun _ _ _ _ => ?_) (fun _ q _ => by omega) (fun y _ _ q _ => absurd ⟨hts, hph, hop'⟩ q))
  have fin : ∀ I1, RS I1 J T n p b f o m (cd + c.length) → cds (encR I1) (1600 * b + cd) c → RK I I1 f m (1600 * b + cd) (1600 * b + 1600) → (∀ i, gi I1 102 i = gi I 102 i ∧ gi I1 103 i = gi I 103 i) → WP (k - 1) LAY m_X12_goesOn 264 [(0, vR (some 74)), (1, vI (f : Int))] [vI (opT T n p - 10090), vR (some 74)] (mem (P, some 5, some 22) I1 J) (GQ k P Q) := fun I1 a1 a2 a3 a4 => by
    have h49 := a1.2.2.2.2.2.1
    refine B_X12_goesOn_264 (by omega) ?_
    rw [h49, Int.toNat_natCast, Int.toNat_natCast]
    refine ⟨by omega, by omega, ?_⟩
    have hF : Fr [102, 103, 106] [(74, 49)] I1 (si (si (si I1 106 m (opT T n p - 10090)) 74 49 ((m : Int) + 1)) 102 f 1) := (((Fr.rf _ _ _).up 106 _ _ (Or.inl (by decide))).up 74 49 _ (Or.inr (by decide))).up 102 _ _ (Or.inl (by decide))
    refine push_end (x := opT T n p - 10090) (ph := 1) (bg := 0) (by omega) hX hp a1 hF ?_ (fun i hi => ?_) ?_ (fun i hi => ?_) ?_ ?_ (fun I' J' b1 b2 b3 b4 b5 b6 b7 b8 => GQ.y b1.2.1 (hQ I' J' (RNx.of a3 a2 b1 b2 b3 b4 b5 b6 b7 b8)))
    · rw [gi_cell _ _ _ _ (by decide), gi_si _ _ _ _ _ (by unfold inR; omega), if_pos ⟨rfl, rfl⟩]
      omega
    · rw [gi_cell _ _ _ _ (by decide), gi_cell _ _ _ _ (by decide), gi_idx _ _ _ (by omega)]
    · rw [gi_cell _ _ _ _ (by decide), gi_cell _ _ _ _ (by decide), gi_si _ _ _ _ _ (by unfold inR; omega), if_pos ⟨rfl, rfl⟩]
    · rw [gi_idx _ _ _ (by omega), gi_cell _ _ _ _ (by decide), gi_cell _ _ _ _ (by decide), gi_cell _ _ _ _ (by decide), gi_cell _ _ _ _ (by decide), gi_cell _ _ _ _ (by decide)]
      exact ⟨rfl, rfl⟩
    · rw [gi_si _ _ _ _ _ (by decide), if_pos ⟨rfl, rfl⟩]
    · rw [gi_cell _ _ _ _ (by decide), gi_cell _ _ _ _ (by decide), gi_cell _ _ _ _ (by decide), (a4 f).2, h103]
  refine B_X12_goesOn_228 (by omega) (h.join (by omega) hX (by decide) (by omega) hb2 hc hm (by decide) (fun I1 a1 a2 a3 a4 a5 => ⟨_, _, rfl, rfl, ?_⟩))
  dsimp only
  have hT1 := a1.1
  rw [hT1.s 60, hT1.s 62, hs.2.2.2.2.2.1, hs.2.2.2.2.2.2.1]
  have fi : ∀ y, y = opT T n p - 10090 → WP (k - 1) LAY m_X12_goesOn 264 [(0, vR (some 74)), (1, vI (f : Int))] [vI y, vR (some 74)] (mem (P, some 5, some 22) I1 J) (GQ k P Q) := fun y hy => hy ▸ fin I1 a1 a2 a3 a4
  exact ⟨fun q1 => ⟨fun q2 => fi 19 (by omega), fun q => fi 18 (by omega)⟩, fun q => fi 17 (by omega)⟩
set_option maxHeartbeats 1000000 in
theorem L_ao {k : Nat} {P : Option Nat} {I : Nat → Nat → Int32} {J : Nat → Nat → Int64} {Q : Option AV → Mem → Prop} {T : Nat → Int} {n p b f o m cd : Nat} {least x : Int} {c : List Int} (hk : 12 ≤ k) (hX : TX T n) (hb2 : b < 2) (hf : f ≤ o) (ho : o ≤ 7) (hm : m ≤ 60) (h : RA I J T n p b f o m cd least c) (hc : ctx I f m least) (hts : gi I 101 f = 1 ∨ gi I 101 f = 5) (hph : gi I 102 f ≠ 0) (hbd : bd T n p = -1) (hop : (least = 2 ∧ x = 20 ∧ wd T n p 20) ∨ (least = 1 ∧ x = 21 ∧ wd T n p 19)) (hQ : ∀ I' J', RNx I I' J J' T n p b f o m cd c x 0 1 → WP k LAY m_X12_reads 43 [(0, vR (some 74)), (2, vI 1)] [] (mem (P, some 5, some 22) I' J') Q) : WP k LAY m_X12_reads 43 [(0, vR (some 74)), (2, vI 1)] [] (mem (P, some 5, some 22) I J) Q := by
  obtain ⟨hT, h8, h46, h50, h103, hp, hl, h40⟩ := h.cz
  unfold wd at hop
  have hk1 : kR T n p = 1 := by omega
  have how : ow T n p = 20 ∨ ow T n p = 19 := by omega
  have hno : opT T n p = -1 := by unfold opT; rw [if_neg (by omega)]
  refine rd_go (by omega) h50 (go_sw (by omega) hp hT h8 h46 (by omega) hbd (fun _ q _ => by omega) (fun _ _ q _ => by omega) (fun _ _ _ => ?_) (fun y _ _ _ q => absurd ⟨hts, hk1, how⟩ q))
  have w20 : (gi I 74 3 = 1 ∧ gl J 74 7 = 6385252) ↔ (kR T n p = 1 ∧ ow T n p = 20) := hT.w hp (w := 20) (by decide) (by decide +kernel)
  have fin : ∀ I1, RS I1 J T n p b f o m (cd + c.length) → cds (encR I1) (1600 * b + cd) c → RK I I1 f m (1600 * b + cd) (1600 * b + 1600) → (∀ i, gi I1 102 i = gi I 102 i ∧ gi I1 103 i = gi I 103 i) → WP (k - 1) LAY m_X12_goesOn 372 [(0, vR (some 74)), (1, vI (f : Int))] [vI x, vR (some 74)] (mem (P, some 5, some 22) I1 J) (GQ k P Q) := fun I1 a1 a2 a3 a4 => by
    have h49 := a1.2.2.2.2.2.1
    have iX : inR x := by unfold inR; omega
    refine B_X12_goesOn_372 (by omega) ?_
    rw [h49, Int.toNat_natCast, Int.toNat_natCast]
    refine ⟨by omega, by omega, ?_⟩
    have hF : Fr [102, 103, 106] [(74, 49)] I1 (si (si (si (si I1 106 m x) 74 49 ((m : Int) + 1)) 102 f 0) 103 f 1) := ((((Fr.rf _ _ _).up 106 _ _ (Or.inl (by decide))).up 74 49 _ (Or.inr (by decide))).up 102 _ _ (Or.inl (by decide))).up 103 _ _ (Or.inl (by decide))
    refine push_end (x := x) (ph := 0) (bg := 1) (by omega) hX hp a1 hF ?_ (fun i hi => ?_) ?_ (fun i hi => ?_) ?_ ?_ (fun I' J' b1 b2 b3 b4 b5 b6 b7 b8 => GQ.y b1.2.1 (hQ I' J' (RNx.of a3 a2 b1 b2 b3 b4 b5 b6 b7 b8)))
    · rw [gi_cell _ _ _ _ (by decide), gi_cell _ _ _ _ (by decide), gi_si _ _ _ _ _ (by unfold inR; omega), if_pos ⟨rfl, rfl⟩]
      omega
    · rw [gi_cell _ _ _ _ (by decide), gi_cell _ _ _ _ (by decide), gi_cell _ _ _ _ (by decide), gi_idx _ _ _ (by omega)]
    · rw [gi_cell _ _ _ _ (by decide), gi_cell _ _ _ _ (by decide), gi_cell _ _ _ _ (by decide), gi_si _ _ _ _ _ iX, if_pos ⟨rfl, rfl⟩]
    · refine ⟨?_, ?_⟩
      · rw [gi_cell _ _ _ _ (by decide), gi_idx _ _ _ (by omega), gi_cell _ _ _ _ (by decide), gi_cell _ _ _ _ (by decide)]
      · rw [gi_idx _ _ _ (by omega), gi_cell _ _ _ _ (by decide), gi_cell _ _ _ _ (by decide), gi_cell _ _ _ _ (by decide)]
    · rw [gi_cell _ _ _ _ (by decide), gi_si _ _ _ _ _ (by decide), if_pos ⟨rfl, rfl⟩]
    · rw [gi_si _ _ _ _ _ (by decide), if_pos ⟨rfl, rfl⟩]
  refine B_X12_goesOn_309 (by omega) ⟨by omega, ?_⟩
  rw [Int.toNat_natCast]
  refine ⟨fun _ => ?_, fun q => absurd q hph⟩
  have mid : ∀ (s1 y : Int), s1 = least → (y = 0 ∧ x = 21) ∨ (y = 1 ∧ x = 20) → WP (k - 1) LAY m_X12_goesOn 356 [(0, vR (some 74)), (1, vI (f : Int)), (4, vI y)] [vI s1, vR (some 74)] (mem (P, some 5, some 22) I J) (GQ k P Q) := fun s1 y hs hy => by
    subst hs
    refine B_X12_goesOn_356 (by omega) (h.join (by omega) hX (by unfold inR; omega) (by omega) hb2 hc hm (by omega) (fun I1 a1 a2 a3 a4 a5 => ⟨_, _, rfl, rfl, ?_⟩))
    dsimp only
    rcases hy with ⟨rfl, ex⟩ | ⟨rfl, ex⟩
    · refine ⟨by decide, fun _ => ?_, fun q => absurd rfl q⟩
      have := fin I1 a1 a2 a3 a4
      rwa [ex] at this
    · refine ⟨by decide, fun q => absurd q (by decide), fun _ => ?_⟩
      have := fin I1 a1 a2 a3 a4
      rwa [ex] at this
  refine B_X12_goesOn_327 (by omega) ⟨fun _ => ⟨fun q => ?_, fun q => ?_⟩, fun q => absurd (by omega) q⟩
  · rw [b2i_0 q]
    rw [w20] at q
    exact mid 1 0 (by omega) (Or.inl ⟨rfl, by omega⟩)
  · rw [b2i_1 q]
    rw [w20] at q
    exact mid 2 1 (by omega) (Or.inr ⟨rfl, by omega⟩)
end RJOIN
