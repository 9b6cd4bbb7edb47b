section REFM
/-! ===== the reference begins; what a text told, as both objects tell it ===== -/
set_option maxHeartbeats 1000000 in
theorem S_begin {k : Nat} {P : Option Nat} {I : Nat → Nat → Int32} {J : Nat → Nat → Int64} {Q : Option AV → Mem → Prop} (hQ : ∀ I', Fr [110, 111, 112, 113, 114, 115] [(108, 0), (109, 0), (117, 0), (74, 66)] I I' → gi I' 108 0 = 0 → gi I' 109 0 = 0 → gi I' 117 0 = 0 → gi I' 74 66 = 0 → (∀ c r : Nat, 110 ≤ c → c ≤ 115 → r < 6 → gi I' c r = if c = 113 then -1 else 0) → Q none (mem (P, some 5, some 22) I' J)) : WPm k LAY m_X12_begin [vR (some 74)] (mem (P, some 5, some 22) I J) Q := by
  refine WPm.of k_X12_begin.1 (Nat.le_of_ble_eq_true rfl) (B_X12_begin_0 (by omega) ?_)
  generalize hA : si (si (si (si I 108 0 0) 109 0 0) 117 0 0) 74 66 0 = A
  have hF : Fr [110, 111, 112, 113, 114, 115] [(108, 0), (109, 0), (117, 0), (74, 66)] I A := by
    rw [← hA]
    exact ((((Fr.rf _ _ _).up 108 0 _ (Or.inr (by decide))).up 109 0 _ (Or.inr (by decide))).up 117 0 _ (Or.inr (by decide))).up 74 66 _ (Or.inr (by decide))
  have a1 : gi A 108 0 = 0 := by
    rw [← hA, gi_cell _ _ _ _ (by decide), gi_cell _ _ _ _ (by decide), gi_cell _ _ _ _ (by decide), gi_same _ _ _ (by decide)]
  have a2 : gi A 109 0 = 0 := by
    rw [← hA, gi_cell _ _ _ _ (by decide), gi_cell _ _ _ _ (by decide), gi_same _ _ _ (by decide)]
  have a3 : gi A 117 0 = 0 := by
    rw [← hA, gi_cell _ _ _ _ (by decide), gi_same _ _ _ (by decide)]
  have a4 : gi A 74 66 = 0 := by
    rw [← hA, gi_same _ _ _ (by decide)]
  clear hA
  have loop : ∀ (d n : Nat) (x : Int) (I' : Nat → Nat → Int32), n + d = 6 → x = n → Fr [110, 111, 112, 113, 114, 115] [] A I' → (∀ c r : Nat, 110 ≤ c → c ≤ 115 → r < n → gi I' c r = if c = 113 then -1 else 0) → WP k LAY m_X12_begin 28 [(0, vR (some 74)), (1, vI x)] [] (mem (P, some 5, some 22) I' J) Q := by
    intro d
    induction d with
    | zero =>
      intro n x I' hn hx hF' h
      refine B_X12_begin_28 (by omega) ⟨⟨by omega, by omega⟩, fun _ => ?_, fun t => absurd (show 6 ≤ x by omega) t⟩
      refine hQ I' (hF.tr (hF'.mono (fun _ t => t) (fun _ t => by cases t))) ?_ ?_ ?_ ?_ (fun c r c1 c2 hr => h c r c1 c2 (by omega))
      · rw [hF'.gv 108 0 (by decide) (by simp)]; exact a1
      · rw [hF'.gv 109 0 (by decide) (by simp)]; exact a2
      · rw [hF'.gv 117 0 (by decide) (by simp)]; exact a3
      · rw [hF'.gv 74 66 (by decide) (by simp)]; exact a4
    | succ d ih =>
      intro n x I' hn hx hF' h
      refine B_X12_begin_28 (by omega) ⟨⟨by omega, by omega⟩, fun t => absurd t (by omega), fun _ => ⟨⟨by omega, by omega⟩, ?_⟩⟩
      refine ih (n + 1) _ _ (by omega) (by omega) ((((((hF'.up 110 _ _ (Or.inl (by decide))).up 111 _ _ (Or.inl (by decide))).up 112 _ _ (Or.inl (by decide))).up 113 _ _ (Or.inl (by decide))).up 114 _ _ (Or.inl (by decide))).up 115 _ _ (Or.inl (by decide))) (fun c r c1 c2 hr => ?_)
      have ex : x.toNat = n := by omega
      rw [ex]
      have hc : c = 110 ∨ c = 111 ∨ c = 112 ∨ c = 113 ∨ c = 114 ∨ c = 115 := by omega
      simp only [gi_si _ _ _ _ _ (show inR 0 by decide), gi_si _ _ _ _ _ (show inR (-1) by decide)]
      by_cases e : r = n
      · rcases hc with t | t | t | t | t | t <;> subst t <;> simp [e]
      · have h' := h c r c1 c2 (by omega)
        rcases hc with t | t | t | t | t | t <;> subst t <;> simp [e] <;> simpa using h'
  exact loop 6 0 _ A rfl rfl (Fr.rf _ _ _) (fun c r _ _ hr => absurd hr (by omega))
theorem tr_cg {n n' z z' i : Int} (hn : n = n') (hz : 0 ≤ i → i < n' → z = z') : tr n z i = tr n' z' i := by
  subst hn
  by_cases h : 0 ≤ i ∧ i < n
  · rw [tr_in h, tr_in h]
    exact hz h.1 h.2
  · rw [tr_out h, tr_out h]
theorem LC_big (I : Nat → Nat → Int32) (i : Int) {f : Nat} (hf : f = 0 ∨ (8 ≤ f ∧ f ≤ 19) ∨ 26 ≤ f) : LC I f i = 0 := by
  unfold LC
  split <;> first | omega | rfl
theorem LR_big (I : Nat → Nat → Int32) (i : Int) {f : Nat} (hf : f = 0 ∨ (8 ≤ f ∧ f ≤ 19) ∨ 26 ≤ f) : LR I f i = 0 := by
  unfold LR
  split <;> first | omega | rfl
theorem Lq_big (L : Lt) (i : Int) {f : Nat} (hf : f = 0 ∨ (8 ≤ f ∧ f ≤ 19) ∨ 26 ≤ f) : Lq L f i = 0 := by
  unfold Lq
  split <;> first | omega | rfl
/-- the shelf that is read next, from the one that was written -/
def upS (A I : Nat → Nat → Int32) : Prop := ∀ c k : Nat, 5 ≤ c ∧ c ≤ 18 ∧ c ≠ 12 → gi A c k = gi I (c + 17) k
theorem LC_q {A I : Nat → Nat → Int32} {L : Lt} {N : Nt} {R : Rt} {q : Nat} (hA : upS A I) (hS : SCs I L N R q) (hW : WL L N R) : LC A = Lq L := by
  obtain ⟨s1, s2, s3, s4, s5, s6, s7, -, -, -⟩ := hS
  have hn := hW.1.2.1
  have m : ∀ k, k < 4 → gi A 6 k = L 0 k := fun k hk => (hA 6 k (by decide)).trans (s1 k hk)
  have e1 : ∀ i, LC A 1 i = Lq L 1 i := fun i => tr_cg (m 1 (by decide)) (fun h0 h1 => (hA 8 _ (by decide)).trans (s5 i.toNat (by omega)).1)
  have e2 : ∀ i, LC A 2 i = Lq L 2 i := fun i => tr_cg (m 1 (by decide)) (fun h0 h1 => (hA 9 _ (by decide)).trans (s5 i.toNat (by omega)).2)
  have e3 : ∀ i, LC A 3 i = Lq L 3 i := fun i => tr_cg (m 1 (by decide)) (fun h0 h1 => (hA 10 _ (by decide)).trans (s4 i.toNat (by omega)).1)
  have e4 : ∀ i, LC A 4 i = Lq L 4 i := fun i => tr_cg (m 1 (by decide)) (fun h0 h1 => (hA 11 _ (by decide)).trans (s4 i.toNat (by omega)).2)
  have e5 : ∀ i, LC A 5 i = Lq L 5 i := fun i => tr_cg (m 2 (by decide)) (fun h0 h1 => (hA 13 _ (by decide)).trans (s6 i.toNat (by omega)).1)
  have e6 : ∀ i, LC A 6 i = Lq L 6 i := fun i => tr_cg (m 2 (by decide)) (fun h0 h1 => (hA 14 _ (by decide)).trans (s6 i.toNat (by omega)).2)
  have e7 : ∀ i, LC A 7 i = Lq L 7 i := fun i => tr_cg (m 3 (by decide)) (fun h0 h1 => (hA 15 _ (by decide)).trans (s7 i.toNat (by omega)))
  have e20 : ∀ i, LC A 20 i = Lq L 20 i := fun _ => m 0 (by decide)
  have e21 : ∀ i, LC A 21 i = Lq L 21 i := fun _ => m 1 (by decide)
  have e22 : ∀ i, LC A 22 i = Lq L 22 i := fun _ => m 2 (by decide)
  have e23 : ∀ i, LC A 23 i = Lq L 23 i := fun _ => m 3 (by decide)
  have e24 : ∀ i, LC A 24 i = Lq L 24 i := fun _ => (hA 5 14 (by decide)).trans s2
  have e25 : ∀ i, LC A 25 i = Lq L 25 i := fun _ => (hA 5 15 (by decide)).trans s3
  funext f i
  by_cases hf : f = 0 ∨ (8 ≤ f ∧ f ≤ 19) ∨ 26 ≤ f
  · rw [LC_big A i hf, Lq_big L i hf]
  · have hc : f = 1 ∨ f = 2 ∨ f = 3 ∨ f = 4 ∨ f = 5 ∨ f = 6 ∨ f = 7 ∨ f = 20 ∨ f = 21 ∨ f = 22 ∨ f = 23 ∨ f = 24 ∨ f = 25 := by omega
    rcases hc with rfl | rfl | rfl | rfl | rfl | rfl | rfl | rfl | rfl | rfl | rfl | rfl | rfl
    · exact e1 i
    · exact e2 i
    · exact e3 i
    · exact e4 i
    · exact e5 i
    · exact e6 i
    · exact e7 i
    · exact e20 i
    · exact e21 i
    · exact e22 i
    · exact e23 i
    · exact e24 i
    · exact e25 i
theorem ls_len {l : List Int} (h : l ≠ []) : 0 < l.length := by
  cases l with
  | nil => exact absurd rfl h
  | cons a l => exact Nat.succ_pos _
theorem RC_q {A I : Nat → Nat → Int32} {L : Lt} {N : Nt} {R : Rt} {q : Nat} (hA : upS A I) (hS : SCs I L N R q) (hq : q ≤ 1600) : RC A = Rq R ∧ rgC A := by
  obtain ⟨-, -, -, -, -, -, -, -, s9, -⟩ := hS
  have e16 : gi A 16 = gi I 33 := funext fun k => hA 16 k (by decide)
  have e17 : ∀ ρ, gi A 17 ρ = gi I 34 ρ := fun ρ => hA 17 ρ (by decide)
  have e18 : ∀ ρ, gi A 18 ρ = gi I 35 ρ := fun ρ => hA 18 ρ (by decide)
  constructor
  · funext ρ
    unfold RC Rq
    by_cases hρ : ρ < 3
    · rw [if_pos hρ, e16, e17, e18]
      rcases s9 ρ hρ with ⟨b1, b2⟩ | ⟨b1, a, b2, b3, b4, b5⟩
      · rw [if_neg (fun t => by omega), b1]
      · have hl := ls_len b1
        rw [if_pos ⟨hρ, by omega⟩, b2, b3, Int.toNat_natCast, Int.toNat_natCast, Nat.add_sub_cancel_left]
        exact cds_rng b5
    · rw [if_neg (fun t => hρ t.1), if_neg hρ]
  · intro ρ hρ
    rw [e17, e18]
    rcases s9 ρ hρ with ⟨b1, b2⟩ | ⟨b1, a, b2, b3, b4, b5⟩
    · exact Or.inl (by omega)
    · have hl := ls_len b1
      exact Or.inr ⟨by omega, by omega, by omega⟩
theorem LR_q {I : Nat → Nat → Int32} {J : Nat → Nat → Int64} {b : Nat} {L : Lt} {N : Nt} {R : Rt} {cd : Nat} (h13 : gi I 74 13 = (b : Int)) (hS : SRs I J b L N R cd) : LR I = Lq L := by
  obtain ⟨⟨m0, m1, m2, m3, m4, m5⟩, s5, s6, s7, -, -, -⟩ := hS
  have ix : ∀ (w : Nat) (i : Int), 0 ≤ i → ((w : Int) * (b : Int) + i).toNat = w * b + i.toNat := fun w i hi => by
    have e : (w : Int) * (b : Int) = ((w * b : Nat) : Int) := by rw [Int.natCast_mul]
    rw [e]
    omega
  have hb : gi I 74 13 = (b : Int) := h13
  have x14 : ∀ i : Int, 0 ≤ i → ((14 * gi I 74 13) + i).toNat = 14 * b + i.toNat := fun i hi => by rw [hb]; exact ix 14 i hi
  have x6 : ∀ i : Int, 0 ≤ i → ((6 * gi I 74 13) + i).toNat = 6 * b + i.toNat := fun i hi => by rw [hb]; exact ix 6 i hi
  have x5 : ∀ i : Int, 0 ≤ i → ((5 * gi I 74 13) + i).toNat = 5 * b + i.toNat := fun i hi => by rw [hb]; exact ix 5 i hi
  have bt : (gi I 74 13).toNat = b := by rw [hb, Int.toNat_natCast]
  have n77 : gi I 77 (gi I 74 13).toNat = L 0 1 := by rw [bt]; exact m1
  have n83 : gi I 83 (gi I 74 13).toNat = L 0 2 := by rw [bt]; exact m2
  have n86 : gi I 86 (gi I 74 13).toNat = L 0 3 := by rw [bt]; exact m3
  have e1 : ∀ i, LR I 1 i = Lq L 1 i := fun i => tr_cg n77 (fun h0 h1 => by rw [x14 i h0]; exact (s5 i.toNat (by omega)).1)
  have e2 : ∀ i, LR I 2 i = Lq L 2 i := fun i => tr_cg n77 (fun h0 h1 => by rw [x14 i h0]; exact (s5 i.toNat (by omega)).2.1)
  have e3 : ∀ i, LR I 3 i = Lq L 3 i := fun i => tr_cg n77 (fun h0 h1 => by rw [x14 i h0]; exact (s5 i.toNat (by omega)).2.2.1)
  have e4 : ∀ i, LR I 4 i = Lq L 4 i := fun i => tr_cg n77 (fun h0 h1 => by rw [x14 i h0]; exact (s5 i.toNat (by omega)).2.2.2)
  have e5 : ∀ i, LR I 5 i = Lq L 5 i := fun i => tr_cg n83 (fun h0 h1 => by rw [x6 i h0]; exact (s6 i.toNat (by omega)).1)
  have e6 : ∀ i, LR I 6 i = Lq L 6 i := fun i => tr_cg n83 (fun h0 h1 => by rw [x6 i h0]; exact (s6 i.toNat (by omega)).2)
  have e7 : ∀ i, LR I 7 i = Lq L 7 i := fun i => tr_cg n86 (fun h0 h1 => by rw [x5 i h0]; exact s7 i.toNat (by omega))
  have e20 : ∀ i, LR I 20 i = Lq L 20 i := fun _ => by
    show gi I 76 (gi I 74 13).toNat = L 0 0
    rw [bt]; exact m0
  have e21 : ∀ i, LR I 21 i = Lq L 21 i := fun _ => n77
  have e22 : ∀ i, LR I 22 i = Lq L 22 i := fun _ => n83
  have e23 : ∀ i, LR I 23 i = Lq L 23 i := fun _ => n86
  have e24 : ∀ i, LR I 24 i = Lq L 24 i := fun _ => by
    show gi I 82 (gi I 74 13).toNat = L 0 4
    rw [bt]; exact m4
  have e25 : ∀ i, LR I 25 i = Lq L 25 i := fun _ => by
    show gi I 88 (gi I 74 13).toNat = L 0 5
    rw [bt]; exact m5
  funext f i
  by_cases hf : f = 0 ∨ (8 ≤ f ∧ f ≤ 19) ∨ 26 ≤ f
  · rw [LR_big I i hf, Lq_big L i hf]
  · have hc : f = 1 ∨ f = 2 ∨ f = 3 ∨ f = 4 ∨ f = 5 ∨ f = 6 ∨ f = 7 ∨ f = 20 ∨ f = 21 ∨ f = 22 ∨ f = 23 ∨ f = 24 ∨ f = 25 := by omega
    rcases hc with rfl | rfl | rfl | rfl | rfl | rfl | rfl | rfl | rfl | rfl | rfl | rfl | rfl
    · exact e1 i
    · exact e2 i
    · exact e3 i
    · exact e4 i
    · exact e5 i
    · exact e6 i
    · exact e7 i
    · exact e20 i
    · exact e21 i
    · exact e22 i
    · exact e23 i
    · exact e24 i
    · exact e25 i
theorem RR_q {I : Nat → Nat → Int32} {J : Nat → Nat → Int64} {b : Nat} {L : Lt} {N : Nt} {R : Rt} {cd : Nat} (h13 : gi I 74 13 = (b : Int)) (hS : SRs I J b L N R cd) (hcd : cd ≤ 1600) : RR I = Rq R ∧ rgR I := by
  obtain ⟨-, -, -, -, -, s9, -⟩ := hS
  have bt : (gi I 74 13).toNat = b := by rw [h13, Int.toNat_natCast]
  constructor
  · funext ρ
    unfold RR Rq
    by_cases hρ : ρ < 3
    · rw [if_pos hρ, bt, h13]
      rcases s9 ρ hρ with ⟨b1, b2⟩ | ⟨b1, a, b2, b3, b4, b5⟩
      · rw [if_neg (fun t => t.2 b2), b1]
      · rw [if_pos ⟨hρ, by omega⟩, b2, b3, Int.toNat_natCast, Int.toNat_natCast, Nat.add_sub_cancel_left, show ((1600 * (b : Int)) + (a : Int)).toNat = 1600 * b + a by omega]
        exact cds_rng b5
    · rw [if_neg (fun t => hρ t.1), if_neg hρ]
  · intro ρ hρ
    rw [bt]
    rcases s9 ρ hρ with ⟨b1, b2⟩ | ⟨b1, a, b2, b3, b4, b5⟩
    · exact Or.inl b2
    · have hl := ls_len b1
      exact Or.inr ⟨by omega, by omega, by omega⟩
theorem nmS_q {A I : Nat → Nat → Int32} {J : Nat → Nat → Int64} {F : Nat → Nat → Int32} {b : Nat} {L : Lt} {N : Nt} {R : Rt} {q cd : Nat} (hA : upS F A) (hS : SCs A L N R q) (hR : SRs I J b L N R cd) (hW : WL L N R) (h13 : gi F 74 13 = (b : Int)) : V_nm F J := by
  obtain ⟨s1, -, -, -, -, -, -, s8, -, -⟩ := hS
  obtain ⟨-, -, -, -, r8, -, -⟩ := hR
  have hN := hW.2.2.2.2.2.1
  intro x w x0 x3 w0 w1
  have hx4 : x.toNat < 4 := by omega
  have n0 : gi F 6 x.toNat = L 0 x.toNat := (hA 6 _ (by decide)).trans (s1 _ hx4)
  have wl : (w.toNat : Int) < L 0 x.toNat := by omega
  have hs := s8 x.toNat w.toNat hx4 wl
  have hr := r8 x.toNat w.toNat hx4 wl
  refine ⟨N x.toNat w.toNat, hN _ _ hx4 wl, fun k hk => ?_, ?_⟩
  · have e : ((((firstN.getD (x).toNat 0) + w) * 6) + (k : Int)).toNat = (fNm x.toNat + w.toNat) * 6 + k := by
      have hx : x = 0 ∨ x = 1 ∨ x = 2 ∨ x = 3 := by omega
      rcases hx with t | t | t | t <;> subst t
      · show (((0 + w) * 6) + (k : Int)).toNat = (0 + w.toNat) * 6 + k
        omega
      · show (((5 + w) * 6) + (k : Int)).toNat = (5 + w.toNat) * 6 + k
        omega
      · show (((19 + w) * 6) + (k : Int)).toNat = (19 + w.toNat) * 6 + k
        omega
      · show (((25 + w) * 6) + (k : Int)).toNat = (25 + w.toNat) * 6 + k
        omega
    rw [e]
    exact (hA 7 _ (by decide)).trans (hs k hk)
  · rw [← hr]
    unfold nmR nmb
    rw [h13]
    have hx : x = 0 ∨ x = 1 ∨ x = 2 ∨ x = 3 := by omega
    rcases hx with t | t | t | t <;> subst t
    · show gl J 97 ((5 * (b : Int)) + w).toNat = gl J 97 (5 * b + w.toNat)
      congr 1; omega
    · show gl J 98 ((14 * (b : Int)) + w).toNat = gl J 98 (14 * b + w.toNat)
      congr 1; omega
    · show gl J 99 ((6 * (b : Int)) + w).toNat = gl J 99 (6 * b + w.toNat)
      congr 1; omega
    · show gl J 100 ((5 * (b : Int)) + w).toNat = gl J 100 (5 * b + w.toNat)
      congr 1; omega
/-! the readers as they begin -/
def H0 (H : Hl) (n : Int) : Prop := H 8 0 = 0 ∧ H 9 0 = 0 ∧ ∀ r, 0 ≤ r → r < n → H 1 r = 0 ∧ H 2 r = 0 ∧ H 3 r = 0 ∧ H 4 r = -1 ∧ H 5 r = 0 ∧ H 6 r = 0
theorem H0.wf {L : Lb} {H : Hl} (hL : WfL L) (h : H0 H (nR L)) : WfH L H := by
  obtain ⟨h8, h9, h⟩ := h
  refine ⟨by omega, by omega, fun r r0 r1 => ?_⟩
  obtain ⟨e1, e2, e3, e4, e5, e6⟩ := h r r0 r1
  have ht : 0 < nT L := hL.2.2.2.2.2.2.1 (by omega)
  have hp := Nat.two_pow_pos (nP L).toNat
  exact WfO.of (l := fun _ => 0) ⟨⟨Int.le_refl _, ht⟩, ⟨Int.le_refl _, hp⟩, ⟨Int.le_refl _, hp⟩, rfl, ⟨Int.le_refl _, by decide⟩, fun k k0 k1 => absurd k1 (by omega), Or.inl ⟨rfl, rfl⟩⟩ e1 e2 e3 e4 e5 e6 (fun k k0 k1 => absurd k1 (by omega))
theorem rw0_v {r : Int} (h0 : 0 ≤ r) (h6 : r < 6) {c : Int} (c0 : 0 ≤ c) (c6 : c < 14) : rw0 ((3 + (r * 14)) + c).toNat = if c = 3 then -1 else 0 := by
  unfold rw0
  by_cases e : c = 3
  · rw [if_pos e, if_pos ⟨by omega, by omega⟩]
  · rw [if_neg e, if_neg (by omega)]
theorem HC_0 {F : Nat → Nat → Int32} {n : Int} (hn : gi F 6 2 = n) (h6 : n ≤ 6) (h19 : ∀ i : Nat, i < 87 → gi F 19 i = rw0 i) : H0 (HC F) n := by
  refine ⟨(h19 0 (by decide)).trans (by decide), (h19 1 (by decide)).trans (by decide), fun r r0 r1 => ?_⟩
  obtain ⟨v1, v2, v3, v4, v5, v6⟩ := hc_f F (i := r) (by rw [hn]; exact ⟨r0, r1⟩)
  rw [v1, v2, v3, v4, v5, v6, h19 _ (by omega), h19 _ (by omega), h19 _ (by omega), h19 _ (by omega), h19 _ (by omega), h19 _ (by omega), rw0_v r0 (by omega) (by decide) (by decide), rw0_v r0 (by omega) (by decide) (by decide), rw0_v r0 (by omega) (by decide) (by decide), rw0_v r0 (by omega) (by decide) (by decide), rw0_v r0 (by omega) (by decide) (by decide), rw0_v r0 (by omega) (by decide) (by decide)]
  exact ⟨rfl, rfl, rfl, rfl, rfl, rfl⟩
theorem HR_0 {F : Nat → Nat → Int32} {n : Int} (hn : gi F 6 2 = n) (hn' : gi F 83 (gi F 74 13).toNat = n) (h6 : n ≤ 6) (h19 : ∀ i : Nat, i < 87 → gi F 19 i = rw0 i) (h8 : gi F 108 0 = 0) (h9 : gi F 109 0 = 0) (hr : ∀ c r : Nat, 110 ≤ c → c ≤ 115 → (r : Int) < n → gi F c r = if c = 113 then -1 else 0) : HR F 0 = HC F := by
  refine recs_eq hn hn' (fun x x0 x1 => ?_) (h8.trans ((h19 0 (by decide)).trans (by decide)).symm) (h9.trans ((h19 1 (by decide)).trans (by decide)).symm)
  have e : ∀ c : Int, 0 ≤ c → c < 14 → gi F 19 ((3 + (x * 14)) + c).toNat = if c = 3 then -1 else 0 := fun c c0 c1 => (h19 _ (by omega)).trans (rw0_v x0 (by omega) c0 c1)
  refine ⟨?_, ?_, ?_, ?_, ?_, ?_, fun k k0 k1 => ?_⟩
  · rw [e 0 (by decide) (by decide), hr 110 _ (by decide) (by decide) (by omega)]; rfl
  · rw [e 1 (by decide) (by decide), hr 111 _ (by decide) (by decide) (by omega)]; rfl
  · rw [e 2 (by decide) (by decide), hr 112 _ (by decide) (by decide) (by omega)]; rfl
  · rw [e 3 (by decide) (by decide), hr 113 _ (by decide) (by decide) (by omega)]; rfl
  · rw [e 4 (by decide) (by decide), hr 114 _ (by decide) (by decide) (by omega)]; rfl
  · rw [e 5 (by decide) (by decide), hr 115 _ (by decide) (by decide) (by omega)]; rfl
  · rw [e 5 (by decide) (by decide)] at k1
    exact absurd k1 (by rw [if_neg (by decide)]; omega)
/-- nothing has been kept, nothing can be undone -/
theorem VH_new {F : Nat → Nat → Int32} {L : Lb} {R : Rl} (hC : LC F = L) (hRC : RC F = R) (hg : rgC F) (hLR : LR F = L) (hRR : RR F = R) (hgR : rgR F) (hb : 0 ≤ gi F 74 13 ∧ gi F 74 13 < 2) (hL : WfL L) (hR : WfR R) (h19 : ∀ i : Nat, i < 87 → gi F 19 i = rw0 i) (h8 : gi F 108 0 = 0) (h9 : gi F 109 0 = 0) (h117 : gi F 117 0 = 0) (hr : ∀ c r : Nat, 110 ≤ c → c ≤ 115 → (r : Int) < nR L → gi F c r = if c = 113 then -1 else 0) (h72 : gi F 74 72 = -1) (h73 : gi F 74 73 = -1) (h44 : gi F 4 4 = 0) (h45 : gi F 4 5 = 0) (h66 : gi F 74 66 = 0) (h65 : 0 ≤ gi F 74 65 ∧ gi F 74 65 < 20) : VH F := by
  have h6 := hL.2.2.1
  have n1 : gi F 6 2 = nR L := by rw [← hC]; rfl
  have n2 : gi F 83 (gi F 74 13).toNat = nR L := by rw [← hLR]; rfl
  have hH : WfH L (HC F) := H0.wf hL (HC_0 n1 h6.2 h19)
  have e2 : gi F 19 2 = 0 := (h19 2 (by decide)).trans (by decide)
  refine ⟨⟨?_, ?_, h72, h73⟩, ?_, ?_, ?_⟩
  · rw [hC, hRC]
    exact ⟨⟨hC, hRC, hg, hL, hR⟩, rfl, hH⟩
  · rw [hC, hRC]
    exact ⟨⟨hLR, hRR, hgR, hb, hL, hR⟩, HR_0 n1 n2 h6.2 h19 h8 h9 hr, hH, by decide⟩
  · refine ⟨by rw [h44]; decide, h65, by rw [h45]; decide, by rw [h66, h45], fun j j0 j1 => ?_, fun i j i0 ij j1 => ?_⟩
    · rw [h45] at j1; omega
    · rw [h45] at j1; omega
  · rw [e2]
    exact ⟨by decide, h117, fun k k0 k1 => absurd k1 (by omega)⟩
  · rw [e2, hC]
    have h := smi_bd (n := (nR L).toNat) (f := fun r : Nat => ((pop (HC F 2 (r : Int)).toNat : Nat) : Int)) (b := 14) (by decide) (fun i _ => ⟨Int.natCast_nonneg _, by
      have := pop_le (HC F 2 (i : Int)).toNat
      show ((pop (HC F 2 (i : Int)).toNat : Nat) : Int) ≤ 14
      omega⟩)
    exact h.1
end REFM
