section RRULE
/-! ===== the reference: a rule ===== -/
set_option maxHeartbeats 1000000 in
/-- the outermost frame's end; what is refused, only at a bad token -/
theorem L_topb {k : Nat} {P : Option Nat} {I : Nat → Nat → Int32} {J : Nat → Nat → Int64} {Q : Option AV → Mem → Prop} {T : Nat → Int} {n p b f o m cd : Nat} {lo : Int} {c : List Int} (hk : 12 ≤ k) (hX : TX T n) (hb2 : b < 2) (hf : f ≤ o) (ho : o ≤ 7) (hm : m ≤ 60) (hlo : 1 ≤ lo) (h : RA I J T n p b f o m cd lo c) (hc : ctx I f m 1) (hn : bd T n p = -1 → nogo I T n p f) (hkd : gi I 101 f = 0 ∨ gi I 101 f = 1 ∧ gi I 102 f ≠ 0) (w hi : Nat) (hQ : bd T n p ≠ -1 → ∀ I', RE I I' J J w hi (1, pl T n p) → Q none (mem (P, some 5, some 22) I' J)) (hG : bd T n p = -1 → ∀ I', RS I' J T n p b f o m (cd + c.length) → cds (encR I') (1600 * b + cd) c → RK I I' f m (1600 * b + cd) (1600 * b + 1600) → Q none (mem (P, some 5, some 22) I' J)) : WP k LAY m_X12_reads 43 [(0, vR (some 74)), (2, vI 1)] [] (mem (P, some 5, some 22) I J) Q := by
  by_cases hb : bd T n p = -1
  · obtain ⟨hT, h8, h46, h50, h103, hp, hl, h40⟩ := h.cz
    refine rd_go (by omega) h50 ?_
    refine go_400 (by omega) hp hT h8 h46 (by omega) hb (hn hb) (fun y hy => ?_)
    have jn : WPm (k - 1 - 1) LAY m_X12_joins [vR (some 74), vI 1] (mem (P, some 5, some 22) I J) (retV (fun I80 J81 => WP (k - 1) LAY m_X12_goesOn 439 [] [] (mem (P, some 5, some 22) I80 J81) (GQ k P Q)) (P, some 5, some 22)) := (h.lo hlo).join (by omega) hX (by decide) (by omega) hb2 hc hm (by decide) (fun I1 a1 a2 a3 a4 a5 => ⟨_, _, rfl, rfl, g439 (GQ.n (by omega) (hG hb I1 a1 a2 a3))⟩)
    generalize hkd' : gi I 101 f = kd at *
    refine B_X12_goesOn_400 (by omega) ⟨by unfold inR; omega, fun hy0 => ⟨by unfold inR; omega, fun q => by omega, fun _ => ⟨fun q => absurd h8 q, fun _ => jn⟩⟩, fun hy1 => ⟨by omega, ?_⟩⟩
    rw [Int.toNat_natCast]
    exact ⟨fun _ => ⟨by unfold inR; omega, fun q => by omega, fun _ => ⟨fun q => absurd h8 q, fun _ => jn⟩⟩, fun q => by omega⟩
  · exact L_top hk hX hb2 hf ho hm hlo h hc hn hkd w hi (hQ hb) hG
theorem nogo_f {I : Nat → Nat → Int32} {T : Nat → Int} {n p : Nat} (h1 : gi I 101 0 = 0) (h : fS T n p) : nogo I T n p 0 := by
  have h2 := h.1
  have h3 := h.2
  unfold pOp at h2
  unfold sOp at h3
  exact ⟨fun t => by omega, fun t => by omega, fun t => by omega⟩
theorem nogo_t {I : Nat → Nat → Int32} {T : Nat → Int} {n p : Nat} (hb : bd T n p = -1) (hp : (gi I 102 0 = 1 ∧ ¬ pOp T n p ∧ ¬ sOp T n p) ∨ gi I 102 0 = 2) (h : fO T n p) : nogo I T n p 0 := by
  refine ⟨fun t => ?_, fun t => by omega, fun t => ?_⟩
  · rcases hp with ⟨h1, h2, h3⟩ | h1
    · unfold pOp at h2
      unfold sOp at h3
      omega
    · omega
  · rcases t.2.2 with e | e
    · exact h.1 ⟨hb, t.2.1, e⟩
    · exact h.2 ⟨hb, t.2.1, e⟩
theorem SRs.rule {I I' : Nat → Nat → Int32} {J J' : Nat → Nat → Int64} {b : Nat} {L : Lt} {N : Nt} {R : Rt} {cd ρ : Nat} {c : List Int} (hS : SRs I J b L N R cd) (hne : c ≠ []) (ho : ∀ c k, 76 ≤ c → c ≤ 88 → gi I' c k = gi I c k) (h89 : ∀ c, 89 ≤ c → c ≤ 94 → c ≠ 89 + 2 * ρ → c ≠ 90 + 2 * ρ → gi I' c b = gi I c b) (ha : gi I' (89 + 2 * ρ) b = (cd : Int)) (hz : gi I' (90 + 2 * ρ) b = ((cd + c.length : Nat) : Int)) (hc : cds (encR I') (1600 * b + cd) c) (hl : ∀ i, i < 1600 * b + cd → gi I' 95 i = gi I 95 i ∧ gi I' 96 i = gi I 96 i) (h39 : gi I' 74 39 = ((cd + c.length : Nat) : Int)) (hJ : ∀ k i, nmb J' b k i = nmb J b k i) : SRs I' J' b L N (putR R ρ c) (cd + c.length) := by
  obtain ⟨⟨t1, t2, t3, t4, t5, t6⟩, t7, t8, t9, t10, t11, t12⟩ := hS
  refine ⟨⟨?_, ?_, ?_, ?_, ?_, ?_⟩, fun i hi => ?_, fun i hi => ?_, fun i hi => ?_, fun s i hs hi => ?_, fun ρ' hρ' => ?_, h39⟩
  · rw [ho _ _ (by decide) (by decide)]; exact t1
  · rw [ho _ _ (by decide) (by decide)]; exact t2
  · rw [ho _ _ (by decide) (by decide)]; exact t3
  · rw [ho _ _ (by decide) (by decide)]; exact t4
  · rw [ho _ _ (by decide) (by decide)]; exact t5
  · rw [ho _ _ (by decide) (by decide)]; exact t6
  · rw [ho _ _ (by decide) (by decide), ho _ _ (by decide) (by decide), ho _ _ (by decide) (by decide), ho _ _ (by decide) (by decide)]; exact t7 i hi
  · rw [ho _ _ (by decide) (by decide), ho _ _ (by decide) (by decide)]; exact t8 i hi
  · rw [ho _ _ (by decide) (by decide)]; exact t9 i hi
  · rw [hJ]; exact t10 s i hs hi
  · by_cases e : ρ' = ρ
    · subst e
      have ep : putR R ρ' c ρ' = c := if_pos rfl
      rw [ep]
      exact Or.inr ⟨hne, cd, ha, hz, Nat.le_refl _, hc⟩
    · have ep : putR R ρ c ρ' = R ρ' := if_neg e
      rw [ep]
      rcases t11 ρ' hρ' with ⟨d1, d2⟩ | ⟨d1, a, d2, d3, d4, d5⟩
      · exact Or.inl ⟨d1, by rw [h89 _ (by omega) (by omega) (by omega) (by omega)]; exact d2⟩
      · refine Or.inr ⟨d1, a, by rw [h89 _ (by omega) (by omega) (by omega) (by omega)]; exact d2, by rw [h89 _ (by omega) (by omega) (by omega) (by omega)]; exact d3, by omega, cds_congr (fun i _ y => ?_) d5⟩
        unfold encR
        have q := hl i (by omega)
        rw [q.1, q.2]
set_option maxHeartbeats 2000000 in
theorem R_rule1 {k ρ : Nat} {P : Option Nat} {I I1 : Nat → Nat → Int32} {J J1 : Nat → Nat → Int64} {Q : Option AV → Mem → Prop} {tst g : Bool} {bud dep : Nat} {cx lo x : Int} {fol : Nat → Prop} {T : Nat → Int} {n p b cd : Nat} {L : Lt} {N : Nt} {R : Rt} {r : Res} (hk : 20 ≤ k) (hX : TX T n) (hp : p ≤ n) (hb2 : b < 2) (hρ : ρ < 3) (hx : x = if tst then 1 else 0) (hlo : 1 ≤ lo) (hfol : ∀ q, fol q → if tst then fO T n q else fS T n q) (hr : RN tst bud cx lo T n 0 p r) (hgd : gdx g dep n p fol r) (hT : RT I1 J1 T n p) (h8 : gi I1 74 8 = 0) (h40 : gi I1 74 40 = (b : Int)) (hS : SRs I1 J1 b L N R cd) (hcd : cd ≤ p) (hB : FrB b I I1) (hJ : FrJ b J J1) (hQ : RSo I J Q P T n b (ruleR L N R ρ r)) : WPm k LAY m_X12_reads [vR (some 74), vI x] (mem (P, some 5, some 22) (si I1 (89 + 2 * ρ) b (gi I1 74 39)) J1) (retV (fun I8 J9 => (0 ≤ gi I8 74 40 ∧ gi I8 74 40 < 2) ∧ Q none (mem (P, some 5, some 22) (si I8 (90 + 2 * ρ) (gi I8 74 40).toNat (gi I8 74 39)) J9)) (P, some 5, some 22)) := by
  have hn := hX.1
  have h39 : gi I1 74 39 = (cd : Int) := hS.2.2.2.2.2.2
  generalize hS0 : si I1 (89 + 2 * ρ) b (gi I1 74 39) = S0
  have hF0 : Fr [89 + 2 * ρ] [] I1 S0 := by
    rw [← hS0]
    exact (Fr.rf _ _ _).up _ _ _ (Or.inl (List.mem_singleton.mpr rfl))
  have g89 : gi S0 (89 + 2 * ρ) b = (cd : Int) := by
    rw [← hS0, gi_si _ _ _ _ _ (gi_in _ _ _), if_pos ⟨rfl, rfl⟩, h39]
  have g89o : ∀ c j, (c ≠ 89 + 2 * ρ ∨ j ≠ b) → gi S0 c j = gi I1 c j := fun c j hcj => by
    rw [← hS0, gi_si _ _ _ _ _ (gi_in _ _ _), if_neg (fun t => hcj.elim (fun q => q t.1) (fun q => q t.2))]
  have hB0 : FrB b I1 S0 := by
    rw [← hS0]
    exact (FrB.rf b I1).up _ b _ (Or.inl (by unfold inb; omega))
  have e8 : gi S0 74 8 = 0 := by rw [g89o _ _ (Or.inl (by omega))]; exact h8
  generalize hA : si (si (si (si S0 74 46 0) 74 47 0) 74 49 0) 74 50 0 = A
  have hFA : Fr [] [(74, 46), (74, 47), (74, 49), (74, 50)] S0 A := by
    rw [← hA]
    exact ((((Fr.rf _ _ _).up 74 46 _ (Or.inr (by decide))).up 74 47 _ (Or.inr (by decide))).up 74 49 _ (Or.inr (by decide))).up 74 50 _ (Or.inr (by decide))
  have a46 : gi A 74 46 = 0 := by
    rw [← hA, gi_idx _ _ _ (by decide), gi_idx _ _ _ (by decide), gi_idx _ _ _ (by decide), gi_si _ _ _ _ _ (by decide), if_pos ⟨rfl, rfl⟩]
  have a47 : gi A 74 47 = 0 := by
    rw [← hA, gi_idx _ _ _ (by decide), gi_idx _ _ _ (by decide), gi_si _ _ _ _ _ (by decide), if_pos ⟨rfl, rfl⟩]
  have a49 : gi A 74 49 = 0 := by
    rw [← hA, gi_idx _ _ _ (by decide), gi_si _ _ _ _ _ (by decide), if_pos ⟨rfl, rfl⟩]
  have a50 : gi A 74 50 = 0 := by
    rw [← hA, gi_si _ _ _ _ _ (by decide), if_pos ⟨rfl, rfl⟩]
  have main : ∀ M, Fr [101, 102, 103, 105] [(74, 46)] A M → gi M 101 0 = x → gi M 102 0 = 0 → gi M 103 0 = 1 → gi M 105 0 = 0 → gi M 74 46 = 1 → WP k LAY m_X12_reads 43 [(0, vR (some 74)), (2, vI 1)] [] (mem (P, some 5, some 22) M J1) (retV (fun I8 J9 => (0 ≤ gi I8 74 40 ∧ gi I8 74 40 < 2) ∧ Q none (mem (P, some 5, some 22) (si I8 (90 + 2 * ρ) (gi I8 74 40).toNat (gi I8 74 39)) J9)) (P, some 5, some 22)) := by
    intro M hM m1 m2 m3 m5 m46
    have hSM : Fr [101, 102, 103, 105] [(74, 46), (74, 47), (74, 49), (74, 50)] S0 M := (hFA.mono (fun _ t => by cases t) (fun q hq => Or.inl hq)).tr (hM.mono (fun _ t => t) (fun q hq => Or.inl (by
      simp only [List.mem_cons, List.not_mem_nil, or_false] at hq ⊢
      exact Or.inl hq)))
    have hKM : RKe S0 M (1600 * b + cd) (1600 * b + 1600) := ⟨hSM.mono (fun c t => by
      simp only [List.mem_cons, List.not_mem_nil, or_false] at t ⊢
      omega) (fun q hq => Or.inl (by
      simp only [List.mem_cons, List.not_mem_nil, or_false] at hq ⊢
      rcases hq with e | e | e | e <;> subst e <;> simp)), fun i _ => ⟨hSM.gvc i (by decide) (by decide), hSM.gvc i (by decide) (by decide)⟩⟩
    have hTM : RT M J1 T n p := (hT.fr (J' := J1) hF0 (by simp; omega) (by decide) rfl).fr hSM (by decide) (by decide) rfl
    have s8 : gi M 74 8 = 0 := by rw [hSM.gv 74 8 (by decide) (by decide)]; exact e8
    have s40 : gi M 74 40 = (b : Int) := by rw [hSM.gv 74 40 (by decide) (by decide), g89o _ _ (Or.inl (by omega))]; exact h40
    have s39 : gi M 74 39 = (cd : Int) := by rw [hSM.gv 74 39 (by decide) (by decide), g89o _ _ (Or.inl (by omega))]; exact h39
    have s47 : gi M 74 47 = 0 := by rw [hM.gv 74 47 (by decide) (by decide)]; exact a47
    have s49 : gi M 74 49 = 0 := by rw [hM.gv 74 49 (by decide) (by decide)]; exact a49
    have s50 : gi M 74 50 = 0 := by rw [hM.gv 74 50 (by decide) (by decide)]; exact a50
    have hRS : RS M J1 T n p b 0 0 0 cd := ⟨hTM, s8, s40, m46, s47, s49, s39⟩
    have hctx : ∀ (I2 : Nat → Nat → Int32) (y : Int), gi I2 105 0 = 0 → ctx I2 0 0 y := fun I2 y e => ⟨by omega, by rw [e]; decide, Or.inl e⟩
    have hRG : RG M J1 T n p b 0 0 0 cd bud cx := ⟨hRS, s50, hb2, Nat.le_refl _, by decide, by omega, by omega, hp, hctx M cx m5⟩
    have hfc : fcn M T n p 0 tst := by
      cases tst with
      | false => exact ⟨by omega, Or.inl (by rw [m1, hx]; simp)⟩
      | true => exact ⟨Or.inl (by rw [m1, hx]; rfl), m2, by omega⟩
    have hBM : FrB b I M := (hB.tr hB0).tr (hKM.b (by omega))
    refine hr k P M J1 _ b 0 0 cd (by omega) hRG hfc ?_
    cases r with
    | inl e =>
      intro I' J' hE
      have q40 : gi I' 74 40 = (b : Int) := by rw [hE.1.1.gv 74 40 (by decide) (by decide)]; exact s40
      refine ⟨_, _, rfl, rfl, ?_⟩
      dsimp only
      rw [q40, Int.toNat_natCast]
      have q8 : ∀ j, gi (si I' (90 + 2 * ρ) b (gi I' 74 39)) 74 j = gi I' 74 j := fun j => gi_cell _ _ _ _ (by omega)
      exact ⟨by omega, hQ _ _ ((q8 8).trans hE.2.1) ((q8 9).trans hE.2.2.1) ((hBM.e.tr (hE.1.b (by omega))).up _ b _ (Or.inl (by unfold inb; omega))) (hJ.tr (hE.2.2.2.j b))⟩
    | inr c =>
      intro I2 J2 hA2 hK2 hp2 hJ2
      obtain ⟨z1, z2, z3, z4, z5⟩ := hgd
      have hQ' : RSo I J Q P T n b (.inr ((L, N, putR R ρ c.1), c.2)) := hQ
      have k101 : gi I2 101 0 = x := (hK2.ph).trans m1
      have k105 : gi I2 105 0 = 0 := ((hK2.2.1 0 (Nat.le_refl _)).2.2).trans m5
      have hf5 := hfol _ z5
      have hng : bd T n c.2 = -1 → nogo I2 T n c.2 0 := fun hb => by
        cases tst with
        | false => exact nogo_f (by rw [k101, hx]; rfl) hf5
        | true => exact nogo_t hb hp2 hf5
      have hkd : gi I2 101 0 = 0 ∨ gi I2 101 0 = 1 ∧ gi I2 102 0 ≠ 0 := by
        cases tst with
        | false => exact Or.inl (by rw [k101, hx]; rfl)
        | true =>
          refine Or.inr ⟨by rw [k101, hx]; rfl, ?_⟩
          rcases hp2 with q | q
          · omega
          · omega
      refine L_topb (by omega) hX hb2 (Nat.le_refl _) (by decide) (by decide) hlo hA2 (hctx I2 1 k105) hng hkd (1600 * b + cd) (1600 * b + 1600) (fun hb I3 hE => ?_) (fun hb I3 d1 d2 d3 => ?_)
      · have hE' : RKx M I3 (1600 * b + cd) (1600 * b + 1600) := hK2.1.x.tr hE.1 (Nat.le_refl _)
        have q40 : gi I3 74 40 = (b : Int) := by rw [hE'.1.gv 74 40 (by decide) (by decide)]; exact s40
        refine ⟨_, _, rfl, rfl, ?_⟩
        dsimp only
        rw [q40, Int.toNat_natCast]
        have q8 : ∀ j, gi (si I3 (90 + 2 * ρ) b (gi I3 74 39)) 74 j = gi I3 74 j := fun j => gi_cell _ _ _ _ (by omega)
        exact ⟨by omega, hQ'.2 hb _ _ ((q8 8).trans hE.2.1) ((q8 9).trans hE.2.2.1) ((hBM.e.tr (hE'.b (by omega))).up _ b _ (Or.inl (by unfold inb; omega))) (hJ.tr (hJ2.j b))⟩
      · have hE' : RKe M I3 (1600 * b + cd) (1600 * b + 1600) := hK2.1.tr d3.1 (Nat.le_refl _)
        have hE0 : RKe S0 I3 (1600 * b + cd) (1600 * b + 1600) := hKM.tr hE' (Nat.le_refl _)
        have q40 : gi I3 74 40 = (b : Int) := d1.2.2.1
        have q39 : gi I3 74 39 = ((cd + c.1.length : Nat) : Int) := d1.2.2.2.2.2.2
        refine ⟨_, _, rfl, rfl, ?_⟩
        dsimp only
        rw [q40, Int.toNat_natCast]
        refine ⟨by omega, ?_⟩
        generalize hI4 : si I3 (90 + 2 * ρ) b (gi I3 74 39) = I4
        have hF4 : Fr [90 + 2 * ρ] [] I3 I4 := by
          rw [← hI4]
          exact (Fr.rf _ _ _).up _ _ _ (Or.inl (List.mem_singleton.mpr rfl))
        have o4 : ∀ c j, c ≠ 90 + 2 * ρ → gi I4 c j = gi I3 c j := fun c j hc => by rw [← hI4]; exact gi_cell _ _ _ _ hc
        have oo : ∀ c j, 76 ≤ c → c ≤ 94 → gi I3 c j = gi S0 c j := fun c j y1 y2 => hE0.1.gvc j (fun t => by
          simp only [List.mem_cons, List.not_mem_nil, or_false] at t
          omega) (fun q hq e => by
          simp only [List.mem_cons, List.not_mem_nil, or_false] at hq
          rcases hq with t | t | t | t | t | t | t | t | t | t <;> subst t <;> exact absurd e (by show ¬ (74 = c); omega))
        have hlen : cd + 0 + c.1.length ≤ c.2 := by
          obtain ⟨c1, ps, x1, x2, x3, x4, x5, x6, x7, x8, x9, x10⟩ := hA2
          exact x9
        refine hQ'.1 I4 J2 (cd + c.1.length) (d1.1.fr hF4 (by simp; omega) (by decide) rfl) (by rw [o4 _ _ (by omega)]; exact d1.2.1) ?_ (by show cd + c.1.length ≤ c.2; omega) z2 ((hBM.tr (hE'.b (by omega))).tr (by rw [← hI4]; exact (FrB.rf b I3).up _ b _ (Or.inl (by unfold inb; omega)))) (hJ.tr (hJ2.j b))
        show SRs I4 J2 b L N (putR R ρ c.1) (cd + c.1.length)
        refine hS.rule z3 (fun cc j y1 y2 => by rw [o4 _ _ (by omega), oo _ _ y1 (by omega), g89o _ _ (Or.inl (by omega))]) (fun cc y1 y2 y3 y4 => by rw [o4 _ _ y4, oo _ _ (by omega) y2, g89o _ _ (Or.inl y3)]) (by rw [o4 _ _ (by omega), oo _ _ (by omega) (by omega)]; exact g89) ?_ (cds_congr (fun i _ _ => ?_) d2) (fun i hi => ?_) (by rw [o4 _ _ (by omega)]; exact q39) (fun s i => ?_)
        · rw [← hI4, gi_si _ _ _ _ _ (gi_in _ _ _), if_pos ⟨rfl, rfl⟩, q39]
        · unfold encR
          rw [o4 _ _ (by omega), o4 _ _ (by omega)]
        · have q := hE0.2 i (Or.inl hi)
          rw [o4 _ _ (by omega), o4 _ _ (by omega), q.1, q.2, g89o _ _ (Or.inl (by omega)), g89o _ _ (Or.inl (by omega))]
          exact ⟨rfl, rfl⟩
        · have jl : ∀ c k, 97 ≤ c → gl J2 c k = gl J1 c k := fun c k y1 => hJ2.lv c k (fun t => by cases t) (fun t => by
            simp only [List.mem_cons, List.not_mem_nil, or_false, Prod.mk.injEq] at t
            omega)
          unfold nmb
          rw [jl _ _ (by decide), jl _ _ (by decide), jl _ _ (by decide), jl _ _ (by decide)]
  refine WPm.of k_X12_reads.1 (Nat.le_of_ble_eq_true rfl) (B_X12_reads_0 (by omega) ?_)
  rw [hA, a46, a49]
  have mk : ∀ v : Int, inR v → v = x → WP k LAY m_X12_reads 43 [(0, vR (some 74)), (2, vI 1)] [] (mem (P, some 5, some 22) (si (si (si (si (si A 101 0 v) 102 0 0) 103 0 1) 105 0 0) 74 46 (0 + 1)) J1) (retV (fun I8 J9 => (0 ≤ gi I8 74 40 ∧ gi I8 74 40 < 2) ∧ Q none (mem (P, some 5, some 22) (si I8 (90 + 2 * ρ) (gi I8 74 40).toNat (gi I8 74 39)) J9)) (P, some 5, some 22)) := fun v iv ev => by
    refine main _ (((((Fr.rf _ _ _).up 101 _ _ (Or.inl (by decide))).up 102 _ _ (Or.inl (by decide))).up 103 _ _ (Or.inl (by decide))).up 105 _ _ (Or.inl (by decide)) |>.up 74 46 _ (Or.inr (by decide))) ?_ ?_ ?_ ?_ ?_
    · rw [gi_cell _ _ _ _ (by decide), gi_cell _ _ _ _ (by decide), gi_cell _ _ _ _ (by decide), gi_cell _ _ _ _ (by decide), gi_si _ _ _ _ _ iv, if_pos ⟨rfl, rfl⟩]
      exact ev
    · rw [gi_cell _ _ _ _ (by decide), gi_cell _ _ _ _ (by decide), gi_cell _ _ _ _ (by decide), gi_si _ _ _ _ _ (by decide), if_pos ⟨rfl, rfl⟩]
    · rw [gi_cell _ _ _ _ (by decide), gi_cell _ _ _ _ (by decide), gi_si _ _ _ _ _ (by decide), if_pos ⟨rfl, rfl⟩]
    · rw [gi_cell _ _ _ _ (by decide), gi_si _ _ _ _ _ (by decide), if_pos ⟨rfl, rfl⟩]
    · rw [gi_si _ _ _ _ _ (by decide), if_pos ⟨rfl, rfl⟩]
      rfl
  refine ⟨fun _ => ⟨by subst hx; cases tst <;> decide, fun hx0 => ⟨by decide, mk 0 (by decide) hx0.symm⟩, fun hx0 => ⟨by decide, mk 1 (by decide) ?_⟩⟩, fun q => absurd (by omega) q⟩
  subst hx
  cases tst with
  | false => exact absurd rfl hx0
  | true => rfl
end RRULE
