section REND
/-! ===== a frame's end, or what is wrong there ===== -/
def RE (I I' : Nat → Nat → Int32) (J J' : Nat → Nat → Int64) (w hi : Nat) (e : Int × Int) : Prop := RKx I I' w hi ∧ gi I' 74 8 = e.1 ∧ gi I' 74 9 = e.2 ∧ Fr [] [(74, 7)] J J'
theorem RE.of {I I' : Nat → Nat → Int32} {J : Nat → Nat → Int64} {z y : Int} (w hi : Nat) (hz : inR z) (hy : inR y) (hI : I' = si (si I 74 8 z) 74 9 y) : RE I I' J J w hi (z, y) := by
  subst hI
  have hF : Fr [] FLqe I (si (si I 74 8 z) 74 9 y) := ((Fr.rf _ _ _).up 74 8 _ (Or.inr (by decide))).up 74 9 _ (Or.inr (by decide))
  refine ⟨RKx.fl w hi hF, ?_, ?_, Fr.rf _ _ _⟩
  · rw [gi_idx _ _ _ (by decide), gi_si _ _ _ _ _ hz, if_pos ⟨rfl, rfl⟩]
  · rw [gi_si _ _ _ _ _ hy, if_pos ⟨rfl, rfl⟩]
theorem RE.tr {I I1 I2 : Nat → Nat → Int32} {J J1 J2 : Nat → Nat → Int64} {w w' hi : Nat} {e : Int × Int} (h1 : RKe I I1 w hi) (hJ : Fr [] [(74, 7)] J J1) (h2 : RE I1 I2 J1 J2 w' hi e) (hw : w ≤ w') : RE I I2 J J2 w hi e := ⟨h1.x.tr h2.1 hw, h2.2.1, h2.2.2.1, hJ.tr h2.2.2.2⟩
theorem RE.lex {I : Nat → Nat → Int32} {J : Nat → Nat → Int64} {T : Nat → Int} {n p : Nat} (w hi : Nat) (hT : RT I J T n p) (hb : bd T n p ≠ -1) : RE I (si (si I 74 8 1) 74 9 (gi I 74 12)) J J w hi (1, pl T n p) := by
  rw [pl_b hb, ← hT.2.2.2.2.1]
  exact RE.of w hi (by decide) (gi_in _ _ _) rfl
theorem RE.at {I : Nat → Nat → Int32} {J : Nat → Nat → Int64} {T : Nat → Int} {n p : Nat} (w hi : Nat) (hT : RT I J T n p) (hb : bd T n p = -1) : RE I (si (si I 74 8 1) 74 9 (gi I 74 4)) J J w hi (1, pl T n p) := by
  rw [pl_g hb, ← hT.2.2.1]
  exact RE.of w hi (by decide) (gi_in _ _ _) rfl
theorem RE.five {I : Nat → Nat → Int32} {J : Nat → Nat → Int64} {T : Nat → Int} {n p : Nat} (w hi : Nat) (hT : RT I J T n p) : RE I (si (si I 74 8 5) 74 9 (gi I 74 4)) J J w hi (5, tS T n p) := by
  rw [← hT.2.2.1]
  exact RE.of w hi (by decide) (gi_in _ _ _) rfl
def clSg (kd : Int) : Int := if kd = 5 then 93 else if kd = 3 then 44 else 41
/-- what goesOn does where nothing goes on -/
def nogo (I : Nat → Nat → Int32) (T : Nat → Int) (n p f : Nat) : Prop := ¬ (gi I 102 f < 2 ∧ 10100 ≤ opT T n p ∧ opT T n p ≤ 10104) ∧ ¬ ((gi I 101 f = 1 ∨ gi I 101 f = 5) ∧ gi I 102 f = 0 ∧ 10107 ≤ opT T n p ∧ opT T n p ≤ 10109) ∧ ¬ ((gi I 101 f = 1 ∨ gi I 101 f = 5) ∧ kR T n p = 1 ∧ (ow T n p = 20 ∨ ow T n p = 19))
theorem go_400 {k : Nat} {P : Option Nat} {I : Nat → Nat → Int32} {J : Nat → Nat → Int64} {Q : Option AV → Mem → Prop} {T : Nat → Int} {n p f : Nat} (hk : 2 ≤ k) (hp : p ≤ n) (hT : RT I J T n p) (h8 : gi I 74 8 = 0) (h46 : gi I 74 46 = ((f + 1 : Nat) : Int)) (hf : f < 20) (hb : bd T n p = -1) (hn : nogo I T n p f) (h : ∀ y : Int, ((y = 1 ∧ (gi I 101 f = 1 ∨ gi I 101 f = 5)) ∨ (y = 0 ∧ ¬ (gi I 101 f = 1 ∨ gi I 101 f = 5))) → WP k LAY m_X12_goesOn 400 [(0, vR (some 74)), (1, vI (f : Int)), (2, vI (gi I 101 f)), (3, vI y)] [] (mem (P, some 5, some 22) I J) Q) : WPm k LAY m_X12_goesOn [vR (some 74)] (mem (P, some 5, some 22) I J) Q := go_sw hk hp hT h8 h46 hf hb (fun a b c => absurd ⟨a, b, c⟩ hn.1) (fun a b c d => absurd ⟨a, b, c, d⟩ hn.2.1) (fun a b c => absurd ⟨a, b, c⟩ hn.2.2) (fun y hy _ _ _ => h y hy)
theorem g439 {k : Nat} {P : Option Nat} {I : Nat → Nat → Int32} {J : Nat → Nat → Int64} {Q : Option AV → Mem → Prop} (h : Q (some (vI 0)) (mem (P, some 5, some 22) I J)) : WP k LAY m_X12_goesOn 439 [] [] (mem (P, some 5, some 22) I J) Q := B_X12_goesOn_439 (Nat.zero_le k) h
set_option maxHeartbeats 1000000 in
/-- no sign that ends the frame -/
theorem L_nocl {k : Nat} {P : Option Nat} {I : Nat → Nat → Int32} {J : Nat → Nat → Int64} {Q : Option AV → Mem → Prop} {T : Nat → Int} {n p b f o m cd : Nat} {lo : Int} {c : List Int} (hk : 12 ≤ k) (hf : f < 20) (h : RA I J T n p b f o m cd lo c) (hn : bd T n p = -1 → nogo I T n p f) (hkd : 2 ≤ gi I 101 f ∧ gi I 101 f ≤ 5) (hph : gi I 101 f = 5 → gi I 102 f ≠ 0) (hs : ¬ sgn T n p (clSg (gi I 101 f))) (w hi : Nat) (hQ : ∀ I', RE I I' J J w hi (1, pl T n p) → Q none (mem (P, some 5, some 22) I' J)) : WP k LAY m_X12_reads 43 [(0, vR (some 74)), (2, vI 1)] [] (mem (P, some 5, some 22) I J) Q := by
  obtain ⟨hT, h8, h46, h50, h103, hp, hl, h40⟩ := h.cz
  refine rd_go (by omega) h50 ?_
  by_cases hb : bd T n p = -1
  · refine go_400 (by omega) hp hT h8 h46 hf hb (hn hb) (fun y hy => ?_)
    have e1 := RE.at (J := J) w hi hT hb
    have hQ1 := hQ _ e1
    have g8 : gi (si (si I 74 8 1) 74 9 (gi I 74 4)) 74 8 = 1 := e1.2.1
    have hz := GQ.n (k := k) (P := P) (Q := Q) (by omega) hQ1
    generalize hkd' : gi I 101 f = kd at *
    refine B_X12_goesOn_400 (by omega) ⟨by unfold inR; omega, fun hy0 => ⟨by unfold inR; omega, fun _ => ⟨fun n3 => ⟨fun n5 => ⟨fun q => ?_, fun _ => ⟨fun _ => hz, fun q => absurd (by omega) q⟩⟩, fun q => absurd hy (by omega)⟩, fun e3 => ⟨fun q => ?_, fun _ => ⟨fun _ => ?_, fun q => absurd (by omega) q⟩⟩⟩, fun q => absurd hkd.1 q⟩, fun hy1 => ⟨by omega, ?_⟩⟩
    · exact absurd ((hT.s 41).mp q) (by unfold clSg at hs; rw [if_neg n5, if_neg n3] at hs; exact hs)
    · exact absurd ((hT.s 44).mp q) (by unfold clSg at hs; rw [if_neg (by omega), if_pos e3] at hs; exact hs)
    · exact B_X12_goesOn_464 (by omega) ⟨fun q => absurd q (by omega), fun _ => hz⟩
    · have e5 : kd = 5 := by omega
      rw [Int.toNat_natCast]
      refine ⟨fun _ => ⟨by unfold inR; omega, fun _ => ⟨fun n3 => ⟨fun n5 => absurd e5 n5, fun _ => ⟨fun q => ?_, fun _ => ⟨fun _ => hz, fun q => absurd (by omega) q⟩⟩⟩, fun q => by omega⟩, fun q => absurd hkd.1 q⟩, fun q => absurd q (hph e5)⟩
      exact absurd ((hT.s 93).mp q) (by unfold clSg at hs; rw [if_pos e5] at hs; exact hs)
  · exact go_bad (by omega) hT h8 hb (GQ.n (by omega) (hQ _ (RE.lex w hi hT hb)))
set_option maxHeartbeats 1000000 in
/-- a test whose first sum stands alone -/
theorem L_ph0 {k : Nat} {P : Option Nat} {I : Nat → Nat → Int32} {J : Nat → Nat → Int64} {Q : Option AV → Mem → Prop} {T : Nat → Int} {n p b f o m cd : Nat} {lo : Int} {c : List Int} (hk : 12 ≤ k) (hf : f < 20) (h : RA I J T n p b f o m cd lo c) (hts : gi I 101 f = 1 ∨ gi I 101 f = 5) (hph : gi I 102 f = 0) (h1 : ¬ pOp T n p) (h2 : ¬ sOp T n p) (h3 : ¬ tOp T n p) (w hi : Nat) (hQ : ∀ I', RE I I' J J w hi (1, pl T n p) → Q none (mem (P, some 5, some 22) I' J)) : WP k LAY m_X12_reads 43 [(0, vR (some 74)), (2, vI 1)] [] (mem (P, some 5, some 22) I J) Q := by
  obtain ⟨hT, h8, h46, h50, h103, hp, hl, h40⟩ := h.cz
  unfold pOp at h1
  unfold sOp at h2
  unfold tOp at h3
  refine rd_go (by omega) h50 ?_
  by_cases hb : bd T n p = -1
  · have e1 := RE.at (J := J) w hi hT hb
    have hQ1 := hQ _ e1
    have g8 : gi (si (si I 74 8 1) 74 9 (gi I 74 4)) 74 8 = 1 := e1.2.1
    have hz := GQ.n (k := k) (P := P) (Q := Q) (by omega) hQ1
    refine go_sw (by omega) hp hT h8 h46 hf hb (fun _ _ _ => by omega) (fun _ _ _ _ => by omega) (fun _ _ _ => ?_) (fun y hy _ _ _ => ?_)
    · refine B_X12_goesOn_309 (by omega) ⟨by omega, ?_⟩
      rw [Int.toNat_natCast]
      exact ⟨fun q => absurd hph q, fun _ => ⟨fun _ => B_X12_goesOn_327 (by omega) ⟨fun q => absurd q (by omega), fun _ => hz⟩, fun q => absurd (by omega) q⟩⟩
    · generalize hkd' : gi I 101 f = kd at *
      refine B_X12_goesOn_400 (by omega) ⟨by unfold inR; omega, fun hy0 => by omega, fun hy1 => ⟨by omega, ?_⟩⟩
      rw [Int.toNat_natCast]
      refine ⟨fun q => absurd hph q, fun _ => ⟨fun _ => ⟨by unfold inR; omega, fun q2 => ⟨fun _ => ⟨fun n5 => by omega, fun _ => ⟨fun _ => hz, fun _ => ⟨fun q => absurd q (by omega), fun _ => hz⟩⟩⟩, fun q => by omega⟩, fun _ => g439 hz⟩, fun q => absurd (by omega) q⟩⟩
  · exact go_bad (by omega) hT h8 hb (GQ.n (by omega) (hQ _ (RE.lex w hi hT hb)))
set_option maxHeartbeats 1000000 in
/-- the outermost frame's end -/
theorem L_top {k : Nat} {P : Option Nat} {I : Nat → Nat → Int32} {J : Nat → Nat → Int64} {Q : Option AV → Mem → Prop} {T : Nat → Int} {n p b f o m cd : Nat} {lo : Int} {c : List Int} (hk : 12 ≤ k) (hX : TX T n) (hb2 : b < 2) (hf : f ≤ o) (ho : o ≤ 7) (hm : m ≤ 60) (hlo : 1 ≤ lo) (h : RA I J T n p b f o m cd lo c) (hc : ctx I f m 1) (hn : bd T n p = -1 → nogo I T n p f) (hkd : gi I 101 f = 0 ∨ gi I 101 f = 1 ∧ gi I 102 f ≠ 0) (w hi : Nat) (hQ : ∀ I', RE I I' J J w hi (1, pl T n p) → Q none (mem (P, some 5, some 22) I' J)) (hG : bd T n p = -1 → ∀ I', RS I' J T n p b f o m (cd + c.length) → cds (encR I') (1600 * b + cd) c → RK I I' f m (1600 * b + cd) (1600 * b + 1600) → Q none (mem (P, some 5, some 22) I' J)) : WP k LAY m_X12_reads 43 [(0, vR (some 74)), (2, vI 1)] [] (mem (P, some 5, some 22) I J) Q := by
  obtain ⟨hT, h8, h46, h50, h103, hp, hl, h40⟩ := h.cz
  refine rd_go (by omega) h50 ?_
  by_cases hb : bd T n p = -1
  · refine go_400 (by omega) hp hT h8 h46 (by omega) hb (hn hb) (fun y hy => ?_)
    have jn : WPm (k - 1 - 1) LAY m_X12_joins [vR (some 74), vI 1] (mem (P, some 5, some 22) I J) (retV (fun I80 J81 => WP (k - 1) LAY m_X12_goesOn 439 [] [] (mem (P, some 5, some 22) I80 J81) (GQ k P Q)) (P, some 5, some 22)) := (h.lo hlo).join (by omega) hX (by decide) (by omega) hb2 hc hm (by decide) (fun I1 a1 a2 a3 a4 a5 => ⟨_, _, rfl, rfl, g439 (GQ.n (by omega) (hG hb I1 a1 a2 a3))⟩)
    generalize hkd' : gi I 101 f = kd at *
    refine B_X12_goesOn_400 (by omega) ⟨by unfold inR; omega, fun hy0 => ⟨by unfold inR; omega, fun q => by omega, fun _ => ⟨fun q => absurd h8 q, fun _ => jn⟩⟩, fun hy1 => ⟨by omega, ?_⟩⟩
    rw [Int.toNat_natCast]
    exact ⟨fun _ => ⟨by unfold inR; omega, fun q => by omega, fun _ => ⟨fun q => absurd h8 q, fun _ => jn⟩⟩, fun q => by omega⟩
  · exact go_bad (by omega) hT h8 hb (GQ.n (by omega) (hQ _ (RE.lex w hi hT hb)))
/-- a frame is left -/
theorem close_end {k : Nat} {P : Option Nat} {I4 I5 : Nat → Nat → Int32} {J : Nat → Nat → Int64} {Q : Option AV → Mem → Prop} {T : Nat → Int} {n p b f o m cdx cdy : Nat} (hk : 7 ≤ k) (hX : TX T n) (hp : p ≤ n) (hS : RS I4 J T n p b (f + 1) (o + 1) m cdx) (hF : Fr [95, 96, 102] [(74, 46), (74, 47), (74, 39)] I4 I5) (g46 : gi I5 74 46 = ((f + 1 : Nat) : Int)) (g47 : gi I5 74 47 = (o : Int)) (g39 : gi I5 74 39 = (cdy : Int)) (h : ∀ I' J', RS I' J' T n (tE T n p) b f o m cdy → Fr [] FLr I5 I' → Fr [] [(74, 7)] J J' → Q (some (vI 1)) (mem (P, some 5, some 22) I' J')) : WPm (k - 1) LAY m_X12_ahead [vR (some 74)] (mem (P, some 5, some 22) I5 J) (retV (fun I7 J8 => Q (some (vI 1)) (mem (P, some 5, some 22) I7 J8)) (P, some 5, some 22)) := by
  refine ahead_of (by omega) hX hp (hS.1.fr hF (by decide) (by decide) rfl) (fun I6 J6 hT6 hF6 hJ6 => ⟨_, _, rfl, rfl, h I6 J6 ⟨hT6, ?_, ?_, ?_, ?_, ?_, ?_⟩ hF6 hJ6⟩)
  · rw [hF6.gv 74 8 (by decide) (by decide), hF.gv 74 8 (by decide) (by decide)]; exact hS.2.1
  · rw [hF6.gv 74 40 (by decide) (by decide), hF.gv 74 40 (by decide) (by decide)]; exact hS.2.2.1
  · rw [hF6.gv 74 46 (by decide) (by decide)]; exact g46
  · rw [hF6.gv 74 47 (by decide) (by decide)]; exact g47
  · rw [hF6.gv 74 49 (by decide) (by decide), hF.gv 74 49 (by decide) (by decide)]; exact hS.2.2.2.2.2.1
  · rw [hF6.gv 74 39 (by decide) (by decide)]; exact g39
theorem cl_fin {k : Nat} {P : Option Nat} {I I4 I5 : Nat → Nat → Int32} {J : Nat → Nat → Int64} {Q : Option AV → Mem → Prop} {T : Nat → Int} {n p b f o m cd : Nat} {c pr : List Int} {ph : Int} (hk : 9 ≤ k) (hX : TX T n) (hp : p < n) (hg : p < tE T n p) (ho : o ≤ 7) (hl : cd + m + c.length ≤ p) (hpr : pr.length ≤ 1) (hbe : gi I 103 f = 0) (a1 : RS I4 J T n p b (f + 1) (o + 1) m (cd + c.length)) (a2 : cds (encR I4) (1600 * b + cd) c) (a3 : RK I I4 (f + 1) m (1600 * b + cd) (1600 * b + 1600)) (a5 : gi I4 74 50 = 1) (hF : Fr [95, 96, 102] [(74, 46), (74, 47), (74, 39)] I4 I5) (g46 : gi I5 74 46 = ((f + 1 : Nat) : Int)) (g47 : gi I5 74 47 = (o : Int)) (g39 : gi I5 74 39 = ((cd + c.length + pr.length : Nat) : Int)) (hsm : ∀ i, (i < 1600 * b + cd + c.length ∨ 1600 * b + 1600 ≤ i) → gi I5 95 i = gi I4 95 i ∧ gi I5 96 i = gi I4 96 i) (hpc : cds (encR I5) (1600 * b + cd + c.length) pr) (h2 : ∀ i, i < f → gi I5 102 i = gi I4 102 i) (hph : gi I5 102 f = ph) (hQ : ∀ I' J', RA I' J' T n (tE T n p) b f o m cd 7 (c ++ pr) → RK I I' f m (1600 * b + cd) (1600 * b + 1600) → gi I' 102 f = ph → Fr [] [(74, 7)] J J' → WP k LAY m_X12_reads 43 [(0, vR (some 74)), (2, vI 1)] [] (mem (P, some 5, some 22) I' J') Q) : WPm (k - 1 - 1) LAY m_X12_ahead [vR (some 74)] (mem (P, some 5, some 22) I5 J) (retV (fun I7 J8 => GQ k P Q (some (vI 1)) (mem (P, some 5, some 22) I7 J8)) (P, some 5, some 22)) := by
  have hn := hX.1
  by_cases hk8 : 9 ≤ k
  · have hte := tE_rng (T := T) (Nat.le_of_lt hp)
    refine close_end (by omega) hX (Nat.le_of_lt hp) a1 hF g46 g47 g39 (fun I' J' b1 b2 b3 => GQ.y b1.2.1 (hQ I' J' ⟨c ++ pr, [], (List.append_nil _).symm, fun x hx => (by cases hx), ?_, trivial, ?_, ?_, ?_, hte.2.1, ?_, ?_, ho⟩ ?_ ?_ b3))
    · rw [List.length_append, ← Nat.add_assoc]
      exact b1
    · refine cds_app.mpr ⟨cds_congr (fun i x y => ?_) a2, cds_congr (fun i x y => ?_) hpc⟩
      · unfold encR
        have := hsm i (Or.inl y)
        rw [b2.gvc i (by decide) (by decide), b2.gvc i (by decide) (by decide), this.1, this.2]
      · unfold encR
        rw [b2.gvc i (by decide) (by decide), b2.gvc i (by decide) (by decide)]
    · rw [b2.gv 74 50 (by decide) (by decide), hF.gv 74 50 (by decide) (by decide), a5]
    · rw [b2.gvc f (by decide) (by decide), hF.gvc f (by decide) (by decide), (a3.2.2.1 f (Nat.lt_succ_self f)).2, hbe]
    · rw [List.length_append]
      omega
    · show ((0 : Nat) : Int) + 7 ≤ ((0 : Nat) : Int) + 7
      omega
    · refine RK.tr (f' := f) (m' := m) (w' := 1600 * b + cd) ⟨a3.1, fun i q => a3.2.1 i (by omega), fun i q => a3.2.2.1 i (by omega), a3.2.2.2⟩ (RK.tr (f' := f) (m' := m) (w' := 1600 * b + cd) ⟨⟨hF.mono (fun t ht => by
        simp only [List.mem_cons, List.not_mem_nil, or_false] at ht ⊢
        rcases ht with e | e | e <;> subst e <;> simp) (fun q hq => Or.inl (by
        simp only [List.mem_cons, List.not_mem_nil, or_false] at hq ⊢
        rcases hq with e | e | e <;> subst e <;> simp)), fun i q => hsm i (by omega)⟩, fun i _ => ⟨hF.gvc i (by decide) (by decide), hF.gvc i (by decide) (by decide), hF.gvc i (by decide) (by decide)⟩, fun i q => ⟨h2 i q, hF.gvc i (by decide) (by decide)⟩, fun i _ => hF.gvc i (by decide) (by decide)⟩ (RK.fl f m _ _ b2.q) (Nat.le_refl _) (Nat.le_refl _) (Nat.le_refl _)) (Nat.le_refl _) (Nat.le_refl _) (Nat.le_refl _)
    · rw [b2.gvc f (by decide) (by decide)]
      exact hph
  · exact absurd hk (by omega)
end REND
