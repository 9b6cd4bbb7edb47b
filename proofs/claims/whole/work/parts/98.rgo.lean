section RGO
/-! ===== the reference reads a rule: its loop, what joins two values, what ends a frame ===== -/
theorem rd_0 {k : Nat} {P : Option Nat} {I : Nat → Nat → Int32} {J : Nat → Nat → Int64} {Q : Option AV → Mem → Prop} (hk : 1 ≤ k) (h : Q none (mem (P, some 5, some 22) I J)) : WP k LAY m_X12_reads 43 [(0, vR (some 74)), (2, vI 0)] [] (mem (P, some 5, some 22) I J) Q := B_X12_reads_43 hk ⟨by decide, fun _ => h, fun c => absurd rfl c⟩
def OQ (k : Nat) (P : Option Nat) (Q : Option AV → Mem → Prop) : Option AV → Mem → Prop := retI (fun v6 I7 J8 => (v6 = 0 ∨ v6 = 1) ∧ (((1 : Int) = 0 → WP k LAY m_X12_reads 43 [(0, vR (some 74)), (2, vI 0)] [] (mem (P, some 5, some 22) (si I7 74 50 v6) J8) Q) ∧ (¬ (1 : Int) = 0 → ((¬ (gi I7 74 8) = 0 → (WP k LAY m_X12_reads 43 [(0, vR (some 74)), (2, vI 0)] [] (mem (P, some 5, some 22) (si I7 74 50 v6) J8) Q)) ∧ ((gi I7 74 8) = 0 → (WP k LAY m_X12_reads 43 [(0, vR (some 74)), (2, vI 1)] [] (mem (P, some 5, some 22) (si I7 74 50 v6) J8) Q)))))) (P, some 5, some 22)
def GQ (k : Nat) (P : Option Nat) (Q : Option AV → Mem → Prop) : Option AV → Mem → Prop := retI (fun v2 I3 J4 => inR v2 ∧ ((v2 = 0 → (WP k LAY m_X12_reads 43 [(0, vR (some 74)), (2, vI 0)] [] (mem (P, some 5, some 22) I3 J4) Q)) ∧ (¬ v2 = 0 → ((¬ (gi I3 74 8) = 0 → (WP k LAY m_X12_reads 43 [(0, vR (some 74)), (2, vI 0)] [] (mem (P, some 5, some 22) I3 J4) Q)) ∧ ((gi I3 74 8) = 0 → (WP k LAY m_X12_reads 43 [(0, vR (some 74)), (2, vI 1)] [] (mem (P, some 5, some 22) I3 J4) Q)))))) (P, some 5, some 22)
theorem rd_op {k : Nat} {P : Option Nat} {I : Nat → Nat → Int32} {J : Nat → Nat → Int64} {Q : Option AV → Mem → Prop} (hk : 1 ≤ k) (h50 : gi I 74 50 = 0) (h : WPm (k - 1) LAY m_X12_operand [vR (some 74)] (mem (P, some 5, some 22) I J) (OQ k P Q)) : WP k LAY m_X12_reads 43 [(0, vR (some 74)), (2, vI 1)] [] (mem (P, some 5, some 22) I J) Q := B_X12_reads_43 hk ⟨by decide, fun c => absurd c (by decide), fun _ => ⟨fun c => absurd h50 c, fun _ => h⟩⟩
theorem rd_go {k : Nat} {P : Option Nat} {I : Nat → Nat → Int32} {J : Nat → Nat → Int64} {Q : Option AV → Mem → Prop} (hk : 1 ≤ k) (h50 : gi I 74 50 = 1) (h : WPm (k - 1) LAY m_X12_goesOn [vR (some 74)] (mem (P, some 5, some 22) I J) (GQ k P Q)) : WP k LAY m_X12_reads 43 [(0, vR (some 74)), (2, vI 1)] [] (mem (P, some 5, some 22) I J) Q := B_X12_reads_43 hk ⟨by decide, fun c => absurd c (by decide), fun _ => ⟨fun _ => h, fun c => absurd (h50.symm.trans c) (by decide)⟩⟩
theorem OQ.y {k : Nat} {P : Option Nat} {I' : Nat → Nat → Int32} {J' : Nat → Nat → Int64} {Q : Option AV → Mem → Prop} {v : Int} (hv : v = 0 ∨ v = 1) (h8 : gi I' 74 8 = 0) (h : WP k LAY m_X12_reads 43 [(0, vR (some 74)), (2, vI 1)] [] (mem (P, some 5, some 22) (si I' 74 50 v) J') Q) : OQ k P Q (some (vI v)) (mem (P, some 5, some 22) I' J') := ⟨_, _, _, rfl, rfl, hv, fun c => absurd c (by decide), fun _ => ⟨fun c => absurd h8 c, fun _ => h⟩⟩
theorem OQ.n {k : Nat} {P : Option Nat} {I' : Nat → Nat → Int32} {J' : Nat → Nat → Int64} {Q : Option AV → Mem → Prop} {v : Int} (hk : 1 ≤ k) (hv : v = 0 ∨ v = 1) (h8 : gi I' 74 8 ≠ 0) (h : Q none (mem (P, some 5, some 22) (si I' 74 50 v) J')) : OQ k P Q (some (vI v)) (mem (P, some 5, some 22) I' J') := ⟨_, _, _, rfl, rfl, hv, fun c => absurd c (by decide), fun _ => ⟨fun _ => rd_0 hk h, fun c => absurd c h8⟩⟩
theorem GQ.y {k : Nat} {P : Option Nat} {I' : Nat → Nat → Int32} {J' : Nat → Nat → Int64} {Q : Option AV → Mem → Prop} (h8 : gi I' 74 8 = 0) (h : WP k LAY m_X12_reads 43 [(0, vR (some 74)), (2, vI 1)] [] (mem (P, some 5, some 22) I' J') Q) : GQ k P Q (some (vI 1)) (mem (P, some 5, some 22) I' J') := ⟨_, _, _, rfl, rfl, by decide, fun c => absurd c (by decide), fun _ => ⟨fun c => absurd h8 c, fun _ => h⟩⟩
theorem GQ.n {k : Nat} {P : Option Nat} {I' : Nat → Nat → Int32} {J' : Nat → Nat → Int64} {Q : Option AV → Mem → Prop} (hk : 1 ≤ k) (h : Q none (mem (P, some 5, some 22) I' J')) : GQ k P Q (some (vI 0)) (mem (P, some 5, some 22) I' J') := ⟨_, _, _, rfl, rfl, by decide, fun _ => rd_0 hk h, fun c => absurd rfl c⟩
/-- what a value's codes are, some of it held back -/
def RA (I : Nat → Nat → Int32) (J : Nat → Nat → Int64) (T : Nat → Int) (n p b f o m cd : Nat) (lo : Int) (c : List Int) : Prop := ∃ c1 ps, c = c1 ++ cdo ps ∧ okOp lo ps ∧ RS I J T n p b f (o + nots ps) (m + ps.length) (cd + c1.length) ∧ Pd I m ps ∧ cds (encR I) (1600 * b + cd) c1 ∧ gi I 74 50 = 1 ∧ gi I 103 f = 0 ∧ p ≤ n ∧ cd + m + c.length ≤ p ∧ (ps.length : Int) + lo ≤ nots ps + 7 ∧ o + nots ps ≤ 7
theorem RA.lo {I : Nat → Nat → Int32} {J : Nat → Nat → Int64} {T : Nat → Int} {n p b f o m cd : Nat} {lo lo' : Int} {c : List Int} (h : RA I J T n p b f o m cd lo c) (hl : lo' ≤ lo) : RA I J T n p b f o m cd lo' c := by
  obtain ⟨c1, ps, h1, h2, h3, h4, h5, h6, h7, h8, h9, h10, h11⟩ := h
  exact ⟨c1, ps, h1, fun x hx => ⟨Int.le_trans hl (h2 x hx).1, (h2 x hx).2⟩, h3, h4, h5, h6, h7, h8, h9, by omega, h11⟩
theorem ahead_of {k : Nat} {P : Option Nat} {I : Nat → Nat → Int32} {J : Nat → Nat → Int64} {Q : Option AV → Mem → Prop} {T : Nat → Int} {n p : Nat} (hk : 6 ≤ k) (hX : TX T n) (hp : p ≤ n) (hT : RT I J T n p) (h : ∀ I' J', RT I' J' T n (tE T n p) → Fr [] FLr I I' → Fr [] [(74, 7)] J J' → Q none (mem (P, some 5, some 22) I' J')) : WPm k LAY m_X12_ahead [vR (some 74)] (mem (P, some 5, some 22) I J) Q := S_X12_ahead hk hX hT.1 (tE_rng (T := T) hp).2.1 hT.2.2.2.1 h
/-- a new operator is held back, the next token comes -/
theorem push_end {k : Nat} {P : Option Nat} {I1 I2 : Nat → Nat → Int32} {J1 : Nat → Nat → Int64} {Q : Option AV → Mem → Prop} {T : Nat → Int} {n p b f o m cdx : Nat} {x ph bg : Int} (hk : 7 ≤ k) (hX : TX T n) (hp : p ≤ n) (hS : RS I1 J1 T n p b f o m cdx) (hF : Fr [102, 103, 106] [(74, 49)] I1 I2) (g49 : gi I2 74 49 = ((m + 1 : Nat) : Int)) (g106 : ∀ i, i < m → gi I2 106 i = gi I1 106 i) (gm : gi I2 106 m = x) (g2 : ∀ i, i < f → gi I2 102 i = gi I1 102 i ∧ gi I2 103 i = gi I1 103 i) (gp : gi I2 102 f = ph) (gb : gi I2 103 f = bg) (h : ∀ I' J', RS I' J' T n (tE T n p) b f o (m + 1) cdx → gi I' 106 m = x → gi I' 74 50 = 0 → gi I' 102 f = ph → gi I' 103 f = bg → (∀ w hi, RK I1 I' f m w hi) → (∀ i, encR I' i = encR I1 i) → Fr [] [(74, 7)] J1 J' → Q (some (vI 1)) (mem (P, some 5, some 22) I' J')) : WPm (k - 1) LAY m_X12_ahead [vR (some 74)] (mem (P, some 5, some 22) I2 J1) (retV (fun I3 J4 => Q (some (vI 1)) (mem (P, some 5, some 22) (si I3 74 50 0) J4)) (P, some 5, some 22)) := by
  refine ahead_of (by omega) hX hp (hS.1.fr hF (by decide) (by decide) rfl) (fun I3 J3 hT3 hF3 hJ3 => ⟨_, _, rfl, rfl, ?_⟩)
  have hF4 : Fr [] FLq I2 (si I3 74 50 0) := hF3.q.up 74 50 _ (Or.inr (by decide))
  have hF5 : Fr [] [(74, 50)] I3 (si I3 74 50 0) := (Fr.rf _ _ _).up 74 50 _ (Or.inr (by decide))
  refine h _ _ ⟨hT3.fr hF5 (by decide) (by decide) rfl, ?_, ?_, ?_, ?_, ?_, ?_⟩ ?_ ?_ ?_ ?_ (fun w hi => ?_) (fun i => ?_) hJ3
  · rw [gi_idx _ _ _ (by decide), hF3.gv 74 8 (by decide) (by decide), hF.gv 74 8 (by decide) (by decide)]; exact hS.2.1
  · rw [gi_idx _ _ _ (by decide), hF3.gv 74 40 (by decide) (by decide), hF.gv 74 40 (by decide) (by decide)]; exact hS.2.2.1
  · rw [gi_idx _ _ _ (by decide), hF3.gv 74 46 (by decide) (by decide), hF.gv 74 46 (by decide) (by decide)]; exact hS.2.2.2.1
  · rw [gi_idx _ _ _ (by decide), hF3.gv 74 47 (by decide) (by decide), hF.gv 74 47 (by decide) (by decide)]; exact hS.2.2.2.2.1
  · rw [gi_idx _ _ _ (by decide), hF3.gv 74 49 (by decide) (by decide)]; exact g49
  · rw [gi_idx _ _ _ (by decide), hF3.gv 74 39 (by decide) (by decide), hF.gv 74 39 (by decide) (by decide)]; exact hS.2.2.2.2.2.2
  · rw [hF4.gvc m (by decide) (by decide)]; exact gm
  · rw [gi_si _ _ _ _ _ (by decide), if_pos ⟨rfl, rfl⟩]
  · rw [hF4.gvc f (by decide) (by decide)]; exact gp
  · rw [hF4.gvc f (by decide) (by decide)]; exact gb
  · refine RK.tr (m' := m) (w' := w) (f' := f) ⟨⟨hF.mono (fun t ht => by
      simp only [List.mem_cons, List.not_mem_nil, or_false] at ht ⊢
      rcases ht with e | e | e <;> subst e <;> simp) (fun q hq => Or.inl (by
      simp only [List.mem_cons, List.not_mem_nil, or_false] at hq ⊢
      subst hq
      simp)), fun i _ => ⟨hF.gvc i (by decide) (by decide), hF.gvc i (by decide) (by decide)⟩⟩, fun i _ => ⟨hF.gvc i (by decide) (by decide), hF.gvc i (by decide) (by decide), hF.gvc i (by decide) (by decide)⟩, g2, g106⟩ (RK.fl f m w hi hF4) (Nat.le_refl _) (Nat.le_refl _) (Nat.le_refl _)
  · unfold encR
    rw [hF4.gvc i (by decide) (by decide), hF4.gvc i (by decide) (by decide), hF.gvc i (by decide) (by decide), hF.gvc i (by decide) (by decide)]
/-- behind a value: what was held back is written, a new operator is held back -/
def RNx (I I' : Nat → Nat → Int32) (J J' : Nat → Nat → Int64) (T : Nat → Int) (n p b f o m cd : Nat) (c : List Int) (x ph bg : Int) : Prop := RS I' J' T n (tE T n p) b f o (m + 1) (cd + c.length) ∧ gi I' 106 m = x ∧ gi I' 74 50 = 0 ∧ gi I' 102 f = ph ∧ gi I' 103 f = bg ∧ RK I I' f m (1600 * b + cd) (1600 * b + 1600) ∧ cds (encR I') (1600 * b + cd) c ∧ Fr [] [(74, 7)] J J'
theorem RA.join {k : Nat} {P : Option Nat} {I : Nat → Nat → Int32} {J : Nat → Nat → Int64} {Q : Option AV → Mem → Prop} {T : Nat → Int} {n p b f o m cd : Nat} {least : Int} {c : List Int} (hk : 2 ≤ k) (hX : TX T n) (hl : inR least) (hf : f < 20) (hb : b < 2) (h : RA I J T n p b f o m cd least c) (hc : ctx I f m least) (hm : m ≤ 60) (hl1 : 1 ≤ least) (hQ : ∀ I', RS I' J T n p b f o m (cd + c.length) → cds (encR I') (1600 * b + cd) c → RK I I' f m (1600 * b + cd) (1600 * b + 1600) → (∀ i, gi I' 102 i = gi I 102 i ∧ gi I' 103 i = gi I 103 i) → gi I' 74 50 = 1 → Q none (mem (P, some 5, some 22) I' J)) : WPm k LAY m_X12_joins [vR (some 74), vI least] (mem (P, some 5, some 22) I J) Q := by
  obtain ⟨c1, ps, h1, h2, h3, h4, h5, h6, h7, h8, h9, h10, h11⟩ := h
  have hn := hX.1
  subst h1
  rw [List.length_append, List.length_map] at h9 hQ
  refine WPm.of k_X12_joins.1 (Nat.le_of_ble_eq_true rfl) (S_joins hk hl hf hb ps (cd + c1.length) I h3 h4 h2 hc (by omega) (by omega) (by omega) (fun I' a1 a2 a3 a4 a5 => ?_))
  have a3' := a3.w (w := 1600 * b + cd) (by omega)
  refine hQ I' (by rw [← Nat.add_assoc]; exact a1) (cds_app.mpr ⟨cds_congr (fun i x y => ?_) h5, by rw [Nat.add_assoc]; exact a2⟩) a3' a4 (by rw [a5, h6])
  unfold encR
  have := a3.1.2 i (Or.inl (by omega))
  rw [this.1, this.2]
end RGO
