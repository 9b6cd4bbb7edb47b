section SEATP
/-! ===== who sits where, purely: sets of readers, what a table brings, ways ===== -/
theorem smi_zero (n : Nat) : smi n (fun _ => 0) = 0 := by
  induction n with
  | zero => rfl
  | succ n ih =>
    show smi n (fun _ => 0) + 0 = 0
    rw [ih]
    rfl
theorem smi_add (n : Nat) (f g : Nat → Int) : smi n (fun i => f i + g i) = smi n f + smi n g := by
  induction n with
  | zero => rfl
  | succ n ih =>
    show smi n (fun i => f i + g i) + (f n + g n) = smi n f + f n + (smi n g + g n)
    rw [ih]
    omega
theorem smi_sub (n : Nat) (f g : Nat → Int) : smi n (fun i => f i - g i) = smi n f - smi n g := by
  induction n with
  | zero => rfl
  | succ n ih =>
    show smi n (fun i => f i - g i) + (f n - g n) = smi n f + f n - (smi n g + g n)
    rw [ih]
    omega
theorem smi_mulr (n : Nat) (f : Nat → Int) (c : Int) : smi n (fun i => f i * c) = smi n f * c := by
  induction n with
  | zero => exact (Int.zero_mul c).symm
  | succ n ih =>
    show smi n (fun i => f i * c) + f n * c = (smi n f + f n) * c
    rw [ih, Int.add_mul]
theorem smi_swap (T n : Nat) (F : Nat → Nat → Int) : smi T (fun t => smi n (fun r => F t r)) = smi n (fun r => smi T (fun t => F t r)) := by
  induction T with
  | zero => exact (smi_zero n).symm
  | succ T ih =>
    show smi T (fun t => smi n (fun r => F t r)) + smi n (fun r => F T r) = smi n (fun r => smi T (fun t => F t r) + F T r)
    rw [ih, smi_add]
theorem smi_one {T j : Nat} (g : Nat → Int) (h : j < T) : smi T (fun t => if j = t then g t else 0) = g j := by
  induction T with
  | zero => omega
  | succ T ih =>
    show smi T (fun t => if j = t then g t else 0) + (if j = T then g T else 0) = g j
    by_cases e : j = T
    · subst e
      rw [if_pos rfl, smi_congr (g := fun _ => 0) (fun i hi => if_neg (by omega)), smi_zero]
      omega
    · rw [if_neg e, ih (by omega)]
      omega
def sbs : Nat → (Nat → Bool) → Nat
  | 0, _ => 0
  | n + 1, g => sbs n g ||| (if g n = true then 2 ^ n else 0)
theorem sbs_bit (g : Nat → Bool) : ∀ (n i : Nat), (sbs n g).testBit i = (decide (i < n) && g i)
  | 0, i => by
    rw [sbs, Nat.zero_testBit, decide_eq_false (Nat.not_lt_zero i), Bool.false_and]
  | n + 1, i => by
    rw [sbs, Nat.testBit_or, sbs_bit g n i]
    by_cases e : i = n
    · subst e
      rw [decide_eq_false (Nat.lt_irrefl i), Bool.false_and, Bool.false_or, decide_eq_true (Nat.lt_succ_self i), Bool.true_and]
      cases h : g i
      · rw [if_neg (by decide), Nat.zero_testBit]
      · rw [if_pos rfl, Nat.testBit_two_pow_self]
    · have h1 : (if g n = true then 2 ^ n else 0).testBit i = false := by
        split
        · rw [Nat.testBit_two_pow]
          exact decide_eq_false (fun t => e t.symm)
        · exact Nat.zero_testBit _
      rw [h1, Bool.or_false, decide_eq_decide.mpr (show i < n ↔ i < n + 1 by omega)]
theorem sbs_lt (g : Nat → Bool) (n : Nat) : sbs n g < 2 ^ n := Nat.lt_pow_two_of_testBit _ (fun i hi => by rw [sbs_bit, decide_eq_false (by omega), Bool.false_and])
theorem sbs_in {g : Nat → Bool} {n i : Nat} (h : i < n) : (sbs n g).testBit i = g i := by rw [sbs_bit, decide_eq_true h, Bool.true_and]
theorem sbs_congr {g g' : Nat → Bool} {n : Nat} (h : ∀ i, i < n → g i = g' i) : sbs n g = sbs n g' := by
  refine Nat.eq_of_testBit_eq (fun i => ?_)
  rw [sbs_bit, sbs_bit]
  by_cases hi : i < n
  · rw [h i hi]
  · rw [decide_eq_false hi, Bool.false_and, Bool.false_and]
def cls (n : Nat) (f : Nat → Nat) (t : Nat) : Nat := sbs n (fun r => decide (f r = t))
theorem cls_lt (n : Nat) (f : Nat → Nat) (t : Nat) : cls n f t < 2 ^ n := sbs_lt _ n
theorem cls_bit {n : Nat} {f : Nat → Nat} {t r : Nat} (h : r < n) : (cls n f t).testBit r = true ↔ f r = t := by
  unfold cls
  rw [sbs_in h, decide_eq_true_iff]
theorem cls_congr {n : Nat} {f g : Nat → Nat} (h : ∀ r, r < n → f r = g r) (t : Nat) : cls n f t = cls n g t := sbs_congr (fun i hi => by rw [h i hi])
/-- what is summed table by table is summed reader by reader -/
theorem cls_sum {n T : Nat} {f : Nat → Nat} (h : ∀ r, r < n → f r < T) (g : Nat → Nat → Int) : smi T (fun t => smi n (fun r => if (cls n f t).testBit r = true then g t r else 0)) = smi n (fun r => g (f r) r) := by
  rw [smi_swap]
  refine smi_congr (fun r hr => ?_)
  rw [← smi_one (fun t => g t r) (h r hr)]
  refine smi_congr (fun t _ => ?_)
  by_cases e : f r = t
  · rw [if_pos ((cls_bit hr).mpr e), if_pos e]
  · rw [if_neg (fun z => e ((cls_bit hr).mp z)), if_neg e]
theorem popw_smi (n S : Nat) : (popw n S : Int) = smi n (fun r => if S.testBit r = true then 1 else 0) := by
  induction n with
  | zero => rfl
  | succ n ih =>
    show ((popw n S + (if S.testBit n = true then 1 else 0) : Nat) : Int) = smi n (fun r => if S.testBit r = true then 1 else 0) + (if S.testBit n = true then 1 else 0)
    rw [← ih]
    split <;> omega
/-! what a table brings with a set of readers -/
abbrev nN (L : Lb) : Nat := (nR L).toNat
abbrev tN (L : Lb) : Nat := (nT L).toNat
def zeC (L : Lb) (R : Rl) (H : Hl) (t : Nat) (s : Int) (r : Nat) : List (Int × Int) := cour L R H r (L 7 t) s False
def zeB (L : Lb) (R : Rl) (H : Hl) (t : Nat) (s : Int) (r : Nat) : Int := burS L R (H 8 0) r (L 7 t) s (pop (kn H r))
def zeL (L : Lb) (R : Rl) (H : Hl) (t S : Nat) : Int := smi (nN L) (fun r => if S.testBit r = true then zeB L R H t (pop S) r else 0)
def zeG (L : Lb) (R : Rl) (H : Hl) (t S r : Nat) : Int := (rdn (zeL L R H t S) (zeC L R H t (pop S) r) : Int)
def zeR (L : Lb) (R : Rl) (H : Hl) (t S : Nat) : Int := smi (nN L) (fun r => if S.testBit r = true then zeG L R H t S r else 0)
def zeM (L : Lb) (R : Rl) (H : Hl) (t S : Nat) : Nat → Int
  | 0 => 0
  | r + 1 => if S.testBit r = true then max (zeM L R H t S r) (stp (zeL L R H t S) (zeC L R H t (pop S) r)) else zeM L R H t S r
def zeT (L : Lb) (t S : Nat) : Int := smi (nN L) (fun r => if S.testBit r = true then (t : Int) * ((tN L ^ (nN L - 1 - r) : Nat) : Int) else 0)
def zeW (L : Lb) (R : Rl) (H : Hl) (t S : Nat) : Int := ((((zeR L R H t S) * 4096) + zeL L R H t S) - zeM L R H t S (nN L)) * 16384 - zeT L t S
/-- the readers sit by f, nothing is left off -/
def Seats (L : Lb) (H H' : Hl) (f : Nat → Nat) : Prop := (∀ r : Nat, r < nN L → H' 1 r = ((f r : Nat) : Int) ∧ f r < tN L ∧ kn H' r = kn H r ∧ H' 4 r = -1 ∧ lsH H' r = lsH H r) ∧ H' 8 0 = H 8 0
theorem se_sit {L : Lb} {H H' : Hl} {f : Nat → Nat} (hL : WfL L) (h : Seats L H H' f) (t : Nat) : sit L H' t = (pop (cls (nN L) f t) : Int) := by
  have hR6 := hL.2.2.1
  rw [pop_hi (cls_lt (nN L) f t) (show (nR L).toNat ≤ 14 by omega), popw_smi]
  unfold sit
  refine smi_congr (fun r hr => ?_)
  rw [(h.1 r hr).1]
  by_cases e : f r = t
  · rw [if_pos (Int.ofNat_inj.mpr e), if_pos ((cls_bit hr).mpr e)]
  · rw [if_neg (fun z => e (Int.ofNat_inj.mp z)), if_neg (fun z => e ((cls_bit hr).mp z))]
theorem dr_m1 (L : Lb) (t : Nat) : dr L (-1) t = L 7 t := by
  unfold dr
  rw [if_neg (by omega)]
  omega
theorem se_lig {L : Lb} {R : Rl} {H H' : Hl} {f : Nat → Nat} (hL : WfL L) (h : Seats L H H' f) (t : Nat) : ltN L R H' (-1) t = zeL L R H t (cls (nN L) f t) := by
  unfold ltN lig zeL zeB
  rw [se_sit hL h, dr_m1]
  refine smi_congr (fun r hr => ?_)
  obtain ⟨h1, -, h2, -, -⟩ := h.1 r hr
  rw [h1, h2, h.2]
  by_cases e : f r = t
  · rw [if_pos (Int.ofNat_inj.mpr e), if_pos ((cls_bit hr).mpr e)]
  · rw [if_neg (fun z => e (Int.ofNat_inj.mp z)), if_neg (fun z => e ((cls_bit hr).mp z))]
theorem se_cour {L : Lb} {R : Rl} {H H' : Hl} {r : Nat} {d s : Int} (h8 : H' 8 0 = H 8 0) (h2 : kn H' r = kn H r) (h4 : H' 4 r = -1) (h7 : lsH H' r = lsH H r) : cour L R H' r d s True = cour L R H r d s False := by
  have e1 : fstP L H' r True = nxt L (kn H r) (lsH H r) := by
    unfold fstP
    rw [if_neg (fun z => z.2.1 h4), h2, h7]
  have e2 : donP L H' r True = 0 := by
    unfold donP
    rw [if_neg (fun z => z.2.1 (z.2.2.trans h4))]
  have e3 : fstP L H r False = nxt L (kn H r) (lsH H r) := by
    unfold fstP
    rw [if_neg (fun z => z.1)]
  have e4 : donP L H r False = 0 := by
    unfold donP
    rw [if_neg (fun z => z.1)]
  have e5 : tkS L R H' r d s = tkS L R H r d s := by
    unfold tkS
    rw [h8]
  unfold cour
  rw [e1, e2, e3, e4, e5, h2, h7]
theorem se_co {L : Lb} {R : Rl} {H H' : Hl} {f : Nat → Nat} (hL : WfL L) (h : Seats L H H' f) {r : Nat} (hr : r < nN L) : coN L R H' (-1) r = zeC L R H (f r) (pop (cls (nN L) f (f r))) r := by
  obtain ⟨h1, -, h2, h4, h7⟩ := h.1 r hr
  unfold coN zeC
  rw [h1, se_sit hL h, dr_m1]
  exact se_cour h.2 h2 h4 h7
theorem se_ls {L : Lb} {R : Rl} {H H' : Hl} {f : Nat → Nat} (hL : WfL L) (h : Seats L H H' f) (t : Nat) : ∀ m, m ≤ nN L → lsN L R H' (-1) t m = zeM L R H t (cls (nN L) f t) m
  | 0, _ => rfl
  | m + 1, hm => by
    have h1 := (h.1 m (by omega)).1
    rw [lsN, zeM, se_ls hL h t m (by omega), h1]
    by_cases e : f m = t
    · rw [if_pos (Int.ofNat_inj.mpr e), if_pos ((cls_bit (by omega)).mpr e)]
      unfold stN
      rw [h1, se_lig hL h, se_co hL h (by omega), e]
    · rw [if_neg (fun z => e (Int.ofNat_inj.mp z)), if_neg (fun z => e ((cls_bit (by omega)).mp z))]
def seRd (L : Lb) (R : Rl) (H : Hl) (f : Nat → Nat) : Int := smi (tN L) (fun t => zeR L R H t (cls (nN L) f t))
def seWx (L : Lb) (R : Rl) (H : Hl) (f : Nat → Nat) : Int := smi (tN L) (fun t => zeL L R H t (cls (nN L) f t) - zeM L R H t (cls (nN L) f t) (nN L))
theorem se_rd {L : Lb} {R : Rl} {H H' : Hl} {f : Nat → Nat} (hL : WfL L) (h : Seats L H H' f) : allR L R H' (-1) = seRd L R H f := by
  unfold seRd zeR
  rw [cls_sum (fun r hr => (h.1 r hr).2.1) (fun t r => zeG L R H t (cls (nN L) f t) r)]
  unfold allR
  refine smi_congr (fun r hr => ?_)
  unfold rdA zeG
  rw [(h.1 r hr).1, se_lig hL h, se_co hL h hr]
theorem se_wx {L : Lb} {R : Rl} {H H' : Hl} {f : Nat → Nat} (hL : WfL L) (h : Seats L H H' f) : waA L R H' (-1) = seWx L R H f := by
  unfold seWx waA
  refine smi_congr (fun t _ => ?_)
  rw [se_lig hL h, se_ls hL h t (nN L) (Nat.le_refl _)]
/-! bounds -/
theorem zeC_rng {L : Lb} {R : Rl} {H : Hl} (hL : WfL L) (hH : WfH L H) {t r : Nat} {s : Int} (hr : r < nN L) : (zeC L R H t s r).length ≤ 8 ∧ ∀ k, k < (zeC L R H t s r).length → 0 ≤ ce (zeC L R H t s r) k ∧ ce (zeC L R H t s r) k ≤ 4000 := by
  have hr' : r < (nR L).toNat := hr
  have h := cour_rng (R := R) hL hH (r := (r : Int)) (d := L 7 t) (s := s) ⟨by omega, by omega⟩ False
  exact ⟨h.1, fun k hk => (h.2 k hk).2⟩
theorem zeL_bd {L : Lb} {R : Rl} {H : Hl} (hL : WfL L) (t S : Nat) : 0 ≤ zeL L R H t S ∧ zeL L R H t S ≤ 3000 := by
  have h := smi_bd (n := nN L) (f := fun r => if S.testBit r = true then zeB L R H t (pop S) r else 0) (b := 500) (by decide) (fun i _ => by
    have := burS_in (R := R) hL (night := H 8 0) (r := (i : Int)) (d := L 7 t) (s := pop S) (k := pop (kn H i))
    show 0 ≤ (if S.testBit i = true then burS L R (H 8 0) i (L 7 t) (pop S) (pop (kn H i)) else 0) ∧ (if S.testBit i = true then burS L R (H 8 0) i (L 7 t) (pop S) (pop (kn H i)) else 0) ≤ 500
    split <;> omega)
  have := hL.2.2.1
  unfold zeL
  have e : (nN L : Int) ≤ 6 := by
    show ((nR L).toNat : Int) ≤ 6
    omega
  omega
theorem zeG_bd {L : Lb} {R : Rl} {H : Hl} (hL : WfL L) (hH : WfH L H) {t S r : Nat} (hr : r < nN L) : 0 ≤ zeG L R H t S r ∧ zeG L R H t S r ≤ 8 := by
  have h1 := rdn_le (zeL L R H t S) (zeC L R H t (pop S) r)
  have h2 := (zeC_rng (R := R) hL hH (t := t) (s := pop S) hr).1
  unfold zeG
  omega
theorem zeR_bd {L : Lb} {R : Rl} {H : Hl} (hL : WfL L) (hH : WfH L H) (t S : Nat) : 0 ≤ zeR L R H t S ∧ zeR L R H t S ≤ 48 := by
  have h := smi_bd (n := nN L) (f := fun r => if S.testBit r = true then zeG L R H t S r else 0) (b := 8) (by decide) (fun i hi => by
    have := zeG_bd (R := R) hL hH (t := t) (S := S) hi
    show 0 ≤ (if S.testBit i = true then zeG L R H t S i else 0) ∧ (if S.testBit i = true then zeG L R H t S i else 0) ≤ 8
    split <;> omega)
  have := hL.2.2.1
  unfold zeR
  have e : (nN L : Int) ≤ 6 := by
    show ((nR L).toNat : Int) ≤ 6
    omega
  omega
theorem se_stp {L : Lb} {R : Rl} {H : Hl} (hL : WfL L) (hH : WfH L H) {t S r : Nat} (hr : r < nN L) : 0 ≤ stp (zeL L R H t S) (zeC L R H t (pop S) r) ∧ stp (zeL L R H t S) (zeC L R H t (pop S) r) ≤ zeL L R H t S := by
  have h1 := zeL_bd (R := R) (H := H) hL t S
  have h2 := (zeC_rng (R := R) hL hH (t := t) (s := pop S) hr).2
  unfold stp
  split
  · omega
  · have := h2 ((zeC L R H t (pop S) r).length - 1) (by omega)
    omega
theorem zeM_bd {L : Lb} {R : Rl} {H : Hl} (hL : WfL L) (hH : WfH L H) (t S : Nat) : ∀ m, m ≤ nN L → 0 ≤ zeM L R H t S m ∧ zeM L R H t S m ≤ zeL L R H t S
  | 0, _ => ⟨Int.le_refl _, (zeL_bd hL t S).1⟩
  | m + 1, hm => by
    have h1 := zeM_bd (R := R) hL hH t S m (by omega)
    have h2 := se_stp (R := R) hL hH (t := t) (S := S) (r := m) (by omega)
    rw [zeM]
    split <;> omega
theorem pow5 {T d : Nat} (hT : T ≤ 5) (hd : d ≤ 5) : T ^ d ≤ 3125 := Nat.le_trans (Nat.pow_le_pow_left hT d) (Nat.pow_le_pow_right (n := 5) (by decide) hd)
theorem zeT_bd {L : Lb} (hL : WfL L) {t : Nat} (ht : t < tN L) (S : Nat) : 0 ≤ zeT L t S ∧ zeT L t S ≤ 93750 := by
  have hR6 := hL.2.2.1
  have hT5 := hL.2.2.2.1
  have e5 : tN L ≤ 5 := by
    show (nT L).toNat ≤ 5
    omega
  have e6 : nN L ≤ 6 := by
    show (nR L).toNat ≤ 6
    omega
  have h := smi_bd (n := nN L) (f := fun r => if S.testBit r = true then (t : Int) * ((tN L ^ (nN L - 1 - r) : Nat) : Int) else 0) (b := 15625) (by decide) (fun i _ => by
    have h1 := pow5 e5 (show nN L - 1 - i ≤ 5 by omega)
    have h2 : t * tN L ^ (nN L - 1 - i) ≤ 5 * 3125 := Nat.mul_le_mul (by omega) h1
    show 0 ≤ (if S.testBit i = true then (t : Int) * ((tN L ^ (nN L - 1 - i) : Nat) : Int) else 0) ∧ (if S.testBit i = true then (t : Int) * ((tN L ^ (nN L - 1 - i) : Nat) : Int) else 0) ≤ 15625
    rw [← Int.natCast_mul]
    split <;> omega)
  unfold zeT
  omega
theorem zeW_bd {L : Lb} {R : Rl} {H : Hl} (hL : WfL L) (hH : WfH L H) {t : Nat} (ht : t < tN L) (S : Nat) : -100000 ≤ zeW L R H t S ∧ zeW L R H t S ≤ 10000000000 := by
  have h1 := zeR_bd (R := R) hL hH t S
  have h2 := zeL_bd (R := R) (H := H) hL t S
  have h3 := zeM_bd (R := R) hL hH t S (nN L) (Nat.le_refl _)
  have h4 := zeT_bd hL ht S
  unfold zeW
  omega
theorem zeM_0 {L : Lb} {R : Rl} {H : Hl} (t : Nat) : ∀ m, zeM L R H t 0 m = 0
  | 0 => rfl
  | m + 1 => by
    rw [zeM, Nat.zero_testBit, if_neg (by decide), zeM_0 t m]
theorem zeW_0 {L : Lb} {R : Rl} {H : Hl} (t : Nat) : zeW L R H t 0 = 0 := by
  have z : ∀ g : Nat → Int, smi (nN L) (fun r => if (0 : Nat).testBit r = true then g r else 0) = 0 := fun g => by
    rw [smi_congr (g := fun _ => 0) (fun i _ => by rw [Nat.zero_testBit, if_neg (by decide)]), smi_zero]
  have e1 : zeR L R H t 0 = 0 := z _
  have e2 : zeL L R H t 0 = 0 := z _
  have e3 : zeT L t 0 = 0 := z _
  unfold zeW
  rw [e1, e2, e3, zeM_0]
  rfl
/-! ways as numbers -/
def wy (T : Nat) : Nat → (Nat → Nat) → Nat
  | 0, _ => 0
  | n + 1, f => T * wy T n f + f n
theorem wy_congr {T : Nat} {f g : Nat → Nat} : ∀ {n : Nat}, (∀ r, r < n → f r = g r) → wy T n f = wy T n g
  | 0, _ => rfl
  | n + 1, h => by rw [wy, wy, wy_congr (fun r hr => h r (by omega)), h n (by omega)]
theorem wy_shd {T : Nat} {f : Nat → Nat} : ∀ {n : Nat}, (∀ r, r < n → f r < T) → ∀ r, r < n → shd T n (wy T n f) r = f r
  | 0, _, r, hr => absurd hr (Nat.not_lt_zero _)
  | n + 1, h, r, hr => by
    rw [wy, shd_ch (h n (by omega))]
    by_cases e : r < n
    · rw [if_pos e, wy_shd (fun r hr => h r (by omega)) r e]
    · rw [if_neg e, if_pos (by omega), show r = n by omega]
theorem wy_lt {T : Nat} {f : Nat → Nat} : ∀ {n : Nat}, (∀ r, r < n → f r < T) → wy T n f < T ^ n
  | 0, _ => by
    show 0 < T ^ 0
    rw [Nat.pow_zero]
    decide
  | n + 1, h => by
    have h1 := wy_lt (T := T) (f := f) (n := n) (fun r hr => h r (by omega))
    have h2 := h n (by omega)
    have h3 : T * (wy T n f + 1) ≤ T * T ^ n := Nat.mul_le_mul_left T h1
    rw [wy, Nat.pow_succ, Nat.mul_comm (T ^ n) T]
    rw [Nat.mul_add, Nat.mul_one] at h3
    omega
theorem wy_of {T : Nat} : ∀ {n w : Nat}, w < T ^ n → wy T n (shd T n w) = w
  | 0, w, h => by
    rw [Nat.pow_zero] at h
    show 0 = w
    omega
  | n + 1, w, h => by
    have h1 : w / T < T ^ n := Nat.div_lt_of_lt_mul (by rwa [Nat.pow_succ, Nat.mul_comm] at h)
    rw [wy, shd_last, wy_congr (g := shd T n (w / T)) (fun r hr => shd_succ hr), wy_of h1, Nat.div_add_mod]
theorem wy_sum {T : Nat} {f : Nat → Nat} : ∀ n, ((wy T n f : Nat) : Int) = smi n (fun r => ((f r : Nat) : Int) * ((T ^ (n - 1 - r) : Nat) : Int))
  | 0 => rfl
  | n + 1 => by
    show ((T * wy T n f + f n : Nat) : Int) = smi n (fun r => ((f r : Nat) : Int) * ((T ^ (n + 1 - 1 - r) : Nat) : Int)) + ((f n : Nat) : Int) * ((T ^ (n + 1 - 1 - n) : Nat) : Int)
    rw [smi_congr (g := fun r => (((f r : Nat) : Int) * ((T ^ (n - 1 - r) : Nat) : Int)) * (T : Int)) (fun r hr => by
      rw [show n + 1 - 1 - r = (n - 1 - r) + 1 by omega, Nat.pow_succ, Int.natCast_mul, Int.mul_assoc]), smi_mulr, ← wy_sum n, show n + 1 - 1 - n = 0 by omega, Nat.pow_zero, Int.natCast_add, Int.natCast_mul, Int.mul_comm (T : Int)]
    omega
/-- the worth of a way -/
def zeV (L : Lb) (R : Rl) (H : Hl) (f : Nat → Nat) : Int := (seRd L R H f * 4096 + seWx L R H f) * 16384 - ((wy (tN L) (nN L) f : Nat) : Int)
theorem zeV_congr {L : Lb} {R : Rl} {H : Hl} {f g : Nat → Nat} (h : ∀ r, r < nN L → f r = g r) : zeV L R H f = zeV L R H g ∧ seRd L R H f = seRd L R H g ∧ seWx L R H f = seWx L R H g := by
  have e1 : seRd L R H f = seRd L R H g := by
    unfold seRd
    exact smi_congr (fun t _ => by rw [cls_congr h t])
  have e2 : seWx L R H f = seWx L R H g := by
    unfold seWx
    exact smi_congr (fun t _ => by rw [cls_congr h t])
  refine ⟨?_, e1, e2⟩
  unfold zeV
  rw [e1, e2, wy_congr h]
theorem zeV_sum {L : Lb} {R : Rl} {H : Hl} {f : Nat → Nat} (h : ∀ r, r < nN L → f r < tN L) : smi (tN L) (fun t => zeW L R H t (cls (nN L) f t)) = zeV L R H f := by
  have eT : smi (tN L) (fun t => zeT L t (cls (nN L) f t)) = ((wy (tN L) (nN L) f : Nat) : Int) := by
    unfold zeT
    rw [cls_sum h (fun t r => (t : Int) * ((tN L ^ (nN L - 1 - r) : Nat) : Int)), wy_sum]
  have e1 : ∀ t, zeW L R H t (cls (nN L) f t) = (zeR L R H t (cls (nN L) f t) * 4096 + (zeL L R H t (cls (nN L) f t) - zeM L R H t (cls (nN L) f t) (nN L))) * 16384 - zeT L t (cls (nN L) f t) := fun t => by
    unfold zeW
    omega
  rw [smi_congr (fun t _ => e1 t), smi_sub, smi_mulr, smi_add, smi_mulr, eT]
  rfl
theorem seRd_bd {L : Lb} {R : Rl} {H : Hl} (hL : WfL L) (hH : WfH L H) {f : Nat → Nat} (h : ∀ r, r < nN L → f r < tN L) : 0 ≤ seRd L R H f ∧ seRd L R H f ≤ 48 := by
  have hb := smi_bd (n := nN L) (f := fun r => zeG L R H (f r) (cls (nN L) f (f r)) r) (b := 8) (by decide) (fun i hi => zeG_bd hL hH hi)
  have hR6 := hL.2.2.1
  unfold seRd zeR
  rw [cls_sum h (fun t r => zeG L R H t (cls (nN L) f t) r)]
  have e : (nN L : Int) ≤ 6 := by
    show ((nR L).toNat : Int) ≤ 6
    omega
  omega
theorem smi_le {n : Nat} {f g : Nat → Int} (h : ∀ i, i < n → 0 ≤ f i ∧ f i ≤ g i) : 0 ≤ smi n f ∧ smi n f ≤ smi n g := by
  induction n with
  | zero => exact ⟨Int.le_refl _, Int.le_refl _⟩
  | succ n ih =>
    have h1 := ih (fun i hi => h i (by omega))
    have h2 := h n (by omega)
    show 0 ≤ smi n f + f n ∧ smi n f + f n ≤ smi n g + g n
    omega
theorem seWx_bd {L : Lb} {R : Rl} {H : Hl} (hL : WfL L) (hH : WfH L H) {f : Nat → Nat} (h : ∀ r, r < nN L → f r < tN L) : 0 ≤ seWx L R H f ∧ seWx L R H f ≤ 3000 := by
  have h1 := smi_le (n := tN L) (f := fun t => zeL L R H t (cls (nN L) f t) - zeM L R H t (cls (nN L) f t) (nN L)) (g := fun t => zeL L R H t (cls (nN L) f t)) (fun t _ => by
    have := zeM_bd (R := R) hL hH t (cls (nN L) f t) (nN L) (Nat.le_refl _)
    omega)
  have e1 : smi (tN L) (fun t => zeL L R H t (cls (nN L) f t)) = smi (nN L) (fun r => zeB L R H (f r) (pop (cls (nN L) f (f r))) r) := cls_sum h (fun t r => zeB L R H t (pop (cls (nN L) f t)) r)
  have hb := smi_bd (n := nN L) (f := fun r => zeB L R H (f r) (pop (cls (nN L) f (f r))) r) (b := 500) (by decide) (fun i _ => burS_in hL)
  have hR6 := hL.2.2.1
  have e : (nN L : Int) ≤ 6 := by
    show ((nR L).toNat : Int) ≤ 6
    omega
  unfold seWx
  omega
theorem wy_bd {L : Lb} (hL : WfL L) {f : Nat → Nat} (h : ∀ r, r < nN L → f r < tN L) : wy (tN L) (nN L) f < 15626 := by
  have h1 := wy_lt h
  have hR6 := hL.2.2.1
  have hT5 := hL.2.2.2.1
  have e5 : tN L ≤ 5 := by
    show (nT L).toNat ≤ 5
    omega
  have e6 : nN L ≤ 6 := by
    show (nR L).toNat ≤ 6
    omega
  have h2 : tN L ^ nN L ≤ 5 ^ 6 := Nat.le_trans (Nat.pow_le_pow_left e5 _) (Nat.pow_le_pow_right (by decide) e6)
  omega
/-! the tables joined -/
def clS (n : Nat) (f : Nat → Nat) (S t : Nat) : Nat := sbs n (fun r => S.testBit r && decide (f r = t))
def vlS (W : Nat → Nat → Int) (n T : Nat) (f : Nat → Nat) (S : Nat) : Int := smi T (fun t => W t (clS n f S t))
def zeI (W : Nat → Nat → Int) (n T : Nat) (B : Nat → Int) : Prop := ∀ S, S < 2 ^ n → (∀ f : Nat → Nat, (∀ r, r < n → S.testBit r = true → f r < T) → vlS W n T f S ≤ B S) ∧ ((∃ f : Nat → Nat, (∀ r, r < n → S.testBit r = true → f r < T) ∧ B S = vlS W n T f S) ∨ B S ≤ -1000000000000 + (T : Int) * 10000000000)
theorem bits_0 {n S : Nat} (hS : S < 2 ^ n) (h : ∀ r, r < n → S.testBit r = false) : S = 0 := by
  refine Nat.eq_of_testBit_eq (fun i => ?_)
  rw [Nat.zero_testBit]
  by_cases hi : i < n
  · exact h i hi
  · exact hi_bit hS (by omega)
theorem zeI_0 {W : Nat → Nat → Int} {n : Nat} {B : Nat → Int} (h0 : B 0 = 0) (h : ∀ S, S < 2 ^ n → S ≠ 0 → B S = -1000000000000) : zeI W n 0 B := by
  intro S hS
  refine ⟨fun f hf => ?_, ?_⟩
  · have : S = 0 := bits_0 hS (fun r hr => by
      cases hb : S.testBit r
      · rfl
      · exact absurd (hf r hr hb) (Nat.not_lt_zero _))
    subst this
    rw [h0]
    exact Int.le_refl _
  · by_cases e : S = 0
    · subst e
      refine Or.inl ⟨fun _ => 0, fun r _ hb => ?_, h0⟩
      rw [Nat.zero_testBit] at hb
      exact absurd hb (by decide)
    · refine Or.inr ?_
      rw [h S hS e]
      decide
theorem clS_bit {n : Nat} {f : Nat → Nat} {S t r : Nat} (h : r < n) : (clS n f S t).testBit r = (S.testBit r && decide (f r = t)) := sbs_in h
theorem clS_lt (n : Nat) (f : Nat → Nat) (S t : Nat) : clS n f S t < 2 ^ n := sbs_lt _ n
theorem sub_bit {h S i : Nat} (e : h &&& S = h) (hb : h.testBit i = true) : S.testBit i = true := by
  rw [← e, Nat.testBit_and, Bool.and_eq_true] at hb
  exact hb.2
theorem sub_le {h S : Nat} (e : h &&& S = h) : h ≤ S := by
  rw [← e]
  exact Nat.and_le_right
theorem zeI.step {W : Nat → Nat → Int} {n T : Nat} {B B' : Nat → Int} (hI : zeI W n T B) (hW : ∀ S, S < 2 ^ n → W T S ≤ 10000000000) (h1 : ∀ S, S < 2 ^ n → ∀ h, h &&& S = h → B (dif S h) + W T h ≤ B' S) (h2 : ∀ S, S < 2 ^ n → ∃ h, h &&& S = h ∧ B' S = B (dif S h) + W T h) : zeI W n (T + 1) B' := by
  intro S hS
  refine ⟨fun f hf => ?_, ?_⟩
  · have hsub : clS n f S T &&& S = clS n f S T := by
      refine Nat.eq_of_testBit_eq (fun i => ?_)
      rw [Nat.testBit_and]
      by_cases hi : i < n
      · rw [clS_bit hi]
        cases S.testBit i <;> simp
      · rw [hi_bit (clS_lt n f S T) (by omega), Bool.false_and]
    have hd : dif S (clS n f S T) < 2 ^ n := dif_lt hS
    have bt : ∀ r, r < n → (dif S (clS n f S T)).testBit r = (S.testBit r && !decide (f r = T)) := fun r hr => by
      rw [dif_bit, clS_bit hr]
      cases S.testBit r <;> simp
    have hfd : ∀ r, r < n → (dif S (clS n f S T)).testBit r = true → f r < T := fun r hr hb => by
      rw [bt r hr, Bool.and_eq_true] at hb
      have := hf r hr hb.1
      have : f r ≠ T := fun e => by
        rw [e] at hb
        simp at hb
      omega
    have ih := (hI _ hd).1 f hfd
    have hx := h1 S hS _ hsub
    have ev : vlS W n T f S = vlS W n T f (dif S (clS n f S T)) := by
      unfold vlS
      refine smi_congr (fun t ht => ?_)
      have : clS n f S t = clS n f (dif S (clS n f S T)) t := by
        refine sbs_congr (fun r hr => ?_)
        rw [bt r hr]
        by_cases e : f r = t
        · rw [decide_eq_true e, decide_eq_false (show ¬ f r = T by omega), Bool.and_true, Bool.and_true, Bool.not_false, Bool.and_true]
        · rw [decide_eq_false e, Bool.and_false, Bool.and_false]
      rw [this]
    have es : vlS W n (T + 1) f S = vlS W n T f S + W T (clS n f S T) := rfl
    omega
  · obtain ⟨h, hs, hB⟩ := h2 S hS
    have hd : dif S h < 2 ^ n := dif_lt hS
    have hl : h < 2 ^ n := Nat.lt_of_le_of_lt (sub_le hs) hS
    rcases (hI _ hd).2 with ⟨f, hf, e⟩ | e
    · left
      refine ⟨fun r => if h.testBit r = true then T else f r, fun r hr hb => ?_, ?_⟩
      · dsimp only
        by_cases hh : h.testBit r = true
        · rw [if_pos hh]
          exact Nat.lt_succ_self T
        · rw [if_neg hh]
          have hh : h.testBit r = false := by
            cases q : h.testBit r
            · rfl
            · exact absurd q hh
          have := hf r hr (by rw [dif_bit, hb, hh]; rfl)
          omega
      · have e1 : vlS W n (T + 1) (fun r => if h.testBit r = true then T else f r) S = vlS W n T (fun r => if h.testBit r = true then T else f r) S + W T (clS n (fun r => if h.testBit r = true then T else f r) S T) := rfl
        have e2 : vlS W n T (fun r => if h.testBit r = true then T else f r) S = vlS W n T f (dif S h) := by
          unfold vlS
          refine smi_congr (fun t ht => ?_)
          have : clS n (fun r => if h.testBit r = true then T else f r) S t = clS n f (dif S h) t := by
            refine sbs_congr (fun r hr => ?_)
            rw [dif_bit]
            by_cases hh : h.testBit r = true
            · rw [hh, decide_eq_false (show ¬ (if h.testBit r = true then T else f r) = t by rw [if_pos hh]; omega), Bool.and_false, Bool.not_true, Bool.and_false, Bool.false_and]
            · have h0 : h.testBit r = false := by
                cases q : h.testBit r
                · rfl
                · exact absurd q hh
              rw [h0, Bool.not_false, Bool.and_true, decide_eq_decide.mpr (show (if h.testBit r = true then T else f r) = t ↔ f r = t by rw [if_neg hh])]
          rw [this]
        have e3 : clS n (fun r => if h.testBit r = true then T else f r) S T = h := by
          refine Nat.eq_of_testBit_eq (fun r => ?_)
          by_cases hr : r < n
          · rw [clS_bit hr]
            by_cases hh : h.testBit r = true
            · rw [hh, sub_bit hs hh]
              simp
            · have h0 : h.testBit r = false := by
                cases q : h.testBit r
                · rfl
                · exact absurd q hh
              rw [h0]
              cases hb : S.testBit r
              · rfl
              · have := hf r hr (by rw [dif_bit, hb, h0]; rfl)
                have hne : ¬ f r = T := by omega
                simp [hne]
          · rw [hi_bit (clS_lt n _ S T) (by omega), hi_bit hl (by omega)]
        rw [e1, e2, e3, hB, e]
    · right
      have := hW h hl
      rw [hB]
      omega
/-- the best way -/
def seBest (L : Lb) (R : Rl) (H : Hl) (b : Nat) : Prop := b < tN L ^ nN L ∧ ∀ w, w < tN L ^ nN L → zeV L R H (shd (tN L) (nN L) w) ≤ zeV L R H (shd (tN L) (nN L) b)
theorem zeI.fin {L : Lb} {R : Rl} {H : Hl} {B : Nat → Int} (hL : WfL L) (hH : WfH L H) (hT : 0 < tN L) (hI : zeI (zeW L R H) (nN L) (tN L) B) : ∃ b, seBest L R H b ∧ B (2 ^ nN L - 1) = zeV L R H (shd (tN L) (nN L) b) := by
  have hp := Nat.two_pow_pos (nN L)
  have hT5 := hL.2.2.2.1
  have e5 : tN L ≤ 5 := by
    show (nT L).toNat ≤ 5
    omega
  have bt : ∀ r, r < nN L → (2 ^ nN L - 1).testBit r = true := fun r hr => by
    rw [Nat.testBit_two_pow_sub_one, decide_eq_true hr]
  have ev : ∀ f : Nat → Nat, (∀ r, r < nN L → f r < tN L) → vlS (zeW L R H) (nN L) (tN L) f (2 ^ nN L - 1) = zeV L R H f := fun f hf => by
    rw [← zeV_sum hf]
    unfold vlS
    refine smi_congr (fun t _ => ?_)
    have : clS (nN L) f (2 ^ nN L - 1) t = cls (nN L) f t := sbs_congr (fun r hr => by rw [bt r hr, Bool.true_and])
    rw [this]
  have sl : ∀ w r, shd (tN L) (nN L) w r < tN L := fun w r => shd_lt hT
  obtain ⟨up, at_⟩ := hI (2 ^ nN L - 1) (by omega)
  have upw : ∀ w, zeV L R H (shd (tN L) (nN L) w) ≤ B (2 ^ nN L - 1) := fun w => by
    rw [← ev _ (fun r _ => sl w r)]
    exact up _ (fun r _ _ => sl w r)
  rcases at_ with ⟨f, hf, e⟩ | e
  · have hf2 : ∀ r, r < nN L → f r < tN L := fun r hr => hf r hr (bt r hr)
    have eb := zeV_congr (L := L) (R := R) (H := H) (f := shd (tN L) (nN L) (wy (tN L) (nN L) f)) (g := f) (wy_shd hf2)
    refine ⟨wy (tN L) (nN L) f, ⟨wy_lt hf2, fun w _ => ?_⟩, ?_⟩
    · rw [eb.1, ← ev f hf2, ← e]
      exact upw w
    · rw [eb.1, ← ev f hf2, e]
  · have h0 := upw 0
    have f0 : ∀ r, r < nN L → shd (tN L) (nN L) 0 r < tN L := fun r _ => sl 0 r
    have b1 := seRd_bd (R := R) hL hH f0
    have b2 := seWx_bd (R := R) hL hH f0
    have b3 := wy_bd hL f0
    unfold zeV at h0
    omega
theorem seBest.un {L : Lb} {R : Rl} {H : Hl} (hL : WfL L) (hH : WfH L H) (hT : 0 < tN L) {b b' : Nat} (h : seBest L R H b) (h' : seBest L R H b') : b = b' := by
  have h1 := h.2 b' h'.1
  have h2 := h'.2 b h.1
  have f0 : ∀ w, ∀ r, r < nN L → shd (tN L) (nN L) w r < tN L := fun w r _ => shd_lt hT
  have b1 := seRd_bd (R := R) hL hH (f0 b)
  have b2 := seWx_bd (R := R) hL hH (f0 b)
  have b3 := wy_bd hL (f0 b)
  have c1 := seRd_bd (R := R) hL hH (f0 b')
  have c2 := seWx_bd (R := R) hL hH (f0 b')
  have c3 := wy_bd hL (f0 b')
  unfold zeV at h1 h2
  rw [wy_of h.1] at h1 h2 b3
  rw [wy_of h'.1] at h1 h2 c3
  omega
/-! the sets below a set, from itself down -/
theorem sub_next : ∀ (n s a h : Nat), a < 2 ^ n → h &&& s = h → a &&& s = a → h < a → h ≤ (a - 1) &&& s := by
  intro n
  induction n with
  | zero =>
    intro s a h ha _ _ hl
    rw [Nat.pow_zero] at ha
    omega
  | succ n ih =>
    intro s a h ha hs as hl
    rw [Nat.pow_succ] at ha
    have d1 : h / 2 &&& s / 2 = h / 2 := by rw [← Nat.and_div_two, hs]
    have d2 : a / 2 &&& s / 2 = a / 2 := by rw [← Nat.and_div_two, as]
    have m1 : h % 2 = 1 → s % 2 = 1 := fun e => by
      rw [← hs] at e
      exact (Nat.and_mod_two_eq_one.mp e).2
    have m2 : a % 2 = 1 → s % 2 = 1 := fun e => by
      rw [← as] at e
      exact (Nat.and_mod_two_eq_one.mp e).2
    have e := Nat.div_add_mod ((a - 1) &&& s) 2
    rw [Nat.and_div_two] at e
    rcases Nat.mod_two_eq_zero_or_one a with q | q
    · have q1 : (a - 1) / 2 = a / 2 - 1 := by omega
      have q2 : (a - 1) % 2 = 1 := by omega
      have i := ih (s / 2) (a / 2) (h / 2) (by omega) d1 d2 (by omega)
      rw [q1] at e
      have q3 : h % 2 = 1 → ((a - 1) &&& s) % 2 = 1 := fun t => Nat.and_mod_two_eq_one.mpr ⟨q2, m1 t⟩
      omega
    · have q1 : (a - 1) / 2 = a / 2 := by omega
      rw [q1, d2] at e
      omega
theorem and_sub {a b : Nat} : (a &&& b) &&& b = a &&& b := by
  rw [Nat.and_assoc, Nat.and_self]
end SEATP
