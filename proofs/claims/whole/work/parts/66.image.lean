section IMAGES
/-! ===== an image is written ===== -/
def two (v : Int) : List Int := [v / 256, v % 256]
def imgO (H : Hl) (r : Int) : List Int := H 1 r :: (two (H 2 r) ++ (two (H 3 r) ++ (H 4 r + 1) :: (two (H 5 r) ++ H 6 r :: lsH H r)))
def imgR (H : Hl) : Nat → List Int
  | 0 => two (H 8 0) ++ two (H 9 0)
  | n + 1 => imgR H n ++ imgO H n
def chk (l : List Int) : Nat → Int
  | 0 => 83
  | n + 1 => (5 * chk l n + l.getD n 0) % 251
theorem chk_bd (l : List Int) : ∀ n : Nat, 0 ≤ chk l n ∧ chk l n < 251
  | 0 => by
    show (0 : Int) ≤ 83 ∧ (83 : Int) < 251
    decide
  | n + 1 => by
    unfold chk
    omega
theorem chk_congr {l l' : List Int} : ∀ {n : Nat}, (∀ j, j < n → l.getD j 0 = l'.getD j 0) → chk l n = chk l' n
  | 0, _ => rfl
  | n + 1, h => by
    rw [chk, chk, chk_congr (n := n) (fun j hj => h j (by omega)), h n (by omega)]
def imgL (L : Lb) (H : Hl) : List Int := imgR H (nR L).toNat ++ [chk (imgR H (nR L).toNat) (imgR H (nR L).toNat).length]
theorem imgO_len (H : Hl) (r : Int) : (imgO H r).length = 9 + (H 6 r).toNat := by
  have e : (lsH H r).length = (H 6 r).toNat := lsF_len _ _
  simp [imgO, two, e]
  omega
theorem imgR_len {L : Lb} {H : Hl} (hH : WfH L H) : ∀ n : Nat, n ≤ (nR L).toNat → (imgR H n).length ≤ 4 + 17 * n
  | 0, _ => by simp [imgR, two]
  | n + 1, hn => by
    have h1 := imgR_len hH n (by omega)
    have h2 := imgO_len H n
    have h3 := (hH.2.2 n (by omega) (by omega)).2.2.2.2.1
    have e : (imgR H (n + 1)).length = (imgR H n).length + (imgO H n).length := List.length_append
    omega
theorem gD_mem {l : List Int} {j : Nat} (h : j < l.length) : l.getD j 0 ∈ l := by
  rw [List.getD_eq_getElem?_getD, List.getElem?_eq_getElem h]
  exact List.getElem_mem h
theorem two_mem {v w : Int} (h : v ∈ two w) (hw : 0 ≤ w ∧ w < 65536) : 0 ≤ v ∧ v < 256 := by
  have h2 : v = w / 256 ∨ v = w % 256 := by simpa [two] using h
  rcases h2 with e | e <;> omega
theorem imgR_mem {L : Lb} {H : Hl} (hL : WfL L) (hH : WfH L H) : ∀ n : Nat, n ≤ (nR L).toNat → ∀ v ∈ imgR H n, 0 ≤ v ∧ v < 256
  | 0, _ => fun v hv => by
    have h8 := hH.1
    have h9 := hH.2.1
    rcases List.mem_append.mp hv with h | h
    · exact two_mem h ⟨h8.1, by omega⟩
    · exact two_mem h ⟨h9.1, by omega⟩
  | n + 1, hn => fun v hv => by
    have hP := hL.2.1
    have hT := hL.2.2.2.1
    have hp14 := pow_le14 (p := (nP L).toNat) (by omega)
    have hw := hH.2.2 n (by omega) (by omega)
    have hlf := left_rng hw
    have hw0 := hw
    obtain ⟨w1, w2, w3, -, w6, -, -⟩ := hw
    rcases List.mem_append.mp hv with h | h
    · exact imgR_mem hL hH n (by omega) v h
    · rcases List.mem_cons.mp h with h | h
      · omega
      · rcases List.mem_append.mp h with h | h
        · exact two_mem h ⟨w2.1, by omega⟩
        · rcases List.mem_append.mp h with h | h
          · exact two_mem h ⟨w3.1, by omega⟩
          · rcases List.mem_cons.mp h with h | h
            · omega
            · rcases List.mem_append.mp h with h | h
              · exact two_mem h ⟨by omega, by omega⟩
              · rcases List.mem_cons.mp h with h | h
                · omega
                · have := lsH_rng hw0 h
                  omega
theorem gD_lo {l : List Int} {x : Int} {j : Nat} (h : j < l.length) : (l ++ [x]).getD j 0 = l.getD j 0 := by
  rw [List.getD_eq_getElem?_getD, List.getD_eq_getElem?_getD, List.getElem?_append_left h]
theorem gD_hi {l : List Int} {x : Int} : (l ++ [x]).getD l.length 0 = x := by
  rw [List.getD_eq_getElem?_getD, List.getElem?_append_right (Nat.le_refl _), Nat.sub_self]
  rfl
theorem two_app (l : List Int) (v : Int) : l ++ two v = (l ++ [v / 256]) ++ [v % 256] := by simp [two]
theorem shr8 {v : Int} (h : 0 ≤ v ∧ v < 65536) : shr32 v 8 = v / 256 ∧ and32 v 255 = v % 256 ∧ and32 (v / 256) 255 = v / 256 ∧ (v < 256 → and32 v 255 = v) := by
  have e : v = ((v.toNat : Nat) : Int) := (Int.toNat_of_nonneg h.1).symm
  have a1 := shr_nat (a := v.toNat) (k := 8) (by omega) (by decide)
  have a2 := and32_nat (a := v.toNat) (b := 255) (by omega) (by decide)
  have a3 := and32_nat (a := v.toNat / 256) (b := 255) (by omega) (by decide)
  have e255 : (255 : Nat) = 2 ^ 8 - 1 := by decide
  rw [e255, Nat.and_two_pow_sub_one_eq_mod] at a2 a3
  rw [Nat.shiftRight_eq_div_pow] at a1
  rw [← e] at a1 a2
  have e3 : ((v.toNat / 256 : Nat) : Int) = v / 256 := by omega
  rw [e3] at a3
  have b2 : and32 v 255 = ((v.toNat % 2 ^ 8 : Nat) : Int) := a2
  have b3 : and32 (v / 256) 255 = ((v.toNat / 256 % 2 ^ 8 : Nat) : Int) := a3
  have b1 : shr32 v 8 = ((v.toNat / 2 ^ 8 : Nat) : Int) := a1
  refine ⟨?_, ?_, ?_, fun _ => ?_⟩
  · rw [b1]; omega
  · rw [b2]; omega
  · rw [b3]; omega
  · rw [b2]; omega
/-! the class -/
def ImC (I : Nat → Nat → Int32) (l : List Int) : Prop := gi I 70 2 = (l.length : Int) ∧ ∀ j : Nat, j < l.length → gi I 71 j = l.getD j 0
def PutC (I0 I : Nat → Nat → Int32) (l : List Int) : Prop := Fr [71] [(70, 2)] I0 I ∧ ImC I l
theorem PutC.put {I0 I : Nat → Nat → Int32} {l : List Int} {x y : Int} (h : PutC I0 I l) (hl : l.length < 107) (e : x = y) (hx : inR y) : PutC I0 (si (si I 71 (gi I 70 2).toNat x) 70 2 (gi I 70 2 + 1)) (l ++ [y]) := by
  subst e
  obtain ⟨hF, h1, h2⟩ := h
  refine ⟨(hF.up 71 _ x (Or.inl (by decide))).up 70 2 _ (Or.inr (by decide)), ?_, fun j hj => ?_⟩
  · rw [gi_same _ _ _ ⟨by omega, by omega⟩, h1, List.length_append]
    rfl
  · rw [List.length_append] at hj
    have hj' : j < l.length + 1 := hj
    rw [gi_cell _ _ _ _ (by decide)]
    by_cases q : j = l.length
    · rw [q, gD_hi, show l.length = (gi I 70 2).toNat by omega]
      exact gi_same _ _ _ hx
    · rw [gi_idx _ _ _ (by omega), gD_lo (by omega)]
      exact h2 j (by omega)
theorem S_X4_two {k : Nat} {P : Option Nat} {I0 I : Nat → Nat → Int32} {J : Nat → Nat → Int64} {Q : Option AV → Mem → Prop} {l : List Int} {v w : Int} (hk : 1 ≤ k) (h : PutC I0 I l) (hl : l.length + 2 ≤ 107) (e : v = w) (hv : 0 ≤ w ∧ w < 65536) (hQ : ∀ I', PutC I0 I' (l ++ two w) → Q none (mem (rv0 P) I' J)) : WPm k LAY m_X4_putTwo [vR (some 70), vI v] (mem (rv0 P) I J) Q := by
  subst e
  obtain ⟨a1, a2, -⟩ := shr8 hv
  have p1 := h.put (x := shr32 v 8) (by omega) a1 ⟨by omega, by omega⟩
  have hl1 : (l ++ [v / 256]).length = l.length + 1 := by simp
  have p2 := p1.put (x := and32 v 255) (by omega) a2 ⟨by omega, by omega⟩
  rw [← two_app] at p2
  have n0 := h.2.1
  have n1 := p1.2.1
  refine WPm.of k_X4_putTwo.1 (Nat.le_of_ble_eq_true rfl) (B_X4_putTwo_0 (by omega) ⟨fun q => absurd q (by omega), fun _ => ⟨⟨by omega, by omega⟩, fun q => absurd q (by omega), fun _ => ⟨⟨by omega, by omega⟩, hQ _ p2⟩⟩⟩)
theorem S_X4_write {k : Nat} {P : Option Nat} {I : Nat → Nat → Int32} {J : Nat → Nat → Int64} {Q : Option AV → Mem → Prop} {L : Lb} {R : Rl} {H : Hl} (hk : 3 ≤ k) (hX : CX I L R H) (hQ : ∀ I', PutC I I' (imgL L H) → Q none (mem (rv0 P) I' J)) : WPm k LAY m_X4_write [vR (some 70), vR (some 4)] (mem (rv0 P) I J) Q := by
  have hL := hX.1.2.2.2.1
  have hH := hX.2.2
  have hR6 := hL.2.2.1
  have hP := hL.2.1
  have hT := hL.2.2.2.1
  have h8 := hH.1
  have h9 := hH.2.1
  have hp14 := pow_le14 (p := (nP L).toNat) (by omega)
  have hmem := imgR_mem hL hH (nR L).toNat (Nat.le_refl _)
  have row : ∀ I' l, PutC I I' l → ∀ k, gi I' 19 k = gi I 19 k := fun I' l hp k => hp.1.gv 19 k (by decide) (by simp)
  have six : ∀ I' l, PutC I I' l → gi I' 6 2 = nR L := fun I' l hp => (hp.1.gv 6 2 (by decide) (by decide)).trans (cx_n hX)
  -- the check at the end
  have last : ∀ I' : Nat → Nat → Int32, PutC I I' (imgR H (nR L).toNat) → WP k LAY m_X4_write 141 [(0, vR (some 70)), (2, vI 83), (3, vI 0)] [] (mem (P, some 5, some 22) I' J) Q := by
    intro I' hp
    have hlen := imgR_len hH (nR L).toNat (Nat.le_refl _)
    have n0 := hp.2.1
    have loop : ∀ (d n : Nat) (c x : Int), n + d = (imgR H (nR L).toNat).length → x = n → c = chk (imgR H (nR L).toNat) n → WP k LAY m_X4_write 141 [(0, vR (some 70)), (2, vI c), (3, vI x)] [] (mem (P, some 5, some 22) I' J) Q := by
      intro d
      induction d with
      | zero =>
        intro n c x hn hx hc
        have cb := chk_bd (imgR H (nR L).toNat) n
        refine B_X4_write_141 (by omega) ⟨⟨by omega, by omega⟩, fun _ => ⟨fun q => absurd q (by omega), fun _ => ⟨⟨by omega, by omega⟩, hQ _ (hp.put (by omega) ?_ ?_)⟩⟩, fun q => absurd q (by omega)⟩
        · rw [hc, show n = (imgR H (nR L).toNat).length by omega]
        · have := chk_bd (imgR H (nR L).toNat) (imgR H (nR L).toNat).length
          exact ⟨by omega, by omega⟩
      | succ d ih =>
        intro n c x hn hx hc
        subst hx; subst hc
        have cb := chk_bd (imgR H (nR L).toNat) n
        have eg := hp.2.2 n (by omega)
        have gr := gi_in I' 71 n
        have cb1 := chk_bd (imgR H (nR L).toNat) (n + 1)
        refine B_X4_write_141 (by omega) ⟨⟨by omega, by omega⟩, fun q => absurd q (by omega), fun _ => ⟨⟨by omega, by omega⟩, ih (n + 1) _ _ (by omega) (by omega) ?_⟩⟩
        have hb : 0 ≤ (imgR H (nR L).toNat).getD n 0 ∧ (imgR H (nR L).toNat).getD n 0 < 256 := by
          exact hmem _ (gD_mem (by omega))
        rw [Int.toNat_natCast, eg, rem32_pos ⟨by omega, by omega⟩ (by decide)]
        rfl
    exact loop _ 0 83 0 (Nat.zero_add _) rfl rfl
  -- the readers
  have readers : ∀ (d n : Nat) (x : Int) (I' : Nat → Nat → Int32), n + d = (nR L).toNat → x = n → PutC I I' (imgR H n) → WP k LAY m_X4_write 27 [(0, vR (some 70)), (1, vR (some 4)), (2, vI x)] [] (mem (P, some 5, some 22) I' J) Q := by
    intro d
    induction d with
    | zero =>
      intro n x I' hn hx hp
      refine B_X4_write_27 (by omega) ?_
      rw [six I' _ hp]
      exact ⟨⟨by omega, by omega⟩, fun _ => last I' (by rw [show (nR L).toNat = n by omega]; exact hp), fun q => absurd q (by omega)⟩
    | succ d ih =>
      intro n x I' hn hx hp
      subst hx
      have hr : 0 ≤ (n : Int) ∧ (n : Int) < nR L := ⟨by omega, by omega⟩
      have hlen := imgR_len hH n (by omega)
      obtain ⟨w1, w2, w3, -, w6, -, -⟩ := hH.2.2 n hr.1 hr.2
      have hlf := left_rng (hH.2.2 n hr.1 hr.2)
      -- the list
      have lst : ∀ (d m : Nat) (y : Int) (I2 : Nat → Nat → Int32), m + d = (H 6 (n : Int)).toNat → y = m → PutC I I2 (imgR H n ++ (H 1 (n : Int) :: (two (H 2 (n : Int)) ++ (two (H 3 (n : Int)) ++ (H 4 (n : Int) + 1) :: (two (H 5 (n : Int)) ++ H 6 (n : Int) :: lsF (fun k => H 7 (8 * (n : Int) + k)) m))))) → WP k LAY m_X4_write 104 [(0, vR (some 70)), (1, vR (some 4)), (2, vI (n : Int)), (3, vI y)] [] (mem (P, some 5, some 22) I2 J) Q := by
        intro d2
        induction d2 with
        | zero =>
          intro m y I2 hm hy hp2
          have e6 : gi I2 19 ((3 + ((n : Int) * 14)) + 5).toNat = H 6 n := (row I2 _ hp2 _).trans (cx_6 hX hr)
          refine B_X4_write_104 (by omega) ?_
          rw [e6]
          refine ⟨⟨by omega, by omega⟩, ⟨by omega, by omega⟩, fun _ => ih (n + 1) _ I2 (by omega) (by omega) ?_, fun q => absurd q (by omega)⟩
          have em : m = (H 6 (n : Int)).toNat := by omega
          subst em
          exact hp2
        | succ d2 ih2 =>
          intro m y I2 hm hy hp2
          subst hy
          have e6 : gi I2 19 ((3 + ((n : Int) * 14)) + 5).toNat = H 6 n := (row I2 _ hp2 _).trans (cx_6 hX hr)
          have e7 : gi I2 19 ((3 + ((n : Int) * 14)) + (6 + (m : Int))).toNat = H 7 (8 * (n : Int) + m) := (row I2 _ hp2 _).trans (cx_7 hX hr ⟨by omega, by omega⟩)
          have hlm : (lsF (fun k => H 7 (8 * (n : Int) + k)) m).length = m := lsF_len _ _
          have hlx : (imgR H n ++ (H 1 (n : Int) :: (two (H 2 (n : Int)) ++ (two (H 3 (n : Int)) ++ (H 4 (n : Int) + 1) :: (two (H 5 (n : Int)) ++ H 6 (n : Int) :: lsF (fun k => H 7 (8 * (n : Int) + k)) m))))).length = (imgR H n).length + 9 + m := by
            simp [two, hlm]
            omega
          have n2 := hp2.2.1
          have i7 : inR (H 7 (8 * (n : Int) + m)) := by rw [← e7]; exact gi_in _ _ _
          refine B_X4_write_104 (by omega) ?_
          rw [e6, e7]
          refine ⟨⟨by omega, by omega⟩, ⟨by omega, by omega⟩, fun q => absurd q (by omega), fun _ => ⟨fun q => absurd q (by omega), fun _ => ⟨fun q => absurd q (by omega), fun _ => ⟨⟨by omega, by omega⟩, fun q => absurd q (by omega), fun _ => ⟨⟨by omega, by omega⟩, ih2 (m + 1) _ _ (by omega) (by omega) ?_⟩⟩⟩⟩⟩
          have := hp2.put (x := H 7 (8 * (n : Int) + m)) (by omega) rfl i7
          rw [lsF_succ]
          simpa using this
      have f1 : gi I' 19 ((3 + ((n : Int) * 14)) + 0).toNat = H 1 n := (row I' _ hp _).trans (cx_1 hX hr)
      have n0 := hp.2.1
      refine B_X4_write_27 (by omega) ?_
      rw [six I' _ hp, f1]
      refine ⟨⟨by omega, by omega⟩, fun q => absurd q (by omega), fun _ => ⟨⟨by omega, by omega⟩, fun q => absurd q (by omega), fun _ => ⟨⟨by omega, by omega⟩, ⟨by omega, by omega⟩, ?_⟩⟩⟩
      have pa := hp.put (x := H 1 (n : Int)) (by omega) rfl ⟨by omega, by omega⟩
      generalize si (si I' 71 (gi I' 70 2).toNat (H 1 (n : Int))) 70 2 (gi I' 70 2 + 1) = Ia at pa ⊢
      have la : (imgR H n ++ [H 1 (n : Int)]).length = (imgR H n).length + 1 := by simp
      refine S_X4_two (by omega) pa (by omega) ((row Ia _ pa _).trans (cx_2 hX hr)) ⟨w2.1, by omega⟩ (fun I28 pb => ⟨_, _, rfl, rfl, ⟨by omega, by omega⟩, ?_⟩)
      have lb : (imgR H n ++ [H 1 (n : Int)] ++ two (H 2 (n : Int))).length = (imgR H n).length + 3 := by simp [two]
      refine S_X4_two (by omega) pb (by omega) ((row I28 _ pb _).trans (cx_3 hX hr)) ⟨w3.1, by omega⟩ (fun I32 pc => ⟨_, _, rfl, rfl, ⟨by omega, by omega⟩, ?_⟩)
      have lc : (imgR H n ++ [H 1 (n : Int)] ++ two (H 2 (n : Int)) ++ two (H 3 (n : Int))).length = (imgR H n).length + 5 := by simp [two]
      have nc := pc.2.1
      have f4 : gi I32 19 ((3 + ((n : Int) * 14)) + 3).toNat = H 4 n := (row I32 _ pc _).trans (cx_4 hX hr)
      rw [f4]
      refine ⟨fun q => absurd q (by omega), fun _ => ⟨⟨by omega, by omega⟩, ⟨by omega, by omega⟩, ?_⟩⟩
      have pd := pc.put (x := H 4 (n : Int) + 1) (by omega) rfl ⟨by omega, by omega⟩
      generalize si (si I32 71 (gi I32 70 2).toNat (H 4 (n : Int) + 1)) 70 2 (gi I32 70 2 + 1) = Id at pd ⊢
      have ld : (imgR H n ++ [H 1 (n : Int)] ++ two (H 2 (n : Int)) ++ two (H 3 (n : Int)) ++ [H 4 (n : Int) + 1]).length = (imgR H n).length + 6 := by simp [two]
      refine S_X4_two (by omega) pd (by omega) ((row Id _ pd _).trans (cx_5 hX hr)) ⟨by omega, by omega⟩ (fun I44 pe => ⟨_, _, rfl, rfl, ⟨by omega, by omega⟩, ?_⟩)
      have le : (imgR H n ++ [H 1 (n : Int)] ++ two (H 2 (n : Int)) ++ two (H 3 (n : Int)) ++ [H 4 (n : Int) + 1] ++ two (H 5 (n : Int))).length = (imgR H n).length + 8 := by simp [two]
      have ne := pe.2.1
      have f6 : gi I44 19 ((3 + ((n : Int) * 14)) + 5).toNat = H 6 n := (row I44 _ pe _).trans (cx_6 hX hr)
      rw [f6]
      refine ⟨fun q => absurd q (by omega), fun _ => ⟨⟨by omega, by omega⟩, lst (H 6 (n : Int)).toNat 0 0 _ (Nat.zero_add _) rfl ?_⟩⟩
      have pf := pe.put (x := H 6 (n : Int)) (by omega) rfl ⟨by omega, by omega⟩
      simpa [lsF, List.append_assoc] using pf
  refine WPm.of k_X4_write.1 (Nat.le_of_ble_eq_true rfl) (B_X4_write_0 (by omega) ?_)
  have p0 : PutC I (si I 70 2 0) [] := ⟨(Fr.rf _ _ I).up 70 2 0 (Or.inr (by decide)), gi_same _ _ _ (by decide), fun j hj => absurd hj (Nat.not_lt_zero _)⟩
  refine S_X4_two (by omega) p0 (by decide) (cx_8 hX) ⟨h8.1, by omega⟩ (fun I2 p2 => ⟨_, _, rfl, rfl, ?_⟩)
  refine S_X4_two (by omega) p2 (by simp [two]) ((row I2 _ p2 1).trans (cx_9 hX)) ⟨h9.1, by omega⟩ (fun I5 p5 => ⟨_, _, rfl, rfl, ?_⟩)
  exact readers (nR L).toNat 0 0 I5 (Nat.zero_add _) rfl p5
/-! the reference -/
def PutR (I0 I : Nat → Nat → Int32) (l : List Int) : Prop := Fr [131] [(74, 87)] I0 I ∧ gi I 74 87 = (l.length : Int) ∧ ∀ j : Nat, j < l.length → gi I 131 j = l.getD j 0
theorem S_X12_w1 {k : Nat} {P : Option Nat} {I0 I : Nat → Nat → Int32} {J : Nat → Nat → Int64} {Q : Option AV → Mem → Prop} {l : List Int} {v w : Int} (h : PutR I0 I l) (hl : l.length < 110) (e : and32 v 255 = w) (hw : inR w) (hQ : ∀ I', PutR I0 I' (l ++ [w]) → Q none (mem (rv0 P) I' J)) : WPm k LAY m_X12_writes [vR (some 74), vI v] (mem (rv0 P) I J) Q := by
  obtain ⟨hF, h1, h2⟩ := h
  refine WPm.of k_X12_writes.1 (Nat.le_of_ble_eq_true rfl) (B_X12_writes_0 (by omega) ⟨⟨by omega, by omega⟩, hQ _ ⟨(hF.up 131 _ _ (Or.inl (by decide))).up 74 87 _ (Or.inr (by decide)), ?_, fun j hj => ?_⟩⟩)
  · rw [gi_same _ _ _ ⟨by omega, by omega⟩, h1, List.length_append]
    rfl
  · rw [List.length_append] at hj
    have hj' : j < l.length + 1 := hj
    rw [gi_cell _ _ _ _ (by decide)]
    by_cases q : j = l.length
    · rw [q, gD_hi, show l.length = (gi I 74 87).toNat by omega, e]
      exact gi_same _ _ _ hw
    · rw [gi_idx _ _ _ (by omega), gD_lo (by omega)]
      exact h2 j (by omega)
theorem S_X12_w2 {k : Nat} {P : Option Nat} {I0 I : Nat → Nat → Int32} {J : Nat → Nat → Int64} {Q : Option AV → Mem → Prop} {l : List Int} {v w : Int} (hk : 1 ≤ k) (h : PutR I0 I l) (hl : l.length + 2 ≤ 110) (e : v = w) (hv : 0 ≤ w ∧ w < 65536) (hQ : ∀ I', PutR I0 I' (l ++ two w) → Q none (mem (rv0 P) I' J)) : WPm k LAY m_X12_writesTwo [vR (some 74), vI v] (mem (rv0 P) I J) Q := by
  subst e
  obtain ⟨a1, a2, a3, -⟩ := shr8 hv
  have hl1 : (l ++ [v / 256]).length = l.length + 1 := by simp
  refine WPm.of k_X12_writesTwo.1 (Nat.le_of_ble_eq_true rfl) (B_X12_writesTwo_0 (by omega) ?_)
  refine S_X12_w1 (w := v / 256) h (by omega) (by rw [a1, a3]) ⟨by omega, by omega⟩ (fun I2 p2 => ⟨_, _, rfl, rfl, ?_⟩)
  refine S_X12_w1 (w := v % 256) p2 (by omega) a2 ⟨by omega, by omega⟩ (fun I3 p3 => ⟨_, _, rfl, rfl, hQ I3 ?_⟩)
  rw [two_app]
  exact p3
theorem S_X12_image {k : Nat} {P : Option Nat} {I : Nat → Nat → Int32} {J : Nat → Nat → Int64} {Q : Option AV → Mem → Prop} {L : Lb} {R : Rl} {H : Hl} (hk : 3 ≤ k) (hX : RX I 0 L R H) (hQ : ∀ I', PutR I I' (imgL L H) → Q (some (vI ((imgL L H).length : Int))) (mem (rv0 P) I' J)) : WPm k LAY m_X12_image [vR (some 74)] (mem (rv0 P) I J) Q := by
  have hL := hX.1.2.2.2.2.1
  have hH := hX.2.2.1
  have hR6 := hL.2.2.1
  have hP := hL.2.1
  have hT := hL.2.2.2.1
  have h8 := hH.1
  have h9 := hH.2.1
  have hp14 := pow_le14 (p := (nP L).toNat) (by omega)
  have hmem := imgR_mem hL hH (nR L).toNat (Nat.le_refl _)
  have rx : ∀ I' l, PutR I I' l → RX I' 0 L R H := fun I' l hp => hX.fr (hp.1.rx (by decide) (by decide))
  have last : ∀ I' : Nat → Nat → Int32, PutR I I' (imgR H (nR L).toNat) → WP k LAY m_X12_image 146 [(0, vR (some 74)), (1, vI 83), (2, vI 0)] [] (mem (P, some 5, some 22) I' J) Q := by
    intro I' hp
    have hlen := imgR_len hH (nR L).toNat (Nat.le_refl _)
    have n0 := hp.2.1
    have loop : ∀ (d n : Nat) (c x : Int), n + d = (imgR H (nR L).toNat).length → x = n → c = chk (imgR H (nR L).toNat) n → WP k LAY m_X12_image 146 [(0, vR (some 74)), (1, vI c), (2, vI x)] [] (mem (P, some 5, some 22) I' J) Q := by
      intro d
      induction d with
      | zero =>
        intro n c x hn hx hc
        have cb := chk_bd (imgR H (nR L).toNat) n
        refine B_X12_image_146 (by omega) ⟨⟨by omega, by omega⟩, fun _ => ?_, fun q => absurd q (by omega)⟩
        refine S_X12_w1 (w := c) hp (by omega) ((shr8 ⟨by omega, by omega⟩).2.2.2 (by omega)) ⟨by omega, by omega⟩ (fun I3 p3 => ⟨_, _, rfl, rfl, ?_⟩)
        have e : imgR H (nR L).toNat ++ [c] = imgL L H := by
          rw [hc, show n = (imgR H (nR L).toNat).length by omega]
          rfl
        rw [e] at p3
        exact Qat (hQ I3 p3) p3.2.1.symm
      | succ d ih =>
        intro n c x hn hx hc
        subst hx; subst hc
        have cb := chk_bd (imgR H (nR L).toNat) n
        have eg := hp.2.2 n (by omega)
        refine B_X12_image_146 (by omega) ⟨⟨by omega, by omega⟩, fun q => absurd q (by omega), fun _ => ⟨⟨by omega, by omega⟩, ih (n + 1) _ _ (by omega) (by omega) ?_⟩⟩
        have hb : 0 ≤ (imgR H (nR L).toNat).getD n 0 ∧ (imgR H (nR L).toNat).getD n 0 < 256 := hmem _ (gD_mem (by omega))
        rw [Int.toNat_natCast, eg, rem32_pos ⟨by omega, by omega⟩ (by decide)]
        rfl
    exact loop _ 0 83 0 (Nat.zero_add _) rfl rfl
  have readers : ∀ (d n : Nat) (x : Int) (I' : Nat → Nat → Int32), n + d = (nR L).toNat → x = n → PutR I I' (imgR H n) → WP k LAY m_X12_image 27 [(0, vR (some 74)), (1, vI x)] [] (mem (P, some 5, some 22) I' J) Q := by
    intro d
    induction d with
    | zero =>
      intro n x I' hn hx hp
      have hX' := rx I' _ hp
      refine B_X12_image_27 (by omega) ?_
      rw [rx_n hX']
      exact ⟨rx_b hX', ⟨by omega, by omega⟩, fun _ => last I' (by rw [show (nR L).toNat = n by omega]; exact hp), fun q => absurd q (by omega)⟩
    | succ d ih =>
      intro n x I' hn hx hp
      subst hx
      have hr : 0 ≤ (n : Int) ∧ (n : Int) < nR L := ⟨by omega, by omega⟩
      have hlen := imgR_len hH n (by omega)
      have hw := hH.2.2 n hr.1 hr.2
      have hlf := left_rng hw
      obtain ⟨w1, w2, w3, -, w6, -, -⟩ := hw
      have lst : ∀ (d m : Nat) (y : Int) (I2 : Nat → Nat → Int32), m + d = (H 6 (n : Int)).toNat → y = m → PutR I I2 (imgR H n ++ (H 1 (n : Int) :: (two (H 2 (n : Int)) ++ (two (H 3 (n : Int)) ++ (H 4 (n : Int) + 1) :: (two (H 5 (n : Int)) ++ H 6 (n : Int) :: lsF (fun k => H 7 (8 * (n : Int) + k)) m))))) → WP k LAY m_X12_image 104 [(0, vR (some 74)), (1, vI (n : Int)), (2, vI y)] [] (mem (P, some 5, some 22) I2 J) Q := by
        intro d2
        induction d2 with
        | zero =>
          intro m y I2 hm hy hp2
          have e6 : gi I2 115 ((n : Int)).toNat = H 6 n := rx_6' (rx I2 _ hp2) hr
          refine B_X12_image_104 (by omega) ?_
          rw [e6]
          refine ⟨⟨by omega, by omega⟩, ⟨by omega, by omega⟩, fun _ => ih (n + 1) _ I2 (by omega) (by omega) ?_, fun q => absurd q (by omega)⟩
          have em : m = (H 6 (n : Int)).toNat := by omega
          subst em
          exact hp2
        | succ d2 ih2 =>
          intro m y I2 hm hy hp2
          subst hy
          have e6 : gi I2 115 ((n : Int)).toNat = H 6 n := rx_6' (rx I2 _ hp2) hr
          have e7 : gi I2 116 ((8 * (n : Int)) + (m : Int)).toNat = H 7 (8 * (n : Int) + m) := rx_7' (rx I2 _ hp2) hr ⟨by omega, by omega⟩
          have hlm : (lsF (fun k => H 7 (8 * (n : Int) + k)) m).length = m := lsF_len _ _
          have hlx : (imgR H n ++ (H 1 (n : Int) :: (two (H 2 (n : Int)) ++ (two (H 3 (n : Int)) ++ (H 4 (n : Int) + 1) :: (two (H 5 (n : Int)) ++ H 6 (n : Int) :: lsF (fun k => H 7 (8 * (n : Int) + k)) m))))).length = (imgR H n).length + 9 + m := by
            simp [two, hlm]
            omega
          have hrng := lsH_rng (hH.2.2 n hr.1 hr.2) (p := H 7 (8 * (n : Int) + m)) (lsF_mem.mpr ⟨m, by omega, by omega, rfl⟩)
          refine B_X12_image_104 (by omega) ?_
          rw [e6, e7]
          refine ⟨⟨by omega, by omega⟩, ⟨by omega, by omega⟩, fun q => absurd q (by omega), fun _ => ⟨⟨by omega, by omega⟩, ?_⟩⟩
          refine S_X12_w1 (w := H 7 (8 * (n : Int) + m)) hp2 (by omega) ((shr8 ⟨by omega, by omega⟩).2.2.2 (by omega)) ⟨by omega, by omega⟩ (fun I3 p3 => ⟨_, _, rfl, rfl, ih2 (m + 1) _ _ (by omega) (by omega) ?_⟩)
          rw [lsF_succ]
          simpa using p3
      refine B_X12_image_27 (by omega) ?_
      have hX' := rx I' _ hp
      rw [rx_n hX', rx_1' hX' hr]
      refine ⟨rx_b hX', ⟨by omega, by omega⟩, fun q => absurd q (by omega), fun _ => ⟨⟨by omega, by omega⟩, ?_⟩⟩
      refine S_X12_w1 (w := H 1 (n : Int)) hp (by omega) ((shr8 ⟨by omega, by omega⟩).2.2.2 (by omega)) ⟨by omega, by omega⟩ (fun I5 pa => ⟨_, _, rfl, rfl, ?_⟩)
      have la : (imgR H n ++ [H 1 (n : Int)]).length = (imgR H n).length + 1 := by simp
      refine S_X12_w2 (by omega) pa (by omega) (rx_2' (rx I5 _ pa) hr) ⟨w2.1, by omega⟩ (fun I8 pb => ⟨_, _, rfl, rfl, ?_⟩)
      have lb : (imgR H n ++ [H 1 (n : Int)] ++ two (H 2 (n : Int))).length = (imgR H n).length + 3 := by simp [two]
      refine S_X12_w2 (by omega) pb (by omega) (rx_3' (rx I8 _ pb) hr) ⟨w3.1, by omega⟩ (fun I11 pc => ⟨_, _, rfl, rfl, ?_⟩)
      have lc : (imgR H n ++ [H 1 (n : Int)] ++ two (H 2 (n : Int)) ++ two (H 3 (n : Int))).length = (imgR H n).length + 5 := by simp [two]
      try dsimp only
      rw [rx_4' (rx I11 _ pc) hr]
      refine S_X12_w1 (w := H 4 (n : Int) + 1) pc (by omega) ((shr8 ⟨by omega, by omega⟩).2.2.2 (by omega)) ⟨by omega, by omega⟩ (fun I14 pd => ⟨_, _, rfl, rfl, ?_⟩)
      have ld : (imgR H n ++ [H 1 (n : Int)] ++ two (H 2 (n : Int)) ++ two (H 3 (n : Int)) ++ [H 4 (n : Int) + 1]).length = (imgR H n).length + 6 := by simp [two]
      refine S_X12_w2 (by omega) pd (by omega) (rx_5' (rx I14 _ pd) hr) ⟨by omega, by omega⟩ (fun I17 pe => ⟨_, _, rfl, rfl, ?_⟩)
      have le : (imgR H n ++ [H 1 (n : Int)] ++ two (H 2 (n : Int)) ++ two (H 3 (n : Int)) ++ [H 4 (n : Int) + 1] ++ two (H 5 (n : Int))).length = (imgR H n).length + 8 := by simp [two]
      try dsimp only
      rw [rx_6' (rx I17 _ pe) hr]
      refine S_X12_w1 (w := H 6 (n : Int)) pe (by omega) ((shr8 ⟨by omega, by omega⟩).2.2.2 (by omega)) ⟨by omega, by omega⟩ (fun I20 pf => ⟨_, _, rfl, rfl, lst (H 6 (n : Int)).toNat 0 0 _ (Nat.zero_add _) rfl ?_⟩)
      simpa [lsF, List.append_assoc] using pf
  refine WPm.of k_X12_image.1 (Nat.le_of_ble_eq_true rfl) (B_X12_image_0 (by omega) ?_)
  have p0 : PutR I (si I 74 87 0) [] := ⟨(Fr.rf _ _ I).up 74 87 0 (Or.inr (by decide)), gi_same _ _ _ (by decide), fun j hj => absurd hj (Nat.not_lt_zero _)⟩
  refine S_X12_w2 (by omega) p0 (by decide) (rx_8 hX) ⟨h8.1, by omega⟩ (fun I2 p2 => ⟨_, _, rfl, rfl, ?_⟩)
  refine S_X12_w2 (by omega) p2 (by simp [two]) (rx_9 (rx I2 _ p2)) ⟨h9.1, by omega⟩ (fun I5 p5 => ⟨_, _, rfl, rfl, ?_⟩)
  exact readers (nR L).toNat 0 0 I5 (Nat.zero_add _) rfl p5
theorem imgL_len {L : Lb} {H : Hl} (hL : WfL L) (hH : WfH L H) : (imgL L H).length ≤ 107 := by
  have h1 := imgR_len hH (nR L).toNat (Nat.le_refl _)
  have h2 := hL.2.2.1
  have e : (imgL L H).length = (imgR H (nR L).toNat).length + 1 := by
    unfold imgL
    rw [List.length_append]
    rfl
  omega
theorem step_image {V V' : Cpl} (hA : ∀ I J, V I J → VA I) (hput : ∀ I J I', V I J → Fr [71, 131] [(70, 2), (74, 87)] I I' → V_oc I' → V' I' J) : Step V V' m_X11_image m_X12_image [] := by
  intro P I J hV
  obtain ⟨hC, hR, -, -⟩ := hA I J hV
  have hL := hC.1.2.2.2.1
  have hH := hC.2.2
  have hl := imgL_len hL hH
  refine WPm.of k_X11_image.1 (Nat.le_of_ble_eq_true rfl) (B_X11_image_0 (by omega) ?_)
  refine S_X4_write (by omega) hC (fun I1 p1 => ⟨_, _, rfl, rfl, ?_⟩)
  have n1 := p1.2.1
  dsimp only
  rw [n1]
  refine Step.put ⟨by omega, by omega⟩ rfl ?_
  have hR1 : RX I1 0 (LC I) (RC I) (HC I) := hR.fr (p1.1.rx (by decide) (by decide))
  refine S_X12_image (by omega) hR1 (fun I2 p2 => ⟨rfl, Cpl2.here (hput I J I2 hV ?_ ?_)⟩)
  · exact (p1.1.mono (by simp) (by simp)).tr (p2.1.mono (by simp) (by simp))
  · have e1 : gi I2 70 2 = ((imgL (LC I) (HC I)).length : Int) := (p2.1.gv 70 2 (by decide) (by decide)).trans n1
    refine ⟨by rw [e1, p2.2.1], by rw [e1]; omega, fun j hj => ?_⟩
    rw [e1] at hj
    rw [p2.1.gv 71 j (by decide) (by simp), p1.2.2 j (by omega), p2.2.2 j (by omega)]
end IMAGES
