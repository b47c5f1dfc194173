/-! ===== the reference weighs a world ===== -/
theorem MS.mfr {S : Nat → Prop} {g g' : Hs} {n : Nat → Int32} (M : MS g n) (f : mfr S g g') : MS g' n := fun k hk => by rw [f.1 1 (by omega)]; exact M k hk
theorem RA.mfr {S : Nat → Prop} {g g' : Hs} {n : Nat → Int32} (A : RA g n) (f : mfr S g g') : RA g' n := fun s hs => by
  rw [f.1 10 (by omega), f.1 8 (by omega), f.1 9 (by omega)]
  refine ⟨fun sn => ?_, (A s hs).2⟩
  obtain ⟨a, b, c, d⟩ := (A s hs).1 sn
  exact ⟨a, b, c, fun m hm => by rw [f.1 7 (by omega)]; exact d m hm⟩
theorem RCH.mfr {S : Nat → Prop} {g g' : Hs} {n : Nat → Int32} {ch : Nat → Nat} (C : RCH g n ch) (f : mfr S g g') : RCH g' n ch := fun l hl => by rw [f.1 11 (by omega)]; exact C l hl
theorem fit62 {x k : Nat} (h : x ≤ 10 ^ k) (hk : k ≤ 500) : x < BB ^ 62 := Nat.lt_of_le_of_lt (Nat.le_trans h (Nat.pow_le_pow_right (by omega) hk)) (by rw [two62]; decide +kernel)
theorem r_timesAll {s x v e A : Nat} {a1 : Int32} {a2 : Int64} {a4 : Int32} {g : Hs} {Q : Hs → Prop} (e1 : a1 = nI s) (e2 : a2 = lN v) (e4 : a4 = nI e) (hs : s < 12) (hv : v ≤ 10) (hx : x ≤ 10 ^ A) (hA : A + e ≤ 500) (b : RV g s x) (hQ : ∀ g', RV g' s (x * v ^ e) → x * v ^ e ≤ 10 ^ (A + e) → mfr (eS s) g g' → Q g') : p_M_timesAll a1 a2 a4 g Q := by
  subst e1 e2 e4
  have bd : ∀ j, x * v ^ j ≤ 10 ^ (A + j) := fun j => by
    rw [Nat.pow_add]
    exact Nat.mul_le_mul hx (Nat.pow_le_pow_left hv j)
  unfold p_M_timesAll
  intro P3 h3
  refine lpH (fun j g' => RV g' s (x * v ^ j) ∧ mfr (eS s) g g') e ⟨by rw [Nat.pow_zero, Nat.mul_one]; exact b, mfr.refl⟩ (fun g' hI => h3 _ _ (bY (nI_le (Nat.le_refl _) (by omega)) (hQ g' hI.1 (bd e) hI.2))) (fun j g' hj hI nx => h3 _ _ (bN (nI_ge hj (by omega)) ?_))
  have hBB : BB = 1073741824 := rfl
  refine r_times rfl rfl hs hI.1 (by omega) (fit62 (bd j) (by omega)) (fun h13 b13 f13 a5 ea => ?_)
  rw [nI_1] at ea
  subst ea
  refine nx h13 ⟨?_, hI.2.trans f13⟩
  rw [Nat.pow_succ, ← Nat.mul_assoc]
  exact b13
def fsS : Nat → Prop := fun j => j = 7 ∨ j = 11
theorem lt64n (k : Nat) (h : k < 2 ^ 31) : (nI k).toInt64 = lN k := nI_l h
theorem MS.sgn {g : Hs} {n : Nat → Int32} (M : MS g n) {s i : Nat} (hs : s < 6) (hi : i < 4) : gi g 1 (518 + 4 * s + i) = n (518 + 4 * s + i) := M _ (by omega)
theorem srs_le {n : Nat → Int32} (R : RG n) {ch : Nat → Nat} {s : Nat} (hs : s < 6) : srs n ch s ≤ 10 ^ 30 := by
  obtain ⟨_, _, _, _, _, h6, _, h8, _, h10⟩ := R.sgn hs
  unfold srs lf
  rw [sgr_chc min20_le h6]
  have h := chc_le (c := sFo n s) h8 (show sCa n s ≤ 10 by omega) (min20_le (x := mon n ch (sPl n s) / nn (n (22 + sKi n s))))
  have h2 := Nat.mul_le_mul h (Nat.mul_le_mul (show 10 - sCa n s ≤ 10 by omega) (Nat.le_refl (10 ^ (9 - sFo n s))))
  refine Nat.le_trans h2 ?_
  rw [show 10 * 10 ^ (9 - sFo n s) = 10 ^ (9 - sFo n s + 1) by rw [Nat.pow_succ, Nat.mul_comm], ← Nat.pow_add]
  exact Nat.pow_le_pow_right (by omega) (by omega)
theorem bc20 {x j : Nat} (h : x ≤ 20) : bc x j ≤ 10 ^ 7 := Nat.le_trans bc_le (Nat.le_trans (Nat.pow_le_pow_right (by omega) h) (by decide))
theorem rt_le {d a x c j : Nat} (hx : x ≤ 20) (hc : c ≤ 9) (hj : j ≤ c) : rt d a x c j ≤ 10 ^ 7 * 10 ^ 9 * 10 ^ 20 * 10 ^ 9 * 10 * 10 ^ 9 ∨ 10 < d ∨ 10 < a := by
  rcases Nat.lt_or_ge 10 d with h | hd
  · exact Or.inr (Or.inl h)
  rcases Nat.lt_or_ge 10 a with h | ha
  · exact Or.inr (Or.inr h)
  left
  unfold rt
  have p : ∀ b e m, b ≤ 10 → e ≤ m → b ^ e ≤ 10 ^ m := fun b e m hb he => Nat.le_trans (Nat.pow_le_pow_left hb e) (Nat.pow_le_pow_right (by omega) he)
  exact Nat.mul_le_mul (Nat.mul_le_mul (Nat.mul_le_mul (Nat.mul_le_mul (Nat.mul_le_mul (bc20 hx) (p d j 9 hd (by omega))) (p (10 - d) (x - j) 20 (by omega) (by omega))) (p a (c - j) 9 ha (by omega))) (show 10 - a ≤ 10 by omega)) (p 10 j 9 (by omega) (by omega))
theorem r_findSign {n : Nat → Int32} {ch : Nat → Nat} {s : Nat} {a1 : Int32} {g : Hs} {Q : Hs → Prop} (M : MS g n) (R : RG n) (A : RA g n) (C : RCH g n ch) (e1 : a1 = nI s) (hs : s < 6) (hQ : ∀ g', RV g' 11 (srs n ch s) → mfr fsS g g' → Q g') : p_M_findSign a1 g Q := by
  subst e1
  obtain ⟨n0, l0, n1, l1, n2, l2, n3, l3, n4, l4⟩ := R.sgn hs
  have i0 : (518 : Int32) + 4 * nI s = nI (518 + 4 * s) := by rw [show (4 : Int32) = nI 4 from rfl, show (518 : Int32) = nI 518 from rfl, nI_mul, nI_add]
  have i1 : (518 : Int32) + 4 * nI s + 1 = nI (518 + 4 * s + 1) := by rw [i0, nI_1]
  have i2 : (518 : Int32) + 4 * nI s + 2 = nI (518 + 4 * s + 2) := by rw [i0]; exact nI_add _ 2
  have i3 : (518 : Int32) + 4 * nI s + 3 = nI (518 + 4 * s + 3) := by rw [i0]; exact nI_add _ 3
  have i4 : (26 : Int32) + nI (sKi n s) = nI (26 + sKi n s) := nI_add 26 _
  unfold p_M_findSign
  rw [i1, i2, i3, i0, nI_clamp (show 518 + 4 * s < 2 ^ 31 by omega), nI_clamp (show 518 + 4 * s + 1 < 2 ^ 31 by omega), nI_clamp (show 518 + 4 * s + 2 < 2 ^ 31 by omega), nI_clamp (show 518 + 4 * s + 3 < 2 ^ 31 by omega), M _ (show 518 + 4 * s < 675 by omega), M _ (show 518 + 4 * s + 1 < 675 by omega), M _ (show 518 + 4 * s + 2 < 675 by omega), M _ (show 518 + 4 * s + 3 < 675 by omega), n0, n1, n2, n3, i4, nI_clamp (show 26 + sKi n s < 2 ^ 31 by omega), M _ (show 26 + sKi n s < 675 by omega), n4]
  refine ⟨vp_in_nI (by omega) (by omega), vp_in_nI (by omega) (by omega), m_leftOf M R A C rfl rfl (by omega) (by omega) ⟨vp_in_nI (by omega) (by omega), fun a3 e3 => ⟨vp_in_nI (by omega) (by omega), fun a4 e4 => ⟨vp_in_nI (by omega) (by omega), vp_in_nI (by omega) (by omega), fun a5 e5 => ?_⟩⟩⟩⟩
  subst e3 e4 e5
  have x20 : lf n ch (sPl n s) (sKi n s) ≤ 20 := min20_le
  have hsrs : srs n ch s = sgr (sDu n s) (sCa n s) (sFo n s) (lf n ch (sPl n s) (sKi n s)) := rfl
  rw [hsrs] at hQ
  generalize lf n ch (sPl n s) (sKi n s) = x at *
  generalize sDu n s = d at *
  generalize sCa n s = a at *
  generalize sFo n s = c at *
  have f7 : fsS 7 := Or.inl rfl
  have f11 : fsS 11 := Or.inr rfl
  have mn9 : mn c x ≤ 9 := by unfold mn; split <;> omega
  have mnc : mn c x ≤ c ∧ mn c x ≤ x := by unfold mn; split <;> omega
  have mnc2 : mn c x = c ∨ mn c x = x := by unfold mn; split <;> omega
  have rb : ∀ j, j ≤ mn c x → rt d a x c j ≤ 10 ^ 55 := fun j hj => by
    rcases rt_le (d := d) (a := a) (x := x) (c := c) (j := j) x20 l2 (by omega) with h | h | h
    · exact Nat.le_trans h (by decide)
    · omega
    · omega
  have sb : ∀ j, j ≤ mn c x + 1 → sumN (rt d a x c) j ≤ 10 ^ 56 := fun j hj => by
    have h1 : sumN (rt d a x c) j ≤ j * 10 ^ 55 := sumN_le (fun i hi => rb i (by omega))
    exact Nat.le_trans h1 (Nat.le_trans (Nat.mul_le_mul (show j ≤ 10 by omega) (Nat.le_refl _)) (by decide))
  refine r_set (s := 11) (x := 0) rfl rfl (by omega) (by decide) (fun h90 b90 f90 => ?_)
  intro P99 h99
  have key := lpG (fun j (q : Hs) => P99 (lN (bc x j)) (nI j) q) (fun j q => RV q 11 (sumN (rt d a x c) j) ∧ mfr fsS g q) (mn c x + 1) (s := h90) ⟨b90, f90.up f11⟩ ?_ ?_
  · rw [bc_0] at key
    exact key
  · intro q hI
    refine h99 _ _ _ (fun P212 h212 => ?_)
    have fin : P212 := by
      apply h212
      have ee : (29 : Int32) - nI x - nI c = nI (29 - x - c) := by
        rw [show (29 : Int32) = nI 29 from rfl, pk_sub (by omega), pk_sub (by omega)]
      exact r_timesAll (s := 11) (v := 10) (A := 56) rfl rfl ee (by omega) (by omega) (sb _ (Nat.le_refl _)) (by omega) hI.1 (fun g' b' _ f' => hQ g' b' (hI.2.trans (f'.up f11)))
    refine blt rfl rfl (by omega) (by omega) (fun _ => fin) (fun z => blt rfl rfl (by omega) (by omega) (fun _ => fin) (fun z2 => by omega))
  · intro j q hj hI nx
    refine h99 _ _ _ (fun P212 h212 => ?_)
    refine blt rfl rfl (by omega) (by omega) (fun z => by omega) (fun z => blt rfl rfl (by omega) (by omega) (fun z2 => by omega) (fun z2 => ?_))
    have bcl := bc20 (x := x) (j := j) x20
    have bcl' : bc x j ≤ 10000000 := bcl
    rw [lt64n d (by omega), lt64n a (by omega), show (10 : Int32) - nI d = nI (10 - d) from pk_sub (a := 10) l3, show (10 : Int32) - nI a = nI (10 - a) from pk_sub (a := 10) (by omega), lt64n (10 - d) (by omega), lt64n (10 - a) (by omega), pk_sub (show j ≤ x by omega), pk_sub (show j ≤ c by omega), lt64n (x - j) (by omega), nI_1, lt64n (j + 1) (by omega)]
    refine r_set (s := 7) (x := bc x j) rfl rfl (by omega) (by omega) (fun h116 b116 f116 => ?_)
    refine r_timesAll (s := 7) (v := d) (e := j) (A := 7) rfl rfl rfl (by omega) (by omega) bcl (by omega) b116 (fun h127 b127 k127 f127 => ?_)
    refine r_timesAll (s := 7) (v := 10 - d) (e := x - j) rfl rfl rfl (by omega) (by omega) k127 (by omega) b127 (fun h143 b143 k143 f143 => ?_)
    refine r_timesAll (s := 7) (v := a) (e := c - j) rfl rfl rfl (by omega) (by omega) k143 (by omega) b143 (fun h156 b156 k156 f156 => ?_)
    have hBB : BB = 1073741824 := rfl
    refine r_times (s := 7) (f := 10 - a) rfl rfl (by omega) b156 (by omega) (fit62 k156 (by omega)) (fun h168 b168 f168 => ?_)
    have k168 := Nat.mul_le_mul k156 (show 10 - a ≤ 10 by omega)
    rw [← Nat.pow_succ] at k168
    refine r_timesAll (s := 7) (v := 10) (e := j) rfl rfl rfl (by omega) (by omega) k168 (by omega) b168 (fun h179 b179 k179 f179 => ?_)
    have F179 : mfr fsS q h179 := (((((f116.up f7).trans (f127.up f7)).trans (f143.up f7)).trans (f156.up f7)).trans (f168.up f7)).trans (f179.up f7)
    have F7 : mfr (eS 7) q h179 := ((((f116.trans f127).trans f143).trans f156).trans f168).trans f179
    have s179 : RV h179 11 (sumN (rt d a x c) j) := hI.1.mfr F7 (neS (by omega))
    refine r_add (s := 11) (a := 7) rfl rfl (by omega) (by omega) (by omega) s179 b179 (fit62 (sb j (by omega)) (by omega)) (fit62 k179 (by omega)) (fun h187 b187 f187 => ⟨lN_ne0 (by omega) (by omega), fun a6 e6 a8 e8 => ?_⟩)
    have hx2 : bc x j * (x - j) ≤ 10000000 * 20 := Nat.mul_le_mul bcl' (by omega)
    rw [lN_mul, l_div (by omega) (by omega) (by omega), ← bc_step, Nat.mul_div_cancel _ (show 0 < j + 1 by omega)] at e6
    subst e6 e8
    exact nx h187 ⟨b187, (hI.2.trans F179).trans (f187.up f11)⟩
theorem m_isHeard {n : Nat → Int32} {t : Nat} {a1 : Int32} {g : Hs} {Q : Int32 → Prop} (M : MS g n) (e1 : a1 = nI t) (ht : t < 6) (hQ : Q (nI (b2 (hrt n t)))) : p_M_isHeard a1 g Q := by
  subst e1
  unfold p_M_isHeard
  intro P4 h4
  refine lq2 (fun j => nI (b2 (! anyF (fun i => decide (n (545 + 5 * i) = n (545 + 5 * t))) 0 j))) t rfl (h4 _ _ (bY (nI_le (Nat.le_refl _) (by omega)) ⟨?_, hQ⟩)) (fun j hj nx => h4 _ _ (bN (nI_ge hj (by omega)) (fun P45 h45 P44 h44 => ?_)))
  · cases ! anyF (fun i => decide (n (545 + 5 * i) = n (545 + 5 * t))) 0 t
    · exact zb0
    · exact zb1
  · have go : ∀ (b : Bool) (x : Int32), x = nI (b2 b) → b = (! anyF (fun i => decide (n (545 + 5 * i) = n (545 + 5 * t))) 0 (j + 1)) → P45 x := fun b x hx hb => h45 _ (fun a3 ea => by
      rw [nI_1] at ea
      subst ea hb hx
      exact nx)
    rw [anyF_s] at go
    cases hb : anyF (fun i => decide (n (545 + 5 * i) = n (545 + 5 * t))) 0 j with
    | true =>
      rw [hb] at go
      exact bY rfl (h44 (go false _ b2f rfl))
    | false =>
      rw [hb] at go
      have i0 : ∀ k, (545 : Int32) + 5 * nI k = nI (545 + 5 * k) := fun k => by rw [show (5 : Int32) = nI 5 from rfl, show (545 : Int32) = nI 545 from rfl, nI_mul, nI_add]
      refine bN (by decide) ?_
      rw [i0, i0, nI_clamp (show 545 + 5 * j < 2 ^ 31 by omega), nI_clamp (show 545 + 5 * t < 2 ^ 31 by omega), M _ (by omega), M _ (by omega)]
      refine ⟨vp_in_nI (by omega) (by omega), vp_in_nI (by omega) (by omega), fun z => h44 (go false _ b2f ?_), fun z => go true _ b2t ?_⟩
      · rw [decide_eq_true z]
        rfl
      · rw [decide_eq_false z]
        rfl
theorem m_isSaidSo {n : Nat → Int32} {ch : Nat → Nat} {t : Nat} {a1 : Int32} {g : Hs} {Q : Int32 → Prop} (M : MS g n) (R : RG n) (A : RA g n) (C : RCH g n ch) (e1 : a1 = nI t) (ht : t < nTe n) (hQ : Q (nI (b2 (tso n (ch (tLo n t)) t)))) : p_M_isSaidSo a1 g Q := by
  subst e1
  have h6 := R.te.2
  have ht6 : t < 6 := by unfold nTe at ht; omega
  obtain ⟨q1, q2, q3, q4, q5, q6, q7, q8⟩ := R.tel ht6
  have hlo : tLo n t < nLo n := R.tl2 t ht
  have i0 : (545 : Int32) + 5 * nI t = nI (545 + 5 * t) := by rw [show (5 : Int32) = nI 5 from rfl, show (545 : Int32) = nI 545 from rfl, nI_mul, nI_add]
  have i1 : nI (545 + 5 * t) + 1 = nI (545 + 5 * t + 1) := nI_1 _
  have i2 : nI (545 + 5 * t) + 2 = nI (545 + 5 * t + 2) := nI_add _ 2
  have i3 : nI (545 + 5 * t) + 3 = nI (545 + 5 * t + 3) := nI_add _ 3
  unfold p_M_isSaidSo
  rw [i0, i1, i2, i3, nI_clamp (show 545 + 5 * t + 1 < 2 ^ 31 by omega), nI_clamp (show 545 + 5 * t + 2 < 2 ^ 31 by omega), nI_clamp (show 545 + 5 * t + 3 < 2 ^ 31 by omega), M _ (show 545 + 5 * t + 1 < 675 by omega), M _ (show 545 + 5 * t + 2 < 675 by omega), M _ (show 545 + 5 * t + 3 < 675 by omega), q1, q3, q5]
  have hwl := Wh_le R (ch (tLo n t)) (tMo n t)
  refine ⟨vp_in_nI (by omega) (by omega), vp_in_nI (by omega) (by omega), m_whereOf A C R rfl rfl hlo (by omega) ⟨vp_in_nI (by omega) (by omega), fun P54 h54 => beqN rfl rfl (by omega) (by omega) (fun z => h54 _ ⟨zb0, ?_⟩) (fun z => h54 _ ⟨zb1, ?_⟩)⟩⟩
  · rw [show tso n (ch (tLo n t)) t = false from decide_eq_false z] at hQ
    exact hQ
  · rw [show tso n (ch (tLo n t)) t = true from decide_eq_true z] at hQ
    exact hQ
