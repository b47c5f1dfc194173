/-! ===== longs: masks and shifts ===== -/
theorem l_and30 (x : Int64) : (x &&& 1073741823).toInt = x.toInt % 1073741824 := by
  have h1 : (x &&& 1073741823).toBitVec = x.toBitVec &&& 1073741823#64 := rfl
  have h2 : (x.toBitVec &&& 1073741823#64).toNat = x.toBitVec.toNat % 2 ^ 30 := by
    rw [BitVec.toNat_and]
    have : (1073741823#64).toNat = 2 ^ 30 - 1 := by decide
    rw [this, Nat.and_two_pow_sub_one_eq_mod]
  show (x &&& 1073741823).toBitVec.toInt = x.toBitVec.toInt % 1073741824
  rw [h1, BitVec.toInt_eq_toNat_cond, h2, BitVec.toInt_eq_toNat_cond]
  have h3 : x.toBitVec.toNat < 2 ^ 64 := x.toBitVec.isLt
  split <;> split <;> omega
theorem l_shr30 (x : Int64) : (x >>> ((30 : Int32).toInt64 &&& 63)).toInt = x.toInt / 1073741824 := by
  have h1 : (x >>> ((30 : Int32).toInt64 &&& 63)).toBitVec = x.toBitVec.sshiftRight 30 := by
    show x.toBitVec.sshiftRight' _ = _
    rfl
  show (x >>> ((30 : Int32).toInt64 &&& 63)).toBitVec.toInt = x.toBitVec.toInt / 1073741824
  rw [h1, BitVec.toInt_sshiftRight, Int.shiftRight_eq_div_pow]
  rfl
theorem lN_and30 {n : Nat} (h : n < 2 ^ 63) : lN n &&& 1073741823 = lN (n % BB) := by
  apply Int64.toInt_inj.mp
  rw [l_and30, pk_lT h, pk_lT (by have : n % BB < BB := Nat.mod_lt _ (by decide); have : BB = 1073741824 := rfl; omega)]
  simp only [BB]
  omega
theorem lN_shr30 {n : Nat} (h : n < 2 ^ 63) : lN n >>> ((30 : Int32).toInt64 &&& 63) = lN (n / BB) := by
  apply Int64.toInt_inj.mp
  rw [l_shr30, pk_lT h, pk_lT (Nat.lt_of_le_of_lt (Nat.div_le_self _ _) h)]
  simp only [BB]
  omega
theorem lN_shl30 {n : Nat} : lN n <<< ((30 : Int32).toInt64 &&& 63) = lN (n * BB) := by
  have e : ((30 : Int32).toInt64 &&& 63) = (30 : Int64) := by decide
  rw [e]
  have h1 : (lN n <<< (30 : Int64)).toBitVec = (BitVec.ofNat 64 n) <<< 30 := by
    show (BitVec.ofNat 64 n) <<< ((30 : Int64).toBitVec.smod 64) = _
    rfl
  apply Int64.toBitVec_inj.mp
  rw [h1]
  show _ = BitVec.ofNat 64 (n * BB)
  apply BitVec.eq_of_toNat_eq
  simp [BitVec.toNat_shiftLeft, Nat.shiftLeft_eq, Nat.mod_mul_mod]
theorem lN_inj {a b : Nat} (ha : a < 2 ^ 63) (hb : b < 2 ^ 63) : lN a = lN b ↔ a = b := pk_lEQ ha hb
theorem nI_mul (a b : Nat) : nI a * nI b = nI (a * b) := pk_mul a b
/-! ===== isZero, digit, topTwo ===== -/
theorem s_isZero {o v : Nat} {h : Hs} {Q : Int32 → Prop} (hk : kX o = 1) (hb : BV h o v) (h1 : v = 0 → Q 1) (h0 : v ≠ 0 → Q 0) : p_Big_isZero o h Q := by
  have hR := room_le hk
  unfold p_Big_isZero
  intro P hP
  have hs : szB h o ≤ 32 := Nat.le_trans hb.2.1 hR.2
  rw [hb.1]
  refine ⟨fun c => hP _ ⟨zb0, h0 (fun e => c ?_)⟩, fun c => hP _ ⟨zb1, h1 ?_⟩⟩
  · rw [hb.zero.mpr e, nI_0]
  · rw [← nI_0] at c
    exact hb.zero.mp ((nI_eq (by omega) (by omega)).mp c)
theorem s_digit {o v i : Nat} {h : Hs} {Q : Int32 → Prop} (hk : kX o = 1) (hb : BV h o v) (hi : i < szB h o) (hQ : Q (nI (dg h (o + 1) i))) : p_Big_digit o (nI i) h Q := by
  have hR := room_le hk
  have hs := hb.2.1
  unfold p_Big_digit
  intro P31 h31 P30 h30
  rw [hb.1]
  refine ⟨fun c => absurd c (nI_pos (by omega)), fun _ => ⟨fun c => ?_, fun _ => ⟨fun c => ?_, fun _ => ⟨vp_in_nI (by omega) (by omega), h31 _ ?_⟩⟩⟩⟩
  · exact absurd ((nI_leI (by omega) (by omega)).mp c) (by omega)
  · exact absurd ((nI_leI (by omega) (by omega)).mp c) (by omega)
  · rw [nI_clamp (by omega), (hb.2.2.1 i hi).1]
    exact hQ
theorem s_digitN {o : Nat} {h : Hs} {Q : Int32 → Prop} (hQ : Q 0) : p_Big_digit o (-1) h Q := by
  unfold p_Big_digit
  intro P31 h31 P30 h30
  exact ⟨fun _ => h30 (h31 _ hQ), fun c => absurd (by decide) c⟩
/-- the two highest digits together -/
def top2 (h : Hs) (o : Nat) : Nat := dg h (o + 1) (szB h o - 1) * BB + if szB h o = 1 then 0 else dg h (o + 1) (szB h o - 2)
theorem s_topTwo {o v : Nat} {h : Hs} {Q : Int64 → Prop} (hk : kX o = 1) (hb : BV h o v) (hv : v ≠ 0) (hQ : Q (lN (top2 h o))) : p_Big_topTwo o h Q := by
  have hR := room_le hk
  have hs := hb.2.1
  have hn : szB h o ≠ 0 := fun e => hv (hb.zero.mp e)
  unfold p_Big_topTwo
  have e1 : gi h o 1 - 1 = nI (szB h o - 1) := by
    rw [hb.1]
    obtain ⟨k, hk⟩ : ∃ k, szB h o = k + 1 := ⟨szB h o - 1, by omega⟩
    rw [hk, nI_pred]
    rfl
  rw [e1]
  refine s_digit hk hb (by omega) ?_
  have d1 := lt31 (hb.2.2.1 (szB h o - 1) (by omega)).2
  by_cases h1 : szB h o = 1
  · have e2 : gi h o 1 - 2 = -1 := by
      rw [hb.1, h1]
      decide
    rw [e2]
    refine s_digitN ?_
    have e3 : top2 h o = dg h (o + 1) (szB h o - 1) * BB := by
      unfold top2
      rw [if_pos h1, Nat.add_zero]
    rw [e3] at hQ
    rw [nI_l d1, lN_shl30]
    have e4 : (0 : Int32).toInt64 = lN 0 := by decide
    rw [e4, lN_add, Nat.add_zero]
    exact hQ
  · have e2 : gi h o 1 - 2 = nI (szB h o - 2) := by
      rw [hb.1]
      exact pk_sub (a := szB h o) (b := 2) (by omega)
    rw [e2]
    refine s_digit hk hb (by omega) ?_
    have d2 := lt31 (hb.2.2.1 (szB h o - 2) (by omega)).2
    have e3 : top2 h o = dg h (o + 1) (szB h o - 1) * BB + dg h (o + 1) (szB h o - 2) := by
      unfold top2
      rw [if_neg h1]
    rw [e3] at hQ
    rw [nI_l d1, nI_l d2, lN_shl30, lN_add]
    exact hQ
/-! ===== become ===== -/
theorem BB5 {n x : Nat} (h : BB ^ n ≤ x) (hx : x < 2 ^ 63) : n < 5 := by
  rcases Nat.lt_or_ge n 5 with g | g
  · exact g
  · exfalso
    have : BB ^ 5 ≤ BB ^ n := Nat.pow_le_pow_right (by decide) g
    have e : BB ^ 5 = 1427247692705959881058285969449495136382746624 := by decide +kernel
    omega
theorem s_become {o x : Nat} {h : Hs} {Q : Hs → Prop} (hk : kX o = 1) (hx : x < 2 ^ 63) (hQ : ∀ h', BV h' o x → frm (bS o) h h' → Q h') : p_Big_become o (lN x) h Q := by
  have hR := room_le hk
  unfold p_Big_become
  intro h2 e2 P hP
  have key : ∀ (k n r : Nat) (g : Hs), r ≤ k → gi g o 1 = nI n → n ≤ lX (o + 1) → DR g (o + 1) n → nv (dg g (o + 1)) n + r * BB ^ n = x → (r = 0 → n = 0 ∨ dg g (o + 1) (n - 1) ≠ 0) → frm (bS o) h g → P (lN r) g := by
    intro k
    induction k with
    | zero =>
      intro n r g hr e1 h1 h3 h4 h5 h6
      have hr0 : r = 0 := by omega
      subst hr0
      apply hP
      intro P58 h58
      rw [Nat.zero_mul] at h4
      refine ⟨fun _ => h58 (hQ g (BV.of hk e1 h1 h3 (h5 rfl) h4) h6), fun c => absurd (cmp_le0.mpr ?_) c⟩
      rw [lN_lit0]
      exact (pk_lLE (by omega) (by omega)).mpr (Nat.le_refl 0)
    | succ k ih =>
      intro n r g hr e1 h1 h3 h4 h5 h6
      have hrx : r ≤ x := by
        have := Nat.le_mul_of_pos_right r (BB_pos n)
        omega
      by_cases hr0 : r = 0
      · exact ih n r g (by omega) e1 h1 h3 h4 h5 h6
      · apply hP
        intro P58 h58
        have hn5 : n < 5 := BB5 (x := x) (by have := Nat.le_mul_of_pos_left (BB ^ n) (show 0 < r by omega); omega) hx
        refine ⟨fun c => ?_, fun _ => ?_⟩
        · have c := cmp_le0.mp c
          rw [lN_lit0] at c
          have := (pk_lLE (by omega) (by omega)).mp c
          omega
        · rw [e1]
          refine ⟨fun c => absurd ((nI_leI (by omega) (by omega)).mp c) (by omega), fun _ => ⟨vp_in_nI (by omega) (by omega), ?_⟩⟩
          intro h39 e39 h47 e47 r' er'
          have hm : r % BB < BB := Nat.mod_lt _ (by decide)
          rw [nI_clamp (by omega), lN_and30 (by omega), lN_i] at e39
          rw [lN_shr30 (by omega)] at er'
          subst er'
          have es : gi h39 o 1 = nI n := by rw [e39, gi_c (by omega)]; exact e1
          have hdig : ∀ i, i < n → gi h47 (o + 1) i = gi g (o + 1) i := fun i hi => by rw [e47, gi_c (by omega), e39, gi_k (by omega)]
          have hdn : gi h47 (o + 1) n = nI (r % BB) := by rw [e47, gi_c (by omega), e39, gi_s]
          have hdgn : dg h47 (o + 1) n = r % BB := dg_of hdn (lt31 hm)
          have hdiv : r / BB < r := Nat.div_lt_self (by omega) (by decide)
          refine ih (n + 1) (r / BB) h47 (by omega) (by rw [e47, gi_s, es, nI_1]) (by omega) (fun i hi => ?_) ?_ (fun hz => Or.inr ?_) ((h6.trans (e39 ▸ frm.si bS2)).trans (e47 ▸ frm.si bS1))
          · by_cases ei : i = n
            · subst ei
              rw [hdgn]
              exact ⟨hdn, hm⟩
            · rw [dg_eq (hdig i (by omega)), hdig i (by omega)]
              exact h3 i (by omega)
          · rw [nv_succ, hdgn, nv_congr (fun i hi => dg_eq (hdig i hi)), BB_succ, ← h4]
            have hdm := Nat.div_add_mod r BB
            generalize r / BB = a at *
            generalize r % BB = b at *
            generalize BB ^ n = z at *
            subst hdm
            grind
          · rw [Nat.add_sub_cancel, hdgn]
            intro hz2
            have hdm := Nat.div_add_mod r BB
            rw [hz, hz2] at hdm
            omega
  refine key x 0 x h2 (Nat.le_refl _) (by rw [e2, gi_s, nI_0]) (Nat.zero_le _) (fun i hi => absurd hi (by omega)) ?_ (fun _ => Or.inl rfl) (e2 ▸ frm.si bS1)
  show 0 + x * 1 = x
  omega
