/-! ===== takeAway, raise ===== -/
def cK (b : Nat) : Int64 := Int64.ofInt (-(b : Int))
theorem cK_0 : (0 : Int64) = cK 0 := by decide +kernel
theorem lN_ofInt (n : Nat) : lN n = Int64.ofInt (n : Int) := Int64.ofInt_eq_ofNat.symm
theorem cK_toInt {b : Nat} (h : b < 2 ^ 62) : (cK b).toInt = -(b : Int) := Int64.toInt_ofInt_of_le (by omega) (by omega)
theorem cK_z {b : Nat} (h : b < 2 ^ 62) : lg_cmp (cK b) 0 = 0 ↔ b = 0 := by
  rw [cmp_eq0]
  constructor
  · intro e
    have := congrArg Int64.toInt e
    rw [cK_toInt h] at this
    have h0 : (0 : Int64).toInt = 0 := rfl
    omega
  · intro e
    subst e
    exact cK_0.symm
theorem cK_sum (b d t e : Nat) : cK b + (lN d - lN t * lN e) = Int64.ofInt ((d : Int) - ((t * e + b : Nat) : Int)) := by
  unfold cK
  rw [lN_ofInt, lN_ofInt, lN_ofInt, ← Int64.ofInt_mul, ← Int64.ofInt_sub, ← Int64.ofInt_add]
  congr 1
  rw [Int.natCast_add, Int.natCast_mul]
  omega
theorem cK_sum1 (b d : Nat) : cK b + lN d = Int64.ofInt ((d : Int) - ((b : Nat) : Int)) := by
  unfold cK
  rw [lN_ofInt, ← Int64.ofInt_add]
  congr 1
  omega
theorem sub30 {d m : Nat} (hd : d < BB) (hm : m < 2 ^ 62) : ∃ x b : Nat, x < BB ∧ x + m = d + b * BB ∧ (Int64.ofInt ((d : Int) - (m : Int)) &&& 1073741823).toInt32 = nI x ∧ Int64.ofInt ((d : Int) - (m : Int)) >>> ((30 : Int32).toInt64 &&& 63) = cK b := by
  have hBB : BB = 1073741824 := rfl
  have ht : (Int64.ofInt ((d : Int) - (m : Int))).toInt = (d : Int) - (m : Int) := Int64.toInt_ofInt_of_le (by omega) (by omega)
  refine ⟨(((d : Int) - (m : Int)) % 1073741824).toNat, (-(((d : Int) - (m : Int)) / 1073741824)).toNat, by omega, by show _ + m = d + _ * 1073741824; omega, ?_, ?_⟩
  · have h1 : (Int64.ofInt ((d : Int) - (m : Int)) &&& 1073741823) = lN (((d : Int) - (m : Int)) % 1073741824).toNat := by
      apply Int64.toInt_inj.mp
      rw [l_and30, ht, pk_lT (by omega)]
      omega
    rw [h1, lN_i]
  · apply Int64.toInt_inj.mp
    rw [l_shr30, ht, cK_toInt (by omega)]
    omega
theorem s_takeAway {o a R D t s : Nat} {h : Hs} {Q : Hs → Prop} (hk : kX o = 1) (ka : kX a = 1) (hna : o ≠ a) (hb : BV h o R) (hc : BV h a D) (ht : t < BB) (hsz : s + szB h a ≤ szB h o) (hle : t * D * BB ^ s ≤ R) (hQ : ∀ h', BV h' o (R - t * D * BB ^ s) → frm (bS o) h h' → Q h') : p_Big_takeAway o a (lN t) (nI s) h Q := by
  have hR := room_le hk
  have hRa := room_le ka
  have hs := hb.2.1
  have hsa := hc.2.1
  have n1 := kne hk ka
  have n2 := kne ka hk
  have hBB : BB = 1073741824 := rfl
  have nota : ¬ bS o a := fun x => by rcases x with x | x <;> omega
  have nota1 : ¬ bS o (a + 1) := fun x => by rcases x with x | x <;> omega
  generalize hN : szB h o = N at *
  generalize hM : szB h a = M at *
  have hm2 : (BB - 1) * (BB - 1) = 1152921502459363329 := by decide +kernel
  unfold p_Big_takeAway
  intro P6 hP6
  rw [cK_0, nI_lit0]
  have key : ∀ (k i b : Nat) (g : Hs), M - i = k → i ≤ M → b ≤ BB → gi g o 1 = nI N → DR g (o + 1) N → nv (dg g (o + 1)) N + t * nv (dg h (a + 1)) i * BB ^ s = R + b * BB ^ (s + i) → frm (bS o) h g → P6 (cK b) (nI i) g := by
    intro k
    induction k with
    | zero =>
      intro i b g hkk hi hbb e1 h3 h4 h5
      have hin : i = M := by omega
      subst hin
      have hD : nv (dg h (a + 1)) i = D := by rw [← hM]; exact hc.2.2.2.2
      rw [hD] at h4
      apply hP6
      intro P84 h84
      have fin : P84 := by
        apply h84
        intro a7 e7
        rw [h5.1 a nota, hc.1, hM, nI_add] at e7
        subst e7
        intro P93 hP93
        have key2 : ∀ (r j b : Nat) (g : Hs), N - j = r → j ≤ N → b ≤ BB → gi g o 1 = nI N → DR g (o + 1) N → nv (dg g (o + 1)) N + t * D * BB ^ s = R + b * BB ^ j → frm (bS o) h g → P93 (cK b) (nI j) g := by
          intro r
          induction r with
          | zero =>
            intro j b g hr hj hbb e1 h3 h4 h5
            have hjn : j = N := by omega
            subst hjn
            have hb0 : b = 0 := by
              rcases Nat.eq_zero_or_pos b with x | x
              · exact x
              · have h8 : BB ^ j ≤ b * BB ^ j := Nat.le_mul_of_pos_left _ x
                have h9 := nv_lt (F := dg g (o + 1)) (n := j) (fun i hi => (h3 i hi).2)
                omega
            subst hb0
            rw [Nat.zero_mul, Nat.add_zero] at h4
            apply hP93
            intro P149 h149
            have fin2 : P149 := h149 (s_trim hk e1 hs h3 (fun h' hB hF => hQ h' (by rw [show R - t * D * BB ^ s = nv (dg g (o + 1)) j by omega]; exact hB) (h5.trans hF)))
            rw [e1]
            exact ⟨fun _ => fin2, fun c => absurd (nI_le (Nat.le_refl _) (by omega)) c⟩
          | succ r ihr =>
            intro j b g hr hj hbb e1 h3 h4 h5
            apply hP93
            intro P149 h149
            rw [e1]
            refine ⟨fun c => absurd ((nI_leI (by omega) (by omega)).mp c) (by omega), fun _ => ⟨fun c => ?_, fun c => ⟨vp_in_nI (by omega) (by omega), ?_⟩⟩⟩
            · have hb0 := (cK_z (by omega)).mp c
              subst hb0
              rw [Nat.zero_mul, Nat.add_zero] at h4
              exact h149 (s_trim hk e1 hs h3 (fun h' hB hF => hQ h' (by rw [show R - t * D * BB ^ s = nv (dg g (o + 1)) N by omega]; exact hB) (h5.trans hF)))
            · intro x5 ex5
              have hd := h3 j (by omega)
              rw [nI_clamp (by omega), hd.1, nI_l (lt31 hd.2), cK_sum1] at ex5
              refine ⟨vp_in_nI (by omega) (by omega), ?_⟩
              intro h135 e135 c' ec' j' ej'
              obtain ⟨x, b', hx1, hx2, hx3, hx4⟩ := sub30 (d := dg g (o + 1) j) (m := b) hd.2 (by omega)
              subst ex5
              rw [nI_clamp (by omega), hx3] at e135
              rw [hx4] at ec'
              subst ec'
              rw [nI_1] at ej'
              subst ej'
              have hdn : dg h135 (o + 1) j = x := dg_of (by rw [e135, gi_s]) (lt31 hx1)
              have hdo : ∀ i, i ≠ j → gi h135 (o + 1) i = gi g (o + 1) i := fun i hi => by rw [e135, gi_k hi]
              refine ihr (j + 1) b' h135 (by omega) (by omega) ?_ (by rw [e135, gi_c (by omega)]; exact e1) (fun i hi => ?_) ?_ (h5.trans (e135 ▸ frm.si bS2))
              · have := hd.2
                have : b' * BB ≤ BB * BB := by rw [BB2]; omega
                exact Nat.le_of_mul_le_mul_right this (by decide)
              · by_cases ei : i = j
                · rw [ei, hdn]
                  exact ⟨by rw [e135, gi_s], hx1⟩
                · rw [hdo i ei, dg_eq (hdo i ei)]
                  exact h3 i hi
              · have hu := nv_upd (F := dg g (o + 1)) (G := dg h135 (o + 1)) (p := j) (x := x) (n := N) (by omega) hdn (fun i _ hi => dg_eq (hdo i hi))
                rw [BB_succ]
                generalize nv (dg h135 (o + 1)) N = s1 at *
                generalize nv (dg g (o + 1)) N = s2 at *
                generalize dg g (o + 1) j = d0 at *
                generalize t * D * BB ^ s = T at *
                generalize BB ^ j = z at *
                have hh : s1 + d0 * z + T = R + b' * (z * BB) + d0 * z := by grind
                omega
        exact key2 _ (s + i) b g rfl (by omega) hbb e1 h3 h4 h5
      refine ⟨fun _ => fin, fun c2 => ?_⟩
      rw [h5.1 a nota, hc.1, hM] at c2
      exact absurd (nI_le (Nat.le_refl _) (by omega)) c2
    | succ k ih =>
      intro i b g hkk hi hbb e1 h3 h4 h5
      apply hP6
      intro P84 h84
      rw [e1, h5.1 a nota, hc.1, hM, nI_add]
      refine ⟨fun c => absurd ((nI_leI (by omega) (by omega)).mp c) (by omega), fun _ => ⟨fun c => absurd ((nI_leI (by omega) (by omega)).mp c) (by omega), fun _ => ⟨vp_in_nI (by omega) (by omega), vp_in_nI (by omega) (by omega), ?_⟩⟩⟩
      intro x5 ex5
      have hd := h3 (s + i) (by omega)
      have he := hc.2.2.1 i (by omega)
      rw [nI_clamp (by omega), nI_clamp (by omega), hd.1, nI_l (lt31 hd.2), h5.1 (a + 1) nota1, he.1, nI_l (lt31 he.2), cK_sum] at ex5
      refine ⟨vp_in_nI (by omega) (by omega), ?_⟩
      intro h70 e70 c' ec' i' ei'
      have hmul : t * dg h (a + 1) i ≤ (BB - 1) * (BB - 1) := Nat.mul_le_mul (by omega) (by have := he.2; omega)
      obtain ⟨x, b', hx1, hx2, hx3, hx4⟩ := sub30 (d := dg g (o + 1) (s + i)) (m := t * dg h (a + 1) i + b) hd.2 (by omega)
      subst ex5
      rw [nI_clamp (by omega), hx3] at e70
      rw [hx4] at ec'
      subst ec'
      rw [nI_1] at ei'
      subst ei'
      have hdn : dg h70 (o + 1) (s + i) = x := dg_of (by rw [e70, gi_s]) (lt31 hx1)
      have hdo : ∀ j, j ≠ s + i → gi h70 (o + 1) j = gi g (o + 1) j := fun j hj => by rw [e70, gi_k hj]
      refine ih (i + 1) b' h70 (by omega) (by omega) ?_ (by rw [e70, gi_c (by omega)]; exact e1) (fun j hj => ?_) ?_ (h5.trans (e70 ▸ frm.si bS2))
      · have := hd.2
        have : b' * BB ≤ BB * BB := by rw [BB2]; omega
        exact Nat.le_of_mul_le_mul_right this (by decide)
      · by_cases ej : j = s + i
        · rw [ej, hdn]
          exact ⟨by rw [e70, gi_s], hx1⟩
        · rw [hdo j ej, dg_eq (hdo j ej)]
          exact h3 j hj
      · have hu := nv_upd (F := dg g (o + 1)) (G := dg h70 (o + 1)) (p := s + i) (x := x) (n := N) (by omega) hdn (fun j _ hj => dg_eq (hdo j hj))
        have e9 : BB ^ (s + (i + 1)) = BB ^ (s + i) * BB := by rw [← Nat.add_assoc, BB_succ]
        have e8 : BB ^ (s + i) = BB ^ s * BB ^ i := Nat.pow_add _ _ _
        rw [e9, nv_succ]
        rw [e8] at hu h4 ⊢
        generalize nv (dg h70 (o + 1)) N = s1 at *
        generalize nv (dg g (o + 1)) N = s2 at *
        generalize dg g (o + 1) (s + i) = d0 at *
        generalize nv (dg h (a + 1)) i = s3 at *
        generalize dg h (a + 1) i = d1 at *
        generalize BB ^ s = z1 at *
        generalize BB ^ i = z2 at *
        have hh : s1 + d0 * (z1 * z2) + t * (s3 + d1 * z2) * z1 = R + b' * (z1 * z2 * BB) + d0 * (z1 * z2) := by grind
        omega
  refine key _ 0 0 h rfl (Nat.zero_le _) (Nat.zero_le _) (by rw [← hN]; exact hb.1) (by rw [← hN]; exact hb.2.2.1) ?_ frm.refl
  have : nv (dg h (o + 1)) N = R := by rw [← hN]; exact hb.2.2.2.2
  rw [this]
  show R + t * 0 * _ = R + 0 * _
  rw [Nat.mul_zero, Nat.zero_mul, Nat.zero_mul]
theorem s_raise {o x t s : Nat} {h : Hs} {Q : Hs → Prop} (hk : kX o = 1) (hb : BV h o x) (ht : t < BB) (hs32 : s < 100) (hfit : x + t * BB ^ s < BB ^ lX (o + 1)) (hQ : ∀ h', BV h' o (x + t * BB ^ s) → frm (bS o) h h' → Q h') : p_Big_raise o (nI t) (nI s) h Q := by
  have hR := room_le hk
  have hs := hb.2.1
  have hBB : BB = 1073741824 := rfl
  unfold p_Big_raise
  obtain ⟨M, hM, hM1, hM2⟩ : ∃ M, (if gi h o 1 < nI s + 1 then nI s + 1 else gi h o 1) + 1 = nI (M + 1) ∧ (szB h o ≤ M ∧ s + 1 ≤ M) ∧ M ≤ 100 := by
    rw [hb.1, nI_1]
    by_cases c : nI (szB h o) < nI (s + 1)
    · rw [if_pos c]
      have := (nI_ltI (by omega) (by omega)).mp c
      exact ⟨s + 1, nI_1 _, by omega, by omega⟩
    · rw [if_neg c]
      have : ¬ szB h o < s + 1 := fun x => c ((nI_ltI (by omega) (by omega)).mpr x)
      exact ⟨szB h o, nI_1 _, by omega, by omega⟩
  rw [hM]
  refine s_growTo hk hb.1 hs (by omega) (fun h1 n' y1 y2 y3 y4 y5 y6 y7 y8 => ?_)
  have hlt : x + t * BB ^ s < BB ^ n' := by
    rcases y4 with u | u
    · have h5 := hb.lt
      have h7 : BB ^ szB h o ≤ BB ^ M := Nat.pow_le_pow_right (by decide) hM1.1
      have h8 : BB ^ (s + 1) ≤ BB ^ M := Nat.pow_le_pow_right (by decide) hM1.2
      rw [BB_succ] at h8
      have h9 : t * BB ^ s ≤ BB * BB ^ s := Nat.mul_le_mul_right _ (by omega)
      rw [Nat.mul_comm BB] at h9
      have h10 : BB ^ (M + 1) ≤ BB ^ n' := Nat.pow_le_pow_right (by decide) u
      rw [BB_succ] at h10
      have h11 : BB ^ M * 2 ≤ BB ^ M * BB := Nat.mul_le_mul_left _ (by decide)
      omega
    · rw [u]
      exact hfit
  have hd1 : ∀ i, i < n' → gi h1 (o + 1) i = nI (pad (dg h (o + 1)) (szB h o) i) ∧ pad (dg h (o + 1)) (szB h o) i < BB := fun i hi => by
    unfold pad
    by_cases c : i < szB h o
    · rw [if_pos c, y6 i c]
      exact hb.2.2.1 i c
    · rw [if_neg c]
      exact ⟨y7 i (by omega) hi, by decide⟩
  have hDR : DR h1 (o + 1) n' := fun i hi => by
    have h6 := hd1 i hi
    rw [dg_of h6.1 (lt31 h6.2)]
    exact h6
  have hv1 : nv (dg h1 (o + 1)) n' = x := by
    rw [nv_congr (fun i hi => dg_of (hd1 i hi).1 (lt31 (hd1 i hi).2)), nv_pad y2]
    exact hb.2.2.2.2
  intro P21 hP21
  have key : ∀ (k i c : Nat) (g : Hs), n' - i = k → c < BB → i ≤ 200 → gi g o 1 = nI n' → DR g (o + 1) n' → nv (dg g (o + 1)) n' + c * BB ^ i = x + t * BB ^ s → frm (bS o) h g → P21 (nI c) (nI i) g := by
    intro k
    induction k with
    | zero =>
      intro i c g hkk hc hi e1 h3 h4 h5
      have hc0 : c = 0 := by
        rcases Nat.eq_zero_or_pos c with u | u
        · exact u
        · have h8 : BB ^ i ≤ c * BB ^ i := Nat.le_mul_of_pos_left _ u
          have h9 : BB ^ n' ≤ BB ^ i := Nat.pow_le_pow_right (by decide) (by omega)
          omega
      subst hc0
      rw [Nat.zero_mul, Nat.add_zero] at h4
      apply hP21
      intro P66 h66
      rw [e1]
      refine ⟨fun _ => h66 (s_trim hk e1 y3 h3 (fun h' hB hF => hQ h' (by rw [← h4]; exact hB) (h5.trans hF))), fun c => absurd (nI_le (by omega) (by omega)) c⟩
    | succ k ih =>
      intro i c g hkk hc hi e1 h3 h4 h5
      apply hP21
      intro P66 h66
      rw [e1]
      refine ⟨fun c => absurd ((nI_leI (by omega) (by omega)).mp c) (by omega), fun _ => ⟨fun c2 => ?_, fun c2 => ⟨vp_in_nI (by omega) (by omega), ?_⟩⟩⟩
      · have hc0 : c = 0 := by
          rw [nI_lit0] at c2
          have := (nI_leI (lt31 hc) (by omega)).mp c2
          omega
        subst hc0
        rw [Nat.zero_mul, Nat.add_zero] at h4
        exact h66 (s_trim hk e1 y3 h3 (fun h' hB hF => hQ h' (by rw [← h4]; exact hB) (h5.trans hF)))
      · intro x3 ex3
        have hd := h3 i (by omega)
        have hd2 := hd.2
        rw [nI_clamp (by omega), hd.1, nI_add] at ex3
        refine ⟨vp_in_nI (by omega) (by omega), ?_⟩
        intro h54 e54 c' ec' i' ei'
        generalize hX : c + dg g (o + 1) i = X at *
        subst ex3
        rw [nI_clamp (by omega), i_and30 (by omega)] at e54
        rw [i_shr30 (by omega)] at ec'
        subst ec'
        rw [nI_1] at ei'
        subst ei'
        have hmod : X % BB < BB := Nat.mod_lt _ (by decide)
        have hdn : dg h54 (o + 1) i = X % BB := dg_of (by rw [e54, gi_s]) (lt31 hmod)
        have hdo : ∀ j, j ≠ i → gi h54 (o + 1) j = gi g (o + 1) j := fun j hj => by rw [e54, gi_k hj]
        have hdiv : X / BB < 2 := Nat.div_lt_of_lt_mul (by omega)
        refine ih (i + 1) _ h54 (by omega) (by omega) (by omega) (by rw [e54, gi_c (by omega)]; exact e1) (fun j hj => ?_) ?_ (h5.trans (e54 ▸ frm.si bS2))
        · by_cases ej : j = i
          · rw [ej, hdn]
            exact ⟨by rw [e54, gi_s], hmod⟩
          · rw [hdo j ej, dg_eq (hdo j ej)]
            exact h3 j hj
        · have hu := nv_upd (F := dg g (o + 1)) (G := dg h54 (o + 1)) (p := i) (x := X % BB) (n := n') (by omega) hdn (fun j _ hj => dg_eq (hdo j hj))
          have hdm := Nat.div_add_mod X BB
          rw [BB_succ]
          generalize X / BB = D1 at *
          generalize X % BB = D2 at *
          generalize nv (dg h54 (o + 1)) n' = s1 at *
          generalize nv (dg g (o + 1)) n' = s2 at *
          generalize dg g (o + 1) i = d0 at *
          generalize x + t * BB ^ s = T at *
          generalize BB ^ i = z at *
          subst hX
          have hh : s1 + d0 * z + D1 * (z * BB) = T + d0 * z := by grind
          omega
  exact key _ s t h1 rfl ht (by omega) y1 hDR (by rw [hv1]) y8
