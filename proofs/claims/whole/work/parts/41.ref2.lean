/-! ===== the reference's numbers: compare, add, take, halve, product ===== -/
theorem lS {a b : Nat} : lN a - lN b = Int64.ofInt ((a : Int) - (b : Int)) := by rw [lN_ofInt, lN_ofInt, ← Int64.ofInt_sub]
theorem cmp_ge0 {x y : Int64} : 0 ≤ lg_cmp x y ↔ y ≤ x := by
  have h1 : 0 ≤ lg_cmp x y ↔ ¬ lg_cmp x y < 0 := Int32.not_lt.symm
  rw [h1, cmp_lt0]
  exact Int64.not_lt
theorem ofI_ge {z : Int} (h1 : -(2 ^ 62) ≤ z) (h2 : z < 2 ^ 62) : 0 ≤ lg_cmp (Int64.ofInt z) 0 ↔ 0 ≤ z := by
  rw [cmp_ge0, Int64.le_iff_toInt_le, Int64.toInt_ofInt_of_le (by omega) (by omega)]
  have h0 : (0 : Int64).toInt = 0 := rfl
  rw [h0]
theorem ofI_eq {z : Int} (h1 : -(2 ^ 62) ≤ z) (h2 : z < 2 ^ 62) : lg_cmp (Int64.ofInt z) 0 = 0 ↔ z = 0 := by
  rw [cmp_eq0, ← Int64.toInt_inj, Int64.toInt_ofInt_of_le (by omega) (by omega)]
  have h0 : (0 : Int64).toInt = 0 := rfl
  rw [h0]
theorem r_compare {s a v w : Nat} {a1 a2 : Int32} {h : Hs} {Q : Int32 → Prop} (e1 : a1 = nI s) (e2 : a2 = nI a) (hs : s < 12) (ha : a < 12) (hb : RV h s v) (hc : RV h a w) (h1 : v < w → Q (-1)) (h2 : v = w → Q 0) (h3 : w < v → Q 1) : p_M_compare a1 a2 h Q := by
  subst e1 e2
  have hsz := hb.2.1
  have hsa := hc.2.1
  have hBB : BB = 1073741824 := rfl
  unfold p_M_compare
  rw [nI_clamp (show s < 2 ^ 31 by omega), nI_clamp (show a < 2 ^ 31 by omega), hb.1, hc.1]
  refine ⟨vp_in_nI hs (by omega), vp_in_nI ha (by omega), fun c => ⟨vp_in_nI hs (by omega), ?_⟩, fun c => ⟨vp_in_nI hs (by omega), vp_in_nI ha (by omega), ?_⟩⟩
  · have hn : szR h s = szR h a := (nI_eq (by omega) (by omega)).mp c
    intro x ex P hP
    have hv : v = nv (dl h s) (szR h s) := hb.2.2.2.2.symm
    have hw : w = nv (dl h a) (szR h s) := by rw [hn]; exact hc.2.2.2.2.symm
    have key : ∀ (m : Nat), m ≤ szR h s → (∀ j, m ≤ j → j < szR h s → dl h s j = dl h a j) → P (nI m - 1) := by
      intro m
      induction m with
      | zero =>
        intro _ he
        apply hP
        refine ⟨fun _ => h2 ?_, fun c2 => absurd neg_sub0 c2⟩
        rw [hv, hw]
        exact nv_congr (fun i hi => he i (Nat.zero_le _) hi)
      | succ m ih =>
        intro hm he
        apply hP
        rw [nI_pred]
        have hd1 := hb.2.2.1 m (by omega)
        have hd2 := hc.2.2.1 m (by omega)
        have hb1 := hd1.2
        have hb2 := hd2.2
        rw [m64, m64, nI_clamp (show 64 * s + m < 2 ^ 31 by omega), nI_clamp (show 64 * a + m < 2 ^ 31 by omega), hd1.1, hd2.1]
        refine ⟨fun c2 => absurd c2 (nI_pos (by omega)), fun _ => ⟨vp_in_nI (by omega) (by omega), vp_in_nI (by omega) (by omega), ?_⟩⟩
        intro y ey
        rw [lS] at ey
        subst ey
        rw [ofI_eq (by omega) (by omega)]
        refine ⟨fun c2 => ?_, fun c2 => ?_⟩
        · intro y ey
          have e9 : y = nI m - 1 := by
            rw [ey, Int32.sub_eq_add_neg]
          subst e9
          refine ih (by omega) (fun j h7 h8 => ?_)
          by_cases ej : j = m
          · subst ej
            omega
          · exact he j (by omega) h8
        · have hne : dl h s m ≠ dl h a m := fun e => c2 (by omega)
          have hcmp : v < w ↔ dl h s m < dl h a m := by
            rw [hv, hw, nv_hi hm he]
            exact nv_cmp (fun i hi => (hb.2.2.1 i (by omega)).2) (fun i hi => (hc.2.2.1 i (by omega)).2) hne
          have hcmp2 : w < v ↔ dl h a m < dl h s m := by
            rw [hv, hw, nv_hi hm (fun j h7 h8 => (he j h7 h8).symm)]
            exact nv_cmp (fun i hi => (hc.2.2.1 i (by omega)).2) (fun i hi => (hb.2.2.1 i (by omega)).2) hne.symm
          intro P93 h93
          rw [ofI_ge (by omega) (by omega)]
          refine ⟨fun c3 => h93 _ (h3 (hcmp2.mpr (by omega))), fun c3 => h93 _ (h1 (hcmp.mpr (by omega)))⟩
    rw [ex]
    exact key _ (Nat.le_refl _) (fun j h7 h8 => absurd h7 (by omega))
  · have hn : szR h s ≠ szR h a := fun e => c (by rw [e])
    intro P hP
    refine ⟨fun c3 => hP _ (h3 ?_), fun c3 => hP _ (h1 ?_)⟩
    · have hle := (nI_leI (by omega) (by omega)).mp c3
      have h5 := hc.lt
      have h6 := hb.ge (by omega)
      have h7 : BB ^ szR h a ≤ BB ^ (szR h s - 1) := Nat.pow_le_pow_right (by decide) (by omega)
      omega
    · have hlt : szR h s < szR h a := by
        rcases Nat.lt_or_ge (szR h s) (szR h a) with x | x
        · exact x
        · exact absurd (nI_le x (by omega)) c3
      have h5 := hb.lt
      have h6 := hc.ge (by omega)
      have h7 : BB ^ szR h s ≤ BB ^ (szR h a - 1) := Nat.pow_le_pow_right (by decide) (by omega)
      omega
theorem lR2_div {a : Nat} (h : a < 2 ^ 63) : lN a / 2 = lN (a / 2) := pk_lDiv (b := 2) h (by decide) (by decide)
theorem lR2_rem {a : Nat} (h : a < 2 ^ 63) : lN a - lN a / 2 * 2 = lN (a % 2) := pk_lRem (b := 2) h (by decide) (by decide)
theorem r_isEven {s v : Nat} {a1 : Int32} {h : Hs} {Q : Int32 → Prop} (e1 : a1 = nI s) (hs : s < 12) (hb : RV h s v) (h1 : v % 2 = 0 → Q 1) (h0 : v % 2 = 1 → Q 0) : p_M_isEven a1 h Q := by
  subst e1
  have hsz := hb.2.1
  unfold p_M_isEven
  have e64 : (64 : Int32) * nI s = nI (64 * s) := pk_mul 64 s
  rw [nI_clamp (show s < 2 ^ 31 by omega), hb.1, e64, nI_clamp (show 64 * s < 2 ^ 31 by omega)]
  refine ⟨vp_in_nI hs (by omega), ?_⟩
  intro P32 h32 P27 h27
  have hev : szR h s ≠ 0 → v % 2 = dl h s 0 % 2 := fun hn => by
    have := nv_dig (F := dl h s) (n := szR h s) (fun i hi => (hb.2.2.1 i hi).2) 0 (by omega)
    rw [hb.2.2.2.2, Nat.pow_zero, Nat.div_one] at this
    simp only [BB] at this
    omega
  refine ⟨fun c => h27 (h32 _ ⟨zb1, h1 ?_⟩), fun c => ⟨vp_in_nI (by omega) (by omega), ?_⟩⟩
  · have : szR h s = 0 := by
      rw [← nI_0] at c
      exact (nI_eq (by omega) (by omega)).mp c
    rw [hb.zero.mp this]
  · have hn : szR h s ≠ 0 := fun e => c (by rw [e, nI_0])
    have hd := hb.2.2.1 0 (by omega)
    rw [Nat.add_zero] at hd
    rw [hd.1, lR2_rem (lt63 hd.2), cmpz_eq (by omega)]
    have := hev hn
    exact ⟨fun c2 => h32 _ ⟨zb0, h0 (by omega)⟩, fun c2 => h27 (h32 _ ⟨zb1, h1 (by omega)⟩)⟩
theorem r_halve {s v : Nat} {a1 : Int32} {h : Hs} {Q : Hs → Prop} (e1 : a1 = nI s) (hs : s < 12) (hb : RV h s v) (hQ : ∀ h', RV h' s (v / 2) → mfr (eS s) h h' → Q h') : p_M_halve a1 h Q := by
  subst e1
  have hsz := hb.2.1
  have hBB : BB = 1073741824 := rfl
  unfold p_M_halve
  rw [nI_clamp (show s < 2 ^ 31 by omega), hb.1]
  refine ⟨vp_in_nI hs (by omega), ?_⟩
  intro x ex P hP
  subst ex
  have key : ∀ (m c : Nat) (g : Hs), m ≤ szR h s → c ≤ 1 → gi g 6 s = nI (szR h s) → DL g s (szR h s) → (∀ j, j < m → dl g s j = dl h s j) → 2 * nv (dl g s) (szR h s) + c * BB ^ m = v + nv (dl h s) m → mfr (eS s) h g → P (lN c) (nI m - 1) g := by
    intro m
    induction m with
    | zero =>
      intro c g hm hc e1 h2 h3 h4 h5
      apply hP
      refine ⟨fun _ => r_trim rfl hs e1 (Or.inl hsz) h2 (fun h' hR hF => hQ h' ?_ (h5.trans hF)), fun c2 => absurd neg_sub0 c2⟩
      have e9 : nv (dl g s) (szR h s) = v / 2 := by
        rw [Nat.pow_zero] at h4
        have : nv (dl h s) 0 = 0 := rfl
        omega
      rw [← e9]
      exact hR
    | succ m ih =>
      intro c g hm hc e1 h2 h3 h4 h5
      apply hP
      rw [nI_pred, m64, nI_clamp (show 64 * s + m < 2 ^ 31 by omega)]
      refine ⟨fun c2 => absurd c2 (nI_pos (by omega)), fun _ => ⟨vp_in_nI (by omega) (by omega), ?_⟩⟩
      intro x ex
      refine ⟨vp_in_nI (by omega) (by omega), ?_⟩
      intro h54 e54 c' ec' m' em'
      have hd := h2 m (by omega)
      have hd2 := hd.2
      have eB : (1073741824 : Int64) = lN BB := rfl
      rw [hd.1, eB, lN_mul, lN_add] at ex
      subst ex
      have hcB : c * BB ≤ 1 * BB := Nat.mul_le_mul_right _ hc
      rw [lR2_div (by omega)] at e54
      rw [lR2_rem (by omega)] at ec'
      subst ec'
      have e9 : m' = nI m - 1 := by rw [em', Int32.sub_eq_add_neg]
      subst e9
      have hx2 : (dl g s m + c * BB) / 2 < BB := by omega
      have hw := dl_w e54 hx2
      refine ih _ h54 (by omega) (by omega) (by rw [e54]; exact e1) (DL.w e54 hx2 h2) (fun j hj => ?_) ?_ (h5.trans (e54 ▸ mfr.sl (by omega) eS1))
      · rw [hw.2.2 j (by omega)]
        exact h3 j (by omega)
      · have hu := nv_upd (F := dl g s) (G := dl h54 s) (p := m) (x := (dl g s m + c * BB) / 2) (n := szR h s) (by omega) hw.1 (fun j _ hj => hw.2.2 j hj)
        rw [nv_succ, ← h3 m (by omega), BB_succ] at h4
        have hdm := Nat.div_add_mod (dl g s m + c * BB) 2
        generalize (dl g s m + c * BB) / 2 = A at *
        generalize (dl g s m + c * BB) % 2 = B at *
        generalize dl g s m = d at *
        generalize nv (dl h54 s) (szR h s) = s1 at *
        generalize nv (dl g s) (szR h s) = s2 at *
        generalize nv (dl h s) m = s3 at *
        generalize BB ^ m = z at *
        clear ih hP h2 h3 h5 hQ hw hd hd2 hx2 e54 e1 hb hcB
        have h6 : 2 * s1 + B * z + 2 * (d * z) = v + s3 + 2 * (d * z) := by grind
        omega
  rw [lN_lit0]
  refine key _ 0 h (Nat.le_refl _) (by omega) hb.1 hb.2.2.1 (fun _ _ => rfl) ?_ mfr.refl
  rw [hb.2.2.2.2]
  omega
theorem stp {d e o : Nat} (hd : d < BB) (he : e < BB) (ho : o ≤ 1) : ∃ y b : Nat, b ≤ 1 ∧ y < BB ∧ y + e + o = d + b * BB ∧ (0 ≤ lg_cmp (lN d - lN e - lN o) 0 → b = 0) ∧ (¬ 0 ≤ lg_cmp (lN d - lN e - lN o) 0 → b = 1) ∧ (lN d - lN e - lN o) + lN b * 1073741824 = lN y := by
  have hBB : BB = 1073741824 := rfl
  have e1 : lN d - lN e - lN o = Int64.ofInt ((d : Int) - (e : Int) - (o : Int)) := by rw [lN_ofInt, lN_ofInt, lN_ofInt, ← Int64.ofInt_sub, ← Int64.ofInt_sub]
  have eB : (1073741824 : Int64) = lN BB := rfl
  rw [e1, ofI_ge (by omega) (by omega), eB]
  rcases Nat.lt_or_ge d (e + o) with x | x
  · refine ⟨d + BB - e - o, 1, by omega, by omega, by omega, fun c => by omega, fun _ => rfl, ?_⟩
    rw [lN_mul, lN_ofInt, lN_ofInt, ← Int64.ofInt_add]
    congr 1
    omega
  · refine ⟨d - e - o, 0, by omega, by omega, by omega, fun c => rfl, fun c => by omega, ?_⟩
    rw [lN_mul, lN_ofInt, lN_ofInt, ← Int64.ofInt_add]
    congr 1
    omega
theorem pad_lt {F : Nat → Nat} {n : Nat} (h : ∀ i, i < n → F i < BB) (i : Nat) : pad F n i < BB := by
  unfold pad
  split
  · exact h i (by assumption)
  · decide
theorem pad_i {F : Nat → Nat} {n i : Nat} (h : i < n) : pad F n i = F i := if_pos h
theorem pad_o {F : Nat → Nat} {n i : Nat} (h : n ≤ i) : pad F n i = 0 := if_neg (by omega)
theorem r_take {s a v w : Nat} {a1 a2 : Int32} {h : Hs} {Q : Hs → Prop} (e1 : a1 = nI s) (e2 : a2 = nI a) (hs : s < 12) (ha : a < 12) (hne : s ≠ a) (hb : RV h s v) (hc : RV h a w) (hle : w ≤ v) (hQ : ∀ h', RV h' s (v - w) → mfr (eS s) h h' → Q h') : p_M_take a1 a2 h Q := by
  subst e1 e2
  have hsz := hb.2.1
  have hsa := hc.size_le (Nat.lt_of_le_of_lt hle hb.lt)
  have nota : ¬ eS s a := fun x => hne x.symm
  unfold p_M_take
  rw [nI_clamp (show s < 2 ^ 31 by omega), nI_clamp (show a < 2 ^ 31 by omega)]
  intro P hP
  have key : ∀ (k i b : Nat) (g : Hs), szR h s - i = k → i ≤ szR h s → b ≤ 1 → gi g 6 s = nI (szR h s) → DL g s (szR h s) → (∀ j, i ≤ j → j < szR h s → dl g s j = dl h s j) → nv (dl g s) i + nv (pad (dl h a) (szR h a)) i = nv (dl h s) i + b * BB ^ i → mfr (eS s) h g → P (lN b) (nI i) g := by
    intro k
    induction k with
    | zero =>
      intro i b g hkk hi hb1 e1 h2 h3 h4 h5
      have hin : i = szR h s := by omega
      subst hin
      rw [hb.2.2.2.2, nv_pad hsa, hc.2.2.2.2] at h4
      have hlt : nv (dl g s) (szR h s) < BB ^ szR h s := nv_lt (fun i hi => (h2 i hi).2)
      have hb0 : b = 0 := by
        rcases Nat.eq_zero_or_pos b with x | x
        · exact x
        · have : BB ^ szR h s ≤ b * BB ^ szR h s := Nat.le_mul_of_pos_left _ x
          omega
      subst hb0
      apply hP
      rw [e1]
      refine ⟨vp_in_nI hs (by omega), fun _ => r_trim rfl hs e1 (Or.inl hsz) h2 (fun h' hR hF => hQ h' ?_ (h5.trans hF)), fun c => absurd (nI_le (Nat.le_refl _) (by omega)) c⟩
      have e9 : nv (dl g s) (szR h s) = v - w := by omega
      rw [← e9]
      exact hR
    | succ k ih =>
      intro i b g hkk hi hb1 e1 h2 h3 h4 h5
      apply hP
      have hd := h2 i (by omega)
      rw [e1, h5.2.1 a nota, hc.1, m64, m64, nI_clamp (show 64 * s + i < 2 ^ 31 by omega), nI_clamp (show 64 * a + i < 2 ^ 31 by omega), hd.1]
      refine ⟨vp_in_nI hs (by omega), fun c2 => absurd ((nI_leI (by omega) (by omega)).mp c2) (by omega), fun _ => ⟨vp_in_nI (by omega) (by omega), vp_in_nI ha (by omega), ?_⟩⟩
      intro P55 h55
      have fin : P55 (lN (pad (dl h a) (szR h a) i)) := by
        apply h55
        intro x ex P72 h72
        obtain ⟨y, b', y1, y2, y3, y4, y5, y6⟩ := stp hd.2 (pad_lt (fun i hi => (hc.2.2.1 i hi).2) i) hb1
        rw [← ex] at y4 y5 y6
        have go : P72 (lN b') := by
          apply h72
          refine ⟨vp_in_nI (by omega) (by omega), ?_⟩
          intro h92 e92 i' ei'
          rw [y6] at e92
          rw [nI_1] at ei'
          subst ei'
          have hw := dl_w e92 y2
          refine ih (i + 1) b' h92 (by omega) (by omega) y1 (by rw [e92]; exact e1) (DL.w e92 y2 h2) (fun j h6 h7 => ?_) ?_ (h5.trans (e92 ▸ mfr.sl (by omega) eS1))
          · rw [hw.2.2 j (by omega)]
            exact h3 j (by omega) h7
          · rw [nv_succ, nv_succ, nv_succ, hw.1, nv_congr (fun j hj => hw.2.2 j (by omega)), ← h3 i (Nat.le_refl _) (by omega), BB_succ]
            generalize nv (dl g s) i = s1 at *
            generalize nv (dl h s) i = s2 at *
            generalize nv (pad (dl h a) (szR h a)) i = s3 at *
            generalize pad (dl h a) (szR h a) i = d2 at *
            generalize dl g s i = d1 at *
            generalize BB ^ i = z at *
            clear ih hP h2 h3 h5 hQ hw hd e92 e1 hb hc h55 h72 y4 y5 y6 ex
            have h6 : s1 + y * z + (s3 + d2 * z) + b * z = s2 + d1 * z + b' * (z * BB) + b * z := by grind
            omega
        refine ⟨fun c => ?_, fun c => ?_⟩
        · have := y4 c
          subst this
          exact go
        · have := y5 c
          subst this
          exact go
      refine ⟨fun c => ?_, fun c => ⟨vp_in_nI (by omega) (by omega), ?_⟩⟩
      · have := (nI_leI (by omega) (by omega)).mp c
        rw [pad_o (by omega)] at fin
        exact fin
      · have hi2 : i < szR h a := by
          rcases Nat.lt_or_ge i (szR h a) with x | x
          · exact x
          · exact absurd (nI_le x (by omega)) c
        rw [h5.2.2.1 a i (by omega) nota, (hc.2.2.1 i hi2).1]
        rw [pad_i hi2] at fin
        exact fin
  rw [lN_lit0, nI_lit0]
  exact key _ 0 0 h rfl (Nat.zero_le _) (by omega) hb.1 hb.2.2.1 (fun _ _ _ => rfl) rfl mfr.refl
theorem r_add {s a v w : Nat} {a1 a2 : Int32} {h : Hs} {Q : Hs → Prop} (e1 : a1 = nI s) (e2 : a2 = nI a) (hs : s < 12) (ha : a < 12) (hne : s ≠ a) (hb : RV h s v) (hc : RV h a w) (hv : v < BB ^ 62) (hw : w < BB ^ 62) (hQ : ∀ h', RV h' s (v + w) → mfr (eS s) h h' → Q h') : p_M_add a1 a2 h Q := by
  subst e1 e2
  have hsz := hb.size_le hv
  have hsa := hc.size_le hw
  have hBB : BB = 1073741824 := rfl
  have nota : ¬ eS s a := fun x => hne x.symm
  clear hv hw
  unfold p_M_add
  rw [nI_clamp (show s < 2 ^ 31 by omega), nI_clamp (show a < 2 ^ 31 by omega), hb.1, hc.1]
  refine ⟨vp_in_nI hs (by omega), vp_in_nI ha (by omega), ?_⟩
  intro P32 h32
  have main : ∀ M, szR h s ≤ M → szR h a ≤ M → M ≤ 62 → P32 (nI M) := by
    intro M hM1 hM2 hM3
    apply h32
    intro P hP
    have key : ∀ (k i c : Nat) (g : Hs), M - i = k → i ≤ M → c ≤ 1 → gi g 6 s = nI (szR h s) → DL g s i → (∀ j, i ≤ j → j < 64 → gl g 5 (64 * s + j) = gl h 5 (64 * s + j)) → nv (dl g s) i + c * BB ^ i = nv (pad (dl h s) (szR h s)) i + nv (pad (dl h a) (szR h a)) i → mfr (eS s) h g → P (lN c) (nI i) g := by
      intro k
      induction k with
      | zero =>
        intro i c g hkk hi hc1 e1 h2 h3 h4 h5
        have hin : i = M := by omega
        subst hin
        rw [nv_pad hM1, nv_pad hM2, hb.2.2.2.2, hc.2.2.2.2] at h4
        apply hP
        rw [m64, nI_clamp (show 64 * s + i < 2 ^ 31 by omega)]
        refine ⟨fun _ => ⟨vp_in_nI (by omega) (by omega), ?_⟩, fun c => absurd (nI_le (Nat.le_refl _) (by omega)) c⟩
        intro h146 e146
        refine ⟨vp_in_nI hs (by omega), ?_⟩
        intro h156 e156
        have hcB : c < BB := by omega
        have hw := dl_w e146 hcB
        refine r_trim (n := i + 1) rfl hs (by rw [e156, gi_s, nI_1]) (Or.inl (by omega)) (by rw [e156]; exact (DL.w1 e146 hcB h2).si) (fun h' hR hF => hQ h' ?_ (((h5.trans (e146 ▸ mfr.sl (by omega) eS1)).trans (e156 ▸ mfr.si eS1)).trans hF))
        have e9 : nv (dl h156 s) (i + 1) = v + w := by
          have hdl : ∀ i, dl h156 s i = dl h146 s i := fun i => by rw [e156]; rfl
          rw [← h4, nv_succ, hdl, hw.1, nv_congr (fun i hi => (hdl i).trans (hw.2.2 i (by omega)))]
        rw [← e9]
        exact hR
      | succ k ih =>
        intro i c g hkk hi hc1 e1 h2 h3 h4 h5
        apply hP
        rw [e1, h5.2.1 a nota, hc.1, m64, m64, m64, nI_clamp (show 64 * s + i < 2 ^ 31 by omega), nI_clamp (show 64 * a + i < 2 ^ 31 by omega)]
        refine ⟨fun c2 => absurd ((nI_leI (by omega) (by omega)).mp c2) (by omega), fun _ => ⟨vp_in_nI hs (by omega), ?_⟩⟩
        intro P71 h71
        have fin1 : P71 (lN (pad (dl h s) (szR h s) i)) := by
          apply h71
          refine ⟨vp_in_nI ha (by omega), ?_⟩
          intro P98 h98
          have fin : P98 (lN (pad (dl h a) (szR h a) i)) := by
            apply h98
            intro x ex
            refine ⟨vp_in_nI (by omega) (by omega), ?_⟩
            intro h120 e120 c' ec' i' ei'
            have p1 := pad_lt (fun i hi => (hb.2.2.1 i hi).2) i
            have p2 := pad_lt (fun i hi => (hc.2.2.1 i hi).2) i
            rw [lN_add, lN_add] at ex
            generalize hX : pad (dl h s) (szR h s) i + pad (dl h a) (szR h a) i + c = X at *
            subst ex
            rw [lR_rem (by omega)] at e120
            rw [lR_div (by omega)] at ec'
            subst ec'
            rw [nI_1] at ei'
            subst ei'
            have hmod : X % BB < BB := Nat.mod_lt _ (by decide)
            have hw := dl_w e120 hmod
            refine ih (i + 1) _ h120 (by omega) (by omega) (by have : X / BB < 2 := Nat.div_lt_of_lt_mul (by omega); omega) (by rw [e120]; exact e1) (DL.w1 e120 hmod h2) (fun j h6 h7 => ?_) ?_ (h5.trans (e120 ▸ mfr.sl (by omega) eS1))
            · rw [hw.2.1 j (by omega)]
              exact h3 j (by omega) h7
            · rw [nv_succ, nv_succ, nv_succ, hw.1, nv_congr (fun j hj => hw.2.2 j (by omega)), BB_succ]
              have hdm := Nat.div_add_mod X BB
              generalize X / BB = A at *
              generalize X % BB = B at *
              generalize nv (dl g s) i = s1 at *
              generalize nv (pad (dl h s) (szR h s)) i = s2 at *
              generalize nv (pad (dl h a) (szR h a)) i = s3 at *
              generalize pad (dl h s) (szR h s) i = d1 at *
              generalize pad (dl h a) (szR h a) i = d2 at *
              generalize BB ^ i = z at *
              subst hX
              clear ih hP h2 h3 h5 hQ hw e120 e1 hb hc h71 h98 h32
              grind
          refine ⟨fun c => ?_, fun c => ⟨vp_in_nI (by omega) (by omega), ?_⟩⟩
          · have := (nI_leI (by omega) (by omega)).mp c
            rw [pad_o (by omega)] at fin
            exact fin
          · have hi2 : i < szR h a := by
              rcases Nat.lt_or_ge i (szR h a) with x | x
              · exact x
              · exact absurd (nI_le x (by omega)) c
            rw [h5.2.2.1 a i (by omega) nota, (hc.2.2.1 i hi2).1]
            rw [pad_i hi2] at fin
            exact fin
        refine ⟨fun c => ?_, fun c => ⟨vp_in_nI (by omega) (by omega), ?_⟩⟩
        · have := (nI_leI (by omega) (by omega)).mp c
          rw [pad_o (by omega)] at fin1
          exact fin1
        · have hi2 : i < szR h s := by
            rcases Nat.lt_or_ge i (szR h s) with x | x
            · exact x
            · exact absurd (nI_le x (by omega)) c
          rw [h3 i (Nat.le_refl _) (by omega), (hb.2.2.1 i hi2).1]
          rw [pad_i hi2] at fin1
          exact fin1
    rw [lN_lit0, nI_lit0]
    exact key _ 0 0 h rfl (Nat.zero_le _) (by omega) hb.1 (fun i hi => absurd hi (by omega)) (fun _ _ _ => rfl) rfl mfr.refl
  refine ⟨fun c => ⟨vp_in_nI ha (by omega), ?_⟩, fun c => ⟨vp_in_nI hs (by omega), ?_⟩⟩
  · have := (nI_leI (by omega) (by omega)).mp c
    exact main _ this (Nat.le_refl _) hsa
  · have : szR h a < szR h s := by
      rcases Nat.lt_or_ge (szR h a) (szR h s) with x | x
      · exact x
      · exact absurd (nI_le x (by omega)) c
    exact main _ (Nat.le_refl _) (by omega) hsz
theorem r_product {s a b v w : Nat} {a1 a2 a3 : Int32} {h : Hs} {Q : Hs → Prop} (e1 : a1 = nI s) (e2 : a2 = nI a) (e3 : a3 = nI b) (hs : s < 12) (ha : a < 12) (hb' : b < 12) (hna : s ≠ a) (hnb : s ≠ b) (hva : RV h a v) (hvb : RV h b w) (hsz : szR h a + szR h b ≤ 63) (hQ : ∀ h', RV h' s (v * w) → mfr (eS s) h h' → Q h') : p_M_product a1 a2 a3 h Q := by
  subst e1 e2 e3
  have hBB : BB = 1073741824 := rfl
  have nota : ¬ eS s a := fun x => hna x.symm
  have notb : ¬ eS s b := fun x => hnb x.symm
  unfold p_M_product
  rw [nI_clamp (show s < 2 ^ 31 by omega), nI_clamp (show a < 2 ^ 31 by omega), nI_clamp (show b < 2 ^ 31 by omega), hva.1, hvb.1, nI_add]
  generalize hA : szR h a = A at *
  generalize hB : szR h b = B at *
  refine ⟨vp_in_nI ha (by omega), vp_in_nI hb' (by omega), ?_⟩
  intro x4 ex4
  subst ex4
  intro P18 h18
  have zero : ∀ (k i : Nat) (g : Hs), A + B - i = k → i ≤ A + B → (∀ j, j < i → gl g 5 (64 * s + j) = lN 0) → mfr (eS s) h g → P18 (nI i) g := by
    intro k
    induction k with
    | zero =>
      intro i g hkk hi hz f1
      have hin : i = A + B := by omega
      subst hin
      apply h18
      refine ⟨fun _ => ?_, fun c => absurd (nI_le (Nat.le_refl _) (by omega)) c⟩
      intro P47 h47
      have key : ∀ (k i : Nat) (g : Hs), A - i = k → i ≤ A → DL g s (A + B) → (∀ j, i + B ≤ j → j < A + B → dl g s j = 0) → nv (dl g s) (A + B) = nv (dl h a) i * w → mfr (eS s) h g → P47 (nI i) g := by
        intro k
        induction k with
        | zero =>
          intro i g hkk hi h3 h4 h5 h6
          have hin : i = A := by omega
          subst hin
          apply h47
          rw [h6.2.1 a nota, hva.1, hA]
          refine ⟨vp_in_nI ha (by omega), fun _ => ⟨vp_in_nI hs (by omega), ?_⟩, fun c2 => absurd (nI_le (Nat.le_refl _) (by omega)) c2⟩
          intro h186 e186
          refine r_trim (n := i + B) rfl hs (by rw [e186, gi_s]) (Or.inl hsz) (by rw [e186]; exact h3.si) (fun h' hR hF => hQ h' ?_ ((h6.trans (e186 ▸ mfr.si eS1)).trans hF))
          have e9 : nv (dl h186 s) (i + B) = v * w := by
            have hdl : ∀ j, dl h186 s j = dl g s j := fun j => by rw [e186]; rfl
            rw [nv_congr (fun j _ => hdl j), h5, ← hA, hva.2.2.2.2]
          rw [← e9]
          exact hR
        | succ k ih =>
          intro i g hkk hi h3 h4 h5 h6
          apply h47
          rw [h6.2.1 a nota, hva.1, hA]
          refine ⟨vp_in_nI ha (by omega), fun c2 => absurd ((nI_leI (by omega) (by omega)).mp c2) (by omega), fun _ => ?_⟩
          intro P64 h64
          have hd := hva.2.2.1 i (by omega)
          have inner : ∀ (r j c : Nat) (g2 : Hs), B - j = r → j ≤ B → c < BB → DL g2 s (A + B) → (∀ t, i + B ≤ t → t < A + B → dl g2 s t = 0) → nv (dl g2 s) (A + B) + c * BB ^ (i + j) = nv (dl h a) i * w + dl h a i * nv (dl h b) j * BB ^ i → mfr (eS s) h g2 → P64 (lN c) (nI j) g2 := by
            intro r
            induction r with
            | zero =>
              intro j c g2 hr hj hc h3 h4 h5 h6
              have hjB : j = B := by omega
              subst hjB
              apply h64
              rw [h6.2.1 b notb, hvb.1, hB, m64, nI_add, nI_clamp (show 64 * s + i + j < 2 ^ 31 by omega)]
              refine ⟨vp_in_nI hb' (by omega), fun _ => ⟨vp_in_nI hb' (by omega), vp_in_nI (by omega) (by omega), ?_⟩, fun c2 => absurd (nI_le (Nat.le_refl _) (by omega)) c2⟩
              intro h172 e172 i' ei'
              rw [nI_1] at ei'
              subst ei'
              rw [Nat.add_assoc] at e172
              have hw := dl_w e172 hc
              refine ih (i + 1) h172 (by omega) (by omega) (DL.w e172 hc h3) (fun t h7 h8 => ?_) ?_ (h6.trans (e172 ▸ mfr.sl (by omega) eS1))
              · rw [hw.2.2 t (by omega)]
                exact h4 t (by omega) h8
              · have hu := nv_upd (F := dl g2 s) (G := dl h172 s) (p := i + j) (x := c) (n := A + j) (by omega) hw.1 (fun t _ ht => hw.2.2 t ht)
                rw [h4 (i + j) (Nat.le_refl _) (by omega), Nat.zero_mul, Nat.add_zero] at hu
                have hw2 : nv (dl h b) j = w := by rw [← hB]; exact hvb.2.2.2.2
                rw [hu, h5, nv_succ, hw2]
                generalize BB ^ i = z
                grind
            | succ r ihr =>
              intro j c g2 hr hj hc h3 h4 h5 h6
              apply h64
              rw [h6.2.1 b notb, hvb.1, hB]
              refine ⟨vp_in_nI hb' (by omega), fun c2 => absurd ((nI_leI (by omega) (by omega)).mp c2) (by omega), fun _ => ?_⟩
              intro x9 ex9
              rw [m64, nI_add] at ex9
              subst ex9
              have hdb := hvb.2.2.1 j (by omega)
              have hdo := h3 (i + j) (by omega)
              rw [m64, m64, nI_clamp (show 64 * s + i + j < 2 ^ 31 by omega), nI_clamp (show 64 * a + i < 2 ^ 31 by omega), nI_clamp (show 64 * b + j < 2 ^ 31 by omega), Nat.add_assoc (64 * s), hdo.1, h6.2.2.1 a i (by omega) nota, hd.1, h6.2.2.1 b j (by omega) notb, hdb.1]
              refine ⟨vp_in_nI (by omega) (by omega), vp_in_nI (by omega) (by omega), vp_in_nI (by omega) (by omega), ?_⟩
              intro x10 ex10
              refine ⟨vp_in_nI (by omega) (by omega), ?_⟩
              intro h137 e137 c' ec' j' ej'
              have hmul : dl h a i * dl h b j ≤ (BB - 1) * (BB - 1) := Nat.mul_le_mul (by have := hd.2; omega) (by have := hdb.2; omega)
              have hm2 : (BB - 1) * (BB - 1) = 1152921502459363329 := by decide +kernel
              have ho2 := hdo.2
              rw [lN_mul, lN_add, lN_add] at ex10
              generalize hX : dl h a i * dl h b j + dl g2 s (i + j) + c = X at *
              have hX63 : X < 2 ^ 63 := by omega
              subst ex10
              rw [lR_rem hX63] at e137
              rw [lR_div hX63] at ec'
              subst ec'
              rw [nI_1] at ej'
              subst ej'
              have hmod : X % BB < BB := Nat.mod_lt _ (by decide)
              have hdiv : X / BB < BB := Nat.div_lt_of_lt_mul (by rw [BB2]; omega)
              have hw := dl_w e137 hmod
              refine ihr (j + 1) _ h137 (by omega) (by omega) hdiv (DL.w e137 hmod h3) (fun t h7 h8 => ?_) ?_ (h6.trans (e137 ▸ mfr.sl (by omega) eS1))
              · rw [hw.2.2 t (by omega)]
                exact h4 t h7 h8
              · have hu := nv_upd (F := dl g2 s) (G := dl h137 s) (p := i + j) (x := X % BB) (n := A + B) (by omega) hw.1 (fun t _ ht => hw.2.2 t ht)
                have hdm := Nat.div_add_mod X BB
                have e9 : BB ^ (i + (j + 1)) = BB ^ (i + j) * BB := by rw [← Nat.add_assoc, BB_succ]
                have e8 : BB ^ (i + j) = BB ^ i * BB ^ j := Nat.pow_add _ _ _
                rw [e9, nv_succ]
                generalize X / BB = D1 at *
                generalize X % BB = D2 at *
                generalize nv (dl h137 s) (A + B) = s1 at *
                generalize nv (dl g2 s) (A + B) = s2 at *
                generalize dl g2 s (i + j) = d0 at *
                generalize nv (dl h a) i * w = s3 at *
                generalize nv (dl h b) j = s4 at *
                generalize dl h a i = d1 at *
                generalize dl h b j = d2 at *
                rw [e8] at hu h5 ⊢
                generalize BB ^ i = z1 at *
                generalize BB ^ j = z2 at *
                subst hX
                clear ih ihr h64 h47 h18 hQ hw e137 hd hdb hdo h3 h4 h6
                have hh : s1 + d0 * (z1 * z2) + D1 * (z1 * z2 * BB) = s3 + d1 * (s4 + d2 * z2) * z1 + d0 * (z1 * z2) := by grind
                omega
          rw [lN_lit0, nI_lit0]
          refine inner _ 0 0 g rfl (Nat.zero_le _) (by decide) h3 h4 ?_ h6
          rw [h5]
          show _ + 0 * _ = _ + dl h a i * 0 * _
          rw [Nat.zero_mul, Nat.mul_zero, Nat.zero_mul]
      rw [nI_lit0]
      have hz2 : ∀ t, t < A + B → dl g s t = 0 := fun t ht => dl_of (hz t ht) (by decide)
      refine key _ 0 g rfl (Nat.zero_le _) (fun t ht => ?_) (fun t _ h8 => hz2 t h8) ?_ f1
      · rw [hz2 t ht]
        exact ⟨hz t ht, by decide⟩
      · rw [nv_zero hz2]
        show 0 = 0 * w
        rw [Nat.zero_mul]
    | succ k ih =>
      intro i g hkk hi hz f1
      apply h18
      rw [m64, nI_clamp (show 64 * s + i < 2 ^ 31 by omega)]
      refine ⟨fun c2 => absurd ((nI_leI (by omega) (by omega)).mp c2) (by omega), fun _ => ⟨vp_in_nI (by omega) (by omega), ?_⟩⟩
      intro h37 e37 i' ei'
      rw [nI_1] at ei'
      subst ei'
      refine ih (i + 1) h37 (by omega) (by omega) (fun j hj => ?_) (f1.trans (e37 ▸ mfr.sl (by omega) eS1))
      by_cases ej : j = i
      · subst ej
        rw [e37, gl_s, lN_lit0]
      · rw [e37, gl_n (by omega)]
        exact hz j (by omega)
  rw [nI_lit0]
  exact zero _ 0 h rfl (Nat.zero_le _) (fun j hj => absurd hj (by omega)) mfr.refl
