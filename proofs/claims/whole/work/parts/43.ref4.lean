/-! ===== division bit by bit, telling ===== -/
def dvS (s : Nat) : Nat → Prop := fun j => j = s ∨ j = 9 ∨ j = 10
theorem d9 {s : Nat} : dvS s 9 := Or.inr (Or.inl rfl)
theorem d10 {s : Nat} : dvS s 10 := Or.inr (Or.inr rfl)
theorem d1 {s : Nat} : dvS s s := Or.inl rfl
theorem bitcmp {b : Nat} (h : b < 2) : lg_cmp (lN b) 1 = 0 ↔ b = 1 := by
  have e : (1 : Int64) = lN 1 := rfl
  rw [cmp_eq0, e, pk_lEQ (by omega) (by omega)]
theorem m640 {m : Nat} : (640 : Int32) + nI m = nI (64 * 10 + m) := nI_add 640 m
theorem BB60 {r d : Nat} (hr : r < d) (hd : d < BB ^ 61) : r < BB ^ 62 := by
  have : BB ^ 61 ≤ BB ^ 62 := Nat.pow_le_pow_right (by decide) (by decide)
  omega
theorem r_divide {s v d : Nat} {a1 : Int32} {h : Hs} {Q : Hs → Prop} (e1 : a1 = nI s) (hs : s < 8) (hv : RV h s v) (hd : RV h 8 d) (d0 : 0 < d) (dB : d < BB ^ 61) (hQ : ∀ h', RV h' s (v / d) → mfr (dvS s) h h' → Q h') : p_M_divide a1 h Q := by
  have hBB : BB = 1073741824 := rfl
  have hsz := hv.2.1
  unfold p_M_divide
  refine r_copy (s := 10) (a := s) rfl e1 (by omega) (by omega) (by omega) hv (fun h4 v4 f4 => ?_)
  refine r_set (s := 9) (x := 0) rfl rfl (by omega) (by decide) (fun h11 z11 f11 => ?_)
  have v10 : RV h11 10 v := v4.mfr f11 (neS (by omega))
  have vs : RV h11 s v := (hv.mfr f4 (neS (by omega))).mfr f11 (neS (by omega))
  have F11 : mfr (dvS s) h h11 := (f4.up d10).trans (f11.up d9)
  have hN10 : szR h11 10 = szR h11 s := by
    have hu := nv_uniq (F := dl h11 10) (G := dl h11 s) (n := szR h11 10) (m := szR h11 s) (fun i hi => (v10.2.2.1 i hi).2) (fun i hi => (vs.2.2.1 i hi).2) v10.2.2.2.1 vs.2.2.2.1 (v10.2.2.2.2.trans vs.2.2.2.2.symm)
    exact hu.1
  have hN : gi h11 6 10 = nI (szR h11 10) := v10.1
  have hszs := v10.2.1
  have hsN : gi h11 6 s = nI (szR h11 10) := by rw [hN10]; exact vs.1
  have hV : nv (dl h11 10) (szR h11 10) = v := v10.2.2.2.2
  have hD := v10.2.2.1
  generalize szR h11 10 = N at *
  subst e1
  intro x2 ex2
  rw [hN] at ex2
  subst ex2
  intro P24 h24
  have zero : ∀ (k i : Nat) (g : Hs), N - i = k → i ≤ N → (∀ j, j < i → gl g 5 (64 * s + j) = lN 0) → gi g 6 s = nI N → mfr (eS s) h11 g → P24 (nI i) g := by
    intro k
    induction k with
    | zero =>
      intro i g hkk hi hz hgs f1
      have hin : i = N := by omega
      subst hin
      apply h24
      refine ⟨fun _ => ?_, fun c => absurd (nI_le (Nat.le_refl _) (by omega)) c⟩
      intro x3 ex3 P51 h51
      subst ex3
      have key : ∀ (m qa r A : Nat) (g : Hs), m ≤ i → RV g 8 d → RV g 9 r → r < d → A = d * qa + r → v = A * BB ^ m + nv (dl h11 10) m → gi g 6 s = nI i → DL g s i → (∀ j, j < m → dl g s j = 0) → nv (dl g s) i = qa * BB ^ m → (∀ j, j < i → gl g 5 (64 * 10 + j) = gl h11 5 (64 * 10 + j)) → mfr (dvS s) h g → P51 (nI m - 1) g := by
        intro m
        induction m with
        | zero =>
          intro qa r A g hm h8 h9 hr hA hvA es hDL hzz hq hten hF
          apply h51
          refine ⟨fun _ => r_trim rfl (by omega) es (Or.inl hszs) hDL (fun h' hR hF2 => hQ h' ?_ (hF.trans (hF2.up d1))), fun c => absurd neg_sub0 c⟩
          have e9 : nv (dl g s) i = v / d := by
            rw [Nat.pow_zero, Nat.mul_one] at hvA hq
            have h0 : nv (dl h11 10) 0 = 0 := rfl
            rw [hq, hvA, h0, Nat.add_zero, hA, Nat.mul_add_div d0, Nat.div_eq_of_lt hr, Nat.add_zero]
          rw [← e9]
          exact hR
        | succ m ih =>
          intro qa r A g hm h8 h9 hr hA hvA es hDL hzz hq hten hF
          apply h51
          rw [nI_pred, m64, nI_clamp (show 64 * s + m < 2 ^ 31 by omega), m640, nI_clamp (show 64 * 10 + m < 2 ^ 31 by omega)]
          refine ⟨fun c => absurd c (nI_pos (by omega)), fun _ => ?_⟩
          intro P62 h62
          have hf := hD m (by omega)
          have hf2 := hf.2
          have inner : ∀ (t q r : Nat) (g2 : Hs), t ≤ 30 → RV g2 8 d → RV g2 9 r → r < d → q < 2 ^ (30 - t) → A * 2 ^ (30 - t) + dl h11 10 m / 2 ^ t = d * (qa * 2 ^ (30 - t) + q) + r → mfr (eS 9) g g2 → P62 (lN q) (nI t - 1) g2 := by
            intro t
            induction t with
            | zero =>
              intro q r g2 ht h8 h9 hr hqb heq hF2
              apply h62
              refine ⟨fun _ => ⟨vp_in_nI (by omega) (by omega), ?_⟩, fun c => absurd neg_sub0 c⟩
              intro h151 e151 m' em'
              have e9 : m' = nI m - 1 := by rw [em', Int32.sub_eq_add_neg]
              subst e9
              have hqB : q < BB := by simp only [Nat.sub_zero] at hqb; omega
              have hw := dl_w e151 hqB
              have es2 : gi g2 6 s = nI i := by rw [hF2.2.1 s (neS (by omega))]; exact es
              have hgl2 : ∀ j, j < 64 → gl g2 5 (64 * s + j) = gl g 5 (64 * s + j) := fun j hj => hF2.2.2.1 s j hj (neS (by omega))
              have hDL2 : DL g2 s i := fun j hj => by
                rw [dl_eq (hgl2 j (by omega)), hgl2 j (by omega)]
                exact hDL j hj
              have f151 : mfr (eS s) g2 h151 := e151 ▸ mfr.sl (by omega) eS1
              have e30 : (2 : Nat) ^ (30 - 0) = BB := by decide
              rw [Nat.pow_zero, Nat.div_one, e30] at heq
              refine ih (qa * BB + q) r (A * BB + dl h11 10 m) h151 (by omega) (h8.mfr f151 (neS (by omega))) (h9.mfr f151 (neS (by omega))) hr heq ?_ (by rw [e151]; exact es2) (DL.w e151 hqB hDL2) (fun j hj => ?_) ?_ (fun j hj => ?_) ((hF.trans (hF2.up d9)).trans (f151.up d1))
              · rw [hvA, nv_succ, BB_succ]
                generalize BB ^ m = z
                grind
              · rw [hw.2.2 j (by omega), dl_eq (hgl2 j (by omega))]
                exact hzz j (by omega)
              · have hu := nv_upd (F := dl g2 s) (G := dl h151 s) (p := m) (x := q) (n := i) (by omega) hw.1 (fun j _ hj => hw.2.2 j hj)
                have hz0 : dl g2 s m = 0 := by rw [dl_eq (hgl2 m (by omega))]; exact hzz m (by omega)
                have hn2 : nv (dl g2 s) i = nv (dl g s) i := nv_congr (fun j hj => dl_eq (hgl2 j (by omega)))
                rw [hz0, Nat.zero_mul, Nat.add_zero, hn2, hq, BB_succ] at hu
                rw [hu]
                generalize BB ^ m = z
                grind
              · rw [f151.2.2.1 10 j (by omega) (neS (by omega)), hF2.2.2.1 10 j (by omega) (neS (by omega))]
                exact hten j hj
            | succ t iht =>
              intro q r g2 ht h8 h9 hr hqb heq hF2
              apply h62
              rw [nI_pred]
              refine ⟨fun c => absurd c (nI_pos (by omega)), fun _ => ?_⟩
              refine r_times (s := 9) (f := 2) rfl rfl (by omega) h9 (by decide) (BB60 hr dB) (fun h73 r73 f73 => ⟨vp_in_nI (by omega) (by omega), ?_⟩)
              have e10 : gl h73 5 (64 * 10 + m) = lN (dl h11 10 m) := by
                rw [f73.2.2.1 10 m (by omega) (neS (by omega)), hF2.2.2.1 10 m (by omega) (neS (by omega)), hten m (by omega)]
                exact hf.1
              rw [e10, lbit hf2 (by omega), bitcmp (Nat.mod_lt _ (by decide))]
              intro P100 h100
              have h30 : 30 - t = (30 - (t + 1)) + 1 := by omega
              have hpow : 2 ^ (30 - (t + 1)) ≤ 2 ^ 29 := Nat.pow_le_pow_right (by decide) (by omega)
              have hdd : dl h11 10 m / 2 ^ t = 2 * (dl h11 10 m / 2 ^ (t + 1)) + dl h11 10 m / 2 ^ t % 2 := by
                rw [Nat.pow_succ, ← Nat.div_div_eq_div_mul]
                omega
              have main : ∀ (bit : Nat) (g3 : Hs), bit = dl h11 10 m / 2 ^ t % 2 → RV g3 9 (r * 2 + bit) → mfr (eS 9) g g3 → RV g3 8 d → P100 g3 := by
                intro bit g3 hbit r3 f3 h83
                apply h100
                intro b4 eb4
                have el : (2 : Int64) = lN 2 := rfl
                rw [el, lN_mul] at eb4
                subst eb4
                have stepP : ∀ (q' r' : Nat) (g4 : Hs), RV g4 8 d → RV g4 9 r' → r' < d → q' < 2 * 2 ^ (30 - (t + 1)) → d * q' + r' = d * (2 * q) + (r * 2 + bit) → mfr (eS 9) g g4 → P62 (lN q') (nI t - 1) g4 := by
                  intro q' r' g4 h84 h94 hr' hq' he f4
                  refine iht q' r' g4 (by omega) h84 h94 hr' ?_ ?_ f4
                  · rw [h30, Nat.pow_succ, Nat.mul_comm]
                    exact hq'
                  · rw [hdd, ← hbit, h30, Nat.pow_succ]
                    generalize 2 ^ (30 - (t + 1)) = z at *
                    generalize dl h11 10 m / 2 ^ (t + 1) = y at *
                    clear iht ih h62 h51 h24 hdd
                    have h5 : A * (z * 2) + (2 * y + bit) = 2 * (A * z + y) + bit := by grind
                    have h6 : d * (qa * (z * 2) + q') + r' = 2 * (d * (qa * z)) + (d * q' + r') := by grind
                    rw [h5, h6, heq, he]
                    grind
                have hbl : bit < 2 := by rw [hbit]; exact Nat.mod_lt _ (by decide)
                refine r_compare (s := 9) (a := 8) rfl rfl (by omega) (by omega) r3 h83 (fun hlt => ?_) (fun heq2 => ?_) (fun hgt => ?_)
                · intro P133 h133
                  refine ⟨fun _ => h133 _ _ ?_, fun c => absurd (by decide) c⟩
                  intro t' et'
                  have e9 : t' = nI t - 1 := by rw [et', Int32.sub_eq_add_neg]
                  subst e9
                  exact stepP (2 * q) (r * 2 + bit) g3 h83 r3 hlt (by omega) rfl f3
                · intro P133 h133
                  refine ⟨fun c => absurd c (by decide), fun _ => ?_⟩
                  refine r_take (s := 9) (a := 8) rfl rfl (by omega) (by omega) (by omega) r3 h83 (by omega) (fun h' r4 f4 => ?_)
                  intro b5 eb5
                  have el1 : (1 : Int64) = lN 1 := rfl
                  rw [el1, lN_add] at eb5
                  subst eb5
                  apply h133
                  intro t' et'
                  have e9 : t' = nI t - 1 := by rw [et', Int32.sub_eq_add_neg]
                  subst e9
                  refine stepP (2 * q + 1) (r * 2 + bit - d) h' (h83.mfr f4 (neS (by omega))) r4 (by omega) (by omega) ?_ (f3.trans f4)
                  rw [Nat.mul_add, Nat.mul_one]
                  omega
                · intro P133 h133
                  refine ⟨fun c => absurd c (by decide), fun _ => ?_⟩
                  refine r_take (s := 9) (a := 8) rfl rfl (by omega) (by omega) (by omega) r3 h83 (by omega) (fun h' r4 f4 => ?_)
                  intro b5 eb5
                  have el1 : (1 : Int64) = lN 1 := rfl
                  rw [el1, lN_add] at eb5
                  subst eb5
                  apply h133
                  intro t' et'
                  have e9 : t' = nI t - 1 := by rw [et', Int32.sub_eq_add_neg]
                  subst e9
                  refine stepP (2 * q + 1) (r * 2 + bit - d) h' (h83.mfr f4 (neS (by omega))) r4 (by omega) (by omega) ?_ (f3.trans f4)
                  rw [Nat.mul_add, Nat.mul_one]
                  omega
              have h83 := h8.mfr f73 (neS (by omega))
              refine ⟨fun c => ?_, fun c => ?_⟩
              · have hb0 : dl h11 10 m / 2 ^ t % 2 = 0 := by omega
                exact main 0 h73 hb0.symm r73 (hF2.trans f73) h83
              · refine r_addOne r73 (by omega) (fun h' r' f' => ?_)
                exact main 1 h' c.symm r' ((hF2.trans f73).trans f') (h83.mfr f' (neS (by omega)))
          have e29 : (29 : Int32) = nI 30 - 1 := by decide
          rw [lN_lit0, e29]
          refine inner 30 0 r g (Nat.le_refl _) h8 h9 hr (by decide) ?_ mfr.refl
          rw [Nat.sub_self, Nat.pow_zero, Nat.mul_one, Nat.mul_one, Nat.add_zero, Nat.div_eq_of_lt (show dl h11 10 m < 2 ^ 30 from hf2), Nat.add_zero]
          exact hA
      have F1 : mfr (dvS s) h g := F11.trans (f1.up d1)
      have hz2 : ∀ t, t < i → dl g s t = 0 := fun t ht => dl_of (hz t ht) (by decide)
      have h8g : RV g 8 d := ((hd.mfr f4 (neS (by omega))).mfr f11 (neS (by omega))).mfr f1 (neS (by omega))
      refine key i 0 0 0 g (Nat.le_refl _) h8g (z11.mfr f1 (neS (by omega))) d0 (by rw [Nat.mul_zero]) ?_ ?_ (fun t ht => ?_) hz2 ?_ (fun j hj => f1.2.2.1 10 j (by omega) (neS (by omega))) F1
      · rw [hV, Nat.zero_mul, Nat.zero_add]
      · exact hgs
      · rw [hz2 t ht]
        exact ⟨hz t ht, by decide⟩
      · rw [nv_zero hz2, Nat.zero_mul]
    | succ k ih =>
      intro i g hkk hi hz hgs f1
      apply h24
      rw [m64, nI_clamp (show 64 * s + i < 2 ^ 31 by omega)]
      refine ⟨fun c2 => absurd ((nI_leI (by omega) (by omega)).mp c2) (by omega), fun _ => ⟨vp_in_nI (by omega) (by omega), ?_⟩⟩
      intro h37 e37 i' ei'
      rw [nI_1] at ei'
      subst ei'
      refine ih (i + 1) h37 (by omega) (by omega) (fun j hj => ?_) (by rw [e37]; exact hgs) (f1.trans (e37 ▸ mfr.sl (by omega) eS1))
      by_cases ej : j = i
      · subst ej
        rw [e37, gl_s, lN_lit0]
      · rw [e37, gl_n (by omega)]
        exact hz j (by omega)
  rw [nI_lit0]
  exact zero _ 0 h11 rfl (Nat.zero_le _) (fun j hj => absurd hj (by omega)) hsN mfr.refl
