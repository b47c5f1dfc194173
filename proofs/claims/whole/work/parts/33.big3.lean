/-! ===== copy, times, plus, product ===== -/
theorem nv_upd {F G : Nat → Nat} {p x : Nat} : ∀ {n : Nat}, p < n → G p = x → (∀ i, i < n → i ≠ p → G i = F i) → nv G n + F p * BB ^ p = nv F n + x * BB ^ p
  | 0, hp, _, _ => absurd hp (Nat.not_lt_zero _)
  | n + 1, hp, hx, he => by
    rw [nv_succ, nv_succ]
    by_cases e : p = n
    · subst e
      rw [nv_congr (F := G) (G := F) (fun i hi => he i (by omega) (by omega)), hx]
      omega
    · have ih := nv_upd (F := F) (G := G) (p := p) (x := x) (n := n) (by omega) hx (fun i hi hn => he i (by omega) hn)
      rw [he n (by omega) (fun h => e h.symm)]
      omega
theorem dg_eqc {h h' : Hs} {c i d j : Nat} (e : gi h' c i = gi h d j) : dg h' c i = dg h d j := by unfold dg; rw [e]
theorem BB2 : BB * BB = 1152921504606846976 := by decide +kernel
theorem kne {o a : Nat} (h1 : kX o = 1) (h2 : kX a = 1) : a ≠ o + 1 := fun e => by
  have := kxr_1 o (kX_lt h1) h1
  rw [← e, h2] at this
  exact absurd this (by decide)
theorem s_copy {o a v : Nat} {h : Hs} {Q : Hs → Prop} (hk : kX o = 1) (ha : kX a = 1) (hne : o ≠ a) (hb : BV h a v) (hfit : v < BB ^ lX (o + 1)) (hQ : ∀ h', BV h' o v → frm (bS o) h h' → Q h') : p_Big_copy o a h Q := by
  have hR := room_le hk
  have hRa := room_le ha
  have hs := hb.size_le hfit
  have hs2 := hb.2.1
  have n1 := kne hk ha
  have n2 := kne ha hk
  unfold p_Big_copy
  intro h13 e13
  rw [hb.1, if_neg (fun c => absurd ((nI_ltI (by omega) (by omega)).mp c) (by omega))] at e13
  have es : gi h13 o 1 = nI (szB h a) := by rw [e13, gi_s]
  rw [es, nI_clamp (by omega)]
  refine ⟨nI_pos (by omega), by omega, by omega, ?_⟩
  intro h30 e30
  rw [z0c] at e30
  have hrow : ∀ i, i < szB h a → gi h30 (o + 1) i = gi h (a + 1) i := fun i hi => by
    rw [e30, gi_sa, if_pos rfl, pk_cpy_in (by omega) (by omega), e13, gi_c (by omega)]
    congr 1
    omega
  obtain ⟨b1, b2, b3, b4, b5⟩ := hb
  refine hQ h30 (BV.of hk (by rw [e30, gi_sa, if_neg (by omega)]; exact es) hs (fun i hi => ?_) ?_ ?_) ((e13 ▸ frm.si bS1 : frm (bS o) h h13).trans (e30 ▸ frm.sa bS2))
  · rw [hrow i hi, dg_eqc (hrow i hi)]
    exact b3 i hi
  · rcases b4 with b4 | b4
    · exact Or.inl b4
    · by_cases hz : szB h a = 0
      · exact Or.inl hz
      · refine Or.inr ?_
        have e : dg h30 (o + 1) (szB h a - 1) = dg h (a + 1) (szB h a - 1) := by
          unfold dg
          rw [hrow _ (by omega)]
        rw [e]
        exact b4
  · rw [← b5]
    exact nv_congr (fun i hi => by unfold dg; rw [hrow i hi])
theorem s_times {o v f : Nat} {h : Hs} {Q : Hs → Prop} (hk : kX o = 1) (hb : BV h o v) (hf : f < BB) (hfit : v * f < BB ^ lX (o + 1)) (hQ : ∀ h', BV h' o (v * f) → frm (bS o) h h' → Q h') : p_Big_times o (nI f) h Q := by
  have hR := room_le hk
  have hs := hb.2.1
  have hBB : BB = 1073741824 := rfl
  have hf31 := lt31 hf
  unfold p_Big_times
  intro P9 hP9
  refine ⟨fun c => hP9 _ ?_, fun c h6 e6 => hP9 _ ?_⟩
  · have hf0 : f ≠ 0 := fun e => c (by rw [e, nI_0])
    intro P14 hP14
    have key : ∀ (k i c : Nat) (g : Hs), szB h o - i = k → i ≤ szB h o → c < BB → gi g o 1 = nI (szB h o) → DR g (o + 1) (szB h o) → (∀ j, i ≤ j → j < szB h o → dg g (o + 1) j = dg h (o + 1) j) → nv (dg g (o + 1)) i + c * BB ^ i = nv (dg h (o + 1)) i * f → frm (bS o) h g → P14 (lN c) (nI i) g := by
      intro k
      induction k with
      | zero =>
        intro i c g hkk hi hc e1 h2 h3 h4 h5
        have hin : i = szB h o := by omega
        subst hin
        rw [hb.2.2.2.2] at h4
        apply hP14
        rw [e1]
        refine ⟨fun _ => ?_, fun c2 => absurd (nI_le (Nat.le_refl _) (by omega)) c2⟩
        intro P100 h100
        refine ⟨fun c2 => h100 _ (hQ g ?_ h5), fun c2 => ?_⟩
        · have hc0 : c = 0 := by
            have c2 := cmp_le0.mp c2
            rw [lN_lit0] at c2
            have := (pk_lLE (by omega) (by omega)).mp c2
            omega
          subst hc0
          rw [Nat.zero_mul, Nat.add_zero] at h4
          refine BV.of hk e1 hs h2 ?_ h4
          by_cases hz : szB h o = 0
          · exact Or.inl hz
          · refine Or.inr (fun ez => ?_)
            obtain ⟨m, hm⟩ : ∃ m, szB h o = m + 1 := ⟨szB h o - 1, by omega⟩
            rw [hm, Nat.add_sub_cancel] at ez
            rw [hm, nv_succ0 ez] at h4
            have h7 : nv (dg g (o + 1)) m < BB ^ m := nv_lt (fun j hj => (h2 j (by omega)).2)
            have h8 : BB ^ m ≤ v := by
              rw [← hb.2.2.2.2, hm]
              refine nv_ge ?_
              rcases hb.2.2.2.1 with x | x
              · exact absurd x hz
              · rw [hm, Nat.add_sub_cancel] at x
                exact x
            have h9 : v ≤ v * f := Nat.le_mul_of_pos_right v (by omega)
            omega
        · have hc0 : c ≠ 0 := fun e => c2 (by rw [e]; exact cmp_le0.mpr (by rw [lN_lit0]; exact (pk_lLE (by omega) (by omega)).mpr (Nat.le_refl 0)))
          have hlt : szB h o < lX (o + 1) := by
            rcases Nat.lt_or_ge (szB h o) (lX (o + 1)) with x | x
            · exact x
            · exfalso
              have e : szB h o = lX (o + 1) := by omega
              rw [← e] at hfit
              have : BB ^ szB h o ≤ c * BB ^ szB h o := Nat.le_mul_of_pos_left _ (by omega)
              omega
          refine ⟨fun c3 => absurd ((nI_leI (by omega) (by omega)).mp c3) (by omega), fun _ => ⟨vp_in_nI hlt (by omega), ?_⟩⟩
          intro h89 e89 h97 e97
          rw [nI_clamp (by omega), lN_i] at e89
          have es : gi h89 o 1 = nI (szB h o) := by rw [e89, gi_c (by omega)]; exact e1
          have hdig : ∀ i, i < szB h o → gi h97 (o + 1) i = gi g (o + 1) i := fun i hi => by rw [e97, gi_c (by omega), e89, gi_k (by omega)]
          have hdn : gi h97 (o + 1) (szB h o) = nI c := by rw [e97, gi_c (by omega), e89, gi_s]
          have hdgn : dg h97 (o + 1) (szB h o) = c := dg_of hdn (lt31 hc)
          refine h100 _ (hQ h97 (BV.of hk (n := szB h o + 1) (by rw [e97, gi_s, es, nI_1]) (by omega) (fun i hi => ?_) (Or.inr ?_) ?_) ((h5.trans (e89 ▸ frm.si bS2)).trans (e97 ▸ frm.si bS1)))
          · by_cases ei : i = szB h o
            · rw [ei, hdgn]
              exact ⟨hdn, hc⟩
            · rw [dg_eq (hdig i (by omega)), hdig i (by omega)]
              exact h2 i (by omega)
          · rw [Nat.add_sub_cancel, hdgn]
            exact hc0
          · rw [nv_succ, hdgn, nv_congr (fun i hi => dg_eq (hdig i hi))]
            exact h4
      | succ k ih =>
        intro i c g hkk hi hc e1 h2 h3 h4 h5
        apply hP14
        rw [e1]
        refine ⟨fun c2 => absurd ((nI_leI (by omega) (by omega)).mp c2) (by omega), fun _ => ⟨vp_in_nI (by omega) (by omega), ?_⟩⟩
        intro x ex
        refine ⟨vp_in_nI (by omega) (by omega), ?_⟩
        intro h49 e49 c' ec' i' ei'
        have hd := h2 i (by omega)
        have hd31 := lt31 hd.2
        rw [nI_clamp (by omega), hd.1, nI_l hd31, nI_l hf31, lN_mul, lN_add] at ex
        have hmul : dg g (o + 1) i * f ≤ (BB - 1) * (BB - 1) := Nat.mul_le_mul (by omega) (by omega)
        have hm2 : (BB - 1) * (BB - 1) = 1152921502459363329 := by decide +kernel
        have hsum : c + dg g (o + 1) i * f < 2 ^ 63 := by omega
        subst ex
        rw [nI_clamp (by omega), lN_and30 hsum, lN_i] at e49
        rw [lN_shr30 hsum] at ec'
        subst ec'
        rw [nI_1] at ei'
        subst ei'
        have hmod : (c + dg g (o + 1) i * f) % BB < BB := Nat.mod_lt _ (by decide)
        have hdiv : (c + dg g (o + 1) i * f) / BB < BB := Nat.div_lt_of_lt_mul (by rw [BB2]; omega)
        have hdgi : dg h49 (o + 1) i = (c + dg g (o + 1) i * f) % BB := dg_of (by rw [e49, gi_s]) (lt31 hmod)
        have hdgn : ∀ j, j ≠ i → gi h49 (o + 1) j = gi g (o + 1) j := fun j hj => by rw [e49, gi_k hj]
        refine ih (i + 1) _ h49 (by omega) (by omega) hdiv (by rw [e49, gi_c (by omega)]; exact e1) (fun j hj => ?_) (fun j h6 h7 => ?_) ?_ (h5.trans (e49 ▸ frm.si bS2))
        · by_cases ej : j = i
          · rw [ej, hdgi]
            exact ⟨by rw [e49, gi_s], hmod⟩
          · rw [hdgn j ej, dg_eq (hdgn j ej)]
            exact h2 j hj
        · rw [dg_eq (hdgn j (by omega))]
          exact h3 j (by omega) h7
        · rw [nv_succ, nv_succ, hdgi, nv_congr (fun j hj => dg_eq (hdgn j (by omega))), ← h3 i (Nat.le_refl _) (by omega), BB_succ]
          have hdm := Nat.div_add_mod (c + dg g (o + 1) i * f) BB
          generalize (c + dg g (o + 1) i * f) / BB = A at *
          generalize (c + dg g (o + 1) i * f) % BB = B at *
          generalize BB ^ i = z at *
          generalize nv (dg g (o + 1)) i = s1 at *
          generalize nv (dg h (o + 1)) i = s2 at *
          generalize dg g (o + 1) i = d at *
          grind
    exact key _ 0 0 h rfl (Nat.zero_le _) (by decide) hb.1 hb.2.2.1 (fun _ _ _ => rfl) (by show 0 + 0 * 1 = 0 * f; omega) frm.refl
  · have hf0 : f = 0 := by
      rw [← nI_0] at c
      exact (nI_eq hf31 (by omega)).mp c
    intro P14 hP14
    have es : gi h6 o 1 = nI 0 := by rw [e6, gi_s, nI_0]
    rw [lN_lit0, nI_lit0]
    apply hP14
    rw [es]
    refine ⟨fun _ => ?_, fun c2 => absurd (nI_le (Nat.le_refl 0) (by omega)) c2⟩
    intro P100 h100
    refine ⟨fun c2 => h100 _ (hQ h6 (BV.of hk es (Nat.zero_le _) (fun i hi => absurd hi (by omega)) (Or.inl rfl) ?_) (e6 ▸ frm.si bS1)), fun c2 => absurd (cmp_le0.mpr (by rw [lN_lit0]; exact (pk_lLE (by omega) (by omega)).mpr (Nat.le_refl 0))) c2⟩
    rw [hf0, Nat.mul_zero]
    rfl
