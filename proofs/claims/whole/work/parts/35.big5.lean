/-! ===== product, isBelow ===== -/
theorem s_product {o a b v w : Nat} {h : Hs} {Q : Hs → Prop} (hk : kX o = 1) (ka : kX a = 1) (kb : kX b = 1) (hna : o ≠ a) (hnb : o ≠ b) (ha : BV h a v) (hb : BV h b w) (hsz : szB h a + szB h b ≤ lX (o + 1)) (hQ : ∀ h', BV h' o (v * w) → frm (bS o) h h' → Q h') : p_Big_product o a b h Q := by
  have hR := room_le hk
  have hRa := room_le ka
  have hRb := room_le kb
  have hsa := ha.2.1
  have hsb := hb.2.1
  have n1 := kne hk ka
  have n2 := kne ka hk
  have n3 := kne hk kb
  have n4 := kne kb hk
  have hBB : BB = 1073741824 := rfl
  unfold p_Big_product
  intro h2 e2
  have f2 : frm (bS o) h h2 := e2 ▸ frm.si bS1
  have nota : ¬ bS o a := fun x => by rcases x with x | x <;> omega
  have nota1 : ¬ bS o (a + 1) := fun x => by rcases x with x | x <;> omega
  have notb : ¬ bS o b := fun x => by rcases x with x | x <;> omega
  have notb1 : ¬ bS o (b + 1) := fun x => by rcases x with x | x <;> omega
  rw [f2.1 a nota, f2.1 b notb, ha.1, hb.1, nI_add]
  generalize hA : szB h a = A at *
  generalize hBz : szB h b = B at *
  refine s_growTo (n := 0) hk (by rw [e2, gi_s, nI_0]) (Nat.zero_le _) (by omega) (fun h1 n' y1 y2 y3 y4 y5 y6 y7 y8 => ?_)
  have hn' : n' = A + B := by omega
  subst hn'
  have f1 : frm (bS o) h h1 := f2.trans y8
  have z1 : ∀ i, i < A + B → gi h1 (o + 1) i = nI 0 := fun i hi => y7 i (Nat.zero_le _) hi
  intro P20 hP20
  have key : ∀ (k i : Nat) (g : Hs), A - i = k → i ≤ A → gi g o 1 = nI (A + B) → DR g (o + 1) (A + B) → (∀ j, i + B ≤ j → j < A + B → dg g (o + 1) j = 0) → nv (dg g (o + 1)) (A + B) = nv (dg h (a + 1)) i * w → frm (bS o) h g → P20 (nI i) g := by
    intro k
    induction k with
    | zero =>
      intro i g hkk hi e1 h3 h4 h5 h6
      have hin : i = A := by omega
      subst hin
      apply hP20
      rw [h6.1 a nota, ha.1]
      refine ⟨fun _ => s_trim hk e1 hsz h3 (fun h' hB hF => hQ h' ?_ (h6.trans hF)), fun c2 => absurd (nI_le (Nat.le_of_eq hA) (by omega)) c2⟩
      rw [h5, ← hA, ha.2.2.2.2] at hB
      exact hB
    | succ k ih =>
      intro i g hkk hi e1 h3 h4 h5 h6
      apply hP20
      rw [h6.1 a nota, ha.1]
      have hia : i < szB h a := by omega
      refine ⟨fun c2 => absurd ((nI_leI (by omega) (by omega)).mp c2) (by omega), fun _ => ⟨vp_in_nI (by omega) (by omega), ?_⟩⟩
      intro x4 ex4
      have hd := ha.2.2.1 i hia
      have hd31 := lt31 hd.2
      rw [nI_clamp (by omega), h6.1 (a + 1) nota1, hd.1, nI_l hd31] at ex4
      subst ex4
      intro P43 hP43
      have inner : ∀ (r j c : Nat) (g2 : Hs), B - j = r → j ≤ B → c < BB → gi g2 o 1 = nI (A + B) → DR g2 (o + 1) (A + B) → (∀ t, i + B ≤ t → t < A + B → dg g2 (o + 1) t = 0) → nv (dg g2 (o + 1)) (A + B) + c * BB ^ (i + j) = nv (dg h (a + 1)) i * w + dg h (a + 1) i * nv (dg h (b + 1)) j * BB ^ i → frm (bS o) h g2 → P43 (lN c) (nI j) g2 := by
        intro r
        induction r with
        | zero =>
          intro j c g2 hr hj hc e1 h3 h4 h5 h6
          have hjB : j = B := by omega
          subst hjB
          apply hP43
          intro P119 h119
          have fin : P119 := by
            apply h119
            intro P146 h146
            rw [e1, h6.1 b notb, hb.1, hBz, nI_add]
            refine ⟨fun c2 => absurd ((nI_leI (by omega) (by omega)).mp c2) (by omega), fun _ => ⟨vp_in_nI (by omega) (by omega), ?_⟩⟩
            intro h145 e145
            rw [nI_clamp (by omega), lN_i] at e145
            apply h146
            intro a3 e3
            rw [nI_1] at e3
            subst e3
            have hdn : dg h145 (o + 1) (i + j) = c := dg_of (by rw [e145, gi_s]) (lt31 hc)
            have hdo : ∀ t, t ≠ i + j → gi h145 (o + 1) t = gi g2 (o + 1) t := fun t ht => by rw [e145, gi_k ht]
            refine ih (i + 1) h145 (by omega) (by omega) (by rw [e145, gi_c (by omega)]; exact e1) (fun t ht => ?_) (fun t h7 h8 => ?_) ?_ (h6.trans (e145 ▸ frm.si bS2))
            · by_cases et : t = i + j
              · rw [et, hdn]
                exact ⟨by rw [e145, gi_s], hc⟩
              · rw [hdo t et, dg_eq (hdo t et)]
                exact h3 t ht
            · rw [dg_eq (hdo t (by omega))]
              exact h4 t (by omega) h8
            · have hu := nv_upd (F := dg g2 (o + 1)) (G := dg h145 (o + 1)) (p := i + j) (x := c) (n := A + j) (by omega) hdn (fun t _ ht => dg_eq (hdo t ht))
              rw [h4 (i + j) (Nat.le_refl _) (by omega), Nat.zero_mul, Nat.add_zero] at hu
              have hw : nv (dg h (b + 1)) j = w := by rw [← hBz]; exact hb.2.2.2.2
              rw [hu, h5, nv_succ, hw]
              generalize BB ^ i = z
              grind
          refine ⟨fun _ => fin, fun c2 => ⟨fun _ => fin, fun c3 => ?_⟩⟩
          rw [h6.1 b notb, hb.1, hBz] at c2
          exact absurd (nI_le (Nat.le_refl _) (by omega)) c2
        | succ r ihr =>
          intro j c g2 hr hj hc e1 h3 h4 h5 h6
          apply hP43
          intro P119 h119
          rw [e1, h6.1 b notb, hb.1, hBz, nI_add]
          have hjb : j < szB h b := by omega
          refine ⟨fun c2 => absurd ((nI_leI (by omega) (by omega)).mp c2) (by omega), fun _ => ⟨fun c2 => absurd ((nI_leI (by omega) (by omega)).mp c2) (by omega), fun _ => ⟨vp_in_nI (by omega) (by omega), vp_in_nI (by omega) (by omega), ?_⟩⟩⟩
          intro x6 ex6
          have hdb := hb.2.2.1 j hjb
          have hdb31 := lt31 hdb.2
          have hdo := h3 (i + j) (by omega)
          have hdo31 := lt31 hdo.2
          rw [nI_clamp (by omega), nI_clamp (by omega), h6.1 (b + 1) notb1, hdb.1, nI_l hdb31, hdo.1, nI_l hdo31, lN_mul, lN_add, lN_add] at ex6
          refine ⟨vp_in_nI (by omega) (by omega), ?_⟩
          intro h105 e105 c' ec' j' ej'
          have hmul : dg h (a + 1) i * dg h (b + 1) j ≤ (BB - 1) * (BB - 1) := Nat.mul_le_mul (by have := hd.2; omega) (by have := hdb.2; omega)
          have hm2 : (BB - 1) * (BB - 1) = 1152921502459363329 := by decide +kernel
          have ho2 := hdo.2
          generalize hX : c + (dg h (a + 1) i * dg h (b + 1) j + dg g2 (o + 1) (i + j)) = X at *
          have hX63 : X < 2 ^ 63 := by omega
          subst ex6
          rw [nI_clamp (by omega), lN_and30 hX63, lN_i] at e105
          rw [lN_shr30 hX63] at ec'
          subst ec'
          rw [nI_1] at ej'
          subst ej'
          have hmod : X % BB < BB := Nat.mod_lt _ (by decide)
          have hdiv : X / BB < BB := Nat.div_lt_of_lt_mul (by rw [BB2]; omega)
          have hdn : dg h105 (o + 1) (i + j) = X % BB := dg_of (by rw [e105, gi_s]) (lt31 hmod)
          have hdo2 : ∀ t, t ≠ i + j → gi h105 (o + 1) t = gi g2 (o + 1) t := fun t ht => by rw [e105, gi_k ht]
          refine ihr (j + 1) _ h105 (by omega) (by omega) hdiv (by rw [e105, gi_c (by omega)]; exact e1) (fun t ht => ?_) (fun t h7 h8 => ?_) ?_ (h6.trans (e105 ▸ frm.si bS2))
          · by_cases et : t = i + j
            · rw [et, hdn]
              exact ⟨by rw [e105, gi_s], hmod⟩
            · rw [hdo2 t et, dg_eq (hdo2 t et)]
              exact h3 t ht
          · rw [dg_eq (hdo2 t (by omega))]
            exact h4 t h7 h8
          · have hu := nv_upd (F := dg g2 (o + 1)) (G := dg h105 (o + 1)) (p := i + j) (x := X % BB) (n := A + B) (by omega) hdn (fun t _ ht => dg_eq (hdo2 t ht))
            have hdm := Nat.div_add_mod X BB
            have e9 : BB ^ (i + (j + 1)) = BB ^ (i + j) * BB := by rw [← Nat.add_assoc, BB_succ]
            have e8 : BB ^ (i + j) = BB ^ i * BB ^ j := Nat.pow_add _ _ _
            rw [e9, nv_succ]
            generalize X / BB = D1 at *
            generalize X % BB = D2 at *
            generalize nv (dg h105 (o + 1)) (A + B) = s1 at *
            generalize nv (dg g2 (o + 1)) (A + B) = s2 at *
            generalize dg g2 (o + 1) (i + j) = d0 at *
            generalize nv (dg h (a + 1)) i * w = s3 at *
            generalize nv (dg h (b + 1)) j = s4 at *
            generalize dg h (a + 1) i = d1 at *
            generalize dg h (b + 1) j = d2 at *
            rw [e8] at hu h5 ⊢
            generalize BB ^ i = z1 at *
            generalize BB ^ j = z2 at *
            subst hX
            have hh : s1 + d0 * (z1 * z2) + D1 * (z1 * z2 * BB) = s3 + d1 * (s4 + d2 * z2) * z1 + d0 * (z1 * z2) := by grind
            omega
      rw [lN_lit0, nI_lit0]
      refine inner _ 0 0 g rfl (Nat.zero_le _) (by decide) e1 h3 h4 ?_ h6
      rw [h5]
      show _ + 0 * _ = _ + dg h (a + 1) i * 0 * _
      rw [Nat.zero_mul, Nat.mul_zero, Nat.zero_mul]
  rw [nI_lit0]
  have hz : ∀ t, t < A + B → dg h1 (o + 1) t = 0 := fun t ht => dg_of (z1 t ht) (by omega)
  refine key _ 0 h1 rfl (Nat.zero_le _) y1 (fun t ht => ?_) (fun t _ h8 => hz t h8) ?_ f1
  · rw [hz t ht]
    exact ⟨z1 t ht, by decide⟩
  · rw [nv_zero hz]
    show 0 = 0 * w
    rw [Nat.zero_mul]
theorem nv_hi {F G : Nat → Nat} {m : Nat} : ∀ {n : Nat}, m ≤ n → (∀ j, m ≤ j → j < n → F j = G j) → (nv F n < nv G n ↔ nv F m < nv G m) := by
  intro n hm
  induction n with
  | zero =>
    intro _
    have : m = 0 := by omega
    subst this
    exact Iff.rfl
  | succ n ih =>
    intro he
    by_cases e : m = n + 1
    · subst e
      exact Iff.rfl
    · rw [nv_succ, nv_succ, he n (by omega) (by omega)]
      have := ih (by omega) (fun j h1 h2 => he j h1 (by omega))
      omega
theorem nv_cmp {F G : Nat → Nat} {k : Nat} (hF : ∀ i, i < k → F i < BB) (hG : ∀ i, i < k → G i < BB) (h : F k ≠ G k) : nv F (k + 1) < nv G (k + 1) ↔ F k < G k := by
  rw [nv_succ, nv_succ]
  have h1 := nv_lt hF
  have h2 := nv_lt hG
  rcases Nat.lt_or_ge (F k) (G k) with x | x
  · have h3 : (F k + 1) * BB ^ k ≤ G k * BB ^ k := Nat.mul_le_mul_right _ x
    rw [Nat.add_mul, Nat.one_mul] at h3
    exact ⟨fun _ => x, fun _ => by omega⟩
  · have h3 : (G k + 1) * BB ^ k ≤ F k * BB ^ k := Nat.mul_le_mul_right _ (by omega)
    rw [Nat.add_mul, Nat.one_mul] at h3
    exact ⟨fun y => by omega, fun y => by omega⟩
theorem nI_m1 (m : Nat) : nI (m + 1) + (-1) = nI m := pk_m1 m
theorem neg_of0 : nI 0 + (-1) < 0 := by decide +kernel
theorem neg_sub0 : nI 0 - 1 < 0 := by decide +kernel
theorem s_isBelow {o a v w : Nat} {h : Hs} {Q : Int32 → Prop} (hk : kX o = 1) (ka : kX a = 1) (hb : BV h o v) (hc : BV h a w) (h1 : v < w → Q 1) (h0 : w ≤ v → Q 0) : p_Big_isBelow o a h Q := by
  have hR := room_le hk
  have hRa := room_le ka
  have hs := hb.2.1
  have hsa := hc.2.1
  unfold p_Big_isBelow
  rw [hb.1, hc.1]
  refine ⟨fun c => ?_, fun c => ?_⟩
  · have hn : szB h o = szB h a := (nI_eq (by omega) (by omega)).mp c
    intro x ex P hP
    have hv : v = nv (dg h (o + 1)) (szB h o) := hb.2.2.2.2.symm
    have hw : w = nv (dg h (a + 1)) (szB h o) := by rw [hn]; exact hc.2.2.2.2.symm
    have key : ∀ (m : Nat), m ≤ szB h o → (∀ j, m ≤ j → j < szB h o → dg h (o + 1) j = dg h (a + 1) j) → P (nI m - 1) := by
      intro m
      induction m with
      | zero =>
        intro _ he
        apply hP
        refine ⟨fun _ => h0 ?_, fun c2 => absurd neg_sub0 c2⟩
        rw [hv, hw, nv_congr (fun i hi => he i (Nat.zero_le _) hi)]
        exact Nat.le_refl _
      | succ m ih =>
        intro hm he
        apply hP
        rw [nI_pred]
        have hd1 := hb.2.2.1 m (by omega)
        have hd2 := hc.2.2.1 m (by omega)
        rw [nI_clamp (by omega), hd1.1, hd2.1]
        refine ⟨fun c2 => absurd c2 (nI_pos (by omega)), fun _ => ⟨vp_in_nI (by omega) (by omega), vp_in_nI (by omega) (by omega), fun c2 => ?_, fun c2 => ⟨vp_in_nI (by omega) (by omega), vp_in_nI (by omega) (by omega), ?_⟩⟩⟩
        · intro y ey
          have e9 : y = nI m - 1 := by
            rw [ey]
            have e : (-1 : Int32) = -1 := rfl
            rw [Int32.sub_eq_add_neg]
          subst e9
          refine ih (by omega) (fun j h7 h8 => ?_)
          by_cases ej : j = m
          · subst ej
            exact (nI_eq (lt31 hd1.2) (lt31 hd2.2)).mp c2
          · exact he j (by omega) h8
        · have hne : dg h (o + 1) m ≠ dg h (a + 1) m := fun e => c2 (by rw [e])
          have hcmp : v < w ↔ dg h (o + 1) m < dg h (a + 1) m := by
            rw [hv, hw, nv_hi hm he]
            exact nv_cmp (fun i hi => (hb.2.2.1 i (by omega)).2) (fun i hi => (hc.2.2.1 i (by omega)).2) hne
          intro P74 hP74
          refine ⟨fun c3 => hP74 _ ⟨zb0, h0 ?_⟩, fun c3 => hP74 _ ⟨zb1, h1 ?_⟩⟩
          · have := (nI_leI (lt31 hd2.2) (lt31 hd1.2)).mp c3
            omega
          · rcases Nat.lt_or_ge (dg h (o + 1) m) (dg h (a + 1) m) with x | x
            · exact hcmp.mpr x
            · exact absurd (nI_le x (lt31 hd1.2)) c3
    rw [ex]
    exact key _ (Nat.le_refl _) (fun j h7 h8 => absurd h7 (by omega))
  · have hn : szB h o ≠ szB h a := fun e => c (by rw [e])
    intro P hP
    have hlt : v < w ↔ szB h o < szB h a := by
      constructor
      · intro x
        rcases Nat.lt_or_ge (szB h o) (szB h a) with y | y
        · exact y
        · have h5 := hc.lt
          have h6 : BB ^ szB h a ≤ BB ^ (szB h o - 1) := Nat.pow_le_pow_right (by decide) (by omega)
          have h7 : BB ^ (szB h o - 1) ≤ v := by
            rw [← hb.2.2.2.2]
            rcases hb.2.2.2.1 with z | z
            · omega
            · have := nv_ge (F := dg h (o + 1)) (n := szB h o - 1) z
              rw [Nat.sub_add_cancel (by omega)] at this
              exact this
          omega
      · intro y
        have h5 := hb.lt
        have h6 : BB ^ szB h o ≤ BB ^ (szB h a - 1) := Nat.pow_le_pow_right (by decide) (by omega)
        have h7 : BB ^ (szB h a - 1) ≤ w := by
          rw [← hc.2.2.2.2]
          rcases hc.2.2.2.1 with z | z
          · omega
          · have := nv_ge (F := dg h (a + 1)) (n := szB h a - 1) z
            rw [Nat.sub_add_cancel (by omega)] at this
            exact this
        omega
    refine ⟨fun c3 => hP _ ⟨zb0, h0 ?_⟩, fun c3 => hP _ ⟨zb1, h1 ?_⟩⟩
    · have := (nI_leI (by omega) (by omega)).mp c3
      omega
    · rcases Nat.lt_or_ge (szB h o) (szB h a) with x | x
      · exact hlt.mpr x
      · exact absurd (nI_le x (by omega)) c3
