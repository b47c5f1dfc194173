/-! ===== lost, next ===== -/
def nz (x : Nat) : Nat := if x = 0 then 0 else 1
theorem nz_0 {x : Nat} (h : x = 0) : nz x = 0 := if_pos h
theorem nz_1 {x : Nat} (h : x ≠ 0) : nz x = 1 := if_neg h
theorem s_lostOf {n : Nat → Int32} {l : Nat} {a1 : Int32} {h : Hs} {Q : Int32 → Prop} (R : RG n) (W : WO h n) (e1 : a1 = nI l) (hl : l < nLo n) (hQ : Q (nI (if sumN (fun s => liv n l s (4 ^ nLo n) * iv (gi h (59 + 3 * s + 1) 119 = 7)) 4 = 0 then 0 else if sumN (fun s => liv n l s (4 ^ nLo n) * iv (¬ gi h (59 + 3 * s + 1) 119 = 7)) 4 = 0 then 1 else 2))) : p_Worlds_lostOf a1 h Q := by
  subst e1
  have hl4 := R.lo.2
  have hl' : l < 4 := by unfold nLo at hl; omega
  unfold p_Worlds_lostOf
  intro P7 h7
  have key := lpG (σ := Unit) (fun j _ => P7 (nI (nz (sumN (fun s => liv n l s (4 ^ nLo n) * iv (gi h (59 + 3 * s + 1) 119 = 7)) j))) (nI (nz (sumN (fun s => liv n l s (4 ^ nLo n) * iv (¬ gi h (59 + 3 * s + 1) 119 = 7)) j))) (nI j)) (fun _ _ => True) 4 (s := ()) trivial ?_ ?_
  · exact key
  · intro _ _
    refine h7 _ _ _ (bY (nI_le (a := 4) (b := 4) (by omega) (by omega)) (fun P128 h128 P119 h119 => ?_))
    by_cases a : sumN (fun s => liv n l s (4 ^ nLo n) * iv (gi h (59 + 3 * s + 1) 119 = 7)) 4 = 0
    · rw [if_pos a, nI_0] at hQ
      rw [nz_0 a, nI_0] at *
      exact bY rfl (h119 (bY rfl (h128 _ hQ)))
    · rw [if_neg a] at hQ
      rw [nz_1 a] at *
      by_cases b : sumN (fun s => liv n l s (4 ^ nLo n) * iv (¬ gi h (59 + 3 * s + 1) 119 = 7)) 4 = 0
      · rw [if_pos b] at hQ
        rw [nz_0 b, nI_0]
        exact bN (by decide) (bY rfl (h119 (bN (by decide) (h128 _ hQ))))
      · rw [if_neg b] at hQ
        rw [nz_1 b]
        exact bN (by decide) (bN (by decide) (h128 _ hQ))
  · intro s _ hs _ nx
    have nx := nx () trivial
    rw [sumN_s, sumN_s] at nx
    have k16 := kX_lv (4 * l + s) (by omega)
    refine h7 _ _ _ (bN (nI_ge (b := 4) hs (by omega)) ⟨vp_in_nI hs (by omega), fun P39 h39 => ?_⟩)
    rw [nI_clamp (show s < 2 ^ 31 by omega)]
    generalize hA : sumN (fun s => liv n l s (4 ^ nLo n) * iv (gi h (59 + 3 * s + 1) 119 = 7)) s = A at *
    generalize hB : sumN (fun s => liv n l s (4 ^ nLo n) * iv (¬ gi h (59 + 3 * s + 1) 119 = 7)) s = B at *
    have bl := W.2.1 l hl s hs
    generalize hV : liv n l s (4 ^ nLo n) = V at *
    have go : ∀ (d : Nat) (x : Int32), x = nI d → d ≤ 1 → (d = 1 ↔ gi h (59 + 3 * s + 1) 119 = 7) → P39 x := by
      intro d x hx hd iff
      subst hx
      apply h39
      have hdead : nz (A + V * iv (gi h (59 + 3 * s + 1) 119 = 7)) = (if A ≠ 0 ∨ (V ≠ 0 ∧ d = 1) then 1 else 0) := by
        unfold nz
        by_cases c : gi h (59 + 3 * s + 1) 119 = 7
        · rw [iv_t c, Nat.mul_one, iff.mpr c]
          by_cases z : A + V = 0
          · rw [if_pos z, if_neg (by omega)]
          · rw [if_neg z, if_pos (by omega)]
        · have : d ≠ 1 := fun e => c (iff.mp e)
          rw [iv_f c, Nat.mul_zero, Nat.add_zero]
          by_cases z : A = 0
          · rw [if_pos z, if_neg (by omega)]
          · rw [if_neg z, if_pos (by omega)]
      have halive : nz (B + V * iv (¬ gi h (59 + 3 * s + 1) 119 = 7)) = (if B ≠ 0 ∨ (V ≠ 0 ∧ d = 0) then 1 else 0) := by
        unfold nz
        by_cases c : gi h (59 + 3 * s + 1) 119 = 7
        · have d1 := iff.mpr c
          rw [iv_f (fun z => z c), Nat.mul_zero, Nat.add_zero]
          by_cases z : B = 0
          · rw [if_pos z, if_neg (by omega)]
          · rw [if_neg z, if_pos (by omega)]
        · have : d ≠ 1 := fun e => c (iff.mp e)
          rw [iv_t c, Nat.mul_one]
          by_cases z : B + V = 0
          · rw [if_pos z, if_neg (by omega)]
          · rw [if_neg z, if_pos (by omega)]
      rw [hdead, halive] at nx
      refine s_livedBy rfl rfl hl' hs ⟨k16.1, ?_⟩
      have two : ∀ (v : Nat) (P59 : Int32 → Prop), (v = 0 ∨ v = 1) → (v = 1 ↔ V ≠ 0) → (∀ t0_59 : Int32, (∀ P_80 : Int32 → Prop, (∀ (t0_80 : Int32), (∀ P_100 : Int32 → Prop, (∀ (t0_100 : Int32), (∀ a4_101 : Int32, a4_101 = nI s + 1 → P7 t0_80 t0_100 a4_101) → P_100 t0_100) → ∀ P_95 : Prop, ((P_100 1) → P_95) → (¬ nI (nz B) = 0 → (P_95)) ∧ (nI (nz B) = 0 → (∀ P_99 : Prop, ((P_100 0) → P_99) → (t0_59 = 0 → (P_99)) ∧ (¬ t0_59 = 0 → ((¬ nI d = 0 → (P_99)) ∧ (nI d = 0 → (P_95))))))) → P_80 t0_80) → ∀ P_75 : Prop, ((P_80 1) → P_75) → (¬ nI (nz A) = 0 → (P_75)) ∧ (nI (nz A) = 0 → (∀ P_79 : Prop, ((P_80 0) → P_79) → (t0_59 = 0 → (P_79)) ∧ (¬ t0_59 = 0 → ((nI d = 0 → (P_79)) ∧ (¬ nI d = 0 → (P_75))))))) → P59 t0_59) → P59 (nI v) := by
        intro v P59 hv iv' h59
        apply h59
        have z0 : ∀ q, q ≤ 1 → (nI q = 0 ↔ q = 0) := fun q hq => by rw [nI_lit0]; exact nI_eq (by omega) (by omega)
        have zA := z0 (nz A) (by unfold nz; split <;> omega)
        have zB := z0 (nz B) (by unfold nz; split <;> omega)
        have zd := z0 d hd
        have zv := z0 v (by omega)
        have nA : nz A = 0 ↔ A = 0 := by unfold nz; split <;> omega
        have nB : nz B = 0 ↔ B = 0 := by unfold nz; split <;> omega
        rw [zA, zB, zd, zv, nA, nB]
        intro P80 h80 P75 h75
        have g80 : ∀ t : Int32, t = nI (if A ≠ 0 ∨ (V ≠ 0 ∧ d = 1) then 1 else 0) → P80 t := by
          intro t ht
          apply h80
          intro P100 h100 P95 h95
          have g100 : ∀ u : Int32, u = nI (if B ≠ 0 ∨ (V ≠ 0 ∧ d = 0) then 1 else 0) → P100 u := fun u hu => h100 _ (fun a4 e4 => by
            rw [nI_1] at e4
            subst e4 hu ht
            exact nx)
          refine ⟨fun c => h95 (g100 1 (by rw [if_pos (by omega)]; rfl)), fun c P99 h99 => ⟨fun c2 => h99 (g100 0 (by rw [if_neg (by omega)]; rfl)), fun c2 => ⟨fun c3 => h99 (g100 0 (by rw [if_neg (by omega)]; rfl)), fun c3 => h95 (g100 1 (by rw [if_pos (by omega)]; rfl))⟩⟩⟩
        refine ⟨fun c => h75 (g80 1 (by rw [if_pos (by omega)]; rfl)), fun c P79 h79 => ⟨fun c2 => h79 (g80 0 (by rw [if_neg (by omega)]; rfl)), fun c2 => ⟨fun c3 => h79 (g80 0 (by rw [if_neg (by omega)]; rfl)), fun c3 => h75 (g80 1 (by rw [if_pos (by omega)]; rfl))⟩⟩⟩
      refine s_isZero k16.1 bl (fun e P59 h59 => bNN one0 ?_) (fun e P59 h59 => bNY rfl ?_)
      · exact two 0 P59 (Or.inl rfl) (by omega) h59
      · exact two 1 P59 (Or.inr rfl) (by omega) h59
    refine ⟨fun c => go 0 0 nI_lit0 (by omega) ⟨fun z => by omega, fun z => absurd z c⟩, fun c => go 1 1 rfl (by omega) ⟨fun _ => c, fun _ => rfl⟩⟩
theorem sim_lost {h g : Hs} {a1 : Int32} {K : Int32 → Hs → Int32 → Hs → Prop} {F : Int32 → Hs → Prop} (I : Inv h g) (hK : ∀ r h' g', Inv h' g' → K r h' r g') (hF : ∀ r h', p_M_lost a1 g (K r h') → F r h') : p_X_lost a1 h F := by
  obtain ⟨n, I⟩ := I
  unfold p_X_lost
  refine x_lot (a1 := a1) I.X I.R (fun y1 => bY rfl ?_) (fun y1 => bN one0 (fun h7 e7 => ?_))
  · obtain ⟨l, lu, el⟩ := ir_p y1
    subst el
    have Kp := KK_pos I.R
    have MA : ∀ r h', (nP n = 0 ∨ TT n = 0 → ∀ g', smf g g' → p_M_no g' (fun t q => K r h' t q)) → (0 < nP n → TT n ≠ 0 → ∀ g', smf g g' → K r h' (nI (if swt n (fun w => Wh n (cw w l) 119 = 7) (4 ^ nLo n) = 0 then 0 else if swt n (fun w => Wh n (cw w l) 119 = 7) (4 ^ nLo n) = TT n then 1 else 2)) g') → p_M_lost (nI l) g (K r h') := by
      intro r h' k0 k1
      unfold p_M_lost
      refine m_lot I.M I.R (fun _ => bNN one0 ?_) (fun z => absurd y1 z)
      refine r_sumsUp I.M I.R (q_where I.R (m := 119) (x := 7) rfl rfl rfl lu (by omega) (by omega)) (fun y g' fm => bNY rfl (k0 y g' fm)) (fun pp tt g1 b5 b6 A fm => bNN one0 (fun P62 h62 => ?_))
      have kk := k1 pp tt g1 fm
      generalize hX : swt n (fun w => Wh n (cw w l) 119 = 7) (4 ^ nLo n) = X at *
      have eT : tot n (4 ^ nLo n) = TT n := rfl
      rw [eT] at b5
      have hz : X * KK n = 0 ↔ X = 0 := ⟨fun e => by rcases Nat.mul_eq_zero.mp e with y | y <;> omega, fun e => by rw [e, Nat.zero_mul]⟩
      have sz := b6.zero
      have sb := b6.2.1
      rw [b6.1]
      refine beqN (b := 0) rfl nI_lit0 (by omega) (by omega) (fun c => ?_) (fun c => h62 _ ?_)
      · have x0 : X ≠ 0 := fun e => c (sz.mpr (hz.mpr e))
        rw [if_neg x0] at kk
        refine r_compare (s := 6) (a := 5) rfl rfl (by omega) (by omega) b6 b5 (fun lt => bNN (by decide) (h62 _ ?_)) (fun eq => bNY rfl (h62 _ ?_)) (fun gt => bNN (by decide) (h62 _ ?_))
        · rw [if_neg (fun e => by rw [e] at lt; omega)] at kk
          exact kk
        · rw [if_pos (Nat.eq_of_mul_eq_mul_right Kp eq)] at kk
          exact kk
        · rw [if_neg (fun e => by rw [e] at gt; omega)] at kk
          exact kk
      · rw [if_pos (hz.mp (sz.mp c)), nI_0] at kk
        exact kk
    refine s_noWorlds I (fun y h' I' => bN one0 (fun h7 e7 => hF _ _ (MA _ _ (fun _ g' fm => by subst e7; exact lf_no3 I' fm hK) (fun pp tt => by rcases y with y | y <;> omega)))) (fun pp tt h' I' O W => bY rfl (s_lostOf I.R W rfl lu (hF _ _ (MA _ _ (fun y => by rcases y with y | y <;> omega) (fun _ _ g' fm => ?_)))))
    have ls := liv_sum (n := n) (l := l) (raw := fun s => gi h' (59 + 3 * s + 1) 119 = 7) (fun w => Wh n (cw w l) 119 = 7) lu (fun w sn => by
      have hw := Wh_le I.R (cw w l) 119
      show gi h' (59 + 3 * cw w l + 1) 119 = 7 ↔ _
      rw [(O.tale cw_lt sn).2.2.2.1 119 (by omega)]
      exact nI_eq (b := 7) (by omega) (by omega)) (4 ^ nLo n)
    have la : sumN (fun s => liv n l s (4 ^ nLo n) * iv (gi h' (59 + 3 * s + 1) 119 = 7)) 4 + sumN (fun s => liv n l s (4 ^ nLo n) * iv (¬ gi h' (59 + 3 * s + 1) 119 = 7)) 4 = TT n := by
      rw [← sumN_add]
      have e : sumN (fun s => liv n l s (4 ^ nLo n) * iv (gi h' (59 + 3 * s + 1) 119 = 7) + liv n l s (4 ^ nLo n) * iv (¬ gi h' (59 + 3 * s + 1) 119 = 7)) 4 = sumN (fun s => liv n l s (4 ^ nLo n)) 4 := sumN_congr (fun s _ => by
        by_cases c : gi h' (59 + 3 * s + 1) 119 = 7
        · rw [iv_t c, iv_f (fun z => z c), Nat.mul_one, Nat.mul_zero, Nat.add_zero]
        · rw [iv_f c, iv_t c, Nat.mul_one, Nat.mul_zero, Nat.zero_add])
      rw [e]
      exact liv_tot _
    rw [ls] at la ⊢
    generalize swt n (fun w => Wh n (cw w l) 119 = 7) (4 ^ nLo n) = X at *
    generalize sumN (fun s => liv n l s (4 ^ nLo n) * iv (¬ gi h' (59 + 3 * s + 1) 119 = 7)) 4 = B at *
    have e2 : (if X = 0 then 0 else if B = 0 then 1 else 2) = (if X = 0 then 0 else if X = TT n then 1 else 2) := by
      by_cases c : X = 0
      · rw [if_pos c, if_pos c]
      · rw [if_neg c, if_neg c]
        by_cases d : B = 0
        · rw [if_pos d, if_pos (by omega)]
        · rw [if_neg d, if_neg (by omega)]
    rw [e2]
    exact hK _ _ _ ⟨n, I'.mf fm⟩
  · subst e7
    refine hF _ _ ?_
    unfold p_M_lost
    exact m_lot (a1 := a1) I.M I.R (fun z => absurd z y1) (fun _ => bNY rfl (lf_bad I hK (-2)))
/-! next -/
noncomputable def mmx (n : Nat → Int32) (p k : Nat) : Nat → Nat × Nat × Nat
  | 0 => (0, 21, 0)
  | s + 1 => if alw n s (4 ^ nLo n) = 0 then mmx n p k s else (1, (if lf n (fun _ => s) p k < (mmx n p k s).2.1 then lf n (fun _ => s) p k else (mmx n p k s).2.1), (if (mmx n p k s).2.2 < lf n (fun _ => s) p k then lf n (fun _ => s) p k else (mmx n p k s).2.2))
theorem mmx_b (n : Nat → Int32) (p k : Nat) : ∀ s, (mmx n p k s).2.2 ≤ 20 ∧ (((mmx n p k s).1 = 0 ∧ (mmx n p k s).2.1 = 21 ∧ (mmx n p k s).2.2 = 0) ∨ ((mmx n p k s).1 = 1 ∧ (mmx n p k s).2.1 ≤ (mmx n p k s).2.2))
  | 0 => ⟨Nat.zero_le _, Or.inl ⟨rfl, rfl, rfl⟩⟩
  | s + 1 => by
    have ih := mmx_b n p k s
    have l20 : lf n (fun _ => s) p k ≤ 20 := min20_le
    unfold mmx
    by_cases c : alw n s (4 ^ nLo n) = 0
    · rw [if_pos c]
      exact ih
    · rw [if_neg c]
      show (if (mmx n p k s).2.2 < lf n (fun _ => s) p k then lf n (fun _ => s) p k else (mmx n p k s).2.2) ≤ 20 ∧ ((1 = 0 ∧ (if lf n (fun _ => s) p k < (mmx n p k s).2.1 then lf n (fun _ => s) p k else (mmx n p k s).2.1) = 21 ∧ (if (mmx n p k s).2.2 < lf n (fun _ => s) p k then lf n (fun _ => s) p k else (mmx n p k s).2.2) = 0) ∨ (1 = 1 ∧ (if lf n (fun _ => s) p k < (mmx n p k s).2.1 then lf n (fun _ => s) p k else (mmx n p k s).2.1) ≤ (if (mmx n p k s).2.2 < lf n (fun _ => s) p k then lf n (fun _ => s) p k else (mmx n p k s).2.2)))
      refine ⟨by split <;> omega, Or.inr ⟨rfl, ?_⟩⟩
      split <;> split <;> omega
noncomputable def dfr (n : Nat → Int32) (p k : Nat) : Nat := if (mmx n p k 4).2.1 < (mmx n p k 4).2.2 then (mmx n p k 4).2.2 - (mmx n p k 4).2.1 else 0
theorem dfr_le {n : Nat → Int32} {p k : Nat} : dfr n p k ≤ 20 := by
  have := (mmx_b n p k 4).1
  unfold dfr
  split <;> omega
theorem alw_snd {n : Nat → Int32} {s : Nat} : ∀ k, alw n s k ≠ 0 → snd n s
  | 0, h => absurd rfl h
  | k + 1, h => by
    rw [alw_s] at h
    by_cases c : isA n s k
    · exact c.2
    · rw [iv_f c, Nat.mul_zero, Nat.add_zero] at h
      exact alw_snd k h
noncomputable def dD (n : Nat → Int32) (p k : Nat) : Nat := iv (¬ sgd n (nI p) (nI k) (nSg n)) * dfr n p k
noncomputable def dgk (n : Nat → Int32) (p : Nat) (s : Int32 × Nat) : Nat → Int32 × Nat
  | 0 => s
  | k + 1 => if (dgk n p s k).2 < dD n p k then (nI (10 * p + k), dD n p k) else dgk n p s k
noncomputable def dgp (n : Nat → Int32) : Nat → Int32 × Nat
  | 0 => (-1, 0)
  | p + 1 => dgk n p (dgp n p) 4
theorem dgk_s (n : Nat → Int32) (p : Nat) (s : Int32 × Nat) (k : Nat) : dgk n p s (k + 1) = if (dgk n p s k).2 < dD n p k then (nI (10 * p + k), dD n p k) else dgk n p s k := rfl
theorem dD_le {n : Nat → Int32} {p k : Nat} : dD n p k ≤ 20 := by
  have h1 := Nat.mul_le_mul (iv_le (P := ¬ sgd n (nI p) (nI k) (nSg n))) (dfr_le (n := n) (p := p) (k := k))
  unfold dD
  omega
theorem dgk_b {n : Nat → Int32} {p : Nat} {s : Int32 × Nat} (hs : s.2 ≤ 20) : ∀ k, (dgk n p s k).2 ≤ 20
  | 0 => hs
  | k + 1 => by
    rw [dgk_s]
    have := dD_le (n := n) (p := p) (k := k)
    split
    · exact this
    · exact dgk_b hs k
theorem dgp_b {n : Nat → Int32} : ∀ p, (dgp n p).2 ≤ 20
  | 0 => Nat.zero_le _
  | p + 1 => dgk_b (dgp_b p) 4
theorem s_difference {n : Nat → Int32} {p k : Nat} {a1 a2 : Int32} {h : Hs} {Q : Int32 → Hs → Prop} (X : XS h 3 n) (R : RG n) (O : LO h n) (W : WO h n) (e1 : a1 = nI p) (e2 : a2 = nI k) (hp : p < 6) (hk : k < 4) (hQ : ∀ h' d, frm (fun c => c = 48) h h' → (d = nI (dfr n p k) ∨ (d < 0 ∧ dfr n p k = 0)) → Q d h') : p_Worlds_differenceAt a1 a2 h Q := by
  subst e1 e2
  unfold p_Worlds_differenceAt
  intro P9 h9
  have key := lpG (fun j (g : Hs) => P9 (nI (if (mmx n p k j).1 = 0 then 20 else (mmx n p k j).2.1)) (nI (mmx n p k j).2.2) (nI j) g) (fun j g => frm (fun c => c = 48) h g) 4 (s := h) frm.refl ?_ ?_
  · exact key
  · intro g f
    refine h9 _ _ _ _ (bY (nI_le (a := 4) (b := 4) (by omega) (by omega)) (hQ g _ f ?_))
    obtain ⟨b1, b2⟩ := mmx_b n p k 4
    rcases b2 with ⟨c1, c2, c3⟩ | ⟨c1, c2⟩
    · right
      rw [if_pos c1, c3]
      refine ⟨by decide, ?_⟩
      unfold dfr
      rw [if_neg (by omega)]
    · left
      rw [if_neg (by omega), pk_sub c2]
      unfold dfr
      congr 1
      split <;> omega
  · intro s g hs f nx
    have bz := (W.2.2 s hs).frm f (by omega) (by omega)
    have b := mmx_b n p k s
    have l20 : lf n (fun _ => s) p k ≤ 20 := min20_le
    refine h9 _ _ _ _ (bN (nI_ge (b := 4) hs (by omega)) ⟨vp_in_nI hs (by omega), ?_⟩)
    rw [nI_clamp (show s < 2 ^ 31 by omega)]
    refine s_isZero (kX_al s hs).1 bz (fun e P64 h64 => bNN one0 (h64 _ _ _ (fun a5 e5 => ?_))) (fun e P64 h64 => bNY rfl ?_)
    · rw [nI_1] at e5
      subst e5
      have nx := nx g f
      have em : mmx n p k (s + 1) = mmx n p k s := if_pos e
      rw [em] at nx
      exact nx
    · have sn : snd n s := alw_snd _ e
      refine s_allLive R rfl hs sn (fun h34 C34 f34 => ?_)
      have f' : frm (fun c => c = 48) h h34 := f.trans f34
      refine s_left (X.frm f' (fun c a b => by omega)) R (O.frm f' (fun c hc => by omega) R) C34 rfl rfl hp hk (fun a3 e3 a4 e4 => h64 _ _ _ (fun a5 e5 => ?_))
      rw [nI_1] at e5
      subst e5
      have nx := nx h34 f'
      have em : mmx n p k (s + 1) = (1, (if lf n (fun _ => s) p k < (mmx n p k s).2.1 then lf n (fun _ => s) p k else (mmx n p k s).2.1), (if (mmx n p k s).2.2 < lf n (fun _ => s) p k then lf n (fun _ => s) p k else (mmx n p k s).2.2)) := if_neg e
      rw [em] at nx
      have nx' : P9 (nI (if lf n (fun _ => s) p k < (mmx n p k s).2.1 then lf n (fun _ => s) p k else (mmx n p k s).2.1)) (nI (if (mmx n p k s).2.2 < lf n (fun _ => s) p k then lf n (fun _ => s) p k else (mmx n p k s).2.2)) (nI (s + 1)) h34 := nx
      have q3 : a3 = nI (if lf n (fun _ => s) p k < (mmx n p k s).2.1 then lf n (fun _ => s) p k else (mmx n p k s).2.1) := by
        rw [e3]
        rcases b.2 with ⟨c1, c2, c3⟩ | ⟨c1, c2⟩
        · rw [if_pos c1, c2, if_pos (show lf n (fun _ => s) p k < 21 by omega)]
          by_cases z : lf n (fun _ => s) p k < 20
          · rw [if_pos (nI_lt z (by omega))]
          · rw [if_neg (nI_nlt (by omega) (by omega)), show lf n (fun _ => s) p k = 20 by omega]
        · rw [if_neg (show ¬ (mmx n p k s).1 = 0 by omega)]
          by_cases z : lf n (fun _ => s) p k < (mmx n p k s).2.1
          · rw [if_pos (nI_lt z (by omega)), if_pos z]
          · rw [if_neg (nI_nlt (by omega) (by omega)), if_neg z]
      have q4 : a4 = nI (if (mmx n p k s).2.2 < lf n (fun _ => s) p k then lf n (fun _ => s) p k else (mmx n p k s).2.2) := by
        rw [e4]
        by_cases z : (mmx n p k s).2.2 < lf n (fun _ => s) p k
        · rw [if_pos (nI_lt z (by omega)), if_pos z]
        · rw [if_neg (nI_nlt (by omega) (by omega)), if_neg z]
      rw [q3, q4]
      exact nx'
theorem ten_p {p k : Nat} : (10 : Int32) * nI p + nI k = nI (10 * p + k) := by rw [show (10 : Int32) = nI 10 from rfl, nI_mul, nI_add]
theorem s_digNext {n : Nat → Int32} {h : Hs} {Q : Int32 → Hs → Prop} (X : XS h 3 n) (R : RG n) (O : LO h n) (W : WO h n) (hQ : ∀ h', frm (fun c => c = 48) h h' → Q (dgp n (nP n)).1 h') : p_Worlds_digNext h Q := by
  have hp := X.pl R
  have Xf : ∀ g, frm (fun c => c = 48) h g → XS g 3 n := fun g f => X.frm f (fun c a b => by omega)
  unfold p_Worlds_digNext
  intro P6 h6
  have key := lpG (fun p (g : Hs) => P6 (dgp n p).1 (nI (dgp n p).2) (nI p) g) (fun p g => frm (fun c => c = 48) h g) (nP n) (s := h) frm.refl ?_ ?_
  · exact key
  · intro g f
    exact h6 _ _ _ _ (bY (by rw [((Xf g f).pl R).1]; exact nI_le (Nat.le_refl _) (by omega)) (hQ g f))
  · intro p g hpp f nx
    refine h6 _ _ _ _ (bN (by rw [((Xf g f).pl R).1]; exact nI_ge hpp (by omega)) (fun P20 h20 => ?_))
    refine lpG (fun k (g : Hs) => P20 (dgk n p (dgp n p) k).1 (nI (dgk n p (dgp n p) k).2) (nI k) g) (fun k g => frm (fun c => c = 48) h g) 4 (s := g) f ?_ ?_
    · intro g2 f2
      refine h20 _ _ _ _ (bY (nI_le (a := 4) (b := 4) (by omega) (by omega)) (fun a3 e3 => ?_))
      rw [nI_1] at e3
      subst e3
      exact nx g2 f2
    · intro k g2 hk f2 nx2
      have bd := dgk_b (n := n) (p := p) (s := dgp n p) (dgp_b p) k
      have dl' := dD_le (n := n) (p := p) (k := k)
      rw [dgk_s] at nx2
      refine h20 _ _ _ _ (bN (nI_ge (b := 4) hk (by omega)) ?_)
      have go : ∀ (P50 : Int32 → Hs → Prop) (d : Int32) (g3 : Hs), frm (fun c => c = 48) h g3 → (d = nI (dD n p k) ∨ (d < 0 ∧ dD n p k = 0)) → (∀ (t0_50 : Int32) (g_50 : Hs), (∀ P_69 : Int32 → Int32 → Prop, (∀ (b1_69 : Int32) (b2_69 : Int32), (∀ a4_69 : Int32, a4_69 = nI k + 1 → P20 b1_69 b2_69 a4_69 g_50) → P_69 b1_69 b2_69) → (t0_50 ≤ nI (dgk n p (dgp n p) k).2 → (P_69 (dgk n p (dgp n p) k).1 (nI (dgk n p (dgp n p) k).2))) ∧ (¬ t0_50 ≤ nI (dgk n p (dgp n p) k).2 → (∀ a1_68 : Int32, a1_68 = (10 * nI p) + nI k → P_69 a1_68 t0_50))) → P50 t0_50 g_50) → P50 d g3 := by
        intro P50 d g3 f3 hd h50
        apply h50
        intro P69 h69
        have nx2 := nx2 g3 f3
        rcases hd with e | ⟨e, e0⟩
        · refine ble e rfl (by omega) (by omega) (fun z => h69 _ _ (fun a4 e4 => ?_)) (fun z a1 e1 => h69 _ _ (fun a4 e4 => ?_))
          · rw [nI_1] at e4
            subst e4
            rw [if_neg (by omega)] at nx2
            exact nx2
          · rw [nI_1] at e4
            rw [ten_p] at e1
            subst e4 e1
            rw [if_pos z] at nx2
            rw [e]
            exact nx2
        · have le : d ≤ nI (dgk n p (dgp n p) k).2 := by
            have h1 := Int32.lt_iff_toInt_lt.mp e
            apply Int32.le_iff_toInt_le.mpr
            rw [nI_toInt (by omega)]
            have h0 : (0 : Int32).toInt = 0 := by decide
            omega
          refine bY le (h69 _ _ (fun a4 e4 => ?_))
          rw [nI_1] at e4
          subst e4
          rw [if_neg (by omega)] at nx2
          exact nx2
      refine s_hasSign (Xf g2 f2) R (fun y P50 h50 => bN one0 ?_) (fun y P50 h50 => bY rfl ?_)
      · refine go P50 0 g2 f2 (Or.inl ?_) h50
        unfold dD
        rw [iv_f (fun z => z y), Nat.zero_mul]
        rfl
      · refine s_difference (Xf g2 f2) R (O.frm f2 (fun c hc => by omega) R) (W.frm R f2 (fun c a b => by omega)) rfl rfl (by omega) hk (fun h47 d f47 hd => go P50 d h47 (f2.trans f47) ?_ h50)
        have e : dD n p k = dfr n p k := by
          unfold dD
          rw [iv_t y, Nat.one_mul]
        rw [e]
        exact hd
