/-! ===== what is asked of worlds ===== -/
noncomputable def TT (n : Nat → Int32) : Nat := tot n (4 ^ nLo n)
theorem Iv.wor {h h' g : Hs} {n : Nat → Int32} (I : Iv h g n) (O : LO h n) (fx : frr WRS wgT h h') (wf : WF h') (ko : KO h') (wo : WO h' n) : Iv h' g n := by
  have r := I.rf
  refine I.up (I.X.frr fx (fun c a b => by unfold WRS; omega)) I.M I.R ?_ (fun c hc => fx.1 c (by unfold oX at hc; unfold WRS; omega)) smf.refl.q ?_ wf ko (Or.inr (O.frr fx (fun c hc => by unfold WRS; omega) I.R)) (Or.inr wo)
  · unfold RFD at r ⊢
    rw [fx.1 0 (by unfold WRS; omega), fx.1 0 (by unfold WRS; omega), fx.1 0 (by unfold WRS; omega)]
    exact r
  · have w := I.fr
    unfold FR at w ⊢
    rw [fx.2.2 406 (by unfold wgT; omega), fx.2.2 406 (by unfold wgT; omega)]
    exact w
theorem s_noWorlds {h g : Hs} {n : Nat → Int32} {Q : Int32 → Hs → Prop} (I : Iv h g n) (h1 : nP n = 0 ∨ TT n = 0 → ∀ h', Iv h' g n → Q 1 h') (h0 : 0 < nP n → TT n ≠ 0 → ∀ h', Iv h' g n → LO h' n → WO h' n → Q 0 h') : p_X_noWorlds h Q := by
  have hp := I.X.pl I.R
  unfold p_X_noWorlds
  rw [hp.1]
  refine beqN (b := 0) rfl nI_lit0 (by omega) (by omega) (fun z => ?_) (fun z => h1 (Or.inl z) h I)
  refine s_lref I (fun h16 I16 O16 => s_Wrefresh I16.X I.R O16 I16.ko I16.wf I16.wo (fun h23 W23 _ wf ko fx => ?_))
  have I23 := I16.wor O16 fx wf ko W23
  have O23 := O16.frr fx (fun c hc => by unfold WRS; omega) I.R
  exact s_isZero kX_to.1 W23.1 (fun e => h1 (Or.inr e) h23 I23) (fun e => h0 (by omega) e h23 I23 O23 W23)
theorem r_share {n : Nat → Int32} {H : Nat → Prop} {a1 a2 a3 a4 : Int32} {g : Hs} {Q : Int32 → Hs → Prop} (M : MS g n) (R : RG n) (hold : ∀ (g' : Hs) (w : Nat), MS g' n → RA g' n → RCH g' n (cw w) → ∀ Q' : Int32 → Prop, (H w → Q' 1) → (¬ H w → Q' 0) → p_M_holds a1 a2 a3 a4 g' Q') (h0 : nP n = 0 ∨ TT n = 0 → ∀ g', smf g g' → p_M_no g' (fun r q => Q r q)) (h1 : 0 < nP n → TT n ≠ 0 → ∀ g', RV g' 0 (swt n H (4 ^ nLo n) / Nat.gcd (TT n) (swt n H (4 ^ nLo n))) → RV g' 1 (TT n / Nat.gcd (TT n) (swt n H (4 ^ nLo n))) → gi g' 0 6 = sgn (swt n H (4 ^ nLo n) / Nat.gcd (TT n) (swt n H (4 ^ nLo n))) → (∀ c, c = 1 ∨ c = 2 ∨ c = 3 ∨ c = 4 → ∀ j, gi g' c j = gi g c j) → Q 1 g') : p_M_tellsShare a1 a2 a3 a4 g Q := by
  have hN := four_le R.lo.2
  have Kp := KK_pos R
  unfold p_M_tellsShare
  refine r_sumsUp M R hold (fun y g' fm => bNY rfl (h0 y g' fm)) (fun pp tt g1 b5 b6 A fm => bNN one0 ?_)
  have tp : 0 < TT n := Nat.pos_of_ne_zero tt
  refine r_tell (p := 6) (q := 5) rfl rfl (by omega) (by omega) (by unfold tS; omega) (by unfold tS; omega) b6 b5 (Nat.mul_pos tp Kp) (fitS R (swt_lt R (by unfold nLo; exact hN))) (fun g2 r0 r1 f2 => ?_)
  rw [Nat.gcd_mul_right, Nat.mul_div_mul_right _ _ Kp] at r0 r1
  have eg : Nat.gcd (swt n H (4 ^ nLo n)) (tot n (4 ^ nLo n)) = Nat.gcd (TT n) (swt n H (4 ^ nLo n)) := Nat.gcd_comm _ _
  rw [eg] at r0 r1
  have gp : 0 < Nat.gcd (TT n) (swt n H (4 ^ nLo n)) := Nat.gcd_pos_of_pos_left _ tp
  refine h1 pp tt _ r0.si0 r1.si0 ?_ (fun c hc j => ?_)
  · rw [gi_s, sgn_div gp (Nat.gcd_dvd_right _ _)]
    unfold sgn
    by_cases e : swt n H (4 ^ nLo n) = 0
    · rw [if_pos e, e, Nat.zero_mul, if_pos rfl]
    · rw [if_neg e, if_neg (fun z => by rcases Nat.mul_eq_zero.mp z with y | y <;> omega)]
  · rw [gi_c (by omega), f2.1 c (by omega), fm.1 c (by omega)]
theorem s_share {h g : Hs} {n : Nat → Int32} {H : Nat → Prop} {o : Nat} {Q : Int32 → Hs → Prop} (I : Iv h g n) (W : WO h n) (ko : kX o = 1) (no : ¬ fS o ∧ ¬ fS (o + 1)) (b : BV h o (swt n H (4 ^ nLo n))) (tt : TT n ≠ 0) (hQ : ∀ h', (∀ g', RV g' 0 (swt n H (4 ^ nLo n) / Nat.gcd (TT n) (swt n H (4 ^ nLo n))) → RV g' 1 (TT n / Nat.gcd (TT n) (swt n H (4 ^ nLo n))) → gi g' 0 6 = sgn (swt n H (4 ^ nLo n) / Nat.gcd (TT n) (swt n H (4 ^ nLo n))) → (∀ c, c = 1 ∨ c = 2 ∨ c = 3 ∨ c = 4 → ∀ j, gi g' c j = gi g c j) → Iv h' g' n) → Q 1 h') : p_X_answerShare o h Q := by
  unfold p_X_answerShare
  refine s_Fbecome I.fr ko kX_to.1 no (by unfold fS; omega) b W.1 tt swt_le (fun h' fr b7 b9 fx => hQ h' (fun g' r0 r1 r6 fm => I.shr (fx.mono (fun c hc => Or.inl hc) (fun c hc => hc)) fr fm ⟨_, _, b7, b9, r0, r1, r6⟩))
/-- sums over stories -/
theorem sumN_pick {a c : Nat} {f : Nat → Nat} : ∀ {k : Nat}, c < k → sumN (fun s => a * iv (c = s) * f s) k = a * f c
  | k + 1, h => by
    rw [sumN_s]
    by_cases e : c = k
    · subst e
      have hz : sumN (fun s => a * iv (c = s) * f s) c ≤ c * 0 := sumN_le (fun i hi => by
        show a * iv (c = i) * f i ≤ 0
        rw [iv_f (by omega), Nat.mul_zero, Nat.zero_mul]
        exact Nat.le_refl _)
      rw [iv_t rfl, Nat.mul_one]
      omega
    · rw [iv_f e, Nat.mul_zero, Nat.zero_mul, sumN_pick (by omega), Nat.add_zero]
theorem liv_sum {n : Nat → Int32} {l : Nat} {raw : Nat → Prop} (H : Nat → Prop) (hl : l < nLo n) (hr : ∀ w, snd n (cw w l) → (raw (cw w l) ↔ H w)) : ∀ k, sumN (fun s => liv n l s k * iv (raw s)) 4 = swt n H k
  | 0 => by
    have hz : sumN (fun s => liv n l s 0 * iv (raw s)) 4 ≤ 4 * 0 := sumN_le (fun i hi => by
      show liv n l i 0 * iv (raw i) ≤ 0
      rw [show liv n l i 0 = 0 from rfl, Nat.zero_mul]
      exact Nat.le_refl _)
    rw [show swt n H 0 = 0 from rfl]
    omega
  | k + 1 => by
    have ih := liv_sum H hl hr k
    have e1 : sumN (fun s => liv n l s (k + 1) * iv (raw s)) 4 = sumN (fun s => liv n l s k * iv (raw s) + wt n k * iv (cw k l = s) * iv (raw s)) 4 := sumN_congr (fun s _ => by rw [liv_s, Nat.add_mul])
    rw [e1, sumN_add, ih, sumN_pick (f := fun s => iv (raw s)) cw_lt, swt_s]
    congr 1
    by_cases ok : okw n k
    · rw [iv_congr (hr k (ok l hl))]
    · have hz : wt n k = 0 := by unfold wt; rw [iv_f ok, Nat.zero_mul]
      rw [hz, Nat.zero_mul, Nat.zero_mul]
theorem liv_tot {n : Nat → Int32} {l : Nat} : ∀ k, sumN (fun s => liv n l s k) 4 = tot n k
  | 0 => rfl
  | k + 1 => by
    have ih := liv_tot (n := n) (l := l) k
    have e1 : sumN (fun s => liv n l s (k + 1)) 4 = sumN (fun s => liv n l s k + wt n k * iv (cw k l = s) * 1) 4 := sumN_congr (fun s _ => by rw [liv_s, Nat.mul_one])
    rw [e1, sumN_add, ih, sumN_pick (f := fun _ => 1) cw_lt, tot_s, Nat.mul_one]
theorem s_gather {n : Nat → Int32} {l m x : Nat} {a1 a2 a3 : Int32} {h : Hs} {Q : Nat → Hs → Prop} (X : XS h 3 n) (R : RG n) (O : LO h n) (W : WO h n) (e1 : a1 = nI l) (e2 : a2 = nI m) (e3 : a3 = nI x) (hl : l < nLo n) (hm : m < 120) (hx : x < 8) (hQ : ∀ h', BV h' 355 (swt n (fun w => Wh n (cw w l) m = x) (4 ^ nLo n)) → frm (fun c => c = 355 ∨ c = 356) h h' → Q 355 h') : p_Worlds_gatherWhere a1 a2 a3 h Q := by
  subst e1 e2 e3
  have hl4 := R.lo.2
  have hl' : l < 4 := by unfold nLo at hl; omega
  have hN := four_le R.lo.2
  have ls := liv_sum (n := n) (l := l) (raw := fun s => gi h (59 + 3 * s + 1) m = nI x) (fun w => Wh n (cw w l) m = x) hl (fun w sn => by
    have hw := Wh_le R (cw w l) m
    show gi h (59 + 3 * cw w l + 1) m = nI x ↔ _
    rw [(O.tale cw_lt sn).2.2.2.1 m hm]
    exact nI_eq (by omega) (by omega)) (4 ^ nLo n)
  have pl : ∀ j, j ≤ 4 → sumN (fun s => liv n l s (4 ^ nLo n) * iv (gi h (59 + 3 * s + 1) m = nI x)) j < BB ^ 32 := fun j hj => by
    have h1 := sumN_upto (f := fun s => liv n l s (4 ^ nLo n) * iv (gi h (59 + 3 * s + 1) m = nI x)) hj
    rw [ls] at h1
    exact fit32 (Nat.le_trans h1 (swt_lt R (by unfold nLo; exact hN))) (by omega)
  unfold p_Worlds_gatherWhere
  rw [lN_lit0]
  refine s_become kX_to.2.2.1 (by decide) (fun h5 b5 f5 => ?_)
  intro P11 h11
  refine lpH (fun j g => BV g 355 (sumN (fun s => liv n l s (4 ^ nLo n) * iv (gi h (59 + 3 * s + 1) m = nI x)) j) ∧ frm (fun c => c = 355 ∨ c = 356) h g) 4 ⟨b5, f5.mono (fun c hc => by unfold bS at hc; omega)⟩ ?_ ?_
  · intro g hI
    refine h11 _ _ (bY (nI_le (a := 4) (b := 4) (by omega) (by omega)) (hQ g ?_ hI.2))
    rw [← ls]
    exact hI.1
  · intro s g hs hI nx
    refine h11 _ _ (bN (nI_ge (b := 4) hs (by omega)) ⟨vp_in_nI hs (by omega), vp_in_nI hm (by omega), fun P50 h50 => ?_⟩)
    rw [nI_clamp (show s < 2 ^ 31 by omega), nI_clamp (show m < 2 ^ 31 by omega), hI.2.1 (59 + 3 * s + 1) (by omega)]
    have go : ∀ g', BV g' 355 (sumN (fun s => liv n l s (4 ^ nLo n) * iv (gi h (59 + 3 * s + 1) m = nI x)) (s + 1)) → frm (fun c => c = 355 ∨ c = 356) h g' → P50 g' := fun g' q1 q2 => h50 g' (fun a4 e4 => by
      rw [nI_1] at e4
      subst e4
      exact nx g' ⟨q1, q2⟩)
    refine ⟨fun c => go g ?_ hI.2, fun c => ?_⟩
    · rw [sumN_s, iv_f c, Nat.mul_zero, Nat.add_zero]
      exact hI.1
    · have k16 := kX_lv (4 * l + s) (by omega)
      refine s_livedBy rfl rfl hl' hs ⟨k16.1, s_plus kX_to.2.2.1 k16.1 (by omega) hI.1 ((W.2.1 l hl s hs).frm hI.2 (by omega) (by omega)) ?_ (fun h47 b47 f47 => go h47 ?_ (hI.2.trans (f47.mono (fun c hc => by unfold bS at hc; omega))))⟩
      · have := pl (s + 1) (by omega)
        rw [sumN_s, iv_t c, Nat.mul_one] at this
        rw [kX_to.2.2.2]
        exact this
      · rw [sumN_s, iv_t c, Nat.mul_one]
        exact b47
theorem lf_no3 {h g g' : Hs} {n : Nat → Int32} {K : Int32 → Hs → Int32 → Hs → Prop} (I : Iv h g n) (fm : smf g g') (hK : ∀ r h' g', Inv h' g' → K r h' r g') : p_M_no g' (fun r q => K (-3) (si h 0 10 (gi h 0 10 + 1)) r q) := by
  intro h9 e
  exact lf_no (I.mf fm) hK h9 e
theorem sim_odds {h g : Hs} {a1 a2 : Int32} {K : Int32 → Hs → Int32 → Hs → Prop} {F : Int32 → Hs → Prop} (I : Inv h g) (hK : ∀ r h' g', Inv h' g' → K r h' r g') (hF : ∀ r h', p_M_odds a1 a2 g (K r h') → F r h') : p_X_odds a1 a2 h F := by
  obtain ⟨n, I⟩ := I
  have xb : ¬ (ir a1.toInt 0 ((nLo n : Int) - 1) ∧ ir a2.toInt 0 3) → p_X_bad h (fun r h' => F r h') := by
    intro nb h7 e7
    subst e7
    refine hF _ _ ?_
    unfold p_M_odds
    exact (m_lot (a1 := a1) I.M I.R (fun y1 P32 h32 P26 h26 => bN one0 (m_four (a0 := a2) (fun y2 => absurd ⟨y1, y2⟩ nb) (fun y2 => bY rfl (h26 (fun h9 e => h32 _ _ (lf_bad I hK (-2) h9 e)))))) (fun y1 P32 h32 P26 h26 => bY rfl (h26 (fun h9 e => h32 _ _ (lf_bad I hK (-2) h9 e)))))
  unfold p_X_odds
  refine (x_lot (a1 := a1) I.X I.R (fun y1 P0 h0P => bNY rfl (x_four (a0 := a2) (fun y2 => bY rfl ?_) (fun y2 => bN one0 (h0P (xb (fun y => y2 y.2)))))) (fun y1 P0 h0P => bNN one0 (h0P (xb (fun y => y1 y.1)))))
  obtain ⟨l, lu, el⟩ := ir_p y1
  subst el
  obtain ⟨s, sl, su, es⟩ := ir_m (lo := 0) (hi := 3) y2
  subst es
  have hl4 := I.R.lo.2
  have MA : ∀ r h', (nP n = 0 ∨ TT n = 0 → ∀ g', smf g g' → p_M_no g' (fun t q => K r h' t q)) → (0 < nP n → TT n ≠ 0 → ∀ g', RV g' 0 (swt n (fun w => cw w l = s) (4 ^ nLo n) / Nat.gcd (TT n) (swt n (fun w => cw w l = s) (4 ^ nLo n))) → RV g' 1 (TT n / Nat.gcd (TT n) (swt n (fun w => cw w l = s) (4 ^ nLo n))) → gi g' 0 6 = sgn (swt n (fun w => cw w l = s) (4 ^ nLo n) / Nat.gcd (TT n) (swt n (fun w => cw w l = s) (4 ^ nLo n))) → (∀ c, c = 1 ∨ c = 2 ∨ c = 3 ∨ c = 4 → ∀ j, gi g' c j = gi g c j) → K r h' 1 g') → p_M_odds (nI l) (nI s) g (K r h') := by
    intro r h' k0 k1
    unfold p_M_odds
    refine (m_lot I.M I.R (fun _ P32 h32 P26 h26 => bN one0 (m_four  (fun _ => bN one0 ?_) (fun z => absurd y2 z))) (fun z => absurd y1 z))
    exact r_share I.M I.R (q_lot I.R rfl rfl lu (by omega)) (fun y g' fm h9 e => h32 _ _ (k0 y g' fm h9 e)) (fun pp tt g' r0 r1 r6 fm => h32 _ _ (k1 pp tt g' r0 r1 r6 fm))
  refine s_noWorlds I (fun y h' I' => bN one0 (fun h7 e7 => hF _ _ (MA _ _ (fun _ g' fm => by subst e7; exact lf_no3 I' fm hK) (fun pp tt => by rcases y with y | y <;> omega)))) (fun pp tt h' I' O W => bY rfl ?_)
  have l4 : l < 4 := by unfold nLo at lu; omega
  have k16 := kX_lv (4 * l + s) (by omega)
  refine s_livedBy rfl rfl l4 (by omega) ⟨k16.1, s_share I' W k16.1 (by unfold fS; omega) (W.2.1 l lu s (by omega)) tt (fun h2 h3 => hF _ _ (MA _ _ (fun y => by rcases y with y | y <;> omega) (fun _ _ g' r0 r1 r6 fm => hK _ _ _ ⟨n, h3 g' r0 r1 r6 fm⟩)))⟩
theorem sim_all {h g : Hs} {a1 : Int32} {K : Int32 → Hs → Int32 → Hs → Prop} {F : Int32 → Hs → Prop} (I : Inv h g) (hK : ∀ r h' g', Inv h' g' → K r h' r g') (hF : ∀ r h', p_M_all a1 g (K r h') → F r h') : p_X_all a1 h F := by
  obtain ⟨n, I⟩ := I
  have xb : ¬ (ir a1.toInt 0 3) → p_X_bad h (fun r h' => F r h') := by
    intro nb h7 e7
    subst e7
    refine hF _ _ ?_
    unfold p_M_all
    exact (m_four (a0 := a1) (fun y1 => absurd y1 nb) (fun y1 P32 h32 => bY rfl (fun h9 e => h32 _ _ (lf_bad I hK (-2) h9 e))))
  unfold p_X_all
  refine (x_four (a0 := a1) (fun y1 => bY rfl ?_) (fun y1 => bN one0 (xb (fun y => y1 y))))
  obtain ⟨s, sl, su, es⟩ := ir_m (lo := 0) (hi := 3) y1
  subst es
  have MA : ∀ r h', (nP n = 0 ∨ TT n = 0 → ∀ g', smf g g' → p_M_no g' (fun t q => K r h' t q)) → (0 < nP n → TT n ≠ 0 → ∀ g', RV g' 0 (swt n (isA n s) (4 ^ nLo n) / Nat.gcd (TT n) (swt n (isA n s) (4 ^ nLo n))) → RV g' 1 (TT n / Nat.gcd (TT n) (swt n (isA n s) (4 ^ nLo n))) → gi g' 0 6 = sgn (swt n (isA n s) (4 ^ nLo n) / Nat.gcd (TT n) (swt n (isA n s) (4 ^ nLo n))) → (∀ c, c = 1 ∨ c = 2 ∨ c = 3 ∨ c = 4 → ∀ j, gi g' c j = gi g c j) → K r h' 1 g') → p_M_all (nI s) g (K r h') := by
    intro r h' k0 k1
    unfold p_M_all
    refine (m_four  (fun _ P32 h32 => bN one0 ?_) (fun z => absurd y1 z))
    exact r_share I.M I.R (q_all I.R rfl (by omega)) (fun y g' fm h9 e => h32 _ _ (k0 y g' fm h9 e)) (fun pp tt g' r0 r1 r6 fm => h32 _ _ (k1 pp tt g' r0 r1 r6 fm))
  refine s_noWorlds I (fun y h' I' => bN one0 (fun h7 e7 => hF _ _ (MA _ _ (fun _ g' fm => by subst e7; exact lf_no3 I' fm hK) (fun pp tt => by rcases y with y | y <;> omega)))) (fun pp tt h' I' O W => bY rfl ?_)
  rw [nI_clamp (by omega)]
  exact ⟨vp_in_nI (by omega) (by omega), s_share I' W (kX_al s (by omega)).1 (by unfold fS; omega) (W.2.2 s (by omega)) tt (fun h2 h3 => hF _ _ (MA _ _ (fun y => by rcases y with y | y <;> omega) (fun _ _ g' r0 r1 r6 fm => hK _ _ _ ⟨n, h3 g' r0 r1 r6 fm⟩)))⟩
theorem sim_where {h g : Hs} {a1 a2 a3 : Int32} {K : Int32 → Hs → Int32 → Hs → Prop} {F : Int32 → Hs → Prop} (I : Inv h g) (hK : ∀ r h' g', Inv h' g' → K r h' r g') (hF : ∀ r h', p_M_where a1 a2 a3 g (K r h') → F r h') : p_X_where a1 a2 a3 h F := by
  obtain ⟨n, I⟩ := I
  have xb : ¬ (ir a1.toInt 0 ((nLo n : Int) - 1) ∧ ir a2.toInt 0 119 ∧ whr n a3) → p_X_bad h (fun r h' => F r h') := by
    intro nb h7 e7
    subst e7
    refine hF _ _ ?_
    unfold p_M_where
    exact (m_lot (a1 := a1) I.M I.R (fun y1 P32 h32 P26 h26 => bN one0 (m_month (a0 := a2) (fun y2 => bN one0 (m_where (a1 := a3) I.M I.R (fun y3 => absurd ⟨y1, y2, y3⟩ nb) (fun y3 => bY rfl (h26 (fun h9 e => h32 _ _ (lf_bad I hK (-2) h9 e)))))) (fun y2 => bY rfl (h26 (fun h9 e => h32 _ _ (lf_bad I hK (-2) h9 e)))))) (fun y1 P32 h32 P26 h26 => bY rfl (h26 (fun h9 e => h32 _ _ (lf_bad I hK (-2) h9 e)))))
  unfold p_X_where
  refine (x_lot (a1 := a1) I.X I.R (fun y1 P0 h0P => bNY rfl (x_month (a0 := a2) (fun y2 => bNY rfl (x_where (a1 := a3) I.X I.R (fun y3 => bY rfl ?_) (fun y3 => bN one0 (h0P (xb (fun y => y3 y.2.2)))))) (fun y2 => bNN one0 (h0P (xb (fun y => y2 y.2.1)))))) (fun y1 P0 h0P => bNN one0 (h0P (xb (fun y => y1 y.1)))))
  obtain ⟨l, lu, el⟩ := ir_p y1
  subst el
  obtain ⟨m, ml, mu, em⟩ := ir_m (lo := 0) (hi := 119) y2
  subst em
  have hpl := I.R.pl.2
  obtain ⟨x, xu, ex⟩ : ∃ x, x < 8 ∧ a3 = nI x := by
    rcases y3 with y | y | y
    · obtain ⟨p, pu, ep⟩ := ir_p y
      exact ⟨p, by unfold nP at pu; omega, ep⟩
    · exact ⟨6, by omega, y⟩
    · exact ⟨7, by omega, y⟩
  subst ex
  have MA : ∀ r h', (nP n = 0 ∨ TT n = 0 → ∀ g', smf g g' → p_M_no g' (fun t q => K r h' t q)) → (0 < nP n → TT n ≠ 0 → ∀ g', RV g' 0 (swt n (fun w => Wh n (cw w l) m = x) (4 ^ nLo n) / Nat.gcd (TT n) (swt n (fun w => Wh n (cw w l) m = x) (4 ^ nLo n))) → RV g' 1 (TT n / Nat.gcd (TT n) (swt n (fun w => Wh n (cw w l) m = x) (4 ^ nLo n))) → gi g' 0 6 = sgn (swt n (fun w => Wh n (cw w l) m = x) (4 ^ nLo n) / Nat.gcd (TT n) (swt n (fun w => Wh n (cw w l) m = x) (4 ^ nLo n))) → (∀ c, c = 1 ∨ c = 2 ∨ c = 3 ∨ c = 4 → ∀ j, gi g' c j = gi g c j) → K r h' 1 g') → p_M_where (nI l) (nI m) (nI x) g (K r h') := by
    intro r h' k0 k1
    unfold p_M_where
    refine (m_lot I.M I.R (fun _ P32 h32 P26 h26 => bN one0 (m_month  (fun _ => bN one0 (m_where I.M I.R (fun _ => bN one0 ?_) (fun z => absurd y3 z))) (fun z => absurd y2 z))) (fun z => absurd y1 z))
    exact r_share I.M I.R (q_where I.R rfl rfl rfl lu (by omega) xu) (fun y g' fm h9 e => h32 _ _ (k0 y g' fm h9 e)) (fun pp tt g' r0 r1 r6 fm => h32 _ _ (k1 pp tt g' r0 r1 r6 fm))
  refine s_noWorlds I (fun y h' I' => bN one0 (fun h7 e7 => hF _ _ (MA _ _ (fun _ g' fm => by subst e7; exact lf_no3 I' fm hK) (fun pp tt => by rcases y with y | y <;> omega)))) (fun pp tt h' I' O W => bY rfl ?_)
  exact s_gather I'.X I.R O W rfl rfl rfl lu (by omega) xu (fun h48 b48 f48 => ⟨kX_to.2.2.1, s_share (I'.qu f48 (fun c hc => by omega) smf.refl) (W.frm I.R f48 (fun c a b => by omega)) kX_to.2.2.1 (by unfold fS; omega) b48 tt (fun h2 h3 => hF _ _ (MA _ _ (fun y => by rcases y with y | y <;> omega) (fun _ _ g' r0 r1 r6 fm => hK _ _ _ ⟨n, h3 g' r0 r1 r6 fm⟩)))⟩)
theorem sim_so {h g : Hs} {a1 : Int32} {K : Int32 → Hs → Int32 → Hs → Prop} {F : Int32 → Hs → Prop} (I : Inv h g) (hK : ∀ r h' g', Inv h' g' → K r h' r g') (hF : ∀ r h', p_M_so a1 g (K r h') → F r h') : p_X_so a1 h F := by
  obtain ⟨n, I⟩ := I
  have xb : ¬ (ir a1.toInt 0 ((nTe n : Int) - 1)) → p_X_bad h (fun r h' => F r h') := by
    intro nb h7 e7
    subst e7
    refine hF _ _ ?_
    unfold p_M_so
    unfold p_M_tellers
    exact (m_in (a := a1.toInt) (lo := 0) (hi := (nTe n : Int) - 1) (i64 a1) (by decide) (by rw [i64, (I.M.te I.R).1]; exact nI_m1i (by have := (I.M.te I.R).2; omega)) (fun y1 => absurd y1 nb) (fun y1 P32 h32 => bY rfl (fun h9 e => h32 _ _ (lf_bad I hK (-2) h9 e))))
  unfold p_X_so
  refine (x_out (a0 := a1) (lo := 0) (hi := (nTe n : Int) - 1) (by decide) (by rw [(I.X.te I.R).1]; exact nI_m1i (by have := (I.X.te I.R).2; omega)) (fun y1 => bY rfl ?_) (fun y1 => bN one0 (xb (fun y => y1 y))))
  obtain ⟨t, tu, et⟩ := ir_p y1
  subst et
  have ht6 := I.R.te.2
  have t6 : t < 6 := by unfold nTe at tu; omega
  obtain ⟨q1, q2, q3, q4, q5, q6, q7, q8⟩ := I.R.tel t6
  have MA : ∀ r h', (nP n = 0 ∨ TT n = 0 → ∀ g', smf g g' → p_M_no g' (fun t q => K r h' t q)) → (0 < nP n → TT n ≠ 0 → ∀ g', RV g' 0 (swt n (fun w => Wh n (cw w (tLo n t)) (tMo n t) = tWh n t) (4 ^ nLo n) / Nat.gcd (TT n) (swt n (fun w => Wh n (cw w (tLo n t)) (tMo n t) = tWh n t) (4 ^ nLo n))) → RV g' 1 (TT n / Nat.gcd (TT n) (swt n (fun w => Wh n (cw w (tLo n t)) (tMo n t) = tWh n t) (4 ^ nLo n))) → gi g' 0 6 = sgn (swt n (fun w => Wh n (cw w (tLo n t)) (tMo n t) = tWh n t) (4 ^ nLo n) / Nat.gcd (TT n) (swt n (fun w => Wh n (cw w (tLo n t)) (tMo n t) = tWh n t) (4 ^ nLo n))) → (∀ c, c = 1 ∨ c = 2 ∨ c = 3 ∨ c = 4 → ∀ j, gi g' c j = gi g c j) → K r h' 1 g') → p_M_so (nI t) g (K r h') := by
    intro r h' k0 k1
    unfold p_M_so
    unfold p_M_tellers
    refine (m_in (lo := 0) (hi := (nTe n : Int) - 1) (i64 _) (by decide) (by rw [i64, (I.M.te I.R).1]; exact nI_m1i (by have := (I.M.te I.R).2; omega)) (fun _ P32 h32 => bN one0 ?_) (fun z => absurd y1 z))
    exact r_share I.M I.R (q_tell I.R rfl tu) (fun y g' fm h9 e => h32 _ _ (k0 y g' fm h9 e)) (fun pp tt g' r0 r1 r6 fm => h32 _ _ (k1 pp tt g' r0 r1 r6 fm))
  refine s_noWorlds I (fun y h' I' => bN one0 (fun h7 e7 => hF _ _ (MA _ _ (fun _ g' fm => by subst e7; exact lf_no3 I' fm hK) (fun pp tt => by rcases y with y | y <;> omega)))) (fun pp tt h' I' O W => bY rfl ?_)
  rw [nI_clamp (by omega), show 28 + 1 + 1 * t = 29 + t by omega, I'.X.tel (i := 1) t6 (by omega), I'.X.tel (i := 2) t6 (by omega), I'.X.tel (i := 3) t6 (by omega)]
  exact ⟨vp_in_nI t6 (by omega), s_gather I'.X I.R O W q1 q3 q5 (I.R.tl2 t tu) (by omega) (by omega) (fun h48 b48 f48 => ⟨kX_to.2.2.1, s_share (I'.qu f48 (fun c hc => by omega) smf.refl) (W.frm I.R f48 (fun c a b => by omega)) kX_to.2.2.1 (by unfold fS; omega) b48 tt (fun h2 h3 => hF _ _ (MA _ _ (fun y => by rcases y with y | y <;> omega) (fun _ _ g' r0 r1 r6 fm => hK _ _ _ ⟨n, h3 g' r0 r1 r6 fm⟩)))⟩)⟩
