/-! ===== place, lot, days, post ===== -/
theorem MS.same {g : Hs} {n : Nat → Int32} {k : Nat} {v : Int32} (M : MS g n) (hk : n k = v) : MS (si g 1 k v) n := fun j hj => by
  by_cases e : j = k
  · subst e
    rw [gi_s, hk]
  · rw [gi_k e]
    exact M j hj
theorem d_idx {p q : Nat} : (575 : Int32) + 6 * nI p + nI q = nI (575 + 6 * p + q) := by
  rw [show (6 : Int32) = nI 6 from rfl, show (575 : Int32) = nI 575 from rfl, nI_mul, nI_add, nI_add]
theorem sim_place {h g : Hs} {a1 : Int32} {K : Int32 → Hs → Int32 → Hs → Prop} {F : Int32 → Hs → Prop} (I : Inv h g) (hK : ∀ r h' g', Inv h' g' → K r h' r g') (hF : ∀ r h', p_M_place a1 g (K r h') → F r h') : p_X_place a1 h F := by
  obtain ⟨n, I⟩ := I
  have xb : ¬ (ir a1.toInt 0 200) → p_X_bad h (fun r h' => F r h') := by
    intro nb h7 e7
    subst e7
    refine hF _ _ ?_
    unfold p_M_place
    exact (m_in (a := a1.toInt) (lo := 0) (hi := 200) (i64 a1) (by decide) (by decide) (fun y1 => bNN one0 (absurd y1 nb)) (fun y1 => bNY rfl (lf_bad I hK (-2))))
  unfold p_X_place
  refine (x_out (a0 := a1) (lo := 0) (hi := 200) (by decide) (by decide) (fun y1 => bY rfl ?_) (fun y1 => bN one0 (xb (fun y => y1 y))))
  obtain ⟨v, vl, vu, ev⟩ := ir_m (lo := 0) (hi := 200) y1
  subst ev
  have hp := I.X.pl I.R
  have hm := I.M.pl I.R
  have rel := I.R.rel
  have MP : ∀ r h', (nP n < 6 → ∀ g', MS g' (un (un n (nP n) (nI v)) 671 (nI (nP n + 1))) → frm (fun c => c = 1) g g' → K r h' (nI (nP n)) g') → (nP n = 6 → p_M_full g (K r h')) → p_M_place (nI v) g (K r h') := by
    intro r h' k1 k2
    unfold p_M_place
    refine (m_in (lo := 0) (hi := 200) (i64 _) (by decide) (by decide) (fun _ => bNN one0 ?_) (fun z => absurd y1 z))
    unfold p_M_places
    rw [hm.1]
    refine beqN (b := 6) rfl rfl (by omega) (by omega) (fun c => ?_) (fun c => k2 c)
    have c6 : nP n < 6 := by omega
    rw [show (0 : Int32) + nI (nP n) = nI (nP n) from by rw [nI_lit0, nI_add, Nat.zero_add], nI_clamp (by omega)]
    refine ⟨vp_in_nI (by omega) (by omega), fun h43 e43 P46 h46 => ?_⟩
    have M43 : MS h43 (un n (nP n) (nI v)) := by rw [e43]; exact I.M.up
    refine lpH (fun q g' => MS g' (un n (nP n) (nI v)) ∧ frm (fun c => c = 1) g g') 6 ⟨M43, e43 ▸ frm.si rfl⟩ ?_ ?_
    · intro g' hJ
      refine h46 _ _ (bY (nI_le (a := 6) (b := 6) (by omega) (by omega)) (fun h101 e101 => ?_))
      have e1 : gi g' 1 671 + 1 = nI (nP n + 1) := by
        rw [hJ.1 671 (by omega), un_n (by omega), I.R.pl.1]
        exact nI_1 _
      rw [e1] at e101
      exact k1 c6 h101 (by rw [e101]; exact hJ.1.up) (hJ.2.trans (e101 ▸ frm.si rfl))
    · intro q g' hq hJ nx
      refine h46 _ _ (bN (nI_ge (b := 6) hq (by omega)) ?_)
      rw [d_idx, d_idx, nI_clamp (by omega), nI_clamp (by omega)]
      refine ⟨vp_in_nI (by omega) (by omega), fun h67 e67 => ⟨vp_in_nI (by omega) (by omega), fun h83 e83 a3 e3 => ?_⟩⟩
      rw [nI_1] at e3
      subst e3
      have z1 : un n (nP n) (nI v) (575 + 6 * nP n + q) = 0 := by
        rw [un_n (by omega)]
        exact (rel.2 (nP n) c6 q hq).2 (Or.inl (Nat.le_refl _))
      have z2 : un n (nP n) (nI v) (575 + 6 * q + nP n) = 0 := by
        rw [un_n (by omega)]
        exact (rel.2 q hq (nP n) c6).2 (Or.inr (Nat.le_refl _))
      refine nx h83 ⟨?_, hJ.2.trans ((e67 ▸ frm.si rfl : frm (fun c => c = 1) g' h67).trans (e83 ▸ frm.si rfl))⟩
      rw [e83, e67]
      exact (hJ.1.same z1).same z2
  rw [hp.1]
  refine blt (b := 6) rfl rfl (by omega) (by omega) (fun c => ?_) (fun c h7 e7 => hF _ _ (MP _ _ (fun z => by omega) (fun _ => by subst e7; exact lf_full I hK)))
  rw [nI_clamp (by omega)]
  refine ⟨vp_in_nI (by omega) (by omega), fun h48 e48 => s_changed (fun h64 e64 => ?_)⟩
  have g30 : gi (chg h48) 3 0 = nI (nP n) := by
    rw [chg_g (by omega), e48, gi_c (by omega)]
    exact hp.1
  rw [g30] at e64 ⊢
  rw [nI_1] at e64
  refine hF _ _ (MP _ _ (fun _ g' Mg fg => hK _ _ _ ⟨_, I.st ?_ ?_ ?_ fg ?_ Mg ?_⟩) (fun z => by omega))
  · exact ((e48 ▸ frm.si (show sX 4 by unfold sX; omega) : frm sX h h48).trans chg_f).trans (e64 ▸ frm.si (show sX 3 by unfold sX; omega))
  · rw [e64, gi_c (by omega)]
    exact chg_z.1
  · rw [e64, gi_c (by omega)]
    exact chg_z.2
  · rw [e64, e48]
    exact ((I.X.up2 (k := nP n) (by omega) (by rw [(c_feed (nP n) c).1]) (c_feed (nP n) c).2).chg).up2 (k := 671) (by omega) (by rw [(c_many 0 (by omega)).1]) (c_many 0 (by omega)).2
  · refine RG.of (RG.set (RG.set I.R.k ?_) ?_) ?_
    · unfold rgk
      rw [if_pos c]
      exact rg_of vu
    · unfold rgk
      simp only [show ¬ (671 : Nat) < 6 by omega, show ¬ (671 : Nat) < 16 by omega, show ¬ (671 : Nat) < 20 by omega, show ¬ (671 : Nat) < 22 by omega, show ¬ (671 : Nat) < 26 by omega, show ¬ (671 : Nat) < 34 by omega, show ¬ (671 : Nat) < 518 by omega, show ¬ (671 : Nat) < 542 by omega, show ¬ (671 : Nat) = 543 by omega, show ¬ (671 : Nat) < 545 by omega, show ¬ (671 : Nat) < 575 by omega, show ¬ (671 : Nat) < 611 by omega, show ¬ (671 : Nat) < 671 by omega, show ¬ (671 : Nat) = 672 by omega, if_false]
      exact rg_of (by omega)
    · refine ⟨fun t ht => ?_, fun p hp' q hq => ?_⟩
      · rw [un_n (show 674 ≠ 671 by omega), un_n (by omega)] at ht
        have ht6 := I.R.te.2
        rw [un_n (by omega), un_n (by omega), un_n (show 672 ≠ 671 by omega), un_n (by omega)]
        exact rel.1 t ht
      · rw [un_n (by omega), un_n (by omega), un_n (by omega), un_n (by omega), un_s, nn_nI (by omega)]
        exact ⟨(rel.2 p hp' q hq).1, fun z => (rel.2 p hp' q hq).2 (by show nP n ≤ p ∨ nP n ≤ q; omega)⟩
theorem sim_lot {h g : Hs} {a1 : Int32} {K : Int32 → Hs → Int32 → Hs → Prop} {F : Int32 → Hs → Prop} (I : Inv h g) (hK : ∀ r h' g', Inv h' g' → K r h' r g') (hF : ∀ r h', p_M_lot a1 g (K r h') → F r h') : p_X_lot a1 h F := by
  obtain ⟨n, I⟩ := I
  have xb : ¬ (ir a1.toInt 1 60) → p_X_bad h (fun r h' => F r h') := by
    intro nb h7 e7
    subst e7
    refine hF _ _ ?_
    unfold p_M_lot
    exact (m_in (a := a1.toInt) (lo := 1) (hi := 60) (i64 a1) (by decide) (by decide) (fun y1 => bNN one0 (absurd y1 nb)) (fun y1 => bNY rfl (lf_bad I hK (-2))))
  unfold p_X_lot
  refine (x_out (a0 := a1) (lo := 1) (hi := 60) (by decide) (by decide) (fun y1 => bY rfl ?_) (fun y1 => bN one0 (xb (fun y => y1 y))))
  obtain ⟨v, vl, vu, ev⟩ := ir_m (lo := 1) (hi := 60) y1
  subst ev
  have hp := I.X.lo I.R
  have hm := I.M.lo I.R
  have rel := I.R.rel
  have MP : ∀ r h', (nLo n < 4 → ∀ g', MS g' (un (un n (16 + nLo n) (nI v)) 672 (nI (nLo n + 1))) → frm (fun c => c = 1) g g' → K r h' (nI (nLo n)) g') → (nLo n = 4 → p_M_full g (K r h')) → p_M_lot (nI v) g (K r h') := by
    intro r h' k1 k2
    unfold p_M_lot
    refine (m_in (lo := 1) (hi := 60) (i64 _) (by decide) (by decide) (fun _ => bNN one0 ?_) (fun z => absurd y1 z))
    unfold p_M_lots
    rw [hm.1]
    refine beqN (b := 4) rfl rfl (by omega) (by omega) (fun c => ?_) (fun c => k2 c)
    have c4 : nLo n < 4 := by omega
    dsimp only
    rw [show (16 : Int32) + nI (nLo n) = nI (16 + nLo n) from nI_add 16 _, nI_clamp (by omega)]
    refine ⟨vp_in_nI (by omega) (by omega), fun h44 e44 h56 e56 => ?_⟩
    have e1 : gi h44 1 672 + 1 = nI (nLo n + 1) := by
      rw [e44, gi_k (by omega), hm.1, nI_1]
    rw [e1] at e56
    have e2 : gi h56 1 672 - 1 = nI (nLo n) := by
      rw [e56, gi_s, nI_pred]
    rw [e2]
    exact k1 c4 h56 (by rw [e56, e44]; exact I.M.up.up) ((e44 ▸ frm.si rfl : frm (fun c => c = 1) g h44).trans (e56 ▸ frm.si rfl))
  rw [hp.1]
  refine blt (b := 4) rfl rfl (by omega) (by omega) (fun c => ?_) (fun c h7 e7 => hF _ _ (MP _ _ (fun z => by omega) (fun _ => by subst e7; exact lf_full I hK)))
  rw [nI_clamp (by omega)]
  refine ⟨vp_in_nI (by omega) (by omega), fun h48 e48 => s_changed (fun h64 e64 => ?_)⟩
  have g30 : gi (chg h48) 3 1 = nI (nLo n) := by
    rw [chg_g (by omega), e48, gi_c (by omega)]
    exact hp.1
  rw [g30] at e64 ⊢
  rw [nI_1] at e64
  refine hF _ _ (MP _ _ (fun _ g' Mg fg => hK _ _ _ ⟨_, I.st ?_ ?_ ?_ fg ?_ Mg ?_⟩) (fun z => by omega))
  · exact ((e48 ▸ frm.si (show sX 6 by unfold sX; omega) : frm sX h h48).trans chg_f).trans (e64 ▸ frm.si (show sX 3 by unfold sX; omega))
  · rw [e64, gi_c (by omega)]
    exact chg_z.1
  · rw [e64, gi_c (by omega)]
    exact chg_z.2
  · rw [e64, e48]
    exact ((I.X.up2 (k := 16 + nLo n) (by omega) (by rw [(c_peop (nLo n) c).1]) (c_peop (nLo n) c).2).chg).up2 (k := 672) (by omega) (by rw [(c_many 1 (by omega)).1]) (c_many 1 (by omega)).2
  · refine RG.of (RG.set (RG.set I.R.k ?_) ?_) ?_
    · unfold rgk
      rw [if_neg (by omega), if_neg (by omega), if_pos (by omega)]
      exact rg_of vu
    · unfold rgk
      simp only [show ¬ (672 : Nat) < 6 by omega, show ¬ (672 : Nat) < 16 by omega, show ¬ (672 : Nat) < 20 by omega, show ¬ (672 : Nat) < 22 by omega, show ¬ (672 : Nat) < 26 by omega, show ¬ (672 : Nat) < 34 by omega, show ¬ (672 : Nat) < 518 by omega, show ¬ (672 : Nat) < 542 by omega, show ¬ (672 : Nat) = 543 by omega, show ¬ (672 : Nat) < 545 by omega, show ¬ (672 : Nat) < 575 by omega, show ¬ (672 : Nat) < 611 by omega, show ¬ (672 : Nat) < 671 by omega, if_false, if_true]
      exact rg_of (by omega)
    · refine ⟨fun t ht => ?_, fun p hp' q hq => ?_⟩
      · rw [un_n (show 674 ≠ 672 by omega), un_n (by omega)] at ht
        have ht6 := I.R.te.2
        rw [un_n (by omega), un_n (by omega), un_s, nn_nI (by omega)]
        have := rel.1 t ht
        show _ < nLo n + 1
        unfold nLo
        omega
      · rw [un_n (by omega), un_n (by omega), un_n (by omega), un_n (by omega), un_n (show 671 ≠ 672 by omega), un_n (show 671 ≠ 16 + nLo n by omega)]
        exact rel.2 p hp' q hq
theorem sim_days {h g : Hs} {a1 a2 a3 : Int32} {K : Int32 → Hs → Int32 → Hs → Prop} {F : Int32 → Hs → Prop} (I : Inv h g) (hK : ∀ r h' g', Inv h' g' → K r h' r g') (hF : ∀ r h', p_M_days a1 a2 a3 g (K r h') → F r h') : p_X_days a1 a2 a3 h F := by
  obtain ⟨n, I⟩ := I
  have xb : ¬ (ir a1.toInt 0 ((nP n : Int) - 1) ∧ ir a2.toInt 0 ((nP n : Int) - 1) ∧ ¬ a1 = a2 ∧ ir a3.toInt 0 20) → p_X_bad h (fun r h' => F r h') := by
    intro nb h7 e7
    subst e7
    refine hF _ _ ?_
    unfold p_M_days
    exact m_place (a1 := a1) I.M I.R (fun y1 P hP => bN one0 (m_place (a1 := a2) I.M I.R (fun y2 => bN one0 ⟨fun _ => hP (lf_bad I hK (-2)), fun y3 => m_in (a := a3.toInt) (lo := 0) (hi := 20) (i64 a3) (by decide) (by decide) (fun y4 => absurd ⟨y1, y2, y3, y4⟩ nb) (fun y4 => bNY rfl (hP (lf_bad I hK (-2))))⟩) (fun y2 => bY rfl (hP (lf_bad I hK (-2)))))) (fun y1 P hP => bY rfl (hP (lf_bad I hK (-2))))
  unfold p_X_days
  refine x_place (a1 := a1) I.X I.R (fun y1 P hP => bNY rfl (x_place (a1 := a2) I.X I.R (fun y2 => bNY rfl ⟨fun c => hP (xb (fun y => y.2.2.1 c)), fun y3 => x_out (a0 := a3) (lo := 0) (hi := 20) (by decide) (by decide) (fun y4 => bY rfl ?_) (fun y4 => bN one0 (hP (xb (fun y => y4 y.2.2.2))))⟩) (fun y2 => bNN one0 (hP (xb (fun y => y2 y.2.1)))))) (fun y1 P hP => bNN one0 (hP (xb (fun y => y1 y.1))))
  have hpl := I.R.pl.2
  have rel := I.R.rel
  obtain ⟨a, au, ea⟩ := ir_p y1
  subst ea
  obtain ⟨b, bu, eb⟩ := ir_p y2
  subst eb
  obtain ⟨v, vl, vu, ev⟩ := ir_m (lo := 0) (hi := 20) y4
  subst ev
  have hab : a ≠ b := fun e => y3 (by rw [e])
  have a6 : a < 6 := by unfold nP at au; omega
  have b6 : b < 6 := by unfold nP at bu; omega
  rw [nI_clamp (show a < 2 ^ 31 by omega), nI_clamp (show b < 2 ^ 31 by omega), show 35 + 1 + 1 * a = 36 + a by omega, show 35 + 1 + 1 * b = 36 + b by omega]
  refine ⟨vp_in_nI b6 (by omega), vp_in_nI a6 (by omega), fun h47 e47 => ⟨vp_in_nI a6 (by omega), s_exchange (N := 6) (lX_rows.2.2.2.2.2 a a6) rfl b6 (by omega) (hF _ _ ?_)⟩⟩
  have ca := c_days a a6 b b6
  have cb := c_days b b6 a a6
  unfold p_M_days
  refine m_place I.M I.R (fun _ P hP => bN one0 (m_place I.M I.R (fun _ => bN one0 ⟨fun c => absurd c y3, fun _ => m_in (lo := 0) (hi := 20) (i64 _) (by decide) (by decide) (fun _ => bNN one0 ?_) (fun z => absurd y4 z)⟩) (fun z => absurd y2 z))) (fun z => absurd y1 z)
  rw [d_idx, d_idx, nI_clamp (by omega), nI_clamp (by omega)]
  refine ⟨vp_in_nI (by omega) (by omega), fun a4 e4 => ⟨vp_in_nI (by omega) (by omega), fun h72 e72 => ⟨vp_in_nI (by omega) (by omega), fun h88 e88 => ?_⟩⟩⟩
  have er : gi h47 (36 + a) b = a4 := by
    rw [e47, gi_c (by omega), e4, I.M _ (by omega)]
    have := I.X.rd (k := 575 + 6 * a + b) (by omega) ca
    rw [show 3 + (33 + a) = 36 + a by omega] at this
    exact this
  rw [er]
  refine hK _ _ _ ⟨un (un n (575 + 6 * a + b) (nI v)) (575 + 6 * b + a) (nI v), I.st ?_ chg_z.1 chg_z.2 ?_ ?_ ?_ ?_⟩
  · exact ((e47 ▸ frm.si (show sX (36 + b) by unfold sX; omega) : frm sX h h47).trans (frm.si (show sX (36 + a) by unfold sX; omega))).trans chg_f
  · exact (e72 ▸ frm.si rfl : frm (fun c => c = 1) g h72).trans (e88 ▸ frm.si rfl)
  · rw [un_comm (by omega), e47]
    exact ((I.X.up2 (by omega) (by rw [cb.1]; omega) cb.2).up2 (by omega) (by rw [ca.1]; omega) ca.2).chg
  · rw [e88, e72]
    exact I.M.up.up
  · have rv : ∀ k, 575 ≤ k → k < 611 → rgk k (nI v) := fun k h1 h2 => by
      unfold rgk
      rw [if_neg (by omega), if_neg (by omega), if_neg (by omega), if_neg (by omega), if_neg (by omega), if_neg (by omega), if_neg (by omega), if_neg (by omega), if_neg (by omega), if_neg (by omega), if_neg (by omega), if_pos (by omega)]
      exact rg_of vu
    refine RG.of (RG.set (RG.set I.R.k (rv _ (by omega) (by omega))) (rv _ (by omega) (by omega))) ⟨fun t ht => ?_, fun p hp q hq => ?_⟩
    · rw [un_n (by omega), un_n (by omega)] at ht
      have ht6 := I.R.te.2
      rw [un_n (by omega), un_n (by omega), un_n (by omega), un_n (by omega)]
      exact rel.1 t ht
    · rw [un_n (show 671 ≠ 575 + 6 * b + a by omega), un_n (show 671 ≠ 575 + 6 * a + b by omega)]
      have hpn : nP n = nn (n 671) := rfl
      rw [← hpn]
      by_cases c1 : p = a ∧ q = b
      · obtain ⟨e1, e2⟩ := c1
        subst e1 e2
        rw [un_n (show 575 + 6 * p + q ≠ 575 + 6 * q + p by omega), un_s, un_s]
        exact ⟨rfl, fun z => by omega⟩
      · by_cases c2 : p = b ∧ q = a
        · obtain ⟨e1, e2⟩ := c2
          subst e1 e2
          rw [un_s, un_n (show 575 + 6 * q + p ≠ 575 + 6 * p + q by omega), un_s]
          exact ⟨rfl, fun z => by omega⟩
        · rw [un_n (show 575 + 6 * p + q ≠ 575 + 6 * b + a by omega), un_n (show 575 + 6 * p + q ≠ 575 + 6 * a + b by omega), un_n (show 575 + 6 * q + p ≠ 575 + 6 * b + a by omega), un_n (show 575 + 6 * q + p ≠ 575 + 6 * a + b by omega)]
          exact rel.2 p hp q hq
theorem sim_post {h g : Hs} {a1 a2 : Int32} {K : Int32 → Hs → Int32 → Hs → Prop} {F : Int32 → Hs → Prop} (I : Inv h g) (hK : ∀ r h' g', Inv h' g' → K r h' r g') (hF : ∀ r h', p_M_post a1 a2 g (K r h') → F r h') : p_X_post a1 a2 h F := by
  obtain ⟨n, I⟩ := I
  have rel := I.R.rel
  have good : (a1 = -1 ∨ ir a1.toInt 0 ((nP n : Int) - 1)) → ∀ t : Int32, t = (if a2 = 0 then 0 else 1) → ∀ h_55 : Hs, h_55 = si (si (si h 27 0 1) 27 1 a1) 27 2 t → p_X_changed h_55 (fun h_57 => F 1 h_57) := by
    intro y1 t et h55 e55
    refine s_changed (hF _ _ ?_)
    have mg : ∀ P20 : Prop, ((∀ h_28 : Hs, h_28 = si g 1 542 1 → ∀ h_37 : Hs, h_37 = si h_28 1 543 a1 → ∀ P_54 : Int32 → Prop, (∀ (t2_54 : Int32), (∀ h_54 : Hs, h_54 = si h_37 1 544 t2_54 → K 1 (chg h55) 1 h_54) → P_54 t2_54) → (a2 = 0 → (P_54 0)) ∧ (¬ a2 = 0 → (P_54 1))) → P20) → P20 := by
      intro P20 h20
      apply h20
      intro h28 e28 h37 e37 P54 h54
      have g54 : P54 t := by
        apply h54
        intro h54' e54
        have rt' : t = 0 ∨ t = 1 := by
          rw [et]
          split
          · exact Or.inl rfl
          · exact Or.inr rfl
        refine hK _ _ _ ⟨un (un (un n 542 1) 543 a1) 544 t, I.st ?_ chg_z.1 chg_z.2 ?_ ?_ ?_ ?_⟩
        · rw [e55]
          exact (((frm.si (show sX 27 by unfold sX; omega)).trans (frm.si (show sX 27 by unfold sX; omega))).trans (frm.si (show sX 27 by unfold sX; omega))).trans chg_f
        · exact ((e28 ▸ frm.si rfl : frm (fun c => c = 1) g h28).trans (e37 ▸ frm.si rfl : frm (fun c => c = 1) h28 h37)).trans (e54 ▸ frm.si rfl : frm (fun c => c = 1) h37 h54')
        · rw [e55]
          exact (((I.X.up2 (k := 542) (by omega) (by rw [(c_post 0 (by omega)).1]) (c_post 0 (by omega)).2).up2 (k := 543) (by omega) (by rw [(c_post 1 (by omega)).1]) (c_post 1 (by omega)).2).up2 (k := 544) (by omega) (by rw [(c_post 2 (by omega)).1]) (c_post 2 (by omega)).2).chg
        · rw [e54, e37, e28]
          exact I.M.up.up.up
        · have t6 := I.R.te.2
          have L1 := rel.oth (k := 542) (v := 1) t6 (by omega)
          have L2 := L1.oth (k := 543) (v := a1) (by rw [un_n (by omega)]; exact t6) (by omega)
          have L3 := L2.oth (k := 544) (v := t) (by rw [un_n (by omega), un_n (by omega)]; exact t6) (by omega)
          refine RG.of (RG.set (RG.set (RG.set I.R.k ?_) ?_) ?_) L3
          · unfold rgk
            simp only [show ¬ (542 : Nat) < 6 by omega, show ¬ (542 : Nat) < 16 by omega, show ¬ (542 : Nat) < 20 by omega, show ¬ (542 : Nat) < 22 by omega, show ¬ (542 : Nat) < 26 by omega, show ¬ (542 : Nat) < 34 by omega, show ¬ (542 : Nat) < 518 by omega, show ¬ (542 : Nat) < 542 by omega, show ¬ (542 : Nat) = 543 by omega, show (542 : Nat) < 545 by omega, if_false, if_true]
            exact rg_of (m := 1) (by omega)
          · unfold rgk
            simp only [show ¬ (543 : Nat) < 6 by omega, show ¬ (543 : Nat) < 16 by omega, show ¬ (543 : Nat) < 20 by omega, show ¬ (543 : Nat) < 22 by omega, show ¬ (543 : Nat) < 26 by omega, show ¬ (543 : Nat) < 34 by omega, show ¬ (543 : Nat) < 518 by omega, show ¬ (543 : Nat) < 542 by omega, if_false, if_true]
            rcases y1 with y1 | y1
            · exact Or.inl y1
            · obtain ⟨a, au, ea⟩ := ir_p y1
              have hpl := I.R.pl.2
              rw [ea]
              exact Or.inr (rg_of (by unfold nP at au; omega))
          · unfold rgk
            simp only [show ¬ (544 : Nat) < 6 by omega, show ¬ (544 : Nat) < 16 by omega, show ¬ (544 : Nat) < 20 by omega, show ¬ (544 : Nat) < 22 by omega, show ¬ (544 : Nat) < 26 by omega, show ¬ (544 : Nat) < 34 by omega, show ¬ (544 : Nat) < 518 by omega, show ¬ (544 : Nat) < 542 by omega, show ¬ (544 : Nat) = 543 by omega, show (544 : Nat) < 545 by omega, if_false, if_true]
            rcases rt' with e | e <;> rw [e]
            · exact rg_of (m := 0) (by omega)
            · exact rg_of (m := 1) (by omega)
      by_cases z : a2 = 0
      · rw [if_pos z] at et
        rw [et] at g54
        exact bY z g54
      · rw [if_neg z] at et
        rw [et] at g54
        exact bN z g54
    unfold p_M_post
    intro P20 h20
    by_cases c : a1 = -1
    · exact bY c (mg P20 h20)
    · exact bN c (m_place (a1 := a1) I.M I.R (fun _ => bNN one0 (mg P20 h20)) (fun z => absurd (y1.resolve_left c) z))
  unfold p_X_post
  intro P18 h18
  have go : (a1 = -1 ∨ ir a1.toInt 0 ((nP n : Int) - 1)) → P18 := by
    intro y1
    apply h18
    intro h27 e27 h37 e37 P55 h55
    have g55 : ∀ t : Int32, t = (if a2 = 0 then 0 else 1) → P55 t := fun t et => h55 _ (fun h' e' => by
      subst e27 e37
      exact good y1 t et h' e')
    exact ⟨fun c => g55 0 (by rw [if_pos c]), fun c => g55 1 (by rw [if_neg c])⟩
  refine ⟨fun c => go (Or.inl c), fun c => x_place (a1 := a1) I.X I.R (fun y => bY rfl (go (Or.inr y))) (fun y => bN one0 (fun h7 e7 => ?_))⟩
  subst e7
  refine hF _ _ ?_
  unfold p_M_post
  intro P20 h20
  exact bN c (m_place (a1 := a1) I.M I.R (fun z => absurd z y) (fun _ => bNY rfl (lf_bad I hK (-2))))
