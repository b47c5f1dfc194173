/-! ===== sign and teller ===== -/
def sgd (n : Nat → Int32) (a1 a2 : Int32) (k : Nat) : Prop := ∃ s, s < k ∧ n (518 + 4 * s) = a1 ∧ n (518 + 4 * s + 1) = a2
theorem sgd_s {n : Nat → Int32} {a1 a2 : Int32} {k : Nat} (h : ¬ sgd n a1 a2 k) (h2 : ¬ (n (518 + 4 * k) = a1 ∧ n (518 + 4 * k + 1) = a2)) : ¬ sgd n a1 a2 (k + 1) := fun ⟨s, hs, e⟩ => by
  by_cases c : s = k
  · subst c
    exact h2 e
  · exact h ⟨s, by omega, e⟩
theorem s_hasSign {n : Nat → Int32} {a1 a2 : Int32} {h : Hs} {Q : Int32 → Prop} (X : XS h 3 n) (R : RG n) (h1 : sgd n a1 a2 (nSg n) → Q 1) (h0 : ¬ sgd n a1 a2 (nSg n) → Q 0) : p_State_hasSign a1 a2 h Q := by
  have hS := X.sg R
  unfold p_State_hasSign
  rw [hS.1]
  intro P hP
  refine lq1 (fun k => ¬ sgd n a1 a2 k) (nSg n) (fun ⟨s, hs, _⟩ => by omega) (fun hI => hP _ (bY (nI_le (Nat.le_refl _) (by omega)) (h0 hI))) (fun k hk hI nx => hP _ (bN (nI_ge hk (by omega)) ⟨vp_in_nI (by omega) (by omega), fun P36 h36 => ?_⟩))
  have go : ¬ (n (518 + 4 * k) = a1 ∧ n (518 + 4 * k + 1) = a2) → P36 := fun z => h36 (fun a3 e3 => by
    rw [nI_1] at e3
    subst e3
    exact nx (sgd_s hI z))
  rw [nI_clamp (show k < 2 ^ 31 by omega), show 20 + 1 + 1 * k = 21 + k by omega, X.sig (i := 0) (show k < 6 by omega) (by omega), X.sig (i := 1) (show k < 6 by omega) (by omega)]
  exact ⟨fun c => go (fun z => c z.1), fun c => ⟨vp_in_nI (by omega) (by omega), fun c2 => go (fun z => c2 z.2), fun c2 => h1 ⟨k, hk, c, c2⟩⟩⟩
theorem m_isSigned {n : Nat → Int32} {a1 a2 : Int32} {g : Hs} {Q : Int32 → Prop} (M : MS g n) (R : RG n) (h1 : sgd n a1 a2 (nSg n) → Q 1) (h0 : ¬ sgd n a1 a2 (nSg n) → Q 0) : p_M_isSigned a1 a2 g Q := by
  have hS := M.sg R
  unfold p_M_isSigned p_M_signs
  rw [hS.1]
  intro P hP
  have key := lpG (fun k (x : Int32) => P x (nI k)) (fun k x => (x = 1 ∧ sgd n a1 a2 k) ∨ (x = 0 ∧ ¬ sgd n a1 a2 k)) (nSg n) (s := 0) (Or.inr ⟨rfl, fun ⟨s, hs, _⟩ => by omega⟩) ?_ ?_
  · exact key
  · intro x hI
    refine hP _ _ (bY (nI_le (Nat.le_refl _) (by omega)) ?_)
    rcases hI with ⟨e, y⟩ | ⟨e, y⟩
    · rw [e]
      exact ⟨zb1, h1 y⟩
    · rw [e]
      exact ⟨zb0, h0 y⟩
  · intro k x hk hI nx
    refine hP _ _ (bN (nI_ge hk (by omega)) (fun P59 h59 P54 h54 => ?_))
    have go : ∀ z : Int32, ((z = 1 ∧ sgd n a1 a2 (k + 1)) ∨ (z = 0 ∧ ¬ sgd n a1 a2 (k + 1))) → P59 z := fun z hz => h59 _ (fun a4 e4 => by
      rw [nI_1] at e4
      subst e4
      exact nx z hz)
    rcases hI with ⟨e, s, hs, y⟩ | ⟨e, y⟩
    · rw [e]
      exact bNN one0 (h54 (go 1 (Or.inl ⟨rfl, s, by omega, y⟩)))
    · rw [e]
      have i0 : (518 : Int32) + 4 * nI k = nI (518 + 4 * k) := by rw [show (4 : Int32) = nI 4 from rfl, show (518 : Int32) = nI 518 from rfl, nI_mul, nI_add]
      rw [i0, nI_1, nI_clamp (by omega), nI_clamp (by omega), M _ (by omega), M _ (by omega)]
      refine bNY rfl ⟨vp_in_nI (by omega) (by omega), fun P58 h58 => ?_⟩
      exact ⟨fun c => h58 (go 0 (Or.inr ⟨rfl, sgd_s y (fun z => c z.1)⟩)), fun c => ⟨vp_in_nI (by omega) (by omega), fun c2 => h58 (go 0 (Or.inr ⟨rfl, sgd_s y (fun z => c2 z.2)⟩)), fun c2 => h54 (go 1 (Or.inl ⟨rfl, k, by omega, c, c2⟩))⟩⟩
theorem sim_sign {h g : Hs} {a1 a2 a3 a4 : Int32} {K : Int32 → Hs → Int32 → Hs → Prop} {F : Int32 → Hs → Prop} (I : Inv h g) (hK : ∀ r h' g', Inv h' g' → K r h' r g') (hF : ∀ r h', p_M_sign a1 a2 a3 a4 g (K r h') → F r h') : p_X_sign a1 a2 a3 a4 h F := by
  obtain ⟨n, I⟩ := I
  have xb : ¬ (ir a1.toInt 0 ((nP n : Int) - 1) ∧ ir a2.toInt 0 3 ∧ ir a3.toInt 0 9 ∧ ir a4.toInt 1 10) → p_X_bad h (fun r h' => F r h') := by
    intro nb h7 e7
    subst e7
    refine hF _ _ ?_
    unfold p_M_sign
    exact (m_place (a1 := a1) I.M I.R (fun y1 M0 h0M => bN one0 (m_four (a0 := a2) (fun y2 => bN one0 (m_in (a := a3.toInt) (lo := 0) (hi := 9) (i64 a3) (by decide) (by decide) (fun y3 => bN one0 (m_in (a := a4.toInt) (lo := 1) (hi := 10) (i64 a4) (by decide) (by decide) (fun y4 => bNN one0 (absurd ⟨y1, y2, y3, y4⟩ nb)) (fun y4 => bNY rfl (h0M (lf_bad I hK (-2)))))) (fun y3 => bY rfl (h0M (lf_bad I hK (-2)))))) (fun y2 => bY rfl (h0M (lf_bad I hK (-2)))))) (fun y1 M0 h0M => bY rfl (h0M (lf_bad I hK (-2)))))
  unfold p_X_sign
  refine (x_place (a1 := a1) I.X I.R (fun y1 P0 h0P => bNY rfl (x_kind (a0 := a2) (fun y2 => bNY rfl (x_out (a0 := a3) (lo := 0) (hi := 9) (by decide) (by decide) (fun y3 => bNY rfl (x_out (a0 := a4) (lo := 1) (hi := 10) (by decide) (by decide) (fun y4 => bY rfl ?_) (fun y4 => bN one0 (h0P (xb (fun y => y4 y.2.2.2)))))) (fun y3 => bNN one0 (h0P (xb (fun y => y3 y.2.2.1)))))) (fun y2 => bNN one0 (h0P (xb (fun y => y2 y.2.1)))))) (fun y1 P0 h0P => bNN one0 (h0P (xb (fun y => y1 y.1)))))
  have hp := I.X.sg I.R
  have hm := I.M.sg I.R
  have rel := I.R.rel
  have hpl := I.R.pl.2
  have MP : ∀ r h', (sgd n a1 a2 (nSg n) → p_M_bad (-2) g (K r h')) → (¬ sgd n a1 a2 (nSg n) → nSg n < 6 → ∀ g', MS g' (un (un (un (un (un n (518 + 4 * nSg n) a1) (518 + 4 * nSg n + 1) a2) (518 + 4 * nSg n + 2) a3) (518 + 4 * nSg n + 3) a4) 673 (nI (nSg n + 1))) → frm (fun c => c = 1) g g' → K r h' (nI (nSg n)) g') → (¬ sgd n a1 a2 (nSg n) → nSg n = 6 → p_M_full g (K r h')) → p_M_sign a1 a2 a3 a4 g (K r h') := by
    intro r h' k0 k1 k2
    unfold p_M_sign
    refine (m_place I.M I.R (fun _ M0 h0M => bN one0 (m_four  (fun _ => bN one0 (m_in (lo := 0) (hi := 9) (i64 _) (by decide) (by decide) (fun _ => bN one0 (m_in (lo := 1) (hi := 10) (i64 _) (by decide) (by decide) (fun _ => bNN one0 ?_) (fun z => absurd y4 z))) (fun z => absurd y3 z))) (fun z => absurd y2 z))) (fun z => absurd y1 z))
    refine m_isSigned I.M I.R (fun y => bN one0 (k0 y)) (fun y => bY rfl ?_)
    unfold p_M_signs
    rw [hm.1]
    refine beqN (b := 6) rfl rfl (by omega) (by omega) (fun c => ?_) (fun c => k2 y c)
    have i0 : (518 : Int32) + 4 * nI (nSg n) = nI (518 + 4 * nSg n) := by rw [show (4 : Int32) = nI 4 from rfl, show (518 : Int32) = nI 518 from rfl, nI_mul, nI_add]
    rw [i0, nI_1, show nI (518 + 4 * nSg n) + 2 = nI (518 + 4 * nSg n + 2) from nI_add _ 2, show nI (518 + 4 * nSg n) + 3 = nI (518 + 4 * nSg n + 3) from nI_add _ 3, nI_clamp (by omega), nI_clamp (by omega), nI_clamp (by omega), nI_clamp (by omega)]
    refine ⟨vp_in_nI (by omega) (by omega), fun h94 e94 => ⟨vp_in_nI (by omega) (by omega), fun h110 e110 => ⟨vp_in_nI (by omega) (by omega), fun h126 e126 => ⟨vp_in_nI (by omega) (by omega), fun h143 e143 h155 e155 => ?_⟩⟩⟩⟩
    have M143 : MS h143 (un (un (un (un n (518 + 4 * nSg n) a1) (518 + 4 * nSg n + 1) a2) (518 + 4 * nSg n + 2) a3) (518 + 4 * nSg n + 3) a4) := by
      rw [e143, e126, e110, e94]
      exact I.M.up.up.up.up
    have e1 : gi h143 1 673 + 1 = nI (nSg n + 1) := by
      rw [M143 673 (by omega), un_n (by omega), un_n (by omega), un_n (by omega), un_n (by omega), I.R.sg.1]
      exact nI_1 _
    rw [e1] at e155
    refine k1 y (by omega) h155 (by rw [e155]; exact M143.up) ?_
    have q1 : frm (fun c => c = 1) g h94 := e94 ▸ frm.si rfl
    have q2 : frm (fun c => c = 1) h94 h110 := e110 ▸ frm.si rfl
    have q3 : frm (fun c => c = 1) h110 h126 := e126 ▸ frm.si rfl
    have q4 : frm (fun c => c = 1) h126 h143 := e143 ▸ frm.si rfl
    have q5 : frm (fun c => c = 1) h143 h155 := e155 ▸ frm.si rfl
    exact (((q1.trans q2).trans q3).trans q4).trans q5
  refine s_hasSign I.X I.R (fun y => bN one0 (fun h7 e7 => hF _ _ (MP _ _ (fun _ => by subst e7; exact lf_bad I hK (-2)) (fun z => absurd y z) (fun z => absurd y z)))) (fun y => bY rfl ?_)
  rw [hp.1]
  refine blt (b := 6) rfl rfl (by omega) (by omega) (fun c => ?_) (fun c h7 e7 => hF _ _ (MP _ _ (fun z => absurd z y) (fun _ z => by omega) (fun _ _ => by subst e7; exact lf_full I hK)))
  rw [nI_clamp (by omega), show 20 + 1 + 1 * nSg n = 21 + nSg n by omega]
  refine ⟨vp_in_nI (by omega) (by omega), fun h96 e96 h101 e101 h106 e106 h112 e112 => s_changed (fun h128 e128 => ?_)⟩
  have X112 : XS h112 3 (un (un (un (un n (518 + 4 * nSg n) a1) (518 + 4 * nSg n + 1) a2) (518 + 4 * nSg n + 2) a3) (518 + 4 * nSg n + 3) a4) := by
    have c0 := c_sign (nSg n) c 0 (by omega)
    rw [Nat.add_zero] at c0
    have c1 := c_sign (nSg n) c 1 (by omega)
    have c2 := c_sign (nSg n) c 2 (by omega)
    have c3 := c_sign (nSg n) c 3 (by omega)
    rw [e112, e106, e101, e96]
    exact (((I.X.up2 (k := 518 + 4 * nSg n) (by omega) (by rw [c0.1]; omega) c0.2).up2 (by omega) (by rw [c1.1]; omega) c1.2).up2 (by omega) (by rw [c2.1]; omega) c2.2).up2 (by omega) (by rw [c3.1]; omega) c3.2
  have s21 : sX (21 + nSg n) := by unfold sX; omega
  have f112 : frm sX h h112 := by
    have q1 : frm sX h h96 := e96 ▸ frm.si s21
    have q2 : frm sX h96 h101 := e101 ▸ frm.si s21
    have q3 : frm sX h101 h106 := e106 ▸ frm.si s21
    have q4 : frm sX h106 h112 := e112 ▸ frm.si s21
    exact ((q1.trans q2).trans q3).trans q4
  have g32 : gi (chg h112) 3 2 = nI (nSg n) := by
    have := X112.chg.rd (k := 673) (by omega) (c_many 2 (by omega))
    rw [un_n (by omega), un_n (by omega), un_n (by omega), un_n (by omega), I.R.sg.1] at this
    exact this
  rw [g32] at e128 ⊢
  rw [nI_1] at e128
  refine hF _ _ (MP _ _ (fun z => absurd z y) (fun _ _ g' Mg fg => hK _ _ _ ⟨_, I.st ?_ ?_ ?_ fg ?_ Mg ?_⟩) (fun _ z => by omega))
  · exact (f112.trans chg_f).trans (e128 ▸ frm.si (show sX 3 by unfold sX; omega))
  · rw [e128, gi_c (by omega)]
    exact chg_z.1
  · rw [e128, gi_c (by omega)]
    exact chg_z.2
  · rw [e128]
    exact X112.chg.up2 (k := 673) (by omega) (by rw [(c_many 2 (by omega)).1]) (c_many 2 (by omega)).2
  · have rk : ∀ i x, i < 4 → (i = 0 → rg 5 x) → (i = 1 → rg 3 x) → (i = 2 → rg 9 x) → (i = 3 → rg 10 x) → rgk (518 + 4 * nSg n + i) x := by
      intro i x hi q0 q1 q2 q3
      unfold rgk
      rw [if_neg (by omega), if_neg (by omega), if_neg (by omega), if_neg (by omega), if_neg (by omega), if_neg (by omega), if_neg (by omega), if_pos (by omega), show 518 + 4 * nSg n + i - 518 = 4 * nSg n + i by omega, show (4 * nSg n + i) % 4 = i by omega]
      rcases (show i = 0 ∨ i = 1 ∨ i = 2 ∨ i = 3 by omega) with e | e | e | e
      · rw [if_pos e]
        exact q0 e
      · rw [if_neg (by omega), if_pos e]
        exact q1 e
      · rw [if_neg (by omega), if_neg (by omega), if_pos e]
        exact q2 e
      · rw [if_neg (by omega), if_neg (by omega), if_neg (by omega)]
        exact q3 e
    obtain ⟨p, pu, ep⟩ := ir_p y1
    obtain ⟨k, kl, ku, ek⟩ := ir_m (lo := 0) (hi := 3) y2
    obtain ⟨f, fl, fu, ef⟩ := ir_m (lo := 0) (hi := 9) y3
    obtain ⟨d, dl', du, ed⟩ := ir_m (lo := 1) (hi := 10) y4
    have r1 : rgk (518 + 4 * nSg n) a1 := rk 0 a1 (by omega) (fun _ => by rw [ep]; exact rg_of (by unfold nP at pu; omega)) (fun e => by omega) (fun e => by omega) (fun e => by omega)
    have r2 : rgk (518 + 4 * nSg n + 1) a2 := rk 1 a2 (by omega) (fun e => by omega) (fun _ => by rw [ek]; exact rg_of ku) (fun e => by omega) (fun e => by omega)
    have r3 : rgk (518 + 4 * nSg n + 2) a3 := rk 2 a3 (by omega) (fun e => by omega) (fun e => by omega) (fun _ => by rw [ef]; exact rg_of fu) (fun e => by omega)
    have r4 : rgk (518 + 4 * nSg n + 3) a4 := rk 3 a4 (by omega) (fun e => by omega) (fun e => by omega) (fun e => by omega) (fun _ => by rw [ed]; exact rg_of du)
    have r5 : rgk 673 (nI (nSg n + 1)) := by
      unfold rgk
      simp only [show ¬ (673 : Nat) < 6 by omega, show ¬ (673 : Nat) < 16 by omega, show ¬ (673 : Nat) < 20 by omega, show ¬ (673 : Nat) < 22 by omega, show ¬ (673 : Nat) < 26 by omega, show ¬ (673 : Nat) < 34 by omega, show ¬ (673 : Nat) < 518 by omega, show ¬ (673 : Nat) < 542 by omega, show ¬ (673 : Nat) = 543 by omega, show ¬ (673 : Nat) < 545 by omega, show ¬ (673 : Nat) < 575 by omega, show ¬ (673 : Nat) < 611 by omega, show ¬ (673 : Nat) < 671 by omega, show ¬ (673 : Nat) = 672 by omega, if_false]
      exact rg_of (by omega)
    have t6 := I.R.te.2
    refine RG.of (RG.set (RG.set (RG.set (RG.set (RG.set I.R.k r1) r2) r3) r4) r5) ?_
    refine REL.oth (REL.oth (REL.oth (REL.oth (rel.oth t6 (by omega)) ?_ (by omega)) ?_ (by omega)) ?_ (by omega)) ?_ (by omega)
    all_goals
      repeat rw [un_n (by omega)]
      exact t6
theorem sim_teller {h g : Hs} {a1 a2 a3 a4 a5 : Int32} {K : Int32 → Hs → Int32 → Hs → Prop} {F : Int32 → Hs → Prop} (I : Inv h g) (hK : ∀ r h' g', Inv h' g' → K r h' r g') (hF : ∀ r h', p_M_teller a1 a2 a3 a4 a5 g (K r h') → F r h') : p_X_teller a1 a2 a3 a4 a5 h F := by
  obtain ⟨n, I⟩ := I
  have xb : ¬ (ir a1.toInt 0 5 ∧ ir a2.toInt 0 ((nLo n : Int) - 1) ∧ ir a3.toInt 0 119 ∧ whr n a4 ∧ ir a5.toInt 1 9) → p_X_bad h (fun r h' => F r h') := by
    intro nb h7 e7
    subst e7
    refine hF _ _ ?_
    unfold p_M_teller
    exact (m_in (a := a1.toInt) (lo := 0) (hi := 5) (i64 a1) (by decide) (by decide) (fun y1 M0 h0M => bN one0 (m_lot (a1 := a2) I.M I.R (fun y2 => bN one0 (m_month (a0 := a3) (fun y3 => bN one0 (m_where (a1 := a4) I.M I.R (fun y4 => bN one0 (m_in (a := a5.toInt) (lo := 1) (hi := 9) (i64 a5) (by decide) (by decide) (fun y5 => bNN one0 (absurd ⟨y1, y2, y3, y4, y5⟩ nb)) (fun y5 => bNY rfl (h0M (lf_bad I hK (-2)))))) (fun y4 => bY rfl (h0M (lf_bad I hK (-2)))))) (fun y3 => bY rfl (h0M (lf_bad I hK (-2)))))) (fun y2 => bY rfl (h0M (lf_bad I hK (-2)))))) (fun y1 M0 h0M => bY rfl (h0M (lf_bad I hK (-2)))))
  unfold p_X_teller
  refine (x_out (a0 := a1) (lo := 0) (hi := 5) (by decide) (by decide) (fun y1 P0 h0P => bNY rfl (x_lot (a1 := a2) I.X I.R (fun y2 => bNY rfl (x_month (a0 := a3) (fun y3 => bNY rfl (x_where (a1 := a4) I.X I.R (fun y4 => bY rfl (x_out (a0 := a5) (lo := 1) (hi := 9) (by decide) (by decide) (fun y5 => bY rfl ?_) (fun y5 => bN one0 (xb (fun y => y5 y.2.2.2.2))))) (fun y4 => bN one0 (h0P (xb (fun y => y4 y.2.2.2.1)))))) (fun y3 => bNN one0 (h0P (xb (fun y => y3 y.2.2.1)))))) (fun y2 => bNN one0 (h0P (xb (fun y => y2 y.2.1)))))) (fun y1 P0 h0P => bNN one0 (h0P (xb (fun y => y1 y.1)))))
  have hp := I.X.te I.R
  have hm := I.M.te I.R
  have rel := I.R.rel
  have hpl := I.R.pl.2
  have MP : ∀ r h', (nTe n < 6 → ∀ g', MS g' (un (un (un (un (un (un n (545 + 5 * nTe n) a1) (545 + 5 * nTe n + 1) a2) (545 + 5 * nTe n + 2) a3) (545 + 5 * nTe n + 3) a4) (545 + 5 * nTe n + 4) a5) 674 (nI (nTe n + 1))) → frm (fun c => c = 1) g g' → K r h' (nI (nTe n)) g') → (nTe n = 6 → p_M_full g (K r h')) → p_M_teller a1 a2 a3 a4 a5 g (K r h') := by
    intro r h' k1 k2
    unfold p_M_teller
    refine (m_in (lo := 0) (hi := 5) (i64 _) (by decide) (by decide) (fun _ M0 h0M => bN one0 (m_lot I.M I.R (fun _ => bN one0 (m_month  (fun _ => bN one0 (m_where I.M I.R (fun _ => bN one0 (m_in (lo := 1) (hi := 9) (i64 _) (by decide) (by decide) (fun _ => bNN one0 ?_) (fun z => absurd y5 z))) (fun z => absurd y4 z))) (fun z => absurd y3 z))) (fun z => absurd y2 z))) (fun z => absurd y1 z))
    unfold p_M_tellers
    rw [hm.1]
    refine beqN (b := 6) rfl rfl (by omega) (by omega) (fun c => ?_) (fun c => k2 c)
    have i0 : (545 : Int32) + 5 * nI (nTe n) = nI (545 + 5 * nTe n) := by rw [show (5 : Int32) = nI 5 from rfl, show (545 : Int32) = nI 545 from rfl, nI_mul, nI_add]
    rw [i0, nI_1, show nI (545 + 5 * nTe n) + 2 = nI (545 + 5 * nTe n + 2) from nI_add _ 2, show nI (545 + 5 * nTe n) + 3 = nI (545 + 5 * nTe n + 3) from nI_add _ 3, show nI (545 + 5 * nTe n) + 4 = nI (545 + 5 * nTe n + 4) from nI_add _ 4, nI_clamp (by omega), nI_clamp (by omega), nI_clamp (by omega), nI_clamp (by omega), nI_clamp (by omega)]
    refine ⟨vp_in_nI (by omega) (by omega), fun h94 e94 => ⟨vp_in_nI (by omega) (by omega), fun h110 e110 => ⟨vp_in_nI (by omega) (by omega), fun h126 e126 => ⟨vp_in_nI (by omega) (by omega), fun h143 e143 => ⟨vp_in_nI (by omega) (by omega), fun h153 e153 h165 e165 => ?_⟩⟩⟩⟩⟩
    have M153 : MS h153 (un (un (un (un (un n (545 + 5 * nTe n) a1) (545 + 5 * nTe n + 1) a2) (545 + 5 * nTe n + 2) a3) (545 + 5 * nTe n + 3) a4) (545 + 5 * nTe n + 4) a5) := by
      rw [e153, e143, e126, e110, e94]
      exact I.M.up.up.up.up.up
    have e1 : gi h153 1 674 + 1 = nI (nTe n + 1) := by
      rw [M153 674 (by omega), un_n (by omega), un_n (by omega), un_n (by omega), un_n (by omega), un_n (by omega), I.R.te.1]
      exact nI_1 _
    rw [e1] at e165
    refine k1 (by omega) h165 (by rw [e165]; exact M153.up) ?_
    have q1 : frm (fun c => c = 1) g h94 := e94 ▸ frm.si rfl
    have q2 : frm (fun c => c = 1) h94 h110 := e110 ▸ frm.si rfl
    have q3 : frm (fun c => c = 1) h110 h126 := e126 ▸ frm.si rfl
    have q4 : frm (fun c => c = 1) h126 h143 := e143 ▸ frm.si rfl
    have q5 : frm (fun c => c = 1) h143 h153 := e153 ▸ frm.si rfl
    have q6 : frm (fun c => c = 1) h153 h165 := e165 ▸ frm.si rfl
    exact ((((q1.trans q2).trans q3).trans q4).trans q5).trans q6
  rw [hp.1]
  refine blt (b := 6) rfl rfl (by omega) (by omega) (fun c => ?_) (fun c h7 e7 => hF _ _ (MP _ _ (fun z => by omega) (fun _ => by subst e7; exact lf_full I hK)))
  rw [nI_clamp (by omega), show 28 + 1 + 1 * nTe n = 29 + nTe n by omega]
  refine ⟨vp_in_nI (by omega) (by omega), fun h92 e92 h97 e97 h102 e102 h108 e108 h114 e114 => s_changed (fun h130 e130 => ?_)⟩
  have X114 : XS h114 3 (un (un (un (un (un n (545 + 5 * nTe n) a1) (545 + 5 * nTe n + 1) a2) (545 + 5 * nTe n + 2) a3) (545 + 5 * nTe n + 3) a4) (545 + 5 * nTe n + 4) a5) := by
    have c0 := c_tell (nTe n) c 0 (by omega)
    rw [Nat.add_zero] at c0
    have c1 := c_tell (nTe n) c 1 (by omega)
    have c2 := c_tell (nTe n) c 2 (by omega)
    have c3 := c_tell (nTe n) c 3 (by omega)
    have c4 := c_tell (nTe n) c 4 (by omega)
    rw [e114, e108, e102, e97, e92]
    exact ((((I.X.up2 (k := 545 + 5 * nTe n) (by omega) (by rw [c0.1]; omega) c0.2).up2 (by omega) (by rw [c1.1]; omega) c1.2).up2 (by omega) (by rw [c2.1]; omega) c2.2).up2 (by omega) (by rw [c3.1]; omega) c3.2).up2 (by omega) (by rw [c4.1]; omega) c4.2
  have s29 : sX (29 + nTe n) := by unfold sX; omega
  have f114 : frm sX h h114 := by
    have q1 : frm sX h h92 := e92 ▸ frm.si s29
    have q2 : frm sX h92 h97 := e97 ▸ frm.si s29
    have q3 : frm sX h97 h102 := e102 ▸ frm.si s29
    have q4 : frm sX h102 h108 := e108 ▸ frm.si s29
    have q5 : frm sX h108 h114 := e114 ▸ frm.si s29
    exact (((q1.trans q2).trans q3).trans q4).trans q5
  have g33 : gi (chg h114) 3 3 = nI (nTe n) := by
    have := X114.chg.rd (k := 674) (by omega) (c_many 3 (by omega))
    rw [un_n (by omega), un_n (by omega), un_n (by omega), un_n (by omega), un_n (by omega), I.R.te.1] at this
    exact this
  rw [g33] at e130 ⊢
  rw [nI_1] at e130
  refine hF _ _ (MP _ _ (fun _ g' Mg fg => hK _ _ _ ⟨_, I.st ?_ ?_ ?_ fg ?_ Mg ?_⟩) (fun z => by omega))
  · exact (f114.trans chg_f).trans (e130 ▸ frm.si (show sX 3 by unfold sX; omega))
  · rw [e130, gi_c (by omega)]
    exact chg_z.1
  · rw [e130, gi_c (by omega)]
    exact chg_z.2
  · rw [e130]
    exact X114.chg.up2 (k := 674) (by omega) (by rw [(c_many 3 (by omega)).1]) (c_many 3 (by omega)).2
  · have rk : ∀ i x, i < 5 → (i = 0 → rg 5 x) → (i = 1 → rg 3 x) → (i = 2 → rg 119 x) → (i = 3 → rg 7 x) → (i = 4 → rg 9 x) → rgk (545 + 5 * nTe n + i) x := by
      intro i x hi q0 q1 q2 q3 q4
      unfold rgk
      rw [if_neg (by omega), if_neg (by omega), if_neg (by omega), if_neg (by omega), if_neg (by omega), if_neg (by omega), if_neg (by omega), if_neg (by omega), if_neg (by omega), if_neg (by omega), if_pos (by omega), show 545 + 5 * nTe n + i - 545 = 5 * nTe n + i by omega, show (5 * nTe n + i) % 5 = i by omega]
      rcases (show i = 0 ∨ i = 1 ∨ i = 2 ∨ i = 3 ∨ i = 4 by omega) with e | e | e | e | e
      · rw [if_pos e]
        exact q0 e
      · rw [if_neg (by omega), if_pos e]
        exact q1 e
      · rw [if_neg (by omega), if_neg (by omega), if_pos e]
        exact q2 e
      · rw [if_neg (by omega), if_neg (by omega), if_neg (by omega), if_pos e]
        exact q3 e
      · rw [if_neg (by omega), if_neg (by omega), if_neg (by omega), if_neg (by omega)]
        exact q4 e
    have hlo := I.R.lo.2
    obtain ⟨s, sl', su, es⟩ := ir_m (lo := 0) (hi := 5) y1
    obtain ⟨l, lu, el⟩ := ir_p y2
    obtain ⟨m, ml, mu, em⟩ := ir_m (lo := 0) (hi := 119) y3
    obtain ⟨w, wl, wu, ew⟩ := ir_m (lo := 1) (hi := 9) y5
    have r1 : rgk (545 + 5 * nTe n) a1 := rk 0 a1 (by omega) (fun _ => by rw [es]; exact rg_of su) (fun e => by omega) (fun e => by omega) (fun e => by omega) (fun e => by omega)
    have r2 : rgk (545 + 5 * nTe n + 1) a2 := rk 1 a2 (by omega) (fun e => by omega) (fun _ => by rw [el]; exact rg_of (by unfold nLo at lu; omega)) (fun e => by omega) (fun e => by omega) (fun e => by omega)
    have r3 : rgk (545 + 5 * nTe n + 2) a3 := rk 2 a3 (by omega) (fun e => by omega) (fun e => by omega) (fun _ => by rw [em]; exact rg_of mu) (fun e => by omega) (fun e => by omega)
    have r4 : rgk (545 + 5 * nTe n + 3) a4 := rk 3 a4 (by omega) (fun e => by omega) (fun e => by omega) (fun e => by omega) (fun _ => by
      rcases y4 with y | y | y
      · obtain ⟨p, pu, ep⟩ := ir_p y
        rw [ep]
        exact rg_of (by unfold nP at pu; omega)
      · rw [y]
        exact rg_of (m := 6) (by omega)
      · rw [y]
        exact rg_of (m := 7) (by omega)) (fun e => by omega)
    have r5 : rgk (545 + 5 * nTe n + 4) a5 := rk 4 a5 (by omega) (fun e => by omega) (fun e => by omega) (fun e => by omega) (fun e => by omega) (fun _ => by rw [ew]; exact rg_of wu)
    have r6 : rgk 674 (nI (nTe n + 1)) := by
      unfold rgk
      simp only [show ¬ (674 : Nat) < 6 by omega, show ¬ (674 : Nat) < 16 by omega, show ¬ (674 : Nat) < 20 by omega, show ¬ (674 : Nat) < 22 by omega, show ¬ (674 : Nat) < 26 by omega, show ¬ (674 : Nat) < 34 by omega, show ¬ (674 : Nat) < 518 by omega, show ¬ (674 : Nat) < 542 by omega, show ¬ (674 : Nat) = 543 by omega, show ¬ (674 : Nat) < 545 by omega, show ¬ (674 : Nat) < 575 by omega, show ¬ (674 : Nat) < 611 by omega, show ¬ (674 : Nat) < 671 by omega, show ¬ (674 : Nat) = 672 by omega, if_false]
      exact rg_of (by omega)
    refine RG.of (RG.set (RG.set (RG.set (RG.set (RG.set (RG.set I.R.k r1) r2) r3) r4) r5) r6) ⟨fun t ht => ?_, fun p hp' q hq => ?_⟩
    · rw [un_s, nn_nI (by omega)] at ht
      rw [un_n (show 672 ≠ 674 by omega), un_n (show 672 ≠ 545 + 5 * nTe n + 4 by omega), un_n (show 672 ≠ 545 + 5 * nTe n + 3 by omega), un_n (show 672 ≠ 545 + 5 * nTe n + 2 by omega), un_n (show 672 ≠ 545 + 5 * nTe n + 1 by omega), un_n (show 672 ≠ 545 + 5 * nTe n by omega)]
      rw [un_n (show 545 + 5 * t + 1 ≠ 674 by omega), un_n (show 545 + 5 * t + 1 ≠ 545 + 5 * nTe n + 4 by omega), un_n (show 545 + 5 * t + 1 ≠ 545 + 5 * nTe n + 3 by omega), un_n (show 545 + 5 * t + 1 ≠ 545 + 5 * nTe n + 2 by omega)]
      by_cases e : t = nTe n
      · rw [e, un_s, el, nn_nI (by unfold nLo at lu; omega)]
        exact lu
      · rw [un_n (show 545 + 5 * t + 1 ≠ 545 + 5 * nTe n + 1 by omega), un_n (show 545 + 5 * t + 1 ≠ 545 + 5 * nTe n by omega)]
        exact rel.1 t (by show t < nTe n; omega)
    · have e0 : ∀ j, 575 ≤ j → j < 674 → un (un (un (un (un (un n (545 + 5 * nTe n) a1) (545 + 5 * nTe n + 1) a2) (545 + 5 * nTe n + 2) a3) (545 + 5 * nTe n + 3) a4) (545 + 5 * nTe n + 4) a5) 674 (nI (nTe n + 1)) j = n j := fun j h1 h2 => by
        rw [un_n (by omega), un_n (by omega), un_n (by omega), un_n (by omega), un_n (by omega), un_n (by omega)]
      rw [e0 _ (by omega) (by omega), e0 _ (by omega) (by omega), e0 671 (by omega) (by omega)]
      exact rel.2 p hp' q hq
