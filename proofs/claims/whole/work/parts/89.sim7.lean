/-! ===== fault, at, must, hunger ===== -/
theorem Iv.liv {h h' g g' : Hs} {n : Nat → Int32} (I : Iv h g n) (O : LO h' n) (fx : frm lvS h h') (fm : smf g g') : Iv h' g' n := by
  have r := I.rf
  refine I.up (I.X.frm fx (fun c a b => lvS_3 a (by omega))) (I.M.smf fm) I.R ?_ (fun c hc => fx.1 c (by unfold oX at hc; unfold lvS; omega)) fm.q (I.fr.frm fx) (I.wf.frm fx) (I.ko.frm fx (fun c hc => by unfold lvS; omega)) (Or.inr O) ?_
  · unfold RFD at r ⊢
    rw [fx.1 0 (by unfold lvS; omega), fx.1 0 (by unfold lvS; omega), fx.1 0 (by unfold lvS; omega), fm.1 4 (by omega), fm.1 4 (by omega), fm.1 4 (by omega)]
    exact r
  · rcases I.wo with y | y
    · left
      rw [fx.1 1 (by unfold lvS; omega)]
      exact y
    · exact Or.inr (y.frm I.R fx (fun c a b => by unfold lvS; omega))
theorem s_lref {h g : Hs} {n : Nat → Int32} {Q : Hs → Prop} (I : Iv h g n) (hQ : ∀ h', Iv h' g n → LO h' n → Q h') : p_Lives_refresh h Q := s_Lrefresh I.X I.R I.lo (fun h' O _ fx => hQ h' (I.liv O fx smf.refl) O)
theorem s_hasFault {h g : Hs} {n : Nat → Int32} {s : Nat} {a1 : Int32} {Q : Int32 → Hs → Prop} (I : Iv h g n) (e : a1 = nI s) (hs : s < 4) (h0 : snd n s → ∀ h', Iv h' g n → LO h' n → Q 0 h') (h1 : ¬ snd n s → ∀ h', Iv h' g n → LO h' n → Q 1 h') : p_X_hasFault a1 h Q := by
  subst e
  unfold p_X_hasFault
  refine s_lref I (fun h' I' O => ⟨vp_in_nI hs (by omega), fun P28 h28 => ?_⟩)
  rw [nI_clamp (by omega)]
  exact ⟨fun c => h28 _ ⟨zb0, h0 ((O.fault hs).mp c) h' I' O⟩, fun c => h28 _ ⟨zb1, h1 (fun y => c ((O.fault hs).mpr y)) h' I' O⟩⟩
theorem r_laysOne {n : Nat → Int32} {s : Nat} {a1 : Int32} {g : Hs} {Q : Int32 → Hs → Prop} (M : MS g n) (R : RG n) (e : a1 = nI s) (hs : s < 4) (h1 : snd n s → 0 < nP n → ∀ g', RA g' n → RCH g' n (fun _ => s) → smf g g' → Q 1 g') (h0 : ¬ (snd n s ∧ 0 < nP n) → ∀ g', smf g g' → Q 0 g') : p_M_laysOne a1 g Q := by
  subst e
  have hl4 := R.lo.2
  unfold p_M_laysOne
  refine r_readAll M R (fun g1 A1 f1 => ?_)
  intro P6 h6
  refine lpH (fun k q => (∀ l, l < k → gi q 11 l = nI s) ∧ frm (fun c => c = 11) g1 q) 4 ⟨fun l hl => by omega, frm.refl⟩ ?_ ?_
  · intro q hI
    refine h6 _ _ (bY (nI_le (a := 4) (b := 4) (by omega) (by omega)) ⟨vp_in_nI hs (by omega), fun P45 h45 P44 h44 => ?_⟩)
    have sq : smf g q := f1.smf.trans (hI.2.smf (fun c hc => Or.inl hc))
    have Aq := A1.frm hI.2 (fun c a b => by omega)
    have Mq := M.smf sq
    rw [nI_clamp (by omega)]
    rcases snd_dec n s with y | y
    · rw [((Aq s hs).1 y).1]
      refine bN one0 ?_
      unfold p_M_places
      rw [(Mq.pl R).1]
      have h6' := R.pl.2
      refine ble (b := 0) rfl nI_lit0 (by unfold nP; omega) (by omega) (fun z => h44 (h45 _ ⟨zb0, h0 (fun w => by omega) q sq⟩)) (fun z => h45 _ ⟨zb1, h1 y z q Aq (fun l hl => ⟨hI.1 l (by unfold nLo at hl; omega), hs, y⟩) sq⟩)
    · rw [(Aq s hs).2 y]
      exact bY rfl (h44 (h45 _ ⟨zb0, h0 (fun w => y w.1) q sq⟩))
  · intro k q hk hI nx
    refine h6 _ _ (bN (nI_ge (b := 4) hk (by omega)) ⟨vp_in_nI hk (by omega), fun h17 e17 a2 e2 => ?_⟩)
    rw [nI_1] at e2
    rw [nI_clamp (by omega)] at e17
    subst e2 e17
    refine nx _ ⟨fun l hl => ?_, hI.2.trans (frm.si rfl)⟩
    by_cases e : l = k
    · subst e
      rw [gi_s]
    · rw [gi_k e]
      exact hI.1 l (by omega)
theorem Iv.mf {h g g' : Hs} {n : Nat → Int32} (I : Iv h g n) (fm : smf g g') : Iv h g' n := I.qu (S := fun _ => False) frm.refl (fun c hc => absurd hc (fun x => x)) fm
theorem sim_fault {h g : Hs} {a1 : Int32} {K : Int32 → Hs → Int32 → Hs → Prop} {F : Int32 → Hs → Prop} (I : Inv h g) (hK : ∀ r h' g', Inv h' g' → K r h' r g') (hF : ∀ r h', p_M_fault a1 g (K r h') → F r h') : p_X_fault a1 h F := by
  obtain ⟨n, I⟩ := I
  have xb : ¬ (ir a1.toInt 0 3) → p_X_bad h (fun r h' => F r h') := by
    intro nb h7 e7
    subst e7
    refine hF _ _ ?_
    unfold p_M_fault
    exact (m_four (a0 := a1) (fun y1 => bNN one0 (absurd y1 nb)) (fun y1 => bNY rfl (lf_bad I hK (-2))))
  unfold p_X_fault
  refine (x_four (a0 := a1) (fun y1 => bY rfl ?_) (fun y1 => bN one0 (xb (fun y => y1 y))))
  obtain ⟨s, sl, su, es⟩ := ir_m (lo := 0) (hi := 3) y1
  subst es
  refine s_lref I (fun h16 I16 O16 => ⟨vp_in_nI (by omega) (by omega), hF _ _ ?_⟩)
  rw [nI_clamp (by omega)]
  unfold p_M_fault
  refine (m_four  (fun _ => bNN one0 ?_) (fun z => absurd y1 z))
  refine r_story I.M I.R rfl (by omega) (fun j hj g' y8 fg P30 h30 => bY rfl (h30 _ ?_)) (fun sn g' _ _ _ fg P30 h30 => bN one0 (h30 _ ?_))
  · rw [y8, (O16.1 s (by omega)).1 j hj]
    exact hK _ _ _ ⟨n, I16.mf fg.raf.smf⟩
  · rw [(O16.tale (by omega) sn).1]
    exact hK _ _ _ ⟨n, I16.mf fg.raf.smf⟩
theorem lf_no2 {h g g' : Hs} {n : Nat → Int32} {K : Int32 → Hs → Int32 → Hs → Prop} {P : Int32 → Hs → Prop} (I : Iv h g n) (fm : smf g g') (hK : ∀ r h' g', Inv h' g' → K r h' r g') (hP : ∀ t q, K (-3) (si h 0 10 (gi h 0 10 + 1)) t q → P t q) : p_M_no g' (fun r q => P r q) := by
  intro h9 e
  exact hP _ _ (lf_no (I.mf fm) hK h9 e)
theorem sim_at {h g : Hs} {a1 a2 : Int32} {K : Int32 → Hs → Int32 → Hs → Prop} {F : Int32 → Hs → Prop} (I : Inv h g) (hK : ∀ r h' g', Inv h' g' → K r h' r g') (hF : ∀ r h', p_M_at a1 a2 g (K r h') → F r h') : p_X_at a1 a2 h F := by
  obtain ⟨n, I⟩ := I
  have xb : ¬ (ir a1.toInt 0 3 ∧ ir a2.toInt 0 119) → p_X_bad h (fun r h' => F r h') := by
    intro nb h7 e7
    subst e7
    refine hF _ _ ?_
    unfold p_M_at
    exact (m_four (a0 := a1) (fun y1 M0 h0M => bN one0 (m_month (a0 := a2) (fun y2 => bNN one0 (absurd ⟨y1, y2⟩ nb)) (fun y2 => bNY rfl (h0M (lf_bad I hK (-2)))))) (fun y1 M0 h0M => bY rfl (h0M (lf_bad I hK (-2)))))
  unfold p_X_at
  refine (x_four (a0 := a1) (fun y1 P0 h0P => bNY rfl (x_month (a0 := a2) (fun y2 => bY rfl ?_) (fun y2 => bN one0 (h0P (xb (fun y => y2 y.2)))))) (fun y1 P0 h0P => bNN one0 (h0P (xb (fun y => y1 y.1)))))
  obtain ⟨s, sl, su, es⟩ := ir_m (lo := 0) (hi := 3) y1
  subst es
  obtain ⟨m, ml, mu, em⟩ := ir_m (lo := 0) (hi := 119) y2
  subst em
  have hp := I.X.pl I.R
  have MA : ∀ r h', (snd n s → 0 < nP n → ∀ g', smf g g' → K r h' (nI (Wh n s m)) g') → (¬ (snd n s ∧ 0 < nP n) → ∀ g', smf g g' → ∀ P47 : Int32 → Hs → Prop, (∀ t q, K r h' t q → P47 t q) → p_M_no g' (fun r q => P47 r q)) → p_M_at (nI s) (nI m) g (K r h') := by
    intro r h' k1 k0
    unfold p_M_at
    refine (m_four  (fun _ M0 h0M => bN one0 (m_month  (fun _ => bNN one0 ?_) (fun z => absurd y2 z))) (fun z => absurd y1 z))
    refine r_laysOne I.M I.R rfl (by omega) (fun sn pp g' A C fm P47 h47 => bN one0 ?_) (fun no g' fm P47 h47 => bY rfl (k0 no g' fm P47 h47))
    have ek : (120 : Int32) * nI s + nI m = nI (120 * s + m) := by rw [show (120 : Int32) = nI 120 from rfl, nI_mul, nI_add]
    rw [ek, nI_clamp (by omega), ((A s (by omega)).1 sn).2.2.2 m (by omega)]
    exact ⟨vp_in_nI (by omega) (by omega), h47 _ _ (k1 sn pp g' fm)⟩
  intro P37 h37
  have no : ∀ q, Iv q g n → ¬ (snd n s ∧ 0 < nP n) → P37 q := fun q Iq nn => h37 q (fun h7 e7 => hF _ _ (MA _ _ (fun sn pp => absurd ⟨sn, pp⟩ nn) (fun _ g' fm P47 h47 => lf_no2 Iq fm hK (by subst e7; exact h47))))
  rw [hp.1]
  refine beq (b := 0) rfl nI_lit0 (by omega) (by omega) (fun z => no h I (by omega)) (fun z => s_hasFault I rfl (by omega) (fun sn h' I' O => bY rfl ?_) (fun sn h' I' O => bN one0 (no h' I' (fun w => sn w.1))))
  rw [nI_clamp (by omega), nI_clamp (by omega), (O.tale (by omega) sn).2.2.2.1 m (by omega)]
  exact ⟨vp_in_nI (by omega) (by omega), vp_in_nI (by omega) (by omega), hF _ _ (MA _ _ (fun _ _ g' fm => hK _ _ _ ⟨n, I'.mf fm⟩) (fun w => absurd ⟨sn, by omega⟩ w))⟩
theorem sim_must {h g : Hs} {a1 a2 a3 : Int32} {K : Int32 → Hs → Int32 → Hs → Prop} {F : Int32 → Hs → Prop} (I : Inv h g) (hK : ∀ r h' g', Inv h' g' → K r h' r g') (hF : ∀ r h', p_M_must a1 a2 a3 g (K r h') → F r h') : p_X_must a1 a2 a3 h F := by
  obtain ⟨n, I⟩ := I
  have xb : ¬ (ir a1.toInt 0 3 ∧ ir a2.toInt 0 ((nP n : Int) - 1) ∧ ir a3.toInt 0 3) → p_X_bad h (fun r h' => F r h') := by
    intro nb h7 e7
    subst e7
    refine hF _ _ ?_
    unfold p_M_must
    exact (m_four (a0 := a1) (fun y1 M0 h0M => bN one0 (m_place (a1 := a2) I.M I.R (fun y2 => bN one0 (m_four (a0 := a3) (fun y3 => bNN one0 (absurd ⟨y1, y2, y3⟩ nb)) (fun y3 => bNY rfl (h0M (lf_bad I hK (-2)))))) (fun y2 => bY rfl (h0M (lf_bad I hK (-2)))))) (fun y1 M0 h0M => bY rfl (h0M (lf_bad I hK (-2)))))
  unfold p_X_must
  refine (x_four (a0 := a1) (fun y1 P0 h0P => bNY rfl (x_place (a1 := a2) I.X I.R (fun y2 => bNY rfl (x_kind (a0 := a3) (fun y3 => bY rfl ?_) (fun y3 => bN one0 (h0P (xb (fun y => y3 y.2.2)))))) (fun y2 => bNN one0 (h0P (xb (fun y => y2 y.2.1)))))) (fun y1 P0 h0P => bNN one0 (h0P (xb (fun y => y1 y.1)))))
  obtain ⟨s, sl, su, es⟩ := ir_m (lo := 0) (hi := 3) y1
  subst es
  obtain ⟨p, pu, ep⟩ := ir_p y2
  subst ep
  obtain ⟨k, kl, ku, ek⟩ := ir_m (lo := 0) (hi := 3) y3
  subst ek
  have hp := I.X.pl I.R
  have MA : ∀ r h', (snd n s → ∀ g', smf g g' → K r h' (nI (lf n (fun _ => s) p k)) g') → (¬ snd n s → ∀ g', smf g g' → ∀ P47 : Int32 → Hs → Prop, (∀ t q, K r h' t q → P47 t q) → p_M_no g' (fun r q => P47 r q)) → p_M_must (nI s) (nI p) (nI k) g (K r h') := by
    intro r h' k1 k0
    unfold p_M_must
    refine (m_four  (fun _ M0 h0M => bN one0 (m_place I.M I.R (fun _ => bN one0 (m_four  (fun _ => bNN one0 ?_) (fun z => absurd y3 z))) (fun z => absurd y2 z))) (fun z => absurd y1 z))
    refine r_laysOne I.M I.R rfl (by omega) (fun sn pp g' A C fm P47 h47 => bN one0 ?_) (fun no g' fm P47 h47 => bY rfl (k0 (fun w => no ⟨w, by omega⟩) g' fm P47 h47))
    exact m_leftOf (I.M.smf fm) I.R A C rfl rfl (by omega) (by omega) (h47 _ _ (k1 sn g' fm))
  refine s_hasFault I rfl (by omega) (fun sn h' I' O => bY rfl ?_) (fun sn h' I' O => bN one0 (fun h7 e7 => hF _ _ (MA _ _ (fun w => absurd w sn) (fun _ g' fm P47 h47 => lf_no2 I' fm hK (by subst e7; exact h47)))))
  refine s_allLive I.R rfl (by omega) sn (fun h45 C45 f45 => s_left (I'.X.frm f45 (fun c a b => by omega)) I.R (O.frm f45 (fun c hc => by omega) I.R) C45 rfl rfl (by omega) (by omega) (hF _ _ (MA _ _ (fun _ g' fm => hK _ _ _ ⟨n, I'.qu f45 (fun c hc => by omega) fm⟩) (fun w => absurd sn w))))
theorem sim_hunger {h g : Hs} {a1 : Int32} {K : Int32 → Hs → Int32 → Hs → Prop} {F : Int32 → Hs → Prop} (I : Inv h g) (hK : ∀ r h' g', Inv h' g' → K r h' r g') (hF : ∀ r h', p_M_hunger a1 g (K r h') → F r h') : p_X_hunger a1 h F := by
  obtain ⟨n, I⟩ := I
  have xb : ¬ (ir a1.toInt 0 3) → p_X_bad h (fun r h' => F r h') := by
    intro nb h7 e7
    subst e7
    refine hF _ _ ?_
    unfold p_M_hunger
    exact (m_four (a0 := a1) (fun y1 => bNN one0 (absurd y1 nb)) (fun y1 => bNY rfl (lf_bad I hK (-2))))
  unfold p_X_hunger
  refine (x_four (a0 := a1) (fun y1 => bY rfl ?_) (fun y1 => bN one0 (xb (fun y => y1 y))))
  obtain ⟨s, sl, su, es⟩ := ir_m (lo := 0) (hi := 3) y1
  subst es
  have hp := I.X.pl I.R
  have MA : ∀ r h', (snd n s → 0 < nP n → ∀ g', smf g g' → K r h' (nI (hun n (fun _ => s))) g') → (¬ (snd n s ∧ 0 < nP n) → ∀ g', smf g g' → ∀ P47 : Int32 → Hs → Prop, (∀ t q, K r h' t q → P47 t q) → p_M_no g' (fun r q => P47 r q)) → p_M_hunger (nI s) g (K r h') := by
    intro r h' k1 k0
    unfold p_M_hunger
    refine (m_four  (fun _ => bNN one0 ?_) (fun z => absurd y1 z))
    refine r_laysOne I.M I.R rfl (by omega) (fun sn pp g' A C fm P47 h47 => bN one0 ?_) (fun no g' fm P47 h47 => bY rfl (k0 no g' fm P47 h47))
    exact m_hungerOf (I.M.smf fm) I.R A C (h47 _ _ (k1 sn pp g' fm))
  intro P37 h37
  have no : ∀ q, Iv q g n → ¬ (snd n s ∧ 0 < nP n) → P37 q := fun q Iq nn => h37 q (fun h7 e7 => hF _ _ (MA _ _ (fun sn pp => absurd ⟨sn, pp⟩ nn) (fun _ g' fm P47 h47 => lf_no2 Iq fm hK (by subst e7; exact h47))))
  rw [hp.1]
  refine beq (b := 0) rfl nI_lit0 (by omega) (by omega) (fun z => no h I (by omega)) (fun z => s_hasFault I rfl (by omega) (fun sn h' I' O => bY rfl ?_) (fun sn h' I' O => bN one0 (no h' I' (fun w => sn w.1))))
  refine s_allLive I.R rfl (by omega) sn (fun h45 C45 f45 => s_hungerYears (I'.X.frm f45 (fun c a b => by omega)) I.R (O.frm f45 (fun c hc => by omega) I.R) C45 (fun h47 f47 => hF _ _ (MA _ _ (fun _ _ g' fm => hK _ _ _ ⟨n, (I'.qu f45 (fun c hc => by omega) smf.refl).qu f47 (fun c hc => by unfold hyS at hc; omega) fm⟩) (fun w => absurd ⟨sn, by omega⟩ w))))
