/-! ===== more calls that set numbers ===== -/
theorem sim_put {h g : Hs} {a1 a2 : Int32} {K : Int32 → Hs → Int32 → Hs → Prop} {F : Int32 → Hs → Prop} (I : Inv h g) (hK : ∀ r h' g', Inv h' g' → K r h' r g') (hF : ∀ r h', p_M_put a1 a2 g (K r h') → F r h') : p_X_put a1 a2 h F := by
  obtain ⟨n, I⟩ := I
  have xb : ¬ (ir a1.toInt 0 1 ∧ ir a2.toInt a1.toInt 9) → p_X_bad h (fun r h' => F r h') := by
    intro nb h7 e7
    subst e7
    refine hF _ _ ?_
    unfold p_M_put
    exact m_in (a := a1.toInt) (lo := 0) (hi := 1) (i64 a1) (by decide) (by decide) (fun y1 P hP => bN one0 (m_in (a := a2.toInt) (lo := a1.toInt) (hi := 9) (i64 a2) (i64 a1) (by decide) (fun y2 => absurd ⟨y1, y2⟩ nb) (fun y2 => bNY rfl (hP (lf_bad I hK (-2)))))) (fun y1 P hP => bY rfl (hP (lf_bad I hK (-2))))
  unfold p_X_put
  refine x_out (a0 := a1) (lo := 0) (hi := 1) (by decide) (by decide) (fun y1 P27 h27 => bNY rfl (fun P19 h19 => ?_)) (fun y1 P27 h27 => bNN one0 (h27 (xb (fun y => y1 y.1))))
  obtain ⟨i, il, iu, ei⟩ := ir_m (lo := 0) (hi := 1) y1
  subst ei
  have go : ∀ t : Int32, t.toInt = (nI i).toInt → P19 t := fun t et => h19 _ (x_out (lo := (nI i).toInt) (hi := 9) et (by decide) (fun y2 => bY rfl (by
    have y2' := y2
    rw [nI_toInt (by omega)] at y2'
    obtain ⟨v, vl, vu, ev⟩ := ir_m (lo := i) (hi := 9) y2'
    subst ev
    refine s_exchange (N := 2) lX_rows.2.1 rfl (by omega) (by omega) (hF _ _ ?_)
    unfold p_M_put
    refine m_in (lo := 0) (hi := 1) (i64 _) (by decide) (by decide) (fun _ P hP => bN one0 (m_in (lo := (nI i).toInt) (hi := 9) (i64 _) (i64 _) (by decide) (fun _ => bNN one0 ?_) (fun z => absurd y2 z))) (fun z => absurd y1 z)
    rw [show (20 : Int32) + nI i = nI (20 + i) from nI_add 20 i, nI_clamp (by omega)]
    refine ⟨vp_in_nI (by omega) (by omega), fun a3 e3 => ⟨vp_in_nI (by omega) (by omega), fun h50 e50 => ?_⟩⟩
    subst e50
    exact I.fin hK (k := 20 + i) (by omega) (by rw [(c_puts i (by omega)).1]) (c_puts i (by omega)).2 (by unfold rgk; rw [if_neg (by omega), if_neg (by omega), if_neg (by omega), if_pos (by omega)]; exact rg_of vu) (I.R.rel.oth I.R.te.2 (by omega)) rfl e3)) (fun y2 => bN one0 (h27 (xb (fun y => y2 y.2)))))
  refine ⟨fun c => go 1 ?_, fun c => go 0 ?_⟩
  · rw [show i = 1 from ?_]
    · rfl
    · rcases (show i = 0 ∨ i = 1 by omega) with e | e
      · subst e
        exact absurd nI_0 c
      · exact e
  · rw [c]
def kvl (a2 a3 : Int32) : Prop := (a2 = 0 → ir a3.toInt 1 999) ∧ (¬ a2 = 0 → ir a3.toInt 0 9)
theorem sim_kind {h g : Hs} {a1 a2 a3 : Int32} {K : Int32 → Hs → Int32 → Hs → Prop} {F : Int32 → Hs → Prop} (I : Inv h g) (hK : ∀ r h' g', Inv h' g' → K r h' r g') (hF : ∀ r h', p_M_kind a1 a2 a3 g (K r h') → F r h') : p_X_kind a1 a2 a3 h F := by
  obtain ⟨n, I⟩ := I
  have mk : ∀ (K' : Int32 → Hs → Prop), ir a1.toInt 0 3 → ir a2.toInt 0 1 → (¬ kvl a2 a3 → p_M_bad (-2) g K') → (kvl a2 a3 → ∀ t0 : Int32, t0 = (if a2 = 0 then 22 else 26) → ∀ a4 : Int32, a4 = t0 + a1 → vp_in a4 675 ∧ ∀ a5 : Int32, a5 = gi g 1 a4.toNatClampNeg → vp_in a4 675 ∧ ∀ h_85 : Hs, h_85 = si g 1 a4.toNatClampNeg a3 → K' a5 h_85) → p_M_kind a1 a2 a3 g K' := by
    intro K' y1 y2 hb hg
    unfold p_M_kind
    refine m_four (a0 := a1) (fun _ P hP => bN one0 (m_in (a := a2.toInt) (lo := 0) (hi := 1) (i64 a2) (by decide) (by decide) (fun _ => bN one0 (fun P28 h28 => ?_)) (fun z => absurd y2 z))) (fun z => absurd y1 z)
    by_cases c : a2 = 0
    · refine bNY c (h28 _ (fun P41 h41 => bNY c (h41 _ (m_in (a := a3.toInt) (lo := 1) (hi := 999) (i64 a3) (by decide) (by decide) (fun y3 => bNN one0 (fun P65 h65 => bNY c (h65 _ ?_))) (fun y3 => bNY rfl (hP (hb (fun z => y3 (z.1 c)))))))))
      exact hg ⟨fun _ => y3, fun z => absurd c z⟩ 22 (by rw [if_pos c])
    · refine bNN c (h28 _ (fun P41 h41 => bNN c (h41 _ (m_in (a := a3.toInt) (lo := 0) (hi := 9) (i64 a3) (by decide) (by decide) (fun y3 => bNN one0 (fun P65 h65 => bNN c (h65 _ ?_))) (fun y3 => bNY rfl (hP (hb (fun z => y3 (z.2 c)))))))))
      exact hg ⟨fun z => absurd z c, fun _ => y3⟩ 26 (by rw [if_neg c])
  have xb : ¬ (ir a1.toInt 0 3 ∧ ir a2.toInt 0 1 ∧ kvl a2 a3) → p_X_bad h (fun r h' => F r h') := by
    intro nb h7 e7
    subst e7
    refine hF _ _ ?_
    by_cases y1 : ir a1.toInt 0 3
    · by_cases y2 : ir a2.toInt 0 1
      · exact mk _ y1 y2 (fun _ => lf_bad I hK (-2)) (fun z => absurd ⟨y1, y2, z⟩ nb)
      · unfold p_M_kind
        exact m_four (a0 := a1) (fun _ P hP => bN one0 (m_in (a := a2.toInt) (lo := 0) (hi := 1) (i64 a2) (by decide) (by decide) (fun z => absurd z y2) (fun _ => bY rfl (hP (lf_bad I hK (-2)))))) (fun z => absurd y1 z)
    · unfold p_M_kind
      exact m_four (a0 := a1) (fun z => absurd z y1) (fun _ P hP => bY rfl (hP (lf_bad I hK (-2))))
  unfold p_X_kind
  refine x_kind (a0 := a1) (fun y1 P16 h16 => bNY rfl (x_out (a0 := a2) (lo := 0) (hi := 1) (by decide) (by decide) (fun y2 => bY rfl (fun P54 h54 P49 h49 => ?_)) (fun y2 => bN one0 (h16 (xb (fun y => y2 y.2.1)))))) (fun y1 P16 h16 => bNN one0 (h16 (xb (fun y => y1 y.1))))
  obtain ⟨k, kl, ku, ek⟩ := ir_m (lo := 0) (hi := 3) y1
  have good : kvl a2 a3 → P54 := by
    intro y3
    apply h54
    subst ek
    rw [nI_clamp (by omega), show 8 + 1 + 1 * k = 9 + k by omega]
    obtain ⟨w, wl, wu, ew⟩ := ir_m (lo := 0) (hi := 1) y2
    refine ⟨vp_in_nI (by omega) (by omega), s_exchange (N := 2) (lX_rows.2.2.2.2.1 k (by omega)) ew (by omega) (by omega) (hF _ _ (mk _ y1 y2 (fun z => absurd y3 z) (fun _ t0 et a4 e4 => ?_)))⟩
    by_cases c : a2 = 0
    · rw [if_pos c] at et
      have w0 : w = 0 := by
        rw [c, nI_lit0] at ew
        exact ((nI_eq (by omega) (by omega)).mp ew).symm
      have e4' : a4 = nI (22 + k) := by rw [e4, et]; exact nI_add 22 k
      rw [e4', nI_clamp (by omega), w0]
      obtain ⟨v, vl, vu, ev⟩ := ir_m (lo := 1) (hi := 999) (y3.1 c)
      refine ⟨vp_in_nI (by omega) (by omega), fun a5 e5 => ⟨vp_in_nI (by omega) (by omega), fun h85 e85 => ?_⟩⟩
      subst e85
      exact I.fin hK (k := 22 + k) (by omega) (by rw [(c_each k (by omega)).1]; omega) (c_each k (by omega)).2 (by unfold rgk; rw [if_neg (by omega), if_neg (by omega), if_neg (by omega), if_neg (by omega), if_pos (by omega), ev]; exact ⟨rg_of vu, by rw [nn_nI (by omega)]; exact vl⟩) (I.R.rel.oth I.R.te.2 (by omega)) rfl e5
    · rw [if_neg c] at et
      have w1 : w = 1 := by
        rcases (show w = 0 ∨ w = 1 by omega) with e | e
        · rw [e, nI_0] at ew
          exact absurd ew c
        · exact e
      have e4' : a4 = nI (26 + k) := by rw [e4, et]; exact nI_add 26 k
      rw [e4', nI_clamp (by omega), w1]
      obtain ⟨v, vl, vu, ev⟩ := ir_m (lo := 0) (hi := 9) (y3.2 c)
      refine ⟨vp_in_nI (by omega) (by omega), fun a5 e5 => ⟨vp_in_nI (by omega) (by omega), fun h85 e85 => ?_⟩⟩
      subst e85
      exact I.fin hK (k := 26 + k) (by omega) (by rw [(c_carr k (by omega)).1]; omega) (c_carr k (by omega)).2 (by unfold rgk; rw [if_neg (by omega), if_neg (by omega), if_neg (by omega), if_neg (by omega), if_neg (by omega), if_pos (by omega), ev]; exact rg_of vu) (I.R.rel.oth I.R.te.2 (by omega)) rfl e5
  have badv : ¬ kvl a2 a3 → P49 := fun z => h49 (xb (fun y => z y.2.2))
  refine ⟨fun c => ?_, fun c => ?_⟩
  · exact x_out (a0 := a3) (lo := 0) (hi := 9) (by decide) (by decide) (fun y3 => bY rfl (good ⟨fun z => absurd z c, fun _ => y3⟩)) (fun y3 => bN one0 (badv (fun z => y3 (z.2 c))))
  · exact x_out (a0 := a3) (lo := 1) (hi := 999) (by decide) (by decide) (fun y3 => bY rfl (good ⟨fun _ => y3, fun z => absurd c z⟩)) (fun y3 => bN one0 (badv (fun z => y3 (z.1 c))))
theorem sim_clear {h g : Hs} {a1 : Int32} {K : Int32 → Hs → Int32 → Hs → Prop} {F : Int32 → Hs → Prop} (I : Inv h g) (hK : ∀ r h' g', Inv h' g' → K r h' r g') (hF : ∀ r h', p_M_clear a1 g (K r h') → F r h') : p_X_clear a1 h F := by
  obtain ⟨n, I⟩ := I
  have xb : ¬ (ir a1.toInt 0 3) → p_X_bad h (fun r h' => F r h') := by
    intro nb h7 e7
    subst e7
    refine hF _ _ ?_
    unfold p_M_clear
    exact (m_four (a0 := a1) (fun y1 => bNN one0 (absurd y1 nb)) (fun y1 => bNY rfl (lf_bad I hK (-2))))
  unfold p_X_clear
  refine (x_four (a0 := a1) (fun y1 => bY rfl ?_) (fun y1 => bN one0 (xb (fun y => y1 y))))
  obtain ⟨s, sl, su, es⟩ := ir_m (lo := 0) (hi := 3) y1
  subst es
  refine s_exchange (N := 4) lX_rows.2.2.2.1 rfl (by omega) (by omega) (hF _ _ ?_)
  unfold p_M_clear
  refine (m_four  (fun _ => bNN one0 ?_) (fun z => absurd y1 z))
  unfold p_M_textLong
  rw [m121, nI_clamp (by omega)]
  refine ⟨vp_in_nI (by omega) (by omega), vp_in_nI (by omega) (by omega), fun h32 e32 => ?_⟩
  subst e32
  exact I.fin hK (k := 34 + 121 * s) (by omega) (by rw [(c_leng s (by omega)).1]) (c_leng s (by omega)).2 (by unfold rgk; rw [if_neg (by omega), if_neg (by omega), if_neg (by omega), if_neg (by omega), if_neg (by omega), if_neg (by omega), if_pos (by omega), if_pos (by omega)]; exact rg_of (Nat.zero_le 120)) (I.R.rel.oth I.R.te.2 (by omega)) rfl rfl
theorem sim_storm {h g : Hs} {a1 a2 : Int32} {K : Int32 → Hs → Int32 → Hs → Prop} {F : Int32 → Hs → Prop} (I : Inv h g) (hK : ∀ r h' g', Inv h' g' → K r h' r g') (hF : ∀ r h', p_M_storm a1 a2 g (K r h') → F r h') : p_X_storm a1 a2 h F := by
  obtain ⟨n, I⟩ := I
  have xb : ¬ (ir a1.toInt 0 59) → p_X_bad h (fun r h' => F r h') := by
    intro nb h7 e7
    subst e7
    refine hF _ _ ?_
    unfold p_M_storm
    exact (m_day (a0 := a1) (fun y1 => bNN one0 (absurd y1 nb)) (fun y1 => bNY rfl (lf_bad I hK (-2))))
  unfold p_X_storm
  refine (x_out (a0 := a1) (lo := 0) (hi := 59) (by decide) (by decide) (fun y1 => bY rfl ?_) (fun y1 => bN one0 (xb (fun y => y1 y))))
  obtain ⟨d, dl, du, ed⟩ := ir_m (lo := 0) (hi := 59) y1
  subst ed
  have rd := I.R.sm d (by omega)
  have ex : gi h 42 d = n (611 + d) := I.X.rd (k := 611 + d) (by omega) (c_stor d (by omega))
  intro P24 h24
  have go : ∀ t : Int32, t = 0 ∨ t = 1 → t = (if a2 = 0 then 0 else 1) → P24 t := by
    intro t ht et
    apply h24
    rw [nI_clamp (by omega), ex]
    have MG : ∀ r h', (¬ n (611 + d) = t → K r h' 1 (si g 1 (611 + d) t)) → (n (611 + d) = t → p_M_no g (K r h')) → p_M_storm (nI d) a2 g (K r h') := by
      intro r h' k1 k2
      unfold p_M_storm
      refine m_day (fun _ => bNN one0 ?_) (fun z => absurd y1 z)
      rw [show (611 : Int32) + nI d = nI (611 + d) from nI_add 611 d, nI_clamp (by omega), I.M _ (by omega)]
      refine ⟨vp_in_nI (by omega) (by omega), fun P33 h33 => ?_⟩
      have g33 : P33 t := by
        apply h33
        refine ⟨fun c P59 h59 => ?_, fun c => k2 c⟩
        have g59 : P59 t := h59 _ ⟨vp_in_nI (by omega) (by omega), fun h' e' => by subst e'; exact k1 c⟩
        by_cases z : a2 = 0
        · rw [if_pos z] at et
          rw [et] at g59
          exact bY z g59
        · rw [if_neg z] at et
          rw [et] at g59
          exact bN z g59
      by_cases z : a2 = 0
      · rw [if_pos z] at et
        rw [et] at g33
        exact bY z g33
      · rw [if_neg z] at et
        rw [et] at g33
        exact bN z g33
    refine ⟨vp_in_nI (by omega) (by omega), fun c => ⟨vp_in_nI (by omega) (by omega), fun h52 e52 => hF _ _ (MG _ _ (fun _ => hK _ _ _ ⟨un n (611 + d) t, ?_⟩) (fun z => absurd z c))⟩, fun c h7 e7 => hF _ _ (MG _ _ (fun z => absurd c z) (fun _ => by subst e7; exact lf_no I hK))⟩
    have R' : RG (un n (611 + d) t) := RG.of (RG.set I.R.k (by unfold rgk; rw [if_neg (by omega), if_neg (by omega), if_neg (by omega), if_neg (by omega), if_neg (by omega), if_neg (by omega), if_neg (by omega), if_neg (by omega), if_neg (by omega), if_neg (by omega), if_neg (by omega), if_neg (by omega), if_pos (by omega)]; rcases ht with e | e <;> (rw [e]; first | exact rg_of (m := 0) (by omega) | exact rg_of (m := 1) (by omega)))) (I.R.rel.oth I.R.te.2 (by omega))
    subst e52
    have fx : frm (fun c => c = 42) h (si h 42 d t) := frm.si rfl
    have r := I.rf
    have fm : frm (fun c => c = 1) g (si g 1 (611 + d) t) := frm.si rfl
    refine I.up (I.X.up2 (by omega) (by rw [(c_stor d (by omega)).1]) (c_stor d (by omega)).2) I.M.up R' ?_ (fun c hc => fx.1 c (by unfold oX at hc; omega)) (fm.q (fun c hc => by omega)) (I.fr.frm fx) (I.wf.frm fx) (I.ko.frm fx (fun c hc => by omega)) ?_ ?_
    · unfold RFD at r ⊢
      rw [fx.1 0 (by omega), fx.1 0 (by omega), fx.1 0 (by omega), fm.1 4 (by omega), fm.1 4 (by omega), fm.1 4 (by omega)]
      exact r
    · rcases I.lo with y | y
      · left
        rw [fx.1 2 (by omega)]
        exact y
      · right
        exact (y.frm fx (fun c hc => by omega) I.R).ag (AG.eUn (by omega)) R'
    · rcases I.wo with y | y
      · left
        rw [fx.1 1 (by omega)]
        exact y
      · right
        exact (y.frm I.R fx (fun c a b => by omega)).ag (AG.eUn (by omega)) R'
  refine ⟨fun c => go 0 (Or.inl rfl) (by rw [if_pos c]), fun c => go 1 (Or.inr rfl) (by rw [if_neg c])⟩
