/-! ===== the reference's next ===== -/
def MY (g : Hs) (n : Nat → Int32) (k : Nat) : Prop := ∀ s, s < k → (alw n s (4 ^ nLo n) = 0 → gi g 12 s = 0) ∧ (alw n s (4 ^ nLo n) ≠ 0 → gi g 12 s = 1)
theorem r_differs {n : Nat → Int32} {p k : Nat} {a1 a2 : Int32} {g : Hs} {Q : Int32 → Hs → Prop} (M : MS g n) (R : RG n) (A : RA g n) (Y : MY g n 4) (e1 : a1 = nI p) (e2 : a2 = nI k) (hp : p < 6) (hk : k < 4) (hQ : ∀ g', frm (fun c => c = 11) g g' → Q (nI (dfr n p k)) g') : p_M_differs a1 a2 g Q := by
  subst e1 e2
  have hl4 := R.lo.2
  unfold p_M_differs
  intro P9 h9
  have key := lpG (fun j (q : Hs) => P9 (nI (mmx n p k j).2.1) (nI (mmx n p k j).2.2) (nI j) q) (fun j q => frm (fun c => c = 11) g q) 4 (s := g) frm.refl ?_ ?_
  · exact key
  · intro q f
    obtain ⟨b1, b2⟩ := mmx_b n p k 4
    have b21 : (mmx n p k 4).2.1 ≤ 21 := by omega
    refine h9 _ _ _ _ (bY (nI_le (a := 4) (b := 4) (by omega) (by omega)) (fun P106 h106 => ble rfl rfl (by omega) (by omega) (fun z => h106 _ ?_) (fun z => h106 _ ?_)))
    · have := hQ q f
      unfold dfr at this
      rw [if_neg (by omega), nI_0] at this
      exact this
    · have := hQ q f
      unfold dfr at this
      rw [if_pos z] at this
      rw [pk_sub (by omega)]
      exact this
  · intro s q hs f nx
    have b := mmx_b n p k s
    have l20 : lf n (fun _ => s) p k ≤ 20 := min20_le
    have b21 : (mmx n p k s).2.1 ≤ 21 := by omega
    refine h9 _ _ _ _ (bN (nI_ge (b := 4) hs (by omega)) ⟨vp_in_nI hs (by omega), fun P86 h86 => ?_⟩)
    rw [nI_clamp (show s < 2 ^ 31 by omega), f.1 12 (by omega)]
    by_cases c : alw n s (4 ^ nLo n) = 0
    · rw [(Y s hs).1 c]
      refine bY rfl (h86 _ _ _ (fun a5 e5 => ?_))
      rw [nI_1] at e5
      subst e5
      have nx := nx q f
      have em : mmx n p k (s + 1) = mmx n p k s := if_pos c
      rw [em] at nx
      exact nx
    · rw [(Y s hs).2 c]
      have sn : snd n s := alw_snd _ c
      refine bN one0 (fun P28 h28 => ?_)
      refine lpH (fun l q' => (∀ i, i < l → gi q' 11 i = nI s) ∧ frm (fun c => c = 11) g q') 4 ⟨fun i hi => by omega, f⟩ ?_ ?_
      · intro q' hI
        have em : mmx n p k (s + 1) = (1, (if lf n (fun _ => s) p k < (mmx n p k s).2.1 then lf n (fun _ => s) p k else (mmx n p k s).2.1), (if (mmx n p k s).2.2 < lf n (fun _ => s) p k then lf n (fun _ => s) p k else (mmx n p k s).2.2)) := if_neg c
        have nx := nx q' hI.2
        rw [em] at nx
        have nx' : P9 (nI (if lf n (fun _ => s) p k < (mmx n p k s).2.1 then lf n (fun _ => s) p k else (mmx n p k s).2.1)) (nI (if (mmx n p k s).2.2 < lf n (fun _ => s) p k then lf n (fun _ => s) p k else (mmx n p k s).2.2)) (nI (s + 1)) q' := nx
        refine h28 _ _ (bY (nI_le (a := 4) (b := 4) (by omega) (by omega)) (m_leftOf (M.frm hI.2 (by omega)) R (A.frm hI.2 (fun c a b => by omega)) (fun l hl => ⟨hI.1 l (by unfold nLo at hl; omega), hs, sn⟩) rfl rfl hp hk (fun P69 h69 => ?_)))
        have go : ∀ x : Int32, x = nI (if lf n (fun _ => s) p k < (mmx n p k s).2.1 then lf n (fun _ => s) p k else (mmx n p k s).2.1) → P69 x := by
          intro x hx
          apply h69
          intro P84 h84
          have go2 : ∀ y : Int32, y = nI (if (mmx n p k s).2.2 < lf n (fun _ => s) p k then lf n (fun _ => s) p k else (mmx n p k s).2.2) → P84 y := fun y hy => h84 _ (h86 _ _ _ (fun a5 e5 => by
            rw [nI_1] at e5
            subst e5 hx hy
            exact nx'))
          exact ble rfl rfl (by omega) (by omega) (fun z => go2 _ (by rw [if_neg (by omega)])) (fun z => go2 _ (by rw [if_pos z]))
        exact ble rfl rfl (by omega) (by omega) (fun z => go _ (by rw [if_neg (by omega)])) (fun z => go _ (by rw [if_pos z]))
      · intro l q' hl hI nx2
        refine h28 _ _ (bN (nI_ge (b := 4) hl (by omega)) ⟨vp_in_nI hl (by omega), fun h42 e42 a6 e6 => ?_⟩)
        rw [nI_1] at e6
        rw [nI_clamp (by omega)] at e42
        subst e6 e42
        refine nx2 _ ⟨fun i hi => ?_, hI.2.trans (frm.si rfl)⟩
        by_cases e : i = l
        · subst e
          rw [gi_s]
        · rw [gi_k e]
          exact hI.1 i (by omega)
/-- frame of next: cell 12 is free too -/
theorem Iv.mq' {h g g' : Hs} {n : Nat → Int32} (I : Iv h g n) (f1 : ∀ c, c = 1 ∨ c = 4 → ∀ j, gi g' c j = gi g c j) (fm : smq g g') : Iv h g' n := by
  have r := I.rf
  refine I.up I.X (fun k hk => by rw [f1 1 (Or.inl rfl)]; exact I.M k hk) I.R ?_ (fun _ _ _ => rfl) fm I.fr I.wf I.ko I.lo I.wo
  unfold RFD at r ⊢
  rw [f1 4 (Or.inr rfl), f1 4 (Or.inr rfl), f1 4 (Or.inr rfl)]
  exact r
def nmf (g g' : Hs) : Prop := (∀ c, c = 1 ∨ c = 4 → ∀ j, gi g' c j = gi g c j) ∧ smq g g'
theorem smq.trans {g g1 g2 : Hs} (a : smq g g1) (b : smq g1 g2) : smq g g2 := ⟨fun c hc j => (b.1 c hc j).trans (a.1 c hc j), b.2.1.trans a.2.1, fun j hj => (b.2.2.1 j hj).trans (a.2.2.1 j hj), fun s i hi hs => (b.2.2.2 s i hi hs).trans (a.2.2.2 s i hi hs)⟩
theorem nmf.trans {g g1 g2 : Hs} (a : nmf g g1) (b : nmf g1 g2) : nmf g g2 := ⟨fun c hc j => (b.1 c hc j).trans (a.1 c hc j), a.2.trans b.2⟩
theorem smf.n {g g' : Hs} (f : smf g g') : nmf g g' := ⟨fun c hc => f.1 c (by omega), f.q⟩
theorem n12 {g : Hs} {k : Nat} {v : Int32} : nmf g (si g 12 k v) := ⟨fun c hc j => gi_c (by omega), fun c hc j => gi_c (by omega), gi_c (by omega), fun j _ => gi_c (by omega), fun _ _ _ _ => rfl⟩
theorem MS.n {g g' : Hs} {n : Nat → Int32} (M : MS g n) (f : nmf g g') : MS g' n := fun k hk => by rw [f.1 1 (Or.inl rfl)]; exact M k hk
theorem r_next {n : Nat → Int32} {g : Hs} {Q : Int32 → Hs → Prop} (M : MS g n) (R : RG n) (h0 : nP n = 0 ∨ TT n = 0 → ∀ g', nmf g g' → p_M_no g' (fun r q => Q r q)) (h1 : 0 < nP n → TT n ≠ 0 → ∀ g', nmf g g' → Q (dgp n (nP n)).1 g') : p_M_next g Q := by
  have hp := M.pl R
  have Kp := KK_pos R
  unfold p_M_next
  intro P2 h2
  have sums : ∀ (s : Nat) (q : Hs), s < 4 → nmf g q → MY q n s → (0 < nP n → TT n ≠ 0 → ∀ q', nmf g q' → MY q' n (s + 1) → RA q' n → P2 (nI (s + 1)) q') → P2 (nI s) q := by
    intro s q hs fq Yq nx
    refine h2 _ _ (bN (nI_ge (b := 4) hs (by omega)) ?_)
    refine r_sumsUp (M.n fq) R (q_all R rfl hs) (fun y g' fm => bNY rfl (h0 y g' (fq.trans fm.n))) (fun pp tt g12 b5 b6 A fm => bNN one0 (fun P43 h43 => ?_))
    have go : ∀ x : Int32, (x = 0 ∨ x = 1) → (alw n s (4 ^ nLo n) = 0 → x = 0) → (alw n s (4 ^ nLo n) ≠ 0 → x = 1) → P43 x := by
      intro x hx k0 k1
      apply h43
      rw [nI_clamp (by omega)]
      refine ⟨vp_in_nI hs (by omega), fun h43' e43 a1 e1 => ?_⟩
      have ez : zn x = x := by
        rcases hx with e | e
        · rw [e, zn0]
        · rw [e, zn1]
      rw [ez] at e43
      rw [nI_1] at e1
      subst e1 e43
      refine nx pp tt _ ((fq.trans fm.n).trans n12) (fun s' hs' => ?_) (A.frm (frm.si (S := fun c => c = 12) rfl) (fun c a b => by omega))
      by_cases e : s' = s
      · subst e
        rw [gi_s]
        exact ⟨k0, k1⟩
      · rw [gi_k e, fm.1 12 (by omega)]
        exact Yq s' (by omega)
    have hz : swt n (isA n s) (4 ^ nLo n) * KK n = 0 ↔ alw n s (4 ^ nLo n) = 0 := ⟨fun e => by rcases Nat.mul_eq_zero.mp e with y | y; exact y; omega, fun e => by show alw n s (4 ^ nLo n) * KK n = 0; rw [e, Nat.zero_mul]⟩
    have s0 := szR0 b6
    refine ⟨fun c => go 0 (Or.inl rfl) (fun _ => rfl) (fun y => absurd (hz.mp (s0.mp c)) y), fun c => go 1 (Or.inr rfl) (fun y => absurd (s0.mpr (hz.mpr y)) c) (fun _ => rfl)⟩
  have fin : ∀ q, 0 < nP n → TT n ≠ 0 → nmf g q → MY q n 4 → RA q n → P2 (nI 4) q := by
    intro q pp tt fq Yq Aq
    have Mq := M.n fq
    refine h2 _ _ (bY (nI_le (a := 4) (b := 4) (by omega) (by omega)) (fun P56 h56 => ?_))
    have f11 : ∀ q', frm (fun c => c = 11) q q' → nmf q q' := fun q' f => (f.smf (fun c hc => Or.inl hc)).n
    have key := lpG (fun p (q' : Hs) => P56 (dgp n p).1 (nI (dgp n p).2) (nI p) q') (fun p q' => frm (fun c => c = 11) q q') (nP n) (s := q) frm.refl ?_ ?_
    · exact key
    · intro q' f
      exact h56 _ _ _ _ (bY (by rw [((Mq.frm f (by omega)).pl R).1]; exact nI_le (Nat.le_refl _) (by omega)) (h1 pp tt q' (fq.trans (f11 q' f))))
    · intro p q' hpp f nx
      refine h56 _ _ _ _ (bN (by rw [((Mq.frm f (by omega)).pl R).1]; exact nI_ge hpp (by omega)) (fun P67 h67 => ?_))
      refine lpG (fun k (q2 : Hs) => P67 (dgk n p (dgp n p) k).1 (nI (dgk n p (dgp n p) k).2) (nI k) q2) (fun k q2 => frm (fun c => c = 11) q q2) 4 (s := q') f ?_ ?_
      · intro q2 f2
        refine h67 _ _ _ _ (bY (nI_le (a := 4) (b := 4) (by omega) (by omega)) (fun a3 e3 => ?_))
        rw [nI_1] at e3
        subst e3
        exact nx q2 f2
      · intro k q2 hk f2 nx2
        have bd := dgk_b (n := n) (p := p) (s := dgp n p) (dgp_b p) k
        have dl' := dfr_le (n := n) (p := p) (k := k)
        rw [dgk_s] at nx2
        refine h67 _ _ _ _ (bN (nI_ge (b := 4) hk (by omega)) (m_isSigned (Mq.frm f2 (by omega)) R (fun y P123 h123 => bNN one0 (h123 _ _ _ (fun a4 e4 => ?_))) (fun y P123 h123 => bNY rfl ?_)))
        · rw [nI_1] at e4
          subst e4
          have nx2 := nx2 q2 f2
          have e : dD n p k = 0 := by
            unfold dD
            rw [iv_f (fun z => z y), Nat.zero_mul]
          rw [e, if_neg (by omega)] at nx2
          exact nx2
        · have e : dD n p k = dfr n p k := by
            unfold dD
            rw [iv_t y, Nat.one_mul]
          rw [e] at nx2
          refine r_differs (Mq.frm f2 (by omega)) R (Aq.frm f2 (fun c a b => by omega)) (fun s hs => by rw [f2.1 12 (by omega)]; exact Yq s hs) rfl rfl (by omega) hk (fun q3 f3 P109 h109 => ?_)
          have nx2 := nx2 q3 (f2.trans f3)
          have go : ∀ x : Int32, x = (if (dgk n p (dgp n p) k).2 < dfr n p k then nI (10 * p + k) else (dgk n p (dgp n p) k).1) → P109 x := by
            intro x hx
            apply h109
            intro P122 h122
            refine ble rfl rfl (by omega) (by omega) (fun z => h122 _ (h123 _ _ _ (fun a4 e4 => ?_))) (fun z => h122 _ (h123 _ _ _ (fun a4 e4 => ?_)))
            · rw [nI_1] at e4
              subst e4
              rw [if_neg (by omega)] at nx2 hx
              rw [hx]
              exact nx2
            · rw [nI_1] at e4
              subst e4
              rw [if_pos z] at nx2 hx
              rw [hx]
              exact nx2
          refine ble rfl rfl (by omega) (by omega) (fun z => go _ (by rw [if_neg (by omega)])) (fun z => go _ (by rw [if_pos z, ten_p]))
  have r0 : nmf g g := smf.refl.n
  rw [nI_lit0]
  exact sums 0 g (by omega) r0 (fun s hs => by omega) (fun pp tt q1 f1 Y1 _ => sums 1 q1 (by omega) f1 Y1 (fun _ _ q2 f2 Y2 _ => sums 2 q2 (by omega) f2 Y2 (fun _ _ q3 f3 Y3 _ => sums 3 q3 (by omega) f3 Y3 (fun _ _ q4 f4 Y4 A4 => fin q4 pp tt f4 Y4 A4))))
theorem sim_next {h g : Hs} {K : Int32 → Hs → Int32 → Hs → Prop} {F : Int32 → Hs → Prop} (I : Inv h g) (hK : ∀ r h' g', Inv h' g' → K r h' r g') (hF : ∀ r h', p_M_next g (K r h') → F r h') : p_X_next h F := by
  obtain ⟨n, I⟩ := I
  unfold p_X_next
  refine s_noWorlds I (fun y h' I' => bN one0 (fun h7 e7 => hF _ _ (r_next I.M I.R (fun _ g' fm h9 e9 => ?_) (fun pp tt => by rcases y with y | y <;> omega)))) (fun pp tt h' I' O W => bY rfl (s_digNext I'.X I.R O W (fun h2 f2 => hF _ _ (r_next I.M I.R (fun y => by rcases y with y | y <;> omega) (fun _ _ g' fm => hK _ _ _ ⟨n, (I'.qu f2 (fun c hc => by omega) smf.refl).mq' fm.1 fm.2⟩)))))
  subst e7
  exact lf_no (I'.mq' fm.1 fm.2) hK h9 e9
