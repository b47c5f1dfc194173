/-! ===== the class sums up all worlds ===== -/
def SUMS (h : Hs) (n : Nat → Int32) (k : Nat) : Prop := BV h 362 (tot n k) ∧ (∀ l, l < nLo n → ∀ s, s < 4 → BV h (364 + 2 * (4 * l + s)) (liv n l s k)) ∧ (∀ s, s < 4 → BV h (396 + 2 * s) (alw n s k))
theorem SUMS.frr {S T : Nat → Prop} {h h' : Hs} {n : Nat → Int32} {k : Nat} (A : SUMS h n k) (R : RG n) (f : frr S T h h') (hS : ∀ c, 362 ≤ c → c ≤ 403 → ¬ S c) : SUMS h' n k := by
  have hl4 := R.lo.2
  exact ⟨A.1.frr f (hS _ (by omega) (by omega)) (hS _ (by omega) (by omega)), fun l hl s hs => (A.2.1 l hl s hs).frr f (hS _ (by omega) (by unfold nLo at hl; omega)) (hS _ (by omega) (by unfold nLo at hl; omega)), fun s hs => (A.2.2 s hs).frr f (hS _ (by omega) (by omega)) (hS _ (by omega) (by omega))⟩
theorem tot_s (n : Nat → Int32) (w : Nat) : tot n (w + 1) = tot n w + wt n w := rfl
theorem liv_s (n : Nat → Int32) (l s w : Nat) : liv n l s (w + 1) = liv n l s w + wt n w * iv (cw w l = s) := rfl
theorem alw_s (n : Nat → Int32) (s w : Nat) : alw n s (w + 1) = alw n s w + wt n w * iv (isA n s w) := rfl
theorem SUMS.zero {h : Hs} {n : Nat → Int32} {w : Nat} (A : SUMS h n w) (hz : wt n w = 0) : SUMS h n (w + 1) := by
  refine ⟨by rw [tot_s, hz]; exact A.1, fun l hl s hs => by rw [liv_s, hz, Nat.zero_mul]; exact A.2.1 l hl s hs, fun s hs => by rw [alw_s, hz, Nat.zero_mul]; exact A.2.2 s hs⟩
theorem kX_lv : ∀ i, i < 16 → kX (364 + 2 * i) = 1 ∧ lX (364 + 2 * i + 1) = 32 := by decide +kernel
theorem kX_al : ∀ i, i < 4 → kX (396 + 2 * i) = 1 ∧ lX (396 + 2 * i + 1) = 32 := by decide +kernel
theorem kX_to : kX 362 = 1 ∧ lX (362 + 1) = 32 ∧ kX 355 = 1 ∧ lX (355 + 1) = 32 := by decide +kernel
def adS : Nat → Prop := fun c => 362 ≤ c ∧ c ≤ 403
theorem s_livedBy {l s : Nat} {a1 a2 : Int32} {h : Hs} {Q : Nat → Prop} (e1 : a1 = nI l) (e2 : a2 = nI s) (hl : l < 4) (hs : s < 4) (hQ : Q (364 + 2 * (4 * l + s))) : p_Worlds_livedBy a1 a2 h Q := by
  subst e1 e2
  unfold p_Worlds_livedBy
  have ei : nI l * 4 + nI s = nI (4 * l + s) := by
    rw [show (4 : Int32) = nI 4 from rfl, nI_mul, nI_add, Nat.mul_comm l 4]
  rw [ei, nI_clamp (by omega)]
  exact ⟨vp_in_nI (by omega) (by omega), hQ⟩
theorem s_addUp {n : Nat → Int32} {w : Nat} {h : Hs} {Q : Hs → Prop} (X : XS h 3 n) (R : RG n) (O : LO h n) (C : CH h n (cw w)) (W : WF h) (b : HW h (Wc n (cw w))) (ok : okw n w) (hw : w < 256) (A : SUMS h n w) (hQ : ∀ h', SUMS h' n (w + 1) → frm adS h h' → Q h') : p_Worlds_addUp h Q := by
  have hL := X.lo R
  have ew : wt n w = Wc n (cw w) := by unfold wt; rw [iv_t ok, Nat.one_mul]
  have w6 := W.in6
  have wtl := wt_le R (w := w)
  have Xf : ∀ g, frm adS h g → XS g 3 n := fun g f => X.frm f (fun c a b => by unfold adS; omega)
  have Of : ∀ g, frm adS h g → LO g n := fun g f => O.frm f (fun c hc => by unfold adS; omega) R
  have Cf : ∀ g, frm adS h g → CH g n (cw w) := fun g f => C.frm f (by unfold adS; omega)
  have Wf : ∀ g, frm adS h g → WF g ∧ BV g (gr g 1 6) (wt n w) := fun g f => ⟨W.frm f, by rw [ew]; exact HW.frm b W f (fun c h1 h2 => by unfold adS; omega)⟩
  have fit : ∀ H k, k ≤ 256 → swt n H k < BB ^ 32 := fun H k hk => fit32 (swt_lt R hk) (by omega)
  unfold p_Worlds_addUp
  refine ⟨W.k6.1, s_isZero W.k6.1 b (fun e => bN one0 (hQ h (A.zero (ew.trans e)) frm.refl)) (fun e => bY rfl ⟨W.k6.1, ?_⟩)⟩
  refine s_plus kX_to.1 W.k6.1 (by omega) A.1 (by rw [← ew] at b; exact b) ?_ (fun h19 b19 f19 => ?_)
  · rw [kX_to.2.1, ← tot_s]
    exact fit32 (tot_le R (by omega)) (by omega)
  have F19 : frm adS h h19 := f19.mono (fun c hc => by unfold bS at hc; unfold adS; omega)
  intro P24 h24
  have old : ∀ o v, 364 ≤ o → BV h o v → BV h19 o v := fun o v ho hb => hb.frm f19 (by unfold bS; omega) (by unfold bS; omega)
  refine lpH (fun j g => BV g 362 (tot n (w + 1)) ∧ (∀ l, l < nLo n → l < j → ∀ s, s < 4 → BV g (364 + 2 * (4 * l + s)) (liv n l s (w + 1))) ∧ (∀ l, l < nLo n → j ≤ l → ∀ s, s < 4 → BV g (364 + 2 * (4 * l + s)) (liv n l s w)) ∧ (∀ s, s < 4 → BV g (396 + 2 * s) (alw n s w)) ∧ frm adS h g) (nLo n) ⟨by rw [tot_s]; exact b19, fun l _ hl => by omega, fun l hl _ s hs => old _ _ (by omega) (A.2.1 l hl s hs), fun s hs => old _ _ (by omega) (A.2.2 s hs), F19⟩ ?_ ?_
  · intro g hI
    obtain ⟨I1, I2, I3, I4, I5⟩ := hI
    refine h24 _ _ (bY (by rw [((Xf g I5).lo R).1]; exact nI_le (Nat.le_refl _) (by omega)) (fun P64 h64 => ?_))
    refine lpH (fun j g => BV g 362 (tot n (w + 1)) ∧ (∀ l, l < nLo n → ∀ s, s < 4 → BV g (364 + 2 * (4 * l + s)) (liv n l s (w + 1))) ∧ (∀ s, s < 4 → s < j → BV g (396 + 2 * s) (alw n s (w + 1))) ∧ (∀ s, s < 4 → j ≤ s → BV g (396 + 2 * s) (alw n s w)) ∧ frm adS h g) 4 ⟨I1, fun l hl s hs => I2 l hl hl s hs, fun s _ hs => by omega, fun s hs _ => I4 s hs, I5⟩ ?_ ?_
    · intro g2 hJ
      obtain ⟨J1, J2, J3, J4, J5⟩ := hJ
      exact h64 _ _ (bY (nI_le (a := 4) (b := 4) (by omega) (by omega)) (hQ g2 ⟨J1, J2, fun s hs => J3 s hs hs⟩ J5))
    · intro s g2 hs hJ nx
      obtain ⟨J1, J2, J3, J4, J5⟩ := hJ
      refine h64 _ _ (bN (nI_ge (b := 4) hs (by omega)) (s_doAllLive (Xf g2 J5) R (Of g2 J5) (Cf g2 J5) rfl hs (fun y P93 h93 => bN one0 ⟨vp_in_nI hs (by omega), (Wf g2 J5).1.k6.1, ?_⟩) (fun y P93 h93 => bY rfl (h93 _ (fun a1 ea => ?_)))))
      · rw [nI_clamp (show s < 2 ^ 31 by omega)]
        have wg6 := (Wf g2 J5).1.in6
        have e1 : alw n s (w + 1) = alw n s w + wt n w := by rw [alw_s, iv_t (show isA n s w from y), Nat.mul_one]
        refine s_plus (kX_al s hs).1 (Wf g2 J5).1.k6.1 (by omega) (J4 s hs (Nat.le_refl _)) (Wf g2 J5).2 (by rw [(kX_al s hs).2, ← e1]; exact fit _ _ (by omega)) (fun h90 b90 f90 => h93 _ (fun a1 ea => ?_))
        rw [nI_1] at ea
        subst ea
        have ot : ∀ o v, (o ≠ 396 + 2 * s ∧ o ≠ 396 + 2 * s + 1 ∧ o + 1 ≠ 396 + 2 * s) → BV g2 o v → BV h90 o v := fun o v ho hb => hb.frm f90 (by unfold bS; omega) (by unfold bS; omega)
        refine nx h90 ⟨ot _ _ (by omega) J1, fun l hl s' hs' => ot _ _ (by omega) (J2 l hl s' hs'), fun s' hs' hlt => ?_, fun s' hs' hge => ot _ _ (by omega) (J4 s' hs' (by omega)), J5.trans (f90.mono (fun c hc => by unfold bS at hc; unfold adS; omega))⟩
        by_cases es : s' = s
        · subst es
          rw [e1]
          exact b90
        · exact ot _ _ (by omega) (J3 s' hs' (by omega))
      · rw [nI_1] at ea
        subst ea
        refine nx g2 ⟨J1, J2, fun s' hs' hlt => ?_, fun s' hs' hge => J4 s' hs' (by omega), J5⟩
        by_cases es : s' = s
        · subst es
          rw [alw_s, iv_f (show ¬ isA n s' w from y), Nat.mul_zero]
          exact J4 s' hs' (Nat.le_refl _)
        · exact J3 s' hs' (by omega)
  · intro l g hl hI nx
    obtain ⟨I1, I2, I3, I4, I5⟩ := hI
    obtain ⟨c1, c2, c3⟩ := Cf g I5 l hl
    refine h24 _ _ (bN (by rw [((Xf g I5).lo R).1]; exact nI_ge hl (by omega)) ⟨vp_in_nI (by omega) (by omega), ?_⟩)
    rw [nI_clamp (show l < 2 ^ 31 by omega), c1]
    have k16 := kX_lv (4 * l + cw w l) (by omega)
    have wg6 := (Wf g I5).1.in6
    have e1 : liv n l (cw w l) (w + 1) = liv n l (cw w l) w + wt n w := by rw [liv_s, iv_t rfl, Nat.mul_one]
    refine s_livedBy rfl rfl (by omega) c2 ⟨k16.1, (Wf g I5).1.k6.1, ?_⟩
    refine s_plus k16.1 (Wf g I5).1.k6.1 (by omega) (I3 l hl (Nat.le_refl _) _ c2) (Wf g I5).2 (by rw [k16.2, ← e1]; exact fit _ _ (by omega)) (fun h53 b53 f53 a1 ea => ?_)
    rw [nI_1] at ea
    subst ea
    have ot : ∀ o v, (o ≠ 364 + 2 * (4 * l + cw w l) ∧ o ≠ 364 + 2 * (4 * l + cw w l) + 1 ∧ o + 1 ≠ 364 + 2 * (4 * l + cw w l)) → BV g o v → BV h53 o v := fun o v ho hb => hb.frm f53 (by unfold bS; omega) (by unfold bS; omega)
    refine nx h53 ⟨ot _ _ (by omega) I1, fun l' hl' hlt s' hs' => ?_, fun l' hl' hge s' hs' => ot _ _ (by omega) (I3 l' hl' (by omega) s' hs'), fun s' hs' => ot _ _ (by omega) (I4 s' hs'), I5.trans (f53.mono (fun c hc => by unfold bS at hc; unfold adS; omega))⟩
    by_cases el : l' = l
    · subst el
      by_cases es : s' = cw w l'
      · subst es
        rw [e1]
        exact b53
      · rw [liv_s, iv_f (fun y => es y.symm), Nat.mul_zero]
        exact ot _ _ (by omega) (I3 l' hl' (Nat.le_refl _) s' hs')
    · exact ot _ _ (by omega) (I2 l' hl' (by omega) s' hs')
theorem s_forgetSums {n : Nat → Int32} {h : Hs} {Q : Hs → Prop} (R : RG n) (hQ : ∀ h', SUMS h' n 0 → frm adS h h' → Q h') : p_Worlds_forgetSums h Q := by
  have hl4 := R.lo.2
  unfold p_Worlds_forgetSums
  rw [lN_lit0]
  refine s_become kX_to.1 (by decide) (fun h5 b5 f5 => ?_)
  intro P10 h10
  refine lpH (fun j g => BV g 362 0 ∧ (∀ i, i < j → BV g (364 + 2 * i) 0) ∧ frm adS h g) 16 ⟨b5, fun i hi => by omega, f5.mono (fun c hc => by unfold bS at hc; unfold adS; omega)⟩ ?_ ?_
  · intro g hI
    obtain ⟨I1, I2, I3⟩ := hI
    refine h10 _ _ (bY (nI_le (a := 16) (b := 16) (by omega) (by omega)) (fun P37 h37 => ?_))
    refine lpH (fun j g => BV g 362 0 ∧ (∀ i, i < 16 → BV g (364 + 2 * i) 0) ∧ (∀ i, i < j → BV g (396 + 2 * i) 0) ∧ frm adS h g) 4 ⟨I1, I2, fun i hi => by omega, I3⟩ ?_ ?_
    · intro g2 hJ
      obtain ⟨J1, J2, J3, J4⟩ := hJ
      exact h37 _ _ (bY (nI_le (a := 4) (b := 4) (by omega) (by omega)) (hQ g2 ⟨J1, fun l hl s hs => J2 (4 * l + s) (by unfold nLo at hl; omega), J3⟩ J4))
    · intro j g2 hj hJ nx
      obtain ⟨J1, J2, J3, J4⟩ := hJ
      refine h37 _ _ (bN (nI_ge (b := 4) hj (by omega)) ⟨vp_in_nI hj (by omega), ?_⟩)
      rw [nI_clamp (show j < 2 ^ 31 by omega)]
      refine s_become (kX_al j hj).1 (by decide) (fun h' b' f' a1 ea => ?_)
      rw [nI_1] at ea
      subst ea
      refine nx h' ⟨J1.frm f' (by unfold bS; omega) (by unfold bS; omega), fun i hi => (J2 i hi).frm f' (by unfold bS; omega) (by unfold bS; omega), fun i hi => ?_, J4.trans (f'.mono (fun c hc => by unfold bS at hc; unfold adS; omega))⟩
      by_cases e : i = j
      · subst e
        exact b'
      · exact (J3 i (by omega)).frm f' (by unfold bS; omega) (by unfold bS; omega)
  · intro j g hj hI nx
    obtain ⟨I1, I2, I3⟩ := hI
    refine h10 _ _ (bN (nI_ge (b := 16) hj (by omega)) ⟨vp_in_nI hj (by omega), ?_⟩)
    rw [nI_clamp (show j < 2 ^ 31 by omega)]
    refine s_become (kX_lv j hj).1 (by decide) (fun h' b' f' a1 ea => ?_)
    rw [nI_1] at ea
    subst ea
    refine nx h' ⟨I1.frm f' (by unfold bS; omega) (by unfold bS; omega), fun i hi => ?_, I3.trans (f'.mono (fun c hc => by unfold bS at hc; unfold adS; omega))⟩
    by_cases e : i = j
    · subst e
      exact b'
    · exact (I2 i (by omega)).frm f' (by unfold bS; omega) (by unfold bS; omega)
def wlS : Nat → Prop := fun c => c = 48 ∨ c = 50 ∨ c = 51 ∨ (357 ≤ c ∧ c ≤ 360) ∨ (362 ≤ c ∧ c ≤ 403)
def WRS : Nat → Prop := fun c => c = 1 ∨ c = 48 ∨ c = 50 ∨ c = 51 ∨ (74 ≤ c ∧ c ≤ 348) ∨ (350 ≤ c ∧ c ≤ 353) ∨ (357 ≤ c ∧ c ≤ 360) ∨ (362 ≤ c ∧ c ≤ 403)
theorem shl4 : ∀ l, l < 5 → (1 : Int32) <<< ((2 * nI l) &&& 31) = nI (4 ^ l) := by decide +kernel
theorem four_le {l : Nat} (h : l ≤ 4) : 4 ^ l ≤ 256 := Nat.pow_le_pow_right (by omega) h
def WO (h : Hs) (n : Nat → Int32) : Prop := SUMS h n (4 ^ nLo n)
theorem KO.frr {S T : Nat → Prop} {h h' : Hs} (K : KO h) (f : frr S T h h') (hS : ∀ c, 76 ≤ c ∧ c ≤ 328 → ¬ S c) : KO h' := by
  have x := K.frm f.to hS
  exact x
theorem s_Wrefresh {n : Nat → Int32} {h : Hs} {Q : Hs → Prop} (X : XS h 3 n) (R : RG n) (O : LO h n) (K : KO h) (W : WF h) (hc : gi h 1 11 = 0 ∨ WO h n) (hQ : ∀ h', WO h' n → gi h' 1 11 ≠ 0 → WF h' → KO h' → frr WRS wgT h h' → Q h') : p_Worlds_refresh h Q := by
  have hL := X.lo R
  have hN := four_le hL.2
  unfold p_Worlds_refresh
  refine ⟨fun _ => ?_, fun z => hQ h (hc.resolve_left z) z W K frr.refl⟩
  intro h10 e10
  have f10 : frm (fun c => c = 1) h h10 := e10 ▸ frm.si rfl
  have F10 : frm WRS h h10 := f10.mono (fun c hc => Or.inl hc)
  have Xf : ∀ g, frm WRS h g → XS g 3 n := fun g f => X.frm f (fun c a b => by unfold WRS; omega)
  have Of : ∀ g, frm WRS h g → LO g n := fun g f => O.frm f (fun c hc => by unfold WRS; omega) R
  refine s_forgetSums R (fun h14 A14 f14 => ?_)
  have F14 : frm WRS h h14 := F10.trans (f14.mono (fun c hc => by unfold adS at hc; unfold WRS; omega))
  refine s_shareOut (Xf h14 F14) R (Of h14 F14) (fun h18 H18 f18 => ?_)
  have F18 : frm WRS h h18 := F14.trans (f18.mono (fun c hc => by unfold shS at hc; unfold WRS; omega))
  have K18 : KO h18 := ((K.frm f10 (fun c hc => by omega)).frm f14 (fun c hc => by unfold adS; omega)).frm f18 (fun c hc => by unfold shS; omega)
  refine s_Crefresh (Xf h18 F18) R K18 (fun h29 K29 C29 f29 => ?_)
  have F29 : frm WRS h h29 := F18.trans (f29.mono (fun c hc => by unfold kS at hc; unfold WRS; omega))
  have X29 := Xf h29 F29
  intro P58 h58
  have go : P58 (nI (mq n)) := by
    apply h58
    intro h58' e58 a1 ea P75 h75
    have f58 : frm (fun c => c = 1) h29 h58' := e58 ▸ frm.si rfl
    have F58 : frm WRS h h58' := F29.trans (f58.mono (fun c hc => Or.inl hc))
    have X58 := Xf h58' F58
    have O58 := Of h58' F58
    rw [(X58.lo R).1, shl4 (nLo n) (by omega)] at ea
    subst ea
    have W58 : WF h58' := W.frm F58
    have H58 : SH h58' n (nLo n) := (H18.frr (f29.frr (T := wgT)) hL.2 (fun c h1 h2 => by unfold kS; omega)).frr (f58.frr (T := wgT)) hL.2 (fun c h1 h2 => by omega)
    have C58 : CK h58' n (nSg n) := C29.frr (f58.frr (T := wgT)) R.sg.2 (fun c h1 h2 => by omega)
    have K58 : KO h58' := K29.frm f58 (fun c hc => by omega)
    have A58 : SUMS h58' n 0 := ((A14.frr R (f18.frr (T := wgT)) (fun c h1 h2 => by unfold shS; omega)).frr R (f29.frr (T := wgT)) (fun c h1 h2 => by unfold kS; omega)).frr R (f58.frr (T := wgT)) (fun c h1 h2 => by omega)
    have m8 : gi h58' 1 8 = nI (mq n) := by rw [e58, gi_s]
    have m11 : gi h58' 1 11 = 1 := by rw [e58, gi_k (by omega), f29.1 1 (by unfold kS; omega), f18.1 1 (by unfold shS; omega), f14.1 1 (by unfold adS; omega), e10, gi_s]
    have XL : ∀ g, frr wlS wgT h58' g → XS g 3 n := fun g f => X58.frr f (fun c a b => by unfold wlS; omega)
    have OL : ∀ g, frr wlS wgT h58' g → LO g n := fun g f => O58.frr f (fun c hc => by unfold wlS; omega) R
    refine lpH (fun w g => SUMS g n w ∧ WF g ∧ frr wlS wgT h58' g) (4 ^ nLo n) ⟨A58, W58, frr.refl⟩ ?_ ?_
    · intro g hI
      obtain ⟨I1, I2, I3⟩ := hI
      refine h75 _ _ (bY (nI_le (Nat.le_refl _) (by omega)) (hQ g I1 ?_ I2 (K58.frr I3 (fun c hc => by unfold wlS; omega)) (F58.frr.trans (I3.mono (fun c hc => by unfold wlS at hc; unfold WRS; omega) (fun c hc => hc)))))
      rw [I3.1 1 (by unfold wlS; omega), m11]
      exact one0
    · intro w g hw hI nx
      obtain ⟨I1, I2, I3⟩ := hI
      refine h75 _ _ (bN (nI_ge hw (by omega)) (s_choose (XL g I3) R (OL g I3) rfl (by omega) (fun ok h85 C85 f85 P99 h99 => bN one0 ?_) (fun nok h85 f85 P99 h99 => bY rfl (h99 _ (fun a2 ea => ?_)))))
      · have F85 : frr wlS wgT h58' h85 := I3.trans (f85.mono (fun c hc => Or.inl hc)).frr
        refine s_weigh (XL h85 F85) R (OL h85 F85) C85 (H58.frr F85 hL.2 (fun c h1 h2 => by unfold wlS; omega)) (C58.frr F85 R.sg.2 (fun c h1 h2 => by unfold wlS; omega)) (I2.frm f85) (by rw [F85.1 1 (by unfold wlS; omega)]; exact m8) (fun h92 b92 W92 f92 => ?_)
        have F92 : frr wlS wgT h58' h92 := F85.trans (f92.mono (fun c hc => by unfold wgS at hc; unfold wlS; omega) (fun c hc => hc))
        have A92 : SUMS h92 n w := (I1.frr R (f85.frr (T := wgT)) (fun c h1 h2 => by omega)).frr R f92 (fun c h1 h2 => by unfold wgS; omega)
        refine s_addUp (XL h92 F92) R (OL h92 F92) (C85.frr f92 (by unfold wgS; omega)) W92 b92 ok (by omega) A92 (fun h96 A96 f96 => h99 _ (fun a2 ea => ?_))
        rw [nI_1] at ea
        subst ea
        exact nx h96 ⟨A96, W92.frm f96, F92.trans (f96.mono (fun c hc => by unfold adS at hc; unfold wlS; omega)).frr⟩
      · rw [nI_1] at ea
        subst ea
        have hz : wt n w = 0 := by unfold wt; rw [iv_f (show ¬ okw n w from nok), Nat.zero_mul]
        exact nx h85 ⟨(I1.frr R (f85.frr (T := wgT)) (fun c h1 h2 => by omega)).zero hz, I2.frm f85, I3.trans (f85.mono (fun c hc => Or.inl hc)).frr⟩
  have h9 : hrd n ≤ 9 := (R.pu 0 (by omega)).2
  have e7 : gi h29 7 0 = nI (hrd n) := (X29.put (i := 0) (by omega)).trans (R.pu 0 (by omega)).1
  refine ble (a := 9) rfl e7 (by omega) (by omega) (fun z => ?_) (fun z => ?_)
  · have : mq n = 0 := if_neg (by omega)
    rw [this, nI_0] at go
    exact go
  · have : mq n = most n := if_pos z
    rw [this] at go
    exact s_mostHunger X29 R (Of h29 F29) go
