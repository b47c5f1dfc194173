/-! ===== the class: the most that can hunger; choices ===== -/
theorem s_mostHunger {n : Nat → Int32} {h : Hs} {Q : Int32 → Prop} (X : XS h 3 n) (R : RG n) (O : LO h n) (hQ : Q (nI (most n))) : p_Lives_mostHunger h Q := by
  have hP' := X.pl R
  have hL := X.lo R
  have evl := evr_le R
  unfold p_Lives_mostHunger
  rw [hL.1, hP'.1]
  intro P4 h4
  have go : P4 (nI (evr n)) (nI (nLo n)) := by
    refine h4 _ _ (bY (nI_le (Nat.le_refl _) (by omega)) (fun P37 h37 => ?_))
    refine lq2 (fun j => nI (sumN (fun p => sumN (fun y => b2 (decide (fd n p y < evr n))) 10) j)) (nP n) rfl ?_ ?_
    · exact h37 _ _ (bY (nI_le (Nat.le_refl _) (by omega)) hQ)
    · intro p hp nx
      refine h37 _ _ (bN (nI_ge hp (by omega)) (fun P51 h51 => ?_))
      refine lq2 (fun y => nI (sumN (fun p => sumN (fun y => b2 (decide (fd n p y < evr n))) 10) p + sumN (fun y => b2 (decide (fd n p y < evr n))) y)) 10 rfl ?_ ?_
      · refine h51 _ _ (bY (nI_le (a := 10) (b := 10) (by omega) (by omega)) (fun a3 ea => ?_))
        subst ea
        rw [nI_1]
        exact nx
      · intro y hy nx2
        have fl := fd_eq (a := n p) (b := n (6 + y)) R (show p < 6 by omega) hy rfl rfl
        refine h51 _ _ (bN (nI_ge (b := 10) hy (by omega)) ⟨vp_in_nI (by omega) (by omega), vp_in_nI hy (by omega), fun P74 h74 => ?_⟩)
        rw [nI_clamp (show p < 2 ^ 31 by omega), nI_clamp (show y < 2 ^ 31 by omega), show 52 + 1 + 1 * p = 53 + p by omega, O.2.1 p hp y hy]
        have go74 : P74 (nI (sumN (fun p => sumN (fun y => b2 (decide (fd n p y < evr n))) 10) p + sumN (fun y => b2 (decide (fd n p y < evr n))) (y + 1))) := h74 _ (fun a4 ea => by
          subst ea
          rw [nI_1]
          exact nx2)
        refine ble rfl rfl (by omega) (by omega) (fun z => ?_) (fun z a2 ea => ?_)
        · rw [sumN_s, show decide (fd n p y < evr n) = false from decide_eq_false (by omega)] at go74
          exact go74
        · rw [sumN_s, show decide (fd n p y < evr n) = true from decide_eq_true z] at go74
          rw [nI_1] at ea
          subst ea
          exact go74
  refine lq2 (fun j => nI (sumN (ppl n) j)) (nLo n) rfl go (fun l hl nx => h4 _ _ (bN (nI_ge hl (by omega)) ⟨vp_in_nI (by omega) (by omega), fun a1 e1 a2 e2 => ?_⟩))
  rw [nI_clamp (show l < 2 ^ 31 by omega), X.ppl R (show l < 4 by omega), nI_add] at e1
  rw [nI_1] at e2
  subst e1 e2
  exact nx
/-- the story of a lot in a world -/
def cw (w l : Nat) : Nat := w / 4 ^ l % 4
theorem cw_lt {w l : Nat} : cw w l < 4 := Nat.mod_lt _ (by omega)
theorem snd_dec (n : Nat → Int32) (s : Nat) : snd n s ∨ ¬ snd n s := Classical.em _
theorem LO.fault {h : Hs} {n : Nat → Int32} (O : LO h n) {s : Nat} (hs : s < 4) : gi h (59 + 3 * s) 2 = -1 ↔ snd n s := by
  obtain ⟨o1, o2⟩ := O.1 s hs
  constructor
  · intro e
    unfold snd sto
    cases hj : (story (tT n s) (tL n s) (nP n)).1 with
    | none => rfl
    | some j =>
      have e2 := o1 j hj
      have hps := ps_le (T := tT n s) (L := tL n s) j
      rw [e] at e2
      exact absurd e2 (fun e2 => by
        rcases Nat.lt_or_ge (ps (tT n s) (tL n s) j) (2 ^ 31) with y | y
        · have := congrArg Int32.toInt e2
          rw [nI_toInt y] at this
          have h3 : (-1 : Int32).toInt = -1 := by decide
          rw [h3] at this
          omega
        · have hl : tL n s < 2 ^ 31 := by
            unfold tL nn
            have := Int32.toInt_lt (n (34 + 121 * s))
            show ((n (34 + 121 * s)).toInt).toNat < 2 ^ 31
            omega
          omega)
  · exact fun e => (o2 e).1
theorem sh2 : ∀ l, l < 4 → (((2 * nI l) &&& 31).toBitVec.smod 32).toNat = 2 * l := by decide +kernel
theorem choose_b {w l : Nat} (hw : w < 256) (hl : l < 4) : (nI w >>> ((2 * nI l) &&& 31)) &&& 3 = nI (cw w l) := by
  rw [pk_shrN (by omega) _ (2 * l) (sh2 l hl), pk_andN (Nat.lt_of_le_of_lt (Nat.div_le_self _ _) (by omega)) 2 (by decide)]
  unfold cw
  rw [Nat.pow_mul]
theorem s_choose {n : Nat → Int32} {w : Nat} {a1 : Int32} {h : Hs} {Q : Int32 → Hs → Prop} (X : XS h 3 n) (R : RG n) (O : LO h n) (e1 : a1 = nI w) (hw : w < 256) (h1 : (∀ l, l < nLo n → snd n (cw w l)) → ∀ h', CH h' n (cw w) → frm (fun c => c = 48) h h' → Q 1 h') (h0 : (¬ ∀ l, l < nLo n → snd n (cw w l)) → ∀ h', frm (fun c => c = 48) h h' → Q 0 h') : p_Lives_choose a1 h Q := by
  subst e1
  have hL := X.lo R
  unfold p_Lives_choose
  intro P hP
  refine lpH (fun j g => (∀ l, l < j → gi g 48 l = nI (cw w l) ∧ snd n (cw w l)) ∧ frm (fun c => c = 48) h g) (nLo n) ⟨fun l hl => by omega, frm.refl⟩ ?_ ?_
  · intro g hI
    refine hP _ _ (bY (by rw [hI.2.1 3 (by omega), hL.1]; exact nI_le (Nat.le_refl _) (by omega)) (h1 (fun l hl => (hI.1 l hl).2) g (fun l hl => ⟨(hI.1 l hl).1, cw_lt, (hI.1 l hl).2⟩) hI.2))
  · intro l g hl hI nx
    refine hP _ _ (bN (by rw [hI.2.1 3 (by omega), hL.1]; exact nI_ge hl (by omega)) ⟨vp_in_nI (by omega) (by omega), fun h25 e25 => ⟨vp_in_nI (by omega) (by omega), ?_⟩⟩)
    rw [nI_clamp (show l < 2 ^ 31 by omega), choose_b hw (by omega)] at e25
    have c4 := cw_lt (w := w) (l := l)
    have f25 : frm (fun c => c = 48) h h25 := hI.2.trans (e25 ▸ frm.si rfl)
    have g48 : gi h25 48 l = nI (cw w l) := by rw [e25, gi_s]
    rw [nI_clamp (show l < 2 ^ 31 by omega), g48, nI_clamp (show cw w l < 2 ^ 31 by omega)]
    have Og := O.frm f25 (fun c hc => by omega) R
    refine ⟨vp_in_nI c4 (by omega), fun z a2 ea => ?_, fun z => h0 (fun y => z ((Og.fault c4).mpr (y l hl))) h25 f25⟩
    subst ea
    rw [nI_1]
    refine nx h25 ⟨fun l' hl' => ?_, f25⟩
    by_cases e : l' = l
    · subst e
      exact ⟨g48, (Og.fault c4).mp z⟩
    · rw [e25, gi_k e]
      exact hI.1 l' (by omega)
theorem s_doAllLive {n : Nat → Int32} {ch : Nat → Nat} {s : Nat} {a1 : Int32} {h : Hs} {Q : Int32 → Prop} (X : XS h 3 n) (R : RG n) (O : LO h n) (C : CH h n ch) (e1 : a1 = nI s) (hs : s < 4) (h1 : (∀ l, l < nLo n → ch l = s) ∧ snd n s → Q 1) (h0 : ¬ ((∀ l, l < nLo n → ch l = s) ∧ snd n s) → Q 0) : p_Lives_doAllLive a1 h Q := by
  subst e1
  have hL := X.lo R
  unfold p_Lives_doAllLive
  rw [hL.1]
  intro P hP
  refine lq1 (fun j => ∀ l, l < j → ch l = s) (nLo n) (fun l hl => by omega) (fun hI => hP _ (bY (nI_le (Nat.le_refl _) (by omega)) ⟨vp_in_nI hs (by omega), fun P49 h49 => ?_⟩)) (fun l hl hI nx => hP _ (bN (nI_ge hl (by omega)) ⟨vp_in_nI (by omega) (by omega), ?_⟩))
  · rw [nI_clamp (show s < 2 ^ 31 by omega)]
    exact ⟨fun z => h49 _ ⟨zb0, h0 (fun y => z ((O.fault hs).mpr y.2))⟩, fun z => h49 _ ⟨zb1, h1 ⟨hI, (O.fault hs).mp z⟩⟩⟩
  · obtain ⟨c1, c2, c3⟩ := C l hl
    rw [nI_clamp (show l < 2 ^ 31 by omega), c1]
    refine beq rfl rfl (by omega) (by omega) (fun z a2 ea => ?_) (fun z => h0 (fun y => z (y.1 l hl)))
    subst ea
    rw [nI_1]
    refine nx (fun l' hl' => ?_)
    by_cases e : l' = l
    · subst e
      exact z
    · exact hI l' (by omega)
theorem s_allLive {n : Nat → Int32} {s : Nat} {a1 : Int32} {h : Hs} {Q : Hs → Prop} (R : RG n) (e1 : a1 = nI s) (hs : s < 4) (hn : snd n s) (hQ : ∀ h', CH h' n (fun _ => s) → frm (fun c => c = 48) h h' → Q h') : p_Lives_allLive a1 h Q := by
  subst e1
  unfold p_Lives_allLive
  exact s_fill (show lX 48 = 4 by decide +kernel) (by omega) (fun h' y1 _ y3 => hQ h' (fun l hl => ⟨y1 l (by have := R.lo.2; unfold nLo at hl; omega), hs, hn⟩) y3)
