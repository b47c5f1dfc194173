/-! ===== the class: shares of lots ===== -/
theorem XS.tel {h : Hs} {n : Nat → Int32} (X : XS h 3 n) {t i : Nat} (ht : t < 6) (hi : i < 5) : gi h (29 + t) i = n (545 + 5 * t + i) := by
  have := X.rd (k := 545 + 5 * t + i) (by omega) (c_tell t ht i hi)
  rw [show 3 + (26 + t) = 29 + t by omega] at this
  exact this
theorem XS.sig {h : Hs} {n : Nat → Int32} (X : XS h 3 n) {t i : Nat} (ht : t < 6) (hi : i < 4) : gi h (21 + t) i = n (518 + 4 * t + i) := by
  have := X.rd (k := 518 + 4 * t + i) (by omega) (c_sign t ht i hi)
  rw [show 3 + (18 + t) = 21 + t by omega] at this
  exact this
theorem anyF_s (H : Nat → Bool) (k : Nat) : anyF H 0 (k + 1) = (anyF H 0 k || H k) := by
  show (anyF H 0 k || H (0 + k)) = _
  rw [Nat.zero_add]
theorem anyF_t {H : Nat → Bool} : ∀ {k j : Nat}, j < k → H j = true → anyF H 0 k = true
  | k + 1, j, h, hj => by
    rw [anyF_s]
    by_cases e : j = k
    · subst e
      rw [hj, Bool.or_true]
    · rw [anyF_t (k := k) (j := j) (by omega) hj, Bool.true_or]
theorem s_isHeard {n : Nat → Int32} {t : Nat} {a1 : Int32} {h : Hs} {Q : Int32 → Prop} (X : XS h 3 n) (e1 : a1 = nI t) (ht : t < 6) (h1 : hrt n t = true → Q 1) (h0 : hrt n t = false → Q 0) : p_State_isHeard a1 h Q := by
  subst e1
  unfold p_State_isHeard
  intro P hP
  refine lq1 (fun j => anyF (fun i => decide (n (545 + 5 * i) = n (545 + 5 * t))) 0 j = false) t rfl (fun hI => hP _ (bY (nI_le (Nat.le_refl _) (by omega)) (h1 ?_))) (fun j hj hI nx => hP _ (bN (nI_ge hj (by omega)) ⟨vp_in_nI (by omega) (by omega), vp_in_nI ht (by omega), ?_⟩))
  · unfold hrt
    rw [hI]
    rfl
  · rw [nI_clamp (show j < 2 ^ 31 by omega), nI_clamp (show t < 2 ^ 31 by omega), show 28 + 1 + 1 * j = 29 + j by omega, show 28 + 1 + 1 * t = 29 + t by omega, X.tel (i := 0) (show j < 6 by omega) (by omega), X.tel (i := 0) ht (by omega)]
    refine ⟨fun c a2 ea => ?_, fun c => h0 ?_⟩
    · rw [nI_1] at ea
      subst ea
      refine nx ?_
      rw [anyF_s, hI]
      exact decide_eq_false c
    · unfold hrt
      rw [anyF_t hj (decide_eq_true c)]
      rfl
theorem s_of10 {b : Bool} {w : Nat} {a0 a1 : Int32} {h : Hs} {Q : Int32 → Prop} (e0 : a0 = nI (b2 b)) (e1 : a1 = nI w) (hw : w ≤ 10) (hQ : Q (nI (ot b w))) : p_Worlds_of10 a0 a1 h Q := by
  subst e0 e1
  unfold p_Worlds_of10
  intro P hP
  rw [show (10 : Int32) - nI w = nI (10 - w) from pk_sub (a := 10) hw]
  cases b with
  | true => exact bN (by decide) (hP _ hQ)
  | false => exact bY rfl (hP _ hQ)
theorem b2t : (1 : Int32) = nI (b2 true) := rfl
theorem b2f : (0 : Int32) = nI (b2 false) := rfl
theorem s_tellersShare {n : Nat → Int32} {l s : Nat} {a1 : Int32} {h : Hs} {Q : Int32 → Prop} (X : XS h 3 n) (R : RG n) (O : LO h n) (e1 : a1 = nI l) (hl : l < 4) (hs : s < 4) (hQ : ∀ v, (snd n s → v = nI (tsh n l s)) → Q v) : p_Worlds_tellersShare a1 (59 + 3 * s) h Q := by
  subst e1
  have hT := X.te R
  unfold p_Worlds_tellersShare
  rw [hT.1]
  intro P5 h5
  have key := lpG (fun k (v : Int32) => P5 v (nI k)) (fun k v => snd n s → v = nI (prdN (fun t => if tLo n t = l then tf n s t else 1) k)) (nTe n) (s := 1) (fun _ => rfl) ?_ ?_
  · exact key
  · intro v hI
    exact h5 _ _ (bY (nI_le (Nat.le_refl _) (by omega)) (hQ v hI))
  · intro t v ht hI nx
    obtain ⟨q1, q2, q3, q4, q5, q6, q7, q8⟩ := R.tel (show t < 6 by omega)
    refine h5 _ _ (bN (nI_ge ht (by omega)) ⟨vp_in_nI (by omega) (by omega), fun P88 h88 => ?_⟩)
    rw [nI_clamp (show t < 2 ^ 31 by omega), show 28 + 1 + 1 * t = 29 + t by omega, X.tel (i := 1) (show t < 6 by omega) (by omega), X.tel (i := 2) (show t < 6 by omega) (by omega), X.tel (i := 3) (show t < 6 by omega) (by omega), X.tel (i := 4) (show t < 6 by omega) (by omega), q1, q3, q5, q7]
    have go : ∀ (v' : Int32), (snd n s → v' = nI (prdN (fun t => if tLo n t = l then tf n s t else 1) (t + 1))) → P88 v' := fun v' hv => h88 _ (fun a4 ea => by
      rw [nI_1] at ea
      subst ea
      exact nx v' hv)
    refine beqN rfl rfl (by omega) (by omega) (fun z => go v (fun sn => ?_)) (fun z => ?_)
    · rw [hI sn, prdN_s, if_neg z, Nat.mul_one]
    · refine s_isHeard X rfl (by omega) (fun hh => bN one0 (fun a6 e6 => ?_)) (fun hh => bY rfl (go v (fun sn => ?_)))
      · subst e6
        refine ⟨vp_in_nI (by omega) (by omega), fun P74 h74 => ?_⟩
        rw [nI_clamp (show tMo n t < 2 ^ 31 by omega)]
        have go74 : ∀ (b : Bool) (x : Int32), x = nI (b2 b) → (snd n s → b = tso n s t) → P74 x := fun b x hx hb => h74 _ (s_of10 hx rfl (by omega) (fun a3 ea => by
          subst ea
          refine go _ (fun sn => ?_)
          rw [hI sn, nI_mul, prdN_s, if_pos z, hb sn]
          unfold tf
          rw [if_pos hh]))
        have hw := fun sn => (O.tale hs sn).2.2.2.1 (tMo n t) (by omega)
        have hwl := Wh_le R s (tMo n t)
        refine ⟨fun c => go74 false _ b2f (fun sn => ?_), fun c => go74 true _ b2t (fun sn => ?_)⟩
        · rw [hw sn] at c
          exact (decide_eq_false (fun e => c (by rw [e]))).symm
        · rw [hw sn] at c
          exact (decide_eq_true ((nI_eq (by omega) (by omega)).mp c)).symm
      · rw [hI sn, prdN_s, if_pos z]
        unfold tf
        rw [if_neg (by rw [hh]; decide), Nat.mul_one]
theorem rg1 {x : Int32} (h : rg 1 x) : x = 0 ∨ x = 1 := by
  have h2 := h.2
  rcases (show nn x = 0 ∨ nn x = 1 by omega) with e | e
  · left
    rw [h.1, e, nI_0]
  · right
    rw [h.1, e]
    rfl
theorem XS.post {h : Hs} {n : Nat → Int32} (X : XS h 3 n) {i : Nat} (hi : i < 3) : gi h 27 i = n (542 + i) := X.rd (k := 542 + i) (by omega) (c_post i hi)
theorem XS.put {h : Hs} {n : Nat → Int32} (X : XS h 3 n) {i : Nat} (hi : i < 2) : gi h 7 i = n (20 + i) := X.rd (k := 20 + i) (by omega) (c_puts i hi)
theorem s_postShare {n : Nat → Int32} {s : Nat} {h : Hs} {Q : Int32 → Prop} (X : XS h 3 n) (R : RG n) (O : LO h n) (hs : s < 4) (hQ : ∀ v, (snd n s → v = nI (pf n s)) → Q v) : p_Worlds_postShare (59 + 3 * s) h Q := by
  have rt' := R.pu 1 (by omega)
  obtain ⟨p1, p2, p3⟩ := R.po
  have tr9 : tru n ≤ 9 := rt'.2
  have et : n (20 + 1) = nI (tru n) := rt'.1
  unfold p_Worlds_postShare
  rw [X.post (i := 0) (by omega), X.post (i := 1) (by omega), X.post (i := 2) (by omega), X.put (i := 1) (by omega), et]
  show (¬ n 542 = 0 → _) ∧ (n 542 = 0 → Q 1)
  refine ⟨fun c0 => ?_, fun c0 => hQ 1 (fun _ => ?_)⟩
  · have e1 : n 542 = 1 := (rg1 p1).resolve_left c0
    have hpf : pf n s = ot (decide (wv (sto n s).2.1 = n 543)) (tru n) * ot (decide (nI (sto n s).2.2.1 = n 544)) (tru n) := if_pos e1
    intro P35 h35
    have go35 : ∀ (b : Bool) (x : Int32), x = nI (b2 b) → (snd n s → b = decide (wv (sto n s).2.1 = n 543)) → P35 x := by
      intro b x hx hb
      apply h35
      intro P58 h58
      have go58 : P58 (n 544) := by
        apply h58
        intro P66 h66
        have go66 : ∀ (c : Bool) (y : Int32), y = nI (b2 c) → (snd n s → c = decide (nI (sto n s).2.2.1 = n 544)) → P66 y := by
          intro c y hy hc
          apply h66
          refine s_of10 hx rfl (by omega) (s_of10 hy rfl (by omega) (hQ _ (fun sn => ?_)))
          rw [nI_mul, hpf, hb sn, hc sn]
        refine ⟨fun c => go66 false _ b2f (fun sn => ?_), fun c => go66 true _ b2t (fun sn => ?_)⟩
        · rw [(O.tale hs sn).2.2.1] at c
          exact (decide_eq_false c).symm
        · rw [(O.tale hs sn).2.2.1] at c
          exact (decide_eq_true c).symm
      show (¬ n 544 = 1 → P58 0) ∧ (n 544 = 1 → P58 1)
      refine ⟨fun c => ?_, fun c => ?_⟩
      · rw [(rg1 p3).resolve_right c] at go58
        exact go58
      · rw [c] at go58
        exact go58
    refine ⟨fun c => go35 false _ b2f (fun sn => ?_), fun c => go35 true _ b2t (fun sn => ?_)⟩
    · rw [(O.tale hs sn).2.1] at c
      exact (decide_eq_false c).symm
    · rw [(O.tale hs sn).2.1] at c
      exact (decide_eq_true c).symm
  · have : pf n s = 1 := if_neg (by rw [c0]; decide)
    rw [this]
    rfl
def shS : Nat → Prop := fun c => 350 ≤ c ∧ c ≤ 353
def SH (h : Hs) (n : Nat → Int32) (k : Nat) : Prop := ∀ l, l < k → ∀ s, s < 4 → snd n s → gi h (350 + l) s = nI (shr n l s)
theorem s_shareOut {n : Nat → Int32} {h : Hs} {Q : Hs → Prop} (X : XS h 3 n) (R : RG n) (O : LO h n) (hQ : ∀ h', SH h' n (nLo n) → frm shS h h' → Q h') : p_Worlds_shareOut h Q := by
  have hL := X.lo R
  unfold p_Worlds_shareOut
  intro P2 h2
  have Xf : ∀ g, frm shS h g → XS g 3 n := fun g f => X.frm f (fun c a b => by unfold shS; omega)
  have Of : ∀ g, frm shS h g → LO g n := fun g f => O.frm f (fun c hc => by unfold shS; omega) R
  refine lpH (fun k g => SH g n k ∧ frm shS h g) (nLo n) ⟨fun l hl => by omega, frm.refl⟩ ?_ ?_
  · intro g hI
    exact h2 _ _ (bY (by rw [((Xf g hI.2).lo R).1]; exact nI_le (Nat.le_refl _) (by omega)) (hQ g hI.1 hI.2))
  · intro l g hl hI nx
    refine h2 _ _ (bN (by rw [((Xf g hI.2).lo R).1]; exact nI_ge hl (by omega)) (fun P15 h15 => ?_))
    refine lpH (fun j g => SH g n l ∧ (∀ s, s < j → snd n s → gi g (350 + l) s = nI (shr n l s)) ∧ frm shS h g) 4 ⟨hI.1, fun s hs => by omega, hI.2⟩ ?_ ?_
    · intro g2 hJ
      obtain ⟨J1, J2, J3⟩ := hJ
      refine h15 _ _ (bY (nI_le (a := 4) (b := 4) (by omega) (by omega)) (fun a1 ea => ?_))
      rw [nI_1] at ea
      subst ea
      refine nx g2 ⟨fun l' hl' s hs sn => ?_, J3⟩
      by_cases e : l' = l
      · subst e
        exact J2 s hs sn
      · exact J1 l' (by omega) s hs sn
    · intro s g2 hs hJ nx2
      obtain ⟨J1, J2, J3⟩ := hJ
      have Xg := Xf g2 J3
      have Og := Of g2 J3
      refine h15 _ _ (bN (nI_ge (b := 4) hs (by omega)) ⟨vp_in_nI hs (by omega), vp_in_nI hs (by omega), ?_⟩)
      have epr : gi g2 13 s = nI (pri n s) := (Xg.rd (k := 30 + s) (by omega) (c_prio s hs)).trans (R.pr s hs).1
      rw [nI_clamp (show s < 2 ^ 31 by omega), epr]
      refine s_tellersShare Xg R Og rfl (by omega) hs (fun v hv a3 e3 => ⟨vp_in_nI (by omega) (by omega), fun P75 h75 => ?_⟩)
      have go : ∀ x, (snd n s → x = nI (shr n l s)) → P75 x := fun x hx => h75 _ ⟨vp_in_nI hs (by omega), fun h' e' a2 ea => by
        rw [nI_1] at ea
        rw [nI_clamp (show l < 2 ^ 31 by omega), show 349 + 1 + 1 * l = 350 + l by omega] at e'
        subst ea e'
        refine nx2 _ ⟨fun l' hl' s' hs' sn => ?_, fun s' hs' sn => ?_, J3.trans (frm.si (by unfold shS; omega))⟩
        · rw [gi_c (by omega)]
          exact J1 l' hl' s' hs' sn
        · by_cases e : s' = s
          · subst e
            rw [gi_s]
            exact hx sn
          · rw [gi_k e]
            exact J2 s' (by omega) sn⟩
      refine beqN (b := 0) rfl nI_lit0 (by omega) (by omega) (fun z => go a3 (fun sn => ?_)) (fun z => ⟨vp_in_nI hs (by omega), s_postShare Xg R Og hs (fun w hw => go _ (fun sn => ?_))⟩)
      · rw [e3, hv sn, nI_mul]
        unfold shr
        rw [if_neg z]
      · rw [e3, hv sn, hw sn, nI_mul, nI_mul]
        unfold shr
        rw [if_pos z]
