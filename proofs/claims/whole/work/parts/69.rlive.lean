/-! ===== the reference: all stories, what is left, who hungers ===== -/
def RA (g : Hs) (n : Nat → Int32) : Prop := ∀ s, s < 4 → (snd n s → gi g 10 s = 1 ∧ gi g 8 s = wv (sto n s).2.1 ∧ gi g 9 s = nI (sto n s).2.2.1 ∧ ∀ m, m < 120 → gi g 7 (120 * s + m) = nI (Wh n s m)) ∧ (¬ snd n s → gi g 10 s = 0)
def raf (g g' : Hs) : Prop := (∀ c j, c ≠ 0 → c ≠ 7 → c ≠ 8 → c ≠ 9 → c ≠ 10 → gi g' c j = gi g c j) ∧ gi g' 0 6 = gi g 0 6 ∧ g'.2 = g.2
theorem raf.refl {g : Hs} : raf g g := ⟨fun _ _ _ _ _ _ _ => rfl, rfl, rfl⟩
theorem raf.trans {g g1 g2 : Hs} (a : raf g g1) (b : raf g1 g2) : raf g g2 := ⟨fun c j h0 h1 h2 h3 h4 => (b.1 c j h0 h1 h2 h3 h4).trans (a.1 c j h0 h1 h2 h3 h4), b.2.1.trans a.2.1, b.2.2.trans a.2.2⟩
theorem pfr.raf {s : Nat} {g g' : Hs} (f : pfr s g g') : raf g g' := ⟨fun c j h0 h1 h2 h3 h4 => f.1 c j (by omega) (by omega) (by omega), f.1 0 6 (by omega) (by omega) (by omega), f.2⟩
theorem MS.raf {g g' : Hs} {n : Nat → Int32} (M : MS g n) (f : raf g g') : MS g' n := fun k hk => by rw [f.1 1 k (by omega) (by omega) (by omega) (by omega) (by omega)]; exact M k hk
theorem MS.tx {g : Hs} {n : Nat → Int32} (M : MS g n) (R : RG n) {s : Nat} (hs : s < 4) : tL n s ≤ 120 ∧ gi g 1 (34 + 121 * s) = nI (tL n s) ∧ ∀ i, i < tL n s → gi g 1 (35 + 121 * s + i) = nI (tT n s i) ∧ tT n s i < 256 := by
  have hl := R.ln s hs
  refine ⟨hl.2, (M _ (by omega)).trans hl.1, fun i hi => ?_⟩
  have hi2 : i < 120 := Nat.lt_of_lt_of_le hi hl.2
  have ht := R.tx s hs i hi2
  rw [tT_i hi2]
  exact ⟨(M _ (by omega)).trans ht.1, by have := ht.2; omega⟩
theorem MS.pl {g : Hs} {n : Nat → Int32} (M : MS g n) (R : RG n) : gi g 1 671 = nI (nP n) ∧ nP n ≤ 6 := ⟨(M 671 (by omega)).trans R.pl.1, R.pl.2⟩
theorem MS.lo {g : Hs} {n : Nat → Int32} (M : MS g n) (R : RG n) : gi g 1 672 = nI (nLo n) ∧ nLo n ≤ 4 := ⟨(M 672 (by omega)).trans R.lo.1, R.lo.2⟩
theorem MS.sg {g : Hs} {n : Nat → Int32} (M : MS g n) (R : RG n) : gi g 1 673 = nI (nSg n) ∧ nSg n ≤ 6 := ⟨(M 673 (by omega)).trans R.sg.1, R.sg.2⟩
theorem MS.te {g : Hs} {n : Nat → Int32} (M : MS g n) (R : RG n) : gi g 1 674 = nI (nTe n) ∧ nTe n ≤ 6 := ⟨(M 674 (by omega)).trans R.te.1, R.te.2⟩
theorem r_story {n : Nat → Int32} {s : Nat} {a1 : Int32} {g : Hs} {Q : Int32 → Hs → Prop} (M : MS g n) (R : RG n) (e1 : a1 = nI s) (hs : s < 4) (h0 : ∀ j, (sto n s).1 = some j → ∀ g', gi g' 0 8 = nI (ps (tT n s) (tL n s) j) → pfr s g g' → Q 0 g') (h1 : snd n s → ∀ g', gi g' 8 s = wv (sto n s).2.1 → gi g' 9 s = nI (sto n s).2.2.1 → (∀ m, m < 120 → gi g' 7 (120 * s + m) = nI (Wh n s m)) → pfr s g g' → Q 1 g') : p_M_readsStory a1 g Q := by
  obtain ⟨t1, t2, t3⟩ := M.tx R hs
  exact r_readsStory e1 hs t1 t2 t3 (M.pl R).1 (M.pl R).2 h0 h1
theorem zn0 : zn 0 = 0 := by decide +kernel
theorem zn1 : zn 1 = 1 := by decide +kernel
theorem r_readAll {n : Nat → Int32} {g : Hs} {Q : Hs → Prop} (M : MS g n) (R : RG n) (hQ : ∀ g', RA g' n → raf g g' → Q g') : p_M_readAll g Q := by
  unfold p_M_readAll
  intro P hP
  refine lpH (fun k g' => (∀ s, s < k → (snd n s → gi g' 10 s = 1 ∧ gi g' 8 s = wv (sto n s).2.1 ∧ gi g' 9 s = nI (sto n s).2.2.1 ∧ ∀ m, m < 120 → gi g' 7 (120 * s + m) = nI (Wh n s m)) ∧ (¬ snd n s → gi g' 10 s = 0)) ∧ raf g g') 4 ⟨fun s hs => by omega, raf.refl⟩ ?_ ?_
  · intro g' hI
    exact hP _ _ (bY (nI_le (a := 4) (b := 4) (by omega) (by omega)) (hQ g' hI.1 hI.2))
  · intro k g1 hk hI nx
    obtain ⟨I1, I2⟩ := hI
    refine hP _ _ (bN (nI_ge (b := 4) hk (by omega)) ?_)
    have old : ∀ g2 v, pfr k g1 g2 → ∀ s, s < k → (snd n s → gi (si g2 10 k v) 10 s = 1 ∧ gi (si g2 10 k v) 8 s = wv (sto n s).2.1 ∧ gi (si g2 10 k v) 9 s = nI (sto n s).2.2.1 ∧ ∀ m, m < 120 → gi (si g2 10 k v) 7 (120 * s + m) = nI (Wh n s m)) ∧ (¬ snd n s → gi (si g2 10 k v) 10 s = 0) := by
      intro g2 v f s hs
      rw [gi_k (by omega), f.1 10 s (by omega) (by omega) (by omega), gi_c (by omega), f.1 8 s (by omega) (by omega) (by omega), gi_c (by omega), f.1 9 s (by omega) (by omega) (by omega)]
      refine ⟨fun hn => ?_, (I1 s hs).2⟩
      obtain ⟨q1, q2, q3, q4⟩ := (I1 s hs).1 hn
      refine ⟨q1, q2, q3, fun m hm => ?_⟩
      rw [gi_c (by omega), f.1 7 _ (by omega) (by omega) (by omega)]
      exact q4 m hm
    have rs : ∀ g2 v, pfr k g1 g2 → raf g (si g2 10 k v) := fun g2 v f => I2.trans (f.raf.trans ⟨fun c j _ _ _ _ h4 => gi_c h4, gi_c (by omega), rfl⟩)
    refine r_story (M.raf I2) R rfl hk (fun j hj g2 _ f => ⟨vp_in_nI hk (by omega), fun h17 e17 a1 ea => ?_⟩) (fun hn g2 y8 y9 y7 f => ⟨vp_in_nI hk (by omega), fun h17 e17 a1 ea => ?_⟩)
    · rw [nI_clamp (by omega), zn0] at e17
      subst ea e17
      rw [nI_1]
      refine nx _ ⟨fun s hs => ?_, rs g2 0 f⟩
      by_cases e : s = k
      · subst e
        refine ⟨fun hn => ?_, fun _ => gi_s⟩
        unfold snd at hn
        rw [hj] at hn
        exact absurd hn (by simp)
      · exact old g2 0 f s (by omega)
    · rw [nI_clamp (by omega), zn1] at e17
      subst ea e17
      rw [nI_1]
      refine nx _ ⟨fun s hs => ?_, rs g2 1 f⟩
      by_cases e : s = k
      · subst e
        refine ⟨fun _ => ⟨gi_s, ?_, ?_, fun m hm => ?_⟩, fun y => absurd hn y⟩
        · rw [gi_c (by omega)]
          exact y8
        · rw [gi_c (by omega)]
          exact y9
        · rw [gi_c (by omega)]
          exact y7 m hm
      · exact old g2 1 f s (by omega)
def RCH (g : Hs) (n : Nat → Int32) (ch : Nat → Nat) : Prop := ∀ l, l < nLo n → gi g 11 l = nI (ch l) ∧ ch l < 4 ∧ snd n (ch l)
theorem m_whereOf {n : Nat → Int32} {ch : Nat → Nat} {l m : Nat} {a1 a2 : Int32} {g : Hs} {Q : Int32 → Prop} (A : RA g n) (C : RCH g n ch) (R : RG n) (e1 : a1 = nI l) (e2 : a2 = nI m) (hl : l < nLo n) (hm : m < 120) (hQ : Q (nI (Wh n (ch l) m))) : p_M_whereOf a1 a2 g Q := by
  subst e1 e2
  have hL := R.lo.2
  have hl4 : l < 4 := by unfold nLo at hl; omega
  obtain ⟨c1, c2, c3⟩ := C l hl
  unfold p_M_whereOf
  have e : (120 : Int32) * nI (ch l) + nI m = nI (120 * ch l + m) := by
    rw [show (120 : Int32) = nI 120 from rfl, nI_mul, nI_add]
  rw [nI_clamp (show l < 2 ^ 31 by omega), c1, e, nI_clamp (by omega), ((A (ch l) c2).1 c3).2.2.2 m hm]
  exact ⟨vp_in_nI hl4 (by omega), vp_in_nI (by omega) (by omega), hQ⟩
theorem m_leftOf {n : Nat → Int32} {ch : Nat → Nat} {p k : Nat} {a1 a2 : Int32} {g : Hs} {Q : Int32 → Prop} (M : MS g n) (R : RG n) (A : RA g n) (C : RCH g n ch) (e1 : a1 = nI p) (e2 : a2 = nI k) (hp : p < 6) (hk : k < 4) (hQ : Q (nI (lf n ch p k))) : p_M_leftOf a1 a2 g Q := by
  subst e1 e2
  have hL := M.lo R
  have re := R.ea k hk
  have rb := re.1.2
  have ra := re.2
  unfold p_M_leftOf p_M_lots
  rw [hL.1]
  intro P5 h5
  refine lq2 (fun j => nI (sumN (fun l => ppl n l * cnt (Wh n (ch l)) p 120) j)) (nLo n) rfl ?_ ?_
  · refine h5 _ _ (bY (nI_le (Nat.le_refl _) (by omega)) ?_)
    have hm := mon_le R (ch := ch) (p := p) hL.2
    have ek : (22 : Int32) + nI k = nI (22 + k) := nI_add 22 k
    rw [ek, nI_clamp (by omega), M _ (by omega), re.1.1]
    refine ⟨vp_in_nI (by omega) (by omega), nI_ne0 ra (by omega), fun a4 e4 P92 h92 => ?_⟩
    have hd' : sumN (fun l => ppl n l * cnt (Wh n (ch l)) p 120) (nLo n) / nn (n (22 + k)) < 2 ^ 31 := Nat.lt_of_le_of_lt (Nat.div_le_self _ _) (by omega)
    rw [pk_div (by omega) ra (by omega)] at e4
    refine ble (b := 20) e4 rfl hd' (by omega) (fun z => h92 _ ?_) (fun z => h92 _ ?_)
    · rw [e4]
      have : lf n ch p k = sumN (fun l => ppl n l * cnt (Wh n (ch l)) p 120) (nLo n) / nn (n (22 + k)) := if_neg (by show ¬ 20 < sumN (fun l => ppl n l * cnt (Wh n (ch l)) p 120) (nLo n) / nn (n (22 + k)); omega)
      rw [← this]
      exact hQ
    · have : lf n ch p k = 20 := if_pos z
      rw [this] at hQ
      exact hQ
  · intro l hl nx
    refine h5 _ _ (bN (nI_ge hl (by omega)) (fun P17 h17 => ?_))
    refine lq2 (fun m => nI (sumN (fun l => ppl n l * cnt (Wh n (ch l)) p 120) l + ppl n l * cnt (Wh n (ch l)) p m)) 120 rfl ?_ ?_
    · refine h17 _ _ (bY (nI_le (a := 120) (b := 120) (by omega) (by omega)) (fun a4 e4 => ?_))
      rw [nI_1] at e4
      subst e4
      exact nx
    · intro m hm nx2
      refine h17 _ _ (bN (nI_ge (b := 120) hm (by omega)) (m_whereOf A C R rfl rfl hl hm (fun P51 h51 => ?_)))
      have hw := Wh_le R (ch l) m
      refine beqN rfl rfl (by omega) (by omega) (fun z => h51 _ (fun a3 e3 a5 e5 => ?_)) (fun z => ?_)
      · rw [nI_lit0, nI_add] at e3
        rw [nI_1] at e5
        subst e3 e5
        rw [show ppl n l * cnt (Wh n (ch l)) p (m + 1) = ppl n l * cnt (Wh n (ch l)) p m + 0 from ?_, ← Nat.add_assoc] at nx2
        · exact nx2
        · show ppl n l * (cnt (Wh n (ch l)) p m + _) = _
          rw [if_neg z]
          rfl
      · have ek : (16 : Int32) + nI l = nI (16 + l) := nI_add 16 l
        rw [ek, nI_clamp (by omega), M _ (by omega), (R.pe l (by omega)).1]
        refine ⟨vp_in_nI (by omega) (by omega), h51 _ (fun a3 e3 a5 e5 => ?_)⟩
        rw [nI_add] at e3
        rw [nI_1] at e5
        subst e3 e5
        rw [show ppl n l * cnt (Wh n (ch l)) p (m + 1) = ppl n l * cnt (Wh n (ch l)) p m + nn (n (16 + l)) from ?_, ← Nat.add_assoc] at nx2
        · exact nx2
        · show ppl n l * (cnt (Wh n (ch l)) p m + _) = _
          rw [if_pos z, Nat.mul_add, Nat.mul_one]
          rfl
theorem m_fedOf {n : Nat → Int32} {p y : Nat} {a1 a2 : Int32} {g : Hs} {Q : Int32 → Prop} (M : MS g n) (R : RG n) (e1 : a1 = nI p) (e2 : a2 = nI y) (hp : p < 6) (hy : y < 10) (hQ : Q (nI (fd n p y))) : p_M_fedOf a1 a2 g Q := by
  subst e1 e2
  unfold p_M_fedOf
  have ek : (0 : Int32) + nI p = nI p := by rw [nI_lit0, nI_add, Nat.zero_add]
  have ek2 : (6 : Int32) + nI y = nI (6 + y) := nI_add 6 y
  rw [ek, ek2, nI_clamp (by omega), nI_clamp (by omega), (fd_eq R hp hy (M p (by omega)) (M (6 + y) (by omega))).1]
  exact ⟨vp_in_nI (by omega) (by omega), vp_in_nI (by omega) (by omega), hQ⟩
theorem b2n {b : Bool} : (b = true → nI (b2 b) = 1) ∧ (b = false → nI (b2 b) = 0) := ⟨fun h => by rw [h]; rfl, fun h => by rw [h]; rfl⟩
theorem m_isHungry {n : Nat → Int32} {ch : Nat → Nat} {p y : Nat} {a1 a2 : Int32} {g : Hs} {Q : Int32 → Prop} (M : MS g n) (R : RG n) (A : RA g n) (C : RCH g n ch) (e1 : a1 = nI p) (e2 : a2 = nI y) (hp : p < 6) (hy : y < 10) (hQ : Q (nI (b2 (anyF (hH n ch p) (12 * y) 12)))) : p_M_isHungry a1 a2 g Q := by
  subst e1 e2
  have hL := M.lo R
  have evl := evr_le R
  have fl := fd_eq (a := n p) (b := n (6 + y)) R hp hy rfl rfl
  have e12 : (12 : Int32) * nI y = nI (12 * y) := nI_mul 12 y
  have e24 : (12 : Int32) * nI y + 12 = nI (12 * y + 12) := by rw [e12]; exact nI_add _ 12
  unfold p_M_isHungry p_M_lots
  rw [e24, e12, hL.1]
  intro a4 e4 P8 h8
  subst e4
  have key := lpG (σ := Unit) (fun k _ => P8 (nI (b2 (anyF (hH n ch p) (12 * y) k))) (nI (12 * y + k))) (fun _ _ => True) 12 (s := ()) trivial ?_ ?_
  · exact key
  · intro _ _
    refine h8 _ _ (bY (nI_le (Nat.le_refl _) (by omega)) ⟨?_, hQ⟩)
    cases anyF (hH n ch p) (12 * y) 12
    · exact zb0
    · exact zb1
  · intro k _ hk _ nx
    have nx := nx () trivial
    refine h8 _ _ (bN (nI_ge (by omega) (by omega)) (fun P26 h26 => ?_))
    have hhd := hd_le (n := n) (ch := ch) (p := p) (m := 12 * y + k)
    refine lq2 (fun j => nI (sumN (fun l => if Wh n (ch l) (12 * y + k) = p then ppl n l else 0) j)) (nLo n) rfl ?_ ?_
    · refine h26 _ _ (bY (nI_le (Nat.le_refl _) (by omega)) (fun P92 h92 P87 h87 => ?_))
      have go : ∀ b : Bool, anyF (hH n ch p) (12 * y) (k + 1) = b → P92 (nI (b2 b)) := fun b hb => h92 _ (fun a4 ea => by
        rw [nI_1] at ea
        subst ea hb
        exact nx)
      have an : anyF (hH n ch p) (12 * y) (k + 1) = (anyF (hH n ch p) (12 * y) k || hH n ch p (12 * y + k)) := rfl
      cases hb : anyF (hH n ch p) (12 * y) k with
      | true =>
        rw [hb] at an
        refine bNN (by decide) (h87 ?_)
        exact go true an
      | false =>
        rw [hb] at an
        refine bNY rfl (m_fedOf M R rfl rfl hp hy ?_)
        have hdv : (12 * y + k) / 12 = y := by omega
        have hhe : sumN (fun l => if Wh n (ch l) (12 * y + k) = p then ppl n l else 0) (nLo n) = hd n ch p (12 * y + k) := rfl
        refine ble rfl rfl (by rw [hhe]; omega) (by omega) (fun z => ?_) (fun z => h87 ?_)
        · refine go false ?_
          rw [an]
          exact decide_eq_false (by rw [hdv]; omega)
        · refine go true ?_
          rw [an]
          exact decide_eq_true (by rw [hdv]; exact z)
    · intro l hl nx2
      refine h26 _ _ (bN (nI_ge hl (by omega)) (m_whereOf A C R rfl rfl hl (by omega) (fun P63 h63 => ?_)))
      have hw := Wh_le R (ch l) (12 * y + k)
      refine beqN rfl rfl (by omega) (by omega) (fun z => h63 _ (fun a3 e3 a5 e5 => ?_)) (fun z => ?_)
      · rw [nI_lit0, nI_add] at e3
        rw [nI_1] at e5
        subst e3 e5
        rw [sumN_s, if_neg z] at nx2
        exact nx2
      · have ek : (16 : Int32) + nI l = nI (16 + l) := nI_add 16 l
        rw [ek, nI_clamp (by omega), M _ (by omega), (R.pe l (by omega)).1]
        refine ⟨vp_in_nI (by omega) (by omega), h63 _ (fun a3 e3 a5 e5 => ?_)⟩
        rw [nI_add] at e3
        rw [nI_1] at e5
        subst e3 e5
        rw [sumN_s, if_pos z] at nx2
        exact nx2
theorem m_hungerOf {n : Nat → Int32} {ch : Nat → Nat} {g : Hs} {Q : Int32 → Prop} (M : MS g n) (R : RG n) (A : RA g n) (C : RCH g n ch) (hQ : Q (nI (hun n ch))) : p_M_hungerOf g Q := by
  have hP' := M.pl R
  unfold p_M_hungerOf p_M_places
  rw [hP'.1]
  intro P4 h4
  refine lq2 (fun j => nI (sumN (fun p => yc (hH n ch p) 10) j)) (nP n) rfl (h4 _ _ (bY (nI_le (Nat.le_refl _) (by omega)) hQ)) (fun p hp nx => h4 _ _ (bN (nI_ge hp (by omega)) (fun P14 h14 => ?_)))
  refine lq2 (fun y => nI (sumN (fun p => yc (hH n ch p) 10) p + yc (hH n ch p) y)) 10 rfl (h14 _ _ (bY (nI_le (a := 10) (b := 10) (by omega) (by omega)) (fun a2 ea => ?_))) (fun y hy nx2 => h14 _ _ (bN (nI_ge (b := 10) hy (by omega)) (m_isHungry M R A C rfl rfl (by omega) hy (fun P35 h35 => ?_))))
  · rw [nI_1] at ea
    subst ea
    exact nx
  · have ys : yc (hH n ch p) (y + 1) = yc (hH n ch p) y + b2 (anyF (hH n ch p) (12 * y) 12) := rfl
    rw [ys, ← Nat.add_assoc] at nx2
    cases hb : anyF (hH n ch p) (12 * y) 12 with
    | true =>
      rw [hb] at nx2
      refine bN (by decide) (h35 _ (fun a1 e1 a3 e3 => ?_))
      rw [nI_1] at e1 e3
      subst e1 e3
      exact nx2
    | false =>
      rw [hb] at nx2
      refine bY rfl (h35 _ (fun a1 e1 a3 e3 => ?_))
      rw [nI_lit0, nI_add] at e1
      rw [nI_1] at e3
      subst e1 e3
      exact nx2
