/-! ===== the class: what is left, who hungers ===== -/
def CH (h : Hs) (n : Nat → Int32) (ch : Nat → Nat) : Prop := ∀ l, l < nLo n → gi h 48 l = nI (ch l) ∧ ch l < 4 ∧ snd n (ch l)
theorem LO.tale {h : Hs} {n : Nat → Int32} (O : LO h n) {s : Nat} (hs : s < 4) (hn : snd n s) : gi h (59 + 3 * s) 2 = -1 ∧ gi h (59 + 3 * s) 3 = wv (sto n s).2.1 ∧ gi h (59 + 3 * s) 4 = nI (sto n s).2.2.1 ∧ (∀ m, m < 120 → gi h (59 + 3 * s + 1) m = nI (Wh n s m)) ∧ (∀ p, p < 6 → gi h (59 + 3 * s + 2) p = nI (cnt (Wh n s) p 120)) := (O.1 s hs).2 hn
theorem LO.frm {S : Nat → Prop} {h h' : Hs} {n : Nat → Int32} (O : LO h n) (f : frm S h h') (hS : ∀ c, c = 2 ∨ c = 49 ∨ (53 ≤ c ∧ c ≤ 70) → ¬ S c) (R : RG n) : LO h' n := by
  obtain ⟨o1, o2, c, tu, u1, u2, u3, u4, u5, u6⟩ := O
  have hp := R.pl.2
  refine ⟨fun s hs => (o1 s hs).frm f (hS _ (by omega)) (hS _ (by omega)) (hS _ (by omega)), fun p hp' y hy => by rw [f.1 _ (hS _ (by unfold nP at hp'; omega))]; exact o2 p hp' y hy, c, tu, u1, by rw [f.1 2 (hS 2 (by omega))]; exact u2, u3, u4, fun i hi => by rw [f.1 49 (hS 49 (by omega))]; exact u5 i hi, fun i hi => ⟨(u6 i hi).1, fun m m1 m2 => ?_⟩⟩
  obtain ⟨q1, q2⟩ := (u6 i hi).2 m m1 m2
  refine ⟨q1, fun s hs => ?_⟩
  rw [f.1 _ (hS _ (by omega)), f.1 _ (hS _ (by omega))]
  exact q2 s hs
theorem CH.frm {S : Nat → Prop} {h h' : Hs} {n : Nat → Int32} {ch : Nat → Nat} (C : CH h n ch) (f : frm S h h') (hS : ¬ S 48) : CH h' n ch := fun l hl => by rw [f.1 48 hS]; exact C l hl
theorem XS.ppl {h : Hs} {n : Nat → Int32} (X : XS h 3 n) (R : RG n) {l : Nat} (hl : l < 4) : gi h 6 l = nI (ppl n l) := (X.rd (k := 16 + l) (by omega) (c_peop l hl)).trans (R.pe l hl).1
theorem min20_if {x : Nat} (h : x < 2 ^ 31) : (if (20 : Int32) < nI x then (20 : Int32) else nI x) = nI (min20 x) := by
  unfold min20
  rw [show (20 : Int32) = nI 20 from rfl]
  by_cases c : 20 < x
  · rw [if_pos ((nI_ltI (a := 20) (by omega) h).mpr c), if_pos c]
  · rw [if_neg (fun z => c ((nI_ltI (a := 20) (by omega) h).mp z)), if_neg c]
theorem s_left {n : Nat → Int32} {ch : Nat → Nat} {p k : Nat} {a1 a2 : Int32} {h : Hs} {Q : Int32 → Prop} (X : XS h 3 n) (R : RG n) (O : LO h n) (C : CH h n ch) (e1 : a1 = nI p) (e2 : a2 = nI k) (hp : p < 6) (hk : k < 4) (hQ : Q (nI (lf n ch p k))) : p_Lives_left a1 a2 h Q := by
  subst e1 e2
  have hL := X.lo R
  have re := R.ea k hk
  unfold p_Lives_left
  rw [nI_clamp (show k < 2 ^ 31 by omega), nI_clamp (show p < 2 ^ 31 by omega), hL.1]
  refine ⟨vp_in_nI hk (by omega), fun a3 e3 P18 h18 => ?_⟩
  have e3' : a3 = nI (nn (n (22 + k))) := by
    rw [e3, show 8 + 1 + 1 * k = 3 + (6 + k) by omega, X.rd (k := 22 + k) (by omega) (c_each k hk)]
    exact re.1.1
  have rb := re.1.2
  have ra := re.2
  refine lq2 (fun j => nI (sumN (fun l => ppl n l * cnt (Wh n (ch l)) p 120) j)) (nLo n) rfl ?_ ?_
  · refine h18 _ _ (bY (nI_le (Nat.le_refl _) (by omega)) (fun P86 h86 => ?_))
    have hm := mon_le R (ch := ch) (p := p) hL.2
    refine ble (b := 0) e3' nI_lit0 (by omega) (by omega) (fun z => by omega) (fun z => ⟨?_, h86 _ ?_⟩)
    · rw [e3', nI_lit0]
      exact fun y => absurd ((nI_eq (by omega) (by omega)).mp y) (by omega)
    · rw [e3', pk_div (by omega) ra (by omega), min20_if (Nat.lt_of_le_of_lt (Nat.div_le_self _ _) (by omega))]
      exact hQ
  · intro l hl nx
    obtain ⟨c1, c2, c3⟩ := C l hl
    refine h18 _ _ (bN (nI_ge hl (by omega)) ⟨vp_in_nI (by omega) (by omega), vp_in_nI (by omega) (by omega), ?_⟩)
    rw [nI_clamp (show l < 2 ^ 31 by omega), c1, nI_clamp (show ch l < 2 ^ 31 by omega)]
    refine ⟨vp_in_nI c2 (by omega), vp_in_nI hp (by omega), fun a4 e4 a5 e5 => ?_⟩
    rw [nI_1] at e5
    rw [X.ppl R (show l < 4 by omega), (O.tale c2 c3).2.2.2.2 p hp, nI_mul, nI_add] at e4
    subst e4 e5
    exact nx
theorem s_countHeads {n : Nat → Int32} {ch : Nat → Nat} {m : Nat} {a1 : Int32} {h : Hs} {Q : Hs → Prop} (X : XS h 3 n) (R : RG n) (O : LO h n) (C : CH h n ch) (e1 : a1 = nI m) (hm : m < 120) (hQ : ∀ h', (∀ p, p < 6 → gi h' 50 p = nI (hd n ch p m)) → frm (fun c => c = 50) h h' → Q h') : p_Lives_countHeads a1 h Q := by
  subst e1
  have hL := X.lo R
  unfold p_Lives_countHeads
  refine s_fill (show lX 50 = 6 by decide +kernel) (by omega) (fun h5 y1 _ y3 => ?_)
  intro P hP
  refine lpH (fun j g => (∀ p, p < 6 → gi g 50 p = nI (sumN (fun l => if Wh n (ch l) m = p then ppl n l else 0) j)) ∧ frm (fun c => c = 50) h g) (nLo n) ⟨fun p hp => (y1 p hp).trans rfl, y3⟩ ?_ ?_
  · intro g hI
    have hlo : gi g 3 1 = nI (nLo n) := by rw [hI.2.1 3 (by omega)]; exact hL.1
    exact hP _ _ (bY (by rw [hlo]; exact nI_le (Nat.le_refl _) (by omega)) (hQ g hI.1 hI.2))
  · intro l g hl hI nx
    obtain ⟨I1, I2⟩ := hI
    have hlo : gi g 3 1 = nI (nLo n) := by rw [I2.1 3 (by omega)]; exact hL.1
    have Cg := C.frm I2 (by omega)
    obtain ⟨c1, c2, c3⟩ := Cg l hl
    have Og := O.frm I2 (fun c hc => by omega) R
    have Xg := X.frm I2 (fun c a b => by omega)
    refine hP _ _ (bN (by rw [hlo]; exact nI_ge hl (by omega)) ?_)
    rw [nI_clamp (show l < 2 ^ 31 by omega), c1, nI_clamp (show ch l < 2 ^ 31 by omega), nI_clamp (show m < 2 ^ 31 by omega), (Og.tale c2 c3).2.2.2.1 m hm, Xg.ppl R (show l < 4 by omega)]
    refine ⟨vp_in_nI (by omega) (by omega), vp_in_nI c2 (by omega), vp_in_nI hm (by omega), fun a3 e3 P62 h62 => ?_⟩
    have hw := Wh_le R (ch l) m
    subst e3
    have go : ∀ g', (∀ p, p < 6 → gi g' 50 p = nI (sumN (fun l => if Wh n (ch l) m = p then ppl n l else 0) (l + 1))) → frm (fun c => c = 50) h g' → P62 g' := fun g' h1 h2 => h62 g' (fun a2 ea => by
      subst ea
      rw [nI_1]
      exact nx g' ⟨h1, h2⟩)
    refine ble (a := 6) rfl rfl (by omega) (by omega) (fun z => go g (fun p hp => ?_) I2) (fun z => ?_)
    · rw [sumN_s, if_neg (by omega), Nat.add_zero]
      exact I1 p hp
    · rw [nI_clamp (show Wh n (ch l) m < 2 ^ 31 by omega), I1 _ z, nI_add]
      refine ⟨vp_in_nI z (by omega), vp_in_nI (by omega) (by omega), vp_in_nI z (by omega), fun h61 e61 => go h61 (fun p hp => ?_) (I2.trans (e61 ▸ frm.si rfl))⟩
      rw [sumN_s, e61]
      by_cases e : p = Wh n (ch l) m
      · subst e
        rw [gi_s, if_pos rfl]
      · rw [gi_k e, if_neg (fun y => e y.symm), Nat.add_zero]
        exact I1 p hp
def hyS : Nat → Prop := fun c => c = 50 ∨ c = 51
def flg (n : Nat → Int32) (ch : Nat → Nat) (M p : Nat) : Bool := anyF (hH n ch p) (12 * (M / 12)) (M % 12)
def incH (n : Nat → Int32) (ch : Nat → Nat) (M q : Nat) : Nat := b2 (! flg n ch M q && hH n ch q M)
def HI (h : Hs) (n : Nat → Int32) (ch : Nat → Nat) (M : Nat) (b : Int32) (g : Hs) : Prop := b = nI (sumN (fun p => cM (hH n ch p) M) (nP n)) ∧ (¬ M % 12 = 0 → ∀ p, p < nP n → gi g 51 p = nI (b2 (flg n ch M p))) ∧ frm hyS h g
theorem s_hungerYears {n : Nat → Int32} {ch : Nat → Nat} {h : Hs} {Q : Int32 → Hs → Prop} (X : XS h 3 n) (R : RG n) (O : LO h n) (C : CH h n ch) (hQ : ∀ h', frm hyS h h' → Q (nI (hun n ch)) h') : p_Lives_hungerYears h Q := by
  have hP' := X.pl R
  have hL := X.lo R
  have O' := O
  obtain ⟨o1, o2, c, tu, u1, u2, u3, u4, u5, u6⟩ := O'
  have Xf : ∀ g, frm hyS h g → XS g 3 n := fun g f => X.frm f (fun c a b => by unfold hyS; omega)
  have Of : ∀ g, frm hyS h g → LO g n := fun g f => O.frm f (fun c hc => by unfold hyS; omega) R
  have Cf : ∀ g, frm hyS h g → CH g n ch := fun g f => C.frm f (by unfold hyS; omega)
  have qu : ∀ m p, 0 < m → m < 120 → QU h m → hH n ch p m = hH n ch p (m - 1) := by
    intro m p m0 m1 q
    have e1 : (m - 1) / 12 = m / 12 := by have := q.1; omega
    have e2 : hd n ch p m = hd n ch p (m - 1) := sumN_congr (fun l hl => by
      obtain ⟨c1, c2, c3⟩ := C l hl
      have t := (O.tale c2 c3).2.2.2.1
      have q2 := q.2 (ch l) c2
      rw [show 60 + 3 * ch l = 59 + 3 * ch l + 1 by omega, t m m1, t (m - 1) (by omega)] at q2
      have w1 := Wh_le R (ch l) m
      have w2 := Wh_le R (ch l) (m - 1)
      rw [(nI_eq (by omega) (by omega)).mp q2])
    unfold hH
    rw [e1, e2]
  unfold p_Lives_hungerYears
  intro P4 h4
  have key : ∀ (s : Int32 × Hs), HI h n ch (tu 0) s.1 s.2 → P4 s.1 (nI 0) s.2 := by
    intro s hs
    refine lpG (fun i (s : Int32 × Hs) => P4 s.1 (nI i) s.2) (fun i s => HI h n ch (tu i) s.1 s.2) c hs ?_ ?_
    · intro s hI
      obtain ⟨i1, i2, i3⟩ := hI
      refine h4 _ _ _ (bY (by rw [i3.1 2 (by unfold hyS; omega), u2]; exact nI_le (Nat.le_refl _) (by omega)) ?_)
      rw [i1, u4]
      exact hQ s.2 i3
    · intro i s hi hI nx
      obtain ⟨i1, i2, i3⟩ := hI
      obtain ⟨v1, v2⟩ := u5 i hi
      refine h4 _ _ _ (bN (by rw [i3.1 2 (by unfold hyS; omega), u2]; exact nI_ge hi (by omega)) ⟨vp_in_nI (by omega) (by omega), fun a3 e3 P34 h34 => ?_⟩)
      rw [nI_clamp (show i < 2 ^ 31 by omega), i3.1 49 (by unfold hyS; omega), v1] at e3
      subst e3
      have after : ∀ g, frm hyS h g → (∀ p, p < nP n → gi g 51 p = nI (b2 (flg n ch (tu i) p))) → P34 g := by
        intro g fg hfl
        apply h34
        refine s_countHeads (Xf g fg) R (Of g fg) (Cf g fg) rfl v2 (fun h36 y1 y2 => ?_)
        have f36 : frm hyS h h36 := fg.trans (y2.mono (fun c hc => Or.inl hc))
        intro P42 h42
        have hsum : ∀ j, j ≤ nP n → sumN (incH n ch (tu i)) j ≤ 6 := fun j hj => by
          have : sumN (incH n ch (tu i)) j ≤ j * 1 := sumN_le (fun q _ => b2_le)
          omega
        have in42 : ∀ (s2 : Int32 × Hs), (s2.1 = nI (sumN (fun p => cM (hH n ch p) (tu i)) (nP n) + sumN (incH n ch (tu i)) 0) ∧ (∀ p, p < nP n → p < 0 → gi s2.2 51 p = nI (b2 (g2 (hH n ch p) (tu i)))) ∧ (∀ p, p < nP n → 0 ≤ p → gi s2.2 51 p = nI (b2 (flg n ch (tu i) p))) ∧ (∀ p, p < 6 → gi s2.2 50 p = nI (hd n ch p (tu i))) ∧ frm hyS h s2.2) → P42 s2.1 (nI 0) s2.2 := by
          intro s2 hs2
          refine lpG (fun j (s : Int32 × Hs) => P42 s.1 (nI j) s.2) (fun j s => s.1 = nI (sumN (fun p => cM (hH n ch p) (tu i)) (nP n) + sumN (incH n ch (tu i)) j) ∧ (∀ p, p < nP n → p < j → gi s.2 51 p = nI (b2 (g2 (hH n ch p) (tu i)))) ∧ (∀ p, p < nP n → j ≤ p → gi s.2 51 p = nI (b2 (flg n ch (tu i) p))) ∧ (∀ p, p < 6 → gi s.2 50 p = nI (hd n ch p (tu i))) ∧ frm hyS h s.2) (nP n) hs2 ?_ ?_
          · intro s hJ
            obtain ⟨j1, j2, j3, j4, j5⟩ := hJ
            refine h42 _ _ _ (bY (by rw [((Xf _ j5).pl R).1]; exact nI_le (Nat.le_refl _) (by omega)) (fun a2 ea => ?_))
            subst ea
            rw [nI_1]
            obtain ⟨w1, w2⟩ := u6 i hi
            have w3 : tu (i + 1) ≤ 120 := by
              by_cases e : i + 1 = c
              · rw [e, u4]
                exact Nat.le_refl _
              · exact Nat.le_of_lt (u5 (i + 1) (by omega)).2
            have nxt := fun p => cM_next (H := hH n ch p) w1 (fun m m1 m2 => ⟨(w2 m m1 m2).1, qu m p (by omega) (by omega) (w2 m m1 m2)⟩)
            refine nx s ⟨?_, fun z p hp => ?_, j5⟩
            · rw [j1, ← sumN_add]
              congr 1
              refine sumN_congr (fun p _ => ?_)
              rw [(nxt p).1, g1_cM]
              rfl
            · rw [j2 p hp hp]
              unfold flg
              rw [(nxt p).2 z]
          · intro j s hj hJ nx2
            obtain ⟨j1, j2, j3, j4, j5⟩ := hJ
            have hm12 : tu i / 12 < 10 := by omega
            refine h42 _ _ _ (bN (by rw [((Xf _ j5).pl R).1]; exact nI_ge hj (by omega)) ⟨vp_in_nI (by omega) (by omega), fun P97 h97 => ?_⟩)
            have g2e : g2 (hH n ch j) (tu i) = (flg n ch (tu i) j || hH n ch j (tu i)) := g2_eq _ _
            have go : ∀ (b : Int32) (g' : Hs), b = nI (sumN (fun p => cM (hH n ch p) (tu i)) (nP n) + sumN (incH n ch (tu i)) (j + 1)) → gi g' 51 j = nI (b2 (g2 (hH n ch j) (tu i))) → (∀ p, p ≠ j → gi g' 51 p = gi s.2 51 p) → frm (fun c => c = 51) s.2 g' → P97 b g' := by
              intro b g' hb hg hne hf
              refine h97 _ _ (fun a4 ea => ?_)
              subst ea
              rw [nI_1]
              refine nx2 (b, g') ⟨hb, fun p hp hpj => ?_, fun p hp hpj => ?_, fun p hp => ?_, j5.trans (hf.mono (fun c hc => Or.inr hc))⟩
              · by_cases e : p = j
                · subst e
                  exact hg
                · show gi g' 51 p = _
                  rw [hne p e]
                  exact j2 p hp (by omega)
              · show gi g' 51 p = _
                rw [hne p (by omega)]
                exact j3 p hp (by omega)
              · show gi g' 50 p = _
                rw [hf.1 50 (by omega)]
                exact j4 p hp
            have incs : sumN (incH n ch (tu i)) (j + 1) = sumN (incH n ch (tu i)) j + b2 (! flg n ch (tu i) j && hH n ch j (tu i)) := rfl
            have ofe : gi s.2 (53 + j) (tu i / 12) = nI (fd n j (tu i / 12)) := (Of _ j5).2.1 j hj _ hm12
            have fl := fd_eq (a := n j) (b := n (6 + tu i / 12)) R (show j < 6 by omega) hm12 rfl rfl
            have hdl := hd_le (n := n) (ch := ch) (p := j) (m := tu i)
            have evl := evr_le R
            rw [nI_clamp (show j < 2 ^ 31 by omega), j3 j hj (Nat.le_refl _), j4 j (by omega), show nI (tu i) / 12 = nI (tu i / 12) from pk_div (d := 12) (by omega) (by omega) (by omega), nI_clamp (show tu i / 12 < 2 ^ 31 by omega), show 52 + 1 + 1 * j = 53 + j by omega, ofe]
            by_cases hf : flg n ch (tu i) j = true
            · rw [hf]
              refine bNN (by decide) (go s.1 s.2 ?_ ?_ (fun _ _ => rfl) frm.refl)
              · rw [incs, hf, j1]
                rfl
              · rw [g2e, j3 j hj (Nat.le_refl _), hf]
                rfl
            · have hf' : flg n ch (tu i) j = false := by
                cases h : flg n ch (tu i) j
                · rfl
                · exact absurd h hf
              rw [hf']
              refine bNY rfl ⟨vp_in_nI (by omega) (by omega), vp_in_nI (by omega) (by omega), vp_in_nI hm12 (by omega), ?_⟩
              refine ble rfl rfl (by omega) (by omega) (fun z => ?_) (fun z => ⟨vp_in_nI (by omega) (by omega), fun h93 e93 a1 ea => ?_⟩)
              · have hh : hH n ch j (tu i) = false := decide_eq_false (by omega)
                refine go s.1 s.2 ?_ ?_ (fun _ _ => rfl) frm.refl
                · rw [incs, hh, hf', j1]
                  rfl
                · rw [g2e, j3 j hj (Nat.le_refl _), hf', hh]
                  rfl
              · have hh : hH n ch j (tu i) = true := decide_eq_true z
                refine go a1 h93 ?_ ?_ (fun p hp => by rw [e93, gi_k hp]) (e93 ▸ frm.si rfl)
                · rw [ea, j1, nI_1, incs, hh, hf']
                  rfl
                · rw [e93, gi_s, g2e, hh, hf']
                  rfl
        have := in42 (s.1, h36) ⟨by rw [i1]; rfl, fun p _ hp => by omega, fun p hp _ => ?_, y1, f36⟩
        · rw [← nI_lit0] at this
          exact this
        · show gi h36 51 p = _
          rw [y2.1 51 (by omega)]
          exact hfl p hp
      rw [rem12 (by omega)]
      refine beqN (b := 0) rfl nI_lit0 (by omega) (by omega) (fun z => after s.2 i3 (i2 z)) (fun z => ?_)
      refine s_fill (show lX 51 = 6 by decide +kernel) (by omega) (fun h31 y1 _ y3 => after h31 (i3.trans (y3.mono (fun c hc => Or.inr hc))) (fun p hp => ?_))
      rw [y1 p (by omega)]
      unfold flg
      rw [z]
      rfl
  rw [u3] at key
  have := key (0, h) ⟨?_, fun z => absurd rfl z, frm.refl⟩
  · rw [← nI_lit0] at this
    exact this
  · show (0 : Int32) = _
    rw [show sumN (fun p => cM (hH n ch p) 0) (nP n) = 0 from ?_]
    · rfl
    · have : sumN (fun p => cM (hH n ch p) 0) (nP n) ≤ nP n * 0 := sumN_le (fun p _ => Nat.le_of_eq cM_0)
      omega
