/-! ===== the class's ship ===== -/
theorem wv_z : wv 0 = -1 := rfl
theorem wv_p {x : Nat} (h : x ≠ 0) : wv x = nI (x - 1) := if_neg h
theorem wv_n {x : Nat} (hx : x < 2 ^ 31) : wv x = -1 ↔ x = 0 := by
  constructor
  · intro h
    by_cases c : x = 0
    · exact c
    · rw [wv_p c] at h
      have := congrArg Int32.toInt h
      rw [nI_toInt (by omega)] at this
      have h3 : (-1 : Int32).toInt = -1 := by decide
      rw [h3] at this
      omega
  · intro h
    rw [h]
    rfl
theorem wy_eq {n : Nat → Int32} (R : RG n) {p q : Nat} (hp : p < 6) (hq : q < 6) : n (575 + 6 * p + q) = nI (wy n p q) ∧ wy n p q ≤ 20 := ⟨(R.da p hp q hq).1.1, (R.da p hp q hq).1.2⟩
theorem s_endOfLeg {n : Nat → Int32} {d k : Nat} {a1 a2 : Int32} {h : Hs} {Q : Int32 → Prop} (X : XS h 3 n) (R : RG n) (e1 : a1 = nI d) (e2 : a2 = nI k) (hd : d ≤ 10000) (hk : k ≤ 20) (hQ : Q (nI (dyB n d k))) : p_Ship_endOfLeg 42 a1 a2 h Q := by
  subst e1 e2
  unfold p_Ship_endOfLeg
  rw [show lX 42 = 60 by decide +kernel]
  intro P5 h5
  have key : ∀ (m e j : Nat), 60 - e = m → e ≤ 10000 → j ≤ 20 → dyB n e j = dyB n d k → P5 (nI e) (nI j) := by
    intro m
    induction m with
    | zero =>
      intro e j hm he hj hv
      refine h5 _ _ (fun P31 h31 => bY (nI_le (a := 60) (by omega) (by omega)) (h31 ?_))
      rw [nI_add, ← dyB_60 (n := n) (show 60 ≤ e by omega), hv]
      exact hQ
    | succ m ih =>
      intro e j hm he hj hv
      have ex : gi h 42 e = n (611 + e) := X.rd (k := 611 + e) (by omega) (c_stor e (by omega))
      refine h5 _ _ (fun P31 h31 => bN (nI_ge (b := 60) (by omega) (by omega)) (ble (b := 0) rfl nI_lit0 (by omega) (by omega) (fun z => h31 ?_) (fun z => ⟨vp_in_nI (by omega) (by omega), fun P25 h25 => ?_⟩)))
      · have j0 : j = 0 := by omega
        subst j0
        rw [nI_add, Nat.add_zero]
        rw [dyB_0] at hv
        rw [hv]
        exact hQ
      · obtain ⟨j', ej⟩ : ∃ j', j = j' + 1 := ⟨j - 1, by omega⟩
        subst ej
        rw [nI_clamp (by omega), ex]
        rw [dyB_s] at hv
        refine ⟨fun c => h25 _ (fun a3 e3 => ?_), fun c a4 e4 => h25 _ (fun a3 e3 => ?_)⟩
        · rw [nI_1] at e3
          subst e3
          rw [if_neg (by unfold fre; intro z; rcases of_decide_eq_true z with y | y; omega; exact c y)] at hv
          exact ih (e + 1) (j' + 1) (by omega) (by omega) (by omega) hv
        · rw [nI_1] at e3
          rw [nI_m1] at e4
          subst e3 e4
          rw [if_pos (show fre n e = true from decide_eq_true (Or.inr c))] at hv
          exact ih (e + 1) j' (by omega) (by omega) (by omega) hv
  exact key _ d k rfl hd hk rfl
def FS (h : Hs) (f s : Nat → Nat) : Prop := ∀ q, q < 6 → gi h 418 q = wv (f q) ∧ gi h 419 q = nI (s q)
theorem s_soonest {f s : Nat → Nat} {h : Hs} {Q : Int32 → Prop} (S : FS h f s) (hf : ∀ q, f q ≤ 10000) (hs : ∀ q, s q ≤ 1) (h1 : ∀ b, b < 6 → s b = 0 → f b ≠ 0 → (∀ q, q < 6 → s q = 0 → f q ≠ 0 → f b ≤ f q) → Q (nI b)) (h0 : (∀ q, q < 6 → s q = 0 → f q = 0) → Q (-1)) : p_Ship_soonest h Q := by
  unfold p_Ship_soonest
  intro P4 h4
  have key := lpG (fun j (x : Int32) => P4 x (nI j)) (fun j x => (x = -1 ∧ ∀ q, q < j → s q = 0 → f q = 0) ∨ ∃ b, b < j ∧ x = nI b ∧ s b = 0 ∧ f b ≠ 0 ∧ ∀ q, q < j → s q = 0 → f q ≠ 0 → f b ≤ f q) 6 (s := -1) (Or.inl ⟨rfl, fun q hq => by omega⟩) ?_ ?_
  · exact key
  · intro x hI
    refine h4 _ _ (bY (nI_le (a := 6) (b := 6) (by omega) (by omega)) ?_)
    rcases hI with ⟨e, y⟩ | ⟨b, b1, e, b2, b3, b4⟩
    · rw [e]
      exact h0 y
    · rw [e]
      exact h1 b b1 b2 b3 b4
  · intro j x hj hI nx
    obtain ⟨s1, s2⟩ := S j hj
    have fj := hf j
    have sj := hs j
    refine h4 _ _ (bN (nI_ge (b := 6) hj (by omega)) ⟨vp_in_nI hj (by omega), fun P51 h51 => ?_⟩)
    rw [nI_clamp (show j < 2 ^ 31 by omega), s1, s2]
    have skip : (s j = 0 → f j ≠ 0 → ∃ b, b < j ∧ x = nI b ∧ f b ≤ f j) → P51 x := fun hh => h51 _ (fun a2 e2 => by
      rw [nI_1] at e2
      subst e2
      refine nx x ?_
      rcases hI with ⟨e, y⟩ | ⟨b, b1, e, b2, b3, b4⟩
      · left
        refine ⟨e, fun q hq sq => ?_⟩
        by_cases eq : q = j
        · subst eq
          by_cases z : f q = 0
          · exact z
          · obtain ⟨b, c1, c2, c3⟩ := hh sq z
            rw [e] at c2
            have := congrArg Int32.toInt c2
            rw [nI_toInt (by omega)] at this
            have h3 : (-1 : Int32).toInt = -1 := by decide
            rw [h3] at this
            omega
        · exact y q (by omega) sq
      · right
        refine ⟨b, by omega, e, b2, b3, fun q hq sq fq => ?_⟩
        by_cases eq : q = j
        · subst eq
          obtain ⟨b', c1, c2, c3⟩ := hh sq fq
          rw [e] at c2
          have := (nI_eq (by omega) (by omega)).mp c2
          subst this
          exact c3
        · exact b4 q (by omega) sq fq)
    have take : s j = 0 → f j ≠ 0 → (∀ q, q < j → s q = 0 → f q ≠ 0 → f j ≤ f q) → P51 (nI j) := fun q1 q2 q3 => h51 _ (fun a2 e2 => by
      rw [nI_1] at e2
      subst e2
      refine nx _ (Or.inr ⟨j, by omega, rfl, q1, q2, fun q hq sq fq => ?_⟩)
      by_cases eq : q = j
      · subst eq
        exact Nat.le_refl _
      · exact q3 q (by omega) sq fq)
    refine beqN (b := 0) rfl nI_lit0 (by omega) (by omega) (fun z => skip (fun y => absurd y z)) (fun z => ⟨vp_in_nI hj (by omega), ?_⟩)
    rw [wv_n (by omega)]
    refine ⟨fun c => skip (fun _ y => absurd c y), fun c P49 h49 => ?_⟩
    rcases hI with ⟨e, y⟩ | ⟨b, b1, e, b2, b3, b4⟩
    · rw [e]
      exact bY rfl (h49 (take z c (fun q hq sq fq => absurd (y q hq sq) fq)))
    · have bs := (S b (by omega)).1
      have fb := hf b
      subst e
      refine bN (fun y => ?_) ⟨vp_in_nI hj (by omega), vp_in_nI (by omega) (by omega), ?_⟩
      · have := congrArg Int32.toInt y
        rw [nI_toInt (by omega)] at this
        have h3 : (-1 : Int32).toInt = -1 := by decide
        rw [h3] at this
        omega
      · rw [nI_clamp (show b < 2 ^ 31 by omega), bs, wv_p b3, wv_p c]
        exact ble rfl rfl (by omega) (by omega) (fun le => skip (fun _ _ => ⟨b, b1, rfl, by omega⟩)) (fun gt => h49 (take z c (fun q hq sq fq => by have := b4 q hq sq fq; omega)))
def shS2 : Nat → Prop := fun c => c = 418 ∨ c = 419
theorem s_sailOn {n : Nat → Int32} {f s : Nat → Nat} {b : Nat} {a2 : Int32} {h : Hs} {Q : Hs → Prop} (X : XS h 3 n) (R : RG n) (S : FS h f s) (e2 : a2 = nI b) (hb : b < nP n) (sb : s b = 1) (fb : f b ≠ 0) (hf : ∀ q, f q ≤ 5000) (hs : ∀ q, s q ≤ 1) (hQ : ∀ h', FS h' (rlx n f s b (nP n)) s → frm shS2 h h' → Q h') : p_Ship_sailOnFrom a2 h Q := by
  subst e2
  have hp := X.pl R
  have b6 : b < 6 := by omega
  unfold p_Ship_sailOnFrom
  intro P2 h2
  have Xf : ∀ g, frm shS2 h g → XS g 3 n := fun g y => X.frm y (fun c a b => by unfold shS2; omega)
  have r0 : ∀ q, rlx n f s b 0 q = f q := fun q => if_neg (by omega)
  have rb : ∀ k, rlx n f s b k b = f b := fun k => rlx_set sb
  refine lpH (fun k g => FS g (rlx n f s b k) s ∧ frm shS2 h g) (nP n) ⟨fun q hq => by rw [r0]; exact S q hq, frm.refl⟩ ?_ ?_
  · intro g hI
    exact h2 _ _ (bY (by rw [((Xf g hI.2).pl R).1]; exact nI_le (Nat.le_refl _) (by omega)) (hQ g hI.1 hI.2))
  · intro q g hq hI nx
    obtain ⟨I1, I2⟩ := hI
    have Xg := Xf g I2
    have q6 : q < 6 := by omega
    obtain ⟨w1, w2⟩ := wy_eq R b6 q6
    have ew : gi g (36 + b) q = nI (wy n b q) := by
      have := Xg.rd (k := 575 + 6 * b + q) (by omega) (c_days b b6 q q6)
      rw [show 3 + (33 + b) = 36 + b by omega] at this
      exact this.trans w1
    have g418 : gi g 418 q = wv (f q) := by
      have := (I1 q q6).1
      rw [show rlx n f s b q q = f q from if_neg (by omega)] at this
      exact this
    have g419 := (I1 q q6).2
    have gb : gi g 418 b = wv (f b) := by
      have := (I1 b b6).1
      rw [rb] at this
      exact this
    have fq := hf q
    have fbb := hf b
    have sq := hs q
    refine h2 _ _ (bN (by rw [(Xg.pl R).1]; exact nI_ge hq (by omega)) ?_)
    rw [nI_clamp (show b < 2 ^ 31 by omega), nI_clamp (show q < 2 ^ 31 by omega), show 35 + 1 + 1 * b = 36 + b by omega, ew, g419, gb, g418, wv_p fb]
    refine ⟨vp_in_nI b6 (by omega), vp_in_nI q6 (by omega), fun a4 e4 P80 h80 => ?_⟩
    subst e4
    have other : ∀ (_ x : Nat), x ≠ q → rlx n f s b (q + 1) x = rlx n f s b q x := fun k x hx => by
      unfold rlx
      by_cases c : x < q ∧ 0 < wy n b x ∧ s x = 0 ∧ (f x = 0 ∨ eE n (f b) b x < f x)
      · rw [if_pos c, if_pos ⟨by omega, c.2⟩]
      · rw [if_neg c, if_neg (fun z => c ⟨by omega, z.2⟩)]
    have same : ¬ (0 < wy n b q ∧ s q = 0 ∧ (f q = 0 ∨ eE n (f b) b q < f q)) → P80 g := fun no => h80 g (fun a3 e3 => by
      rw [nI_1] at e3
      subst e3
      refine nx g ⟨fun x hx => ?_, I2⟩
      by_cases e : x = q
      · subst e
        rw [show rlx n f s b (x + 1) x = f x from if_neg (fun z => no z.2)]
        exact ⟨g418, g419⟩
      · rw [other 0 x e]
        exact I1 x hx)
    refine ble (b := 0) rfl nI_lit0 (by omega) (by omega) (fun z => same (by omega)) (fun z => ⟨vp_in_nI q6 (by omega), beqN (b := 0) rfl nI_lit0 (by omega) (by omega) (fun c => same (by omega)) (fun c => ⟨vp_in_nI b6 (by omega), ?_⟩)⟩)
    refine s_endOfLeg Xg R rfl rfl (by omega) w2 ⟨vp_in_nI q6 (by omega), fun P72 h72 => ?_⟩
    have eEe : dyB n (f b - 1) (wy n b q) + 1 = eE n (f b) b q := rfl
    have eEl := eE_le (n := n) (x := f b) (p := b) (q := q) (B := 5000) (by omega) fbb w2
    have eEn : eE n (f b) b q ≠ 0 := by unfold eE; omega
    have ev : nI (dyB n (f b - 1) (wy n b q)) = wv (eE n (f b) b q) := by
      rw [wv_p eEn]
      rfl
    have set : (f q = 0 ∨ eE n (f b) b q < f q) → P72 := fun yes => h72 ⟨vp_in_nI q6 (by omega), fun h79 e79 => h80 h79 (fun a3 e3 => by
      rw [nI_1] at e3
      subst e3
      rw [ev] at e79
      refine nx h79 ⟨fun x hx => ?_, I2.trans (e79 ▸ frm.si (Or.inl rfl))⟩
      by_cases e : x = q
      · subst e
        rw [show rlx n f s b (x + 1) x = eE n (f b) b x from if_pos ⟨by omega, z, c, yes⟩, e79, gi_s, gi_c (by omega)]
        exact ⟨rfl, g419⟩
      · rw [other 0 x e, e79, gi_k e, gi_c (by omega)]
        exact I1 x hx)⟩
    rw [wv_n (show f q < 2 ^ 31 by omega)]
    refine ⟨fun c0 => set (Or.inl c0), fun c0 => ⟨vp_in_nI q6 (by omega), ?_⟩⟩
    rw [wv_p c0]
    exact ble rfl rfl (by omega) (by omega) (fun le => same (by omega)) (fun gt => set (Or.inr (by omega)))
def f00 (a day q : Nat) : Nat := if q = a then day + 1 else 0
def z00 (_ : Nat) : Nat := 0
theorem f00_s {a day : Nat} : f00 a day a = day + 1 := if_pos rfl
theorem f00_n {a day q : Nat} (h : q ≠ a) : f00 a day q = 0 := if_neg h
theorem DI.init {n : Nat → Int32} {a day : Nat} (ha : a < nP n) (hd : day ≤ 1100) : DI n a day 0 (f00 a day) z00 z00 := by
  have z : ∀ p, ¬ z00 p = 1 := fun p e => absurd (show (0 : Nat) = 1 from e) (by omega)
  refine ⟨f00_s, fun _ => Nat.zero_le _, fun p hp => absurd hp (z p), fun q hq => ?_, fun p q hp => absurd hp (z p), fun p q hp => absurd hp (z p), fun q hq hqa => absurd (f00_n hqa) hq, Or.inl rfl⟩
  by_cases e : q = a
  · rw [e, f00_s]
    exact ⟨ha, by omega⟩
  · exact absurd (f00_n e) hq
theorem s_firstDayAt {n : Nat → Int32} {a t day : Nat} {a2 a3 a4 : Int32} {h : Hs} {Q : Int32 → Hs → Prop} (X : XS h 3 n) (R : RG n) (e2 : a2 = nI a) (e3 : a3 = nI t) (e4 : a4 = nI day) (ha : a < nP n) (ht : t < nP n) (hd : day ≤ 1100) (hQ : ∀ h' f ρ, SHP n a day f ρ → frm shS2 h h' → Q (wv (f t)) h') : p_Ship_firstDayAt a2 a3 a4 h Q := by
  subst e2 e3 e4
  have hp := X.pl R
  unfold p_Ship_firstDayAt
  refine s_fill (show lX 418 = 6 by decide +kernel) (by omega) (fun h5 y1 _ y3 => ?_)
  refine s_fill (show lX 419 = 6 by decide +kernel) (by omega) (fun h13 z1 _ z3 => ⟨vp_in_nI (by omega) (by omega), fun h23 e23 P27 h27 => ?_⟩)
  rw [nI_clamp (by omega)] at e23
  have f23 : frm shS2 h h23 := ((y3.mono (fun c hc => Or.inl hc)).trans (z3.mono (fun c hc => Or.inr hc))).trans (e23 ▸ frm.si (Or.inl rfl))
  have Xf : ∀ g, frm shS2 h g → XS g 3 n := fun g y => X.frm y (fun c a b => by unfold shS2; omega)
  refine lpH (fun i g => (∃ f s ρ, FS g f s ∧ DI n a day i f s ρ) ∧ frm shS2 h g) (nP n) ⟨⟨f00 a day, z00, z00, fun q hq => ⟨?_, ?_⟩, DI.init ha hd⟩, f23⟩ ?_ ?_
  · rw [e23]
    by_cases e : q = a
    · rw [e, gi_s, f00_s, wv_p (by omega)]
      rfl
    · rw [gi_k e, f00_n e, z3.1 418 (by omega), y1 q hq]
      rfl
  · rw [e23, gi_c (by omega), z1 q hq]
    rfl
  · intro g hI
    obtain ⟨⟨f, s, ρ, S, D⟩, fg⟩ := hI
    refine h27 _ _ (bY (by rw [((Xf g fg).pl R).1]; exact nI_le (Nat.le_refl _) (by omega)) ⟨vp_in_nI (by omega) (by omega), ?_⟩)
    rw [nI_clamp (by omega), (S t (by omega)).1]
    exact hQ g f ρ (D.end R) fg
  · intro i g hi hI nx
    obtain ⟨⟨f, s, ρ, S, D⟩, fg⟩ := hI
    have D' := D
    obtain ⟨d0, d1, d2, d3, d4, d5, d6, d7⟩ := D'
    have fl : ∀ q, f q ≤ 5000 := fun q => by
      by_cases c : f q = 0
      · omega
      · have := (d3 q c).2
        omega
    refine h27 _ _ (bN (by rw [((Xf g fg).pl R).1]; exact nI_ge hi (by omega)) (s_soonest S (fun q => by have := fl q; omega) d1 (fun b b6 sb fb hmin P63 h63 => bN (fun y => ?_) ?_) (fun no P63 h63 => bY rfl (h63 _ (fun a5 e5 => ?_)))))
    · have := congrArg Int32.toInt y
      rw [nI_toInt (by omega)] at this
      have h3 : (-1 : Int32).toInt = -1 := by decide
      rw [h3] at this
      omega
    · rw [nI_clamp (show b < 2 ^ 31 by omega)]
      have bp := (d3 b fb).1
      have hmin' : ∀ q, s q = 0 → f q ≠ 0 → f b ≤ f q := fun q sq fq => hmin q (by have := (d3 q fq).1; omega) sq fq
      refine ⟨vp_in_nI b6 (by omega), fun h55 e55 => ?_⟩
      have f55 : frm shS2 g h55 := e55 ▸ frm.si (Or.inr rfl)
      have S55 : FS h55 f (st1 s b) := fun q hq => by
        rw [e55, gi_c (by omega)]
        refine ⟨(S q hq).1, ?_⟩
        by_cases e : q = b
        · subst e
          rw [gi_s, show st1 s q q = 1 from if_pos rfl]
          rfl
        · rw [gi_k e, show st1 s b q = s q from if_neg e]
          exact (S q hq).2
      refine s_sailOn (Xf h55 (fg.trans f55)) R S55 rfl bp (if_pos rfl) fb fl (fun q => by unfold st1; split; omega; exact d1 q) (fun h60 S60 f60 => h63 _ (fun a5 e5 => ?_))
      rw [nI_1] at e5
      subst e5
      exact nx h60 ⟨⟨_, _, _, S60, D.step R sb fb hmin'⟩, (fg.trans f55).trans f60⟩
    · rw [nI_1] at e5
      subst e5
      refine nx g ⟨⟨f, s, ρ, S, D.stay (fun q sq => ?_)⟩, fg⟩
      by_cases c : f q = 0
      · exact c
      · exact no q (by have := (d3 q c).1; omega) sq
