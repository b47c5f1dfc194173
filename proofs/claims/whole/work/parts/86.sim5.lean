/-! ===== fed, dry, many ===== -/
theorem s_feedsIn {n : Nat → Int32} {p y : Nat} {a1 a2 : Int32} {h : Hs} {Q : Int32 → Prop} (X : XS h 3 n) (R : RG n) (e1 : a1 = nI p) (e2 : a2 = nI y) (hp : p < 6) (hy : y < 10) (hQ : Q (nI (fd n p y))) : p_State_feedsIn a1 a2 h Q := by
  subst e1 e2
  unfold p_State_feedsIn
  rw [nI_clamp (by omega), nI_clamp (by omega)]
  have hq := fd_eq R hp hy (X.rd (k := p) (by omega) (c_feed p hp)) (X.rd (k := 6 + y) (by omega) (c_rain y hy))
  refine ⟨vp_in_nI hp (by omega), vp_in_nI hy (by omega), ?_⟩
  rw [hq.1]
  exact hQ
theorem sim_fed {h g : Hs} {a1 a2 : Int32} {K : Int32 → Hs → Int32 → Hs → Prop} {F : Int32 → Hs → Prop} (I : Inv h g) (hK : ∀ r h' g', Inv h' g' → K r h' r g') (hF : ∀ r h', p_M_fed a1 a2 g (K r h') → F r h') : p_X_fed a1 a2 h F := by
  obtain ⟨n, I⟩ := I
  have hpl := I.R.pl.2
  have xb : ¬ (ir a1.toInt 0 ((nP n : Int) - 1) ∧ ir a2.toInt 0 9) → p_X_bad h (fun r h' => F r h') := by
    intro nb h7 e7
    subst e7
    refine hF _ _ ?_
    unfold p_M_fed
    exact m_place (a1 := a1) I.M I.R (fun y1 P30 h30 P24 h24 => bN one0 (m_year (a0 := a2) (fun y2 => absurd ⟨y1, y2⟩ nb) (fun y2 => bY rfl (h24 (fun h9 e => h30 _ _ (lf_bad I hK (-2) h9 e)))))) (fun y1 P30 h30 P24 h24 => bY rfl (h24 (fun h9 e => h30 _ _ (lf_bad I hK (-2) h9 e))))
  unfold p_X_fed
  refine (x_place (a1 := a1) I.X I.R (fun y1 P0 h0P => bNY rfl (x_out (a0 := a2) (lo := 0) (hi := 9) (by decide) (by decide) (fun y2 => bY rfl ?_) (fun y2 => bN one0 (h0P (xb (fun y => y2 y.2)))))) (fun y1 P0 h0P => bNN one0 (h0P (xb (fun y => y1 y.1)))))
  obtain ⟨p, pu, ep⟩ := ir_p y1
  subst ep
  obtain ⟨y, yl, yu, ey⟩ := ir_m (lo := 0) (hi := 9) y2
  subst ey
  have p6 : p < 6 := by unfold nP at pu; omega
  refine s_feedsIn I.X I.R rfl rfl p6 (by omega) (hF _ _ ?_)
  unfold p_M_fed
  exact m_place I.M I.R (fun _ P30 h30 P24 h24 => bN one0 (m_year (fun _ => bN one0 (m_fedOf I.M I.R rfl rfl p6 (by omega) (h30 _ _ (hK _ _ _ ⟨n, I⟩)))) (fun z => absurd y2 z))) (fun z => absurd y1 z)
def drS (f : Nat → Nat) (N : Nat) : Nat → Int32 × Nat × Nat
  | 0 => (-1, 0, 0)
  | y + 1 => if (drS f N y).2.1 < (if f y < N then (drS f N y).2.2 + 1 else 0) then (nI y - nI (if f y < N then (drS f N y).2.2 + 1 else 0) + 1, (if f y < N then (drS f N y).2.2 + 1 else 0), (if f y < N then (drS f N y).2.2 + 1 else 0)) else ((drS f N y).1, (drS f N y).2.1, (if f y < N then (drS f N y).2.2 + 1 else 0))
theorem drS_s (f : Nat → Nat) (N y : Nat) : drS f N (y + 1) = if (drS f N y).2.1 < (if f y < N then (drS f N y).2.2 + 1 else 0) then (nI y - nI (if f y < N then (drS f N y).2.2 + 1 else 0) + 1, (if f y < N then (drS f N y).2.2 + 1 else 0), (if f y < N then (drS f N y).2.2 + 1 else 0)) else ((drS f N y).1, (drS f N y).2.1, (if f y < N then (drS f N y).2.2 + 1 else 0)) := rfl
theorem drS_le (f : Nat → Nat) (N : Nat) : ∀ y, (drS f N y).2.1 ≤ y ∧ (drS f N y).2.2 ≤ y
  | 0 => ⟨Nat.le_refl _, Nat.le_refl _⟩
  | y + 1 => by
    have := drS_le f N y
    rw [drS_s]
    have h2 : (if f y < N then (drS f N y).2.2 + 1 else 0) ≤ y + 1 := by split <;> omega
    generalize (if f y < N then (drS f N y).2.2 + 1 else 0) = r at *
    by_cases c : (drS f N y).2.1 < r
    · rw [if_pos c]
      exact ⟨h2, h2⟩
    · rw [if_neg c]
      exact ⟨by show (drS f N y).2.1 ≤ y + 1; omega, h2⟩
theorem sim_dry {h g : Hs} {a1 a2 a3 : Int32} {K : Int32 → Hs → Int32 → Hs → Prop} {F : Int32 → Hs → Prop} (I : Inv h g) (hK : ∀ r h' g', Inv h' g' → K r h' r g') (hF : ∀ r h', p_M_dry a1 a2 a3 g (K r h') → F r h') : p_X_dry a1 a2 a3 h F := by
  obtain ⟨n, I⟩ := I
  have xb : ¬ (ir a1.toInt 0 ((nP n : Int) - 1) ∧ ir a2.toInt 0 999 ∧ ir a3.toInt 0 1) → p_X_worse h (fun r h' => F r h') := by
    intro nb h7 e7
    subst e7
    refine hF _ _ ?_
    unfold p_M_dry
    exact (m_place (a1 := a1) I.M I.R (fun y1 M0 h0M => bN one0 (m_in (a := a2.toInt) (lo := 0) (hi := 999) (i64 a2) (by decide) (by decide) (fun y2 => bN one0 (m_in (a := a3.toInt) (lo := 0) (hi := 1) (i64 a3) (by decide) (by decide) (fun y3 => bNN one0 (absurd ⟨y1, y2, y3⟩ nb)) (fun y3 => bNY rfl (h0M (lf_bad I hK (-10)))))) (fun y2 => bY rfl (h0M (lf_bad I hK (-10)))))) (fun y1 M0 h0M => bY rfl (h0M (lf_bad I hK (-10)))))
  unfold p_X_dry
  refine (x_place (a1 := a1) I.X I.R (fun y1 P0 h0P => bNY rfl (x_out (a0 := a2) (lo := 0) (hi := 999) (by decide) (by decide) (fun y2 => bNY rfl (x_out (a0 := a3) (lo := 0) (hi := 1) (by decide) (by decide) (fun y3 => bY rfl ?_) (fun y3 => bN one0 (h0P (xb (fun y => y3 y.2.2)))))) (fun y2 => bNN one0 (h0P (xb (fun y => y2 y.2.1)))))) (fun y1 P0 h0P => bNN one0 (h0P (xb (fun y => y1 y.1)))))
  obtain ⟨p, pu, ep⟩ := ir_p y1
  subst ep
  obtain ⟨N, Nl, Nu, eN⟩ := ir_m (lo := 0) (hi := 999) y2
  subst eN
  have hpl := I.R.pl.2
  have p6 : p < 6 := by unfold nP at pu; omega
  have MD : ∀ r h', K r h' (if a3 = 0 then (drS (fd n p) N 10).1 else nI (drS (fd n p) N 10).2.1) g → p_M_dry (nI p) (nI N) a3 g (K r h') := by
    intro r h' k1
    unfold p_M_dry
    refine (m_place I.M I.R (fun _ M0 h0M => bN one0 (m_in (lo := 0) (hi := 999) (i64 _) (by decide) (by decide) (fun _ => bN one0 (m_in (lo := 0) (hi := 1) (i64 _) (by decide) (by decide) (fun _ => bNN one0 ?_) (fun z => absurd y3 z))) (fun z => absurd y2 z))) (fun z => absurd y1 z))
    intro P49 h49
    refine lpG (σ := Unit) (fun y _ => P49 (drS (fd n p) N y).1 (nI (drS (fd n p) N y).2.1) (nI (drS (fd n p) N y).2.2) (nI y)) (fun _ _ => True) 10 (s := ()) trivial ?_ ?_
    · intro _ _
      refine h49 _ _ _ _ (bY (nI_le (a := 10) (b := 10) (by omega) (by omega)) (fun P131 h131 => ?_))
      by_cases c : a3 = 0
      · rw [if_pos c] at k1
        exact bNY c (h131 _ k1)
      · rw [if_neg c] at k1
        exact bNN c (h131 _ k1)
    · intro y _ hy _ nx
      have nx := nx () trivial
      have bd := drS_le (fd n p) N y
      have fl := fd_eq (a := n p) (b := n (6 + y)) I.R p6 hy rfl rfl
      rw [drS_s] at nx
      refine h49 _ _ _ _ (bN (nI_ge (b := 10) hy (by omega)) (m_fedOf I.M I.R rfl rfl p6 hy (fun P75 h75 => ?_)))
      have go : ∀ (r : Nat) (x : Int32), x = nI r → r = (if fd n p y < N then (drS (fd n p) N y).2.2 + 1 else 0) → P75 x := by
        intro r x hx hr
        rw [← hr] at nx
        subst hx
        have rl : r ≤ 11 := by rw [hr]; split <;> omega
        apply h75
        intro P96 h96
        have go96 : ∀ u : Int32, u = (if (drS (fd n p) N y).2.1 < r then nI y - nI r + 1 else (drS (fd n p) N y).1) → P96 u := by
          intro u hu
          apply h96
          intro P112 h112
          refine ble rfl rfl (by omega) (by omega) (fun z => h112 _ (fun a7 e7 => ?_)) (fun z => h112 _ (fun a7 e7 => ?_))
          · rw [nI_1] at e7
            subst e7
            rw [if_neg (by omega)] at nx hu
            rw [hu]
            exact nx
          · rw [nI_1] at e7
            subst e7
            rw [if_pos z] at nx hu
            rw [hu]
            exact nx
        refine ble rfl rfl (by omega) (by omega) (fun z => go96 _ (by rw [if_neg (by omega)])) (fun z => go96 _ (by rw [if_pos z]))
      refine ble rfl rfl (by omega) (by omega) (fun z => go 0 0 nI_lit0 (by rw [if_neg (by omega)])) (fun z => go _ _ (nI_1 _) (by rw [if_pos z]))
  intro P45 h45
  refine lpG (σ := Unit) (fun y _ => P45 (drS (fd n p) N y).1 (nI (drS (fd n p) N y).2.1) (nI (drS (fd n p) N y).2.2) (nI y)) (fun _ _ => True) 10 (s := ()) trivial ?_ ?_
  · intro _ _
    refine h45 _ _ _ _ (bY (nI_le (a := 10) (b := 10) (by omega) (by omega)) (fun P113 h113 => ?_))
    by_cases c : a3 = 0
    · rw [if_pos c] at MD
      exact bNY c (h113 _ (hF _ _ (MD _ _ (hK _ _ _ ⟨n, I⟩))))
    · rw [if_neg c] at MD
      exact bNN c (h113 _ (hF _ _ (MD _ _ (hK _ _ _ ⟨n, I⟩))))
  · intro y _ hy _ nx
    have nx := nx () trivial
    have bd := drS_le (fd n p) N y
    have fl := fd_eq (a := n p) (b := n (6 + y)) I.R p6 hy rfl rfl
    rw [drS_s] at nx
    refine h45 _ _ _ _ (bN (nI_ge (b := 10) hy (by omega)) (s_feedsIn I.X I.R rfl rfl p6 hy (fun P74 h74 => ?_)))
    have go : ∀ (r : Nat) (x : Int32), x = nI r → r = (if fd n p y < N then (drS (fd n p) N y).2.2 + 1 else 0) → P74 x := by
      intro r x hx hr
      rw [← hr] at nx
      subst hx
      have rl : r ≤ 11 := by rw [hr]; split <;> omega
      apply h74
      intro P96 h96
      refine ble rfl rfl (by omega) (by omega) (fun z => h96 _ _ (fun a7 e7 => ?_)) (fun z a4 e4 => h96 _ _ (fun a7 e7 => ?_))
      · rw [nI_1] at e7
        subst e7
        rw [if_neg (by omega)] at nx
        exact nx
      · rw [nI_1] at e7
        subst e7 e4
        rw [if_pos z] at nx
        exact nx
    refine ble rfl rfl (by omega) (by omega) (fun z => go 0 0 nI_lit0 (by rw [if_neg (by omega)])) (fun z => go _ _ (nI_1 _) (by rw [if_pos z]))
/-- how few, how many -/
def fwN (c e m : Nat) : Nat := (c * e + m - 1) / m
def msN (c e m : Nat) : Nat := ((c + 1) * e - 1) / m
theorem mny {c e m q : Nat} (he : 1 ≤ e) (hm : 1 ≤ m) : q * m / e = c ↔ fwN c e m ≤ q ∧ q ≤ msN c e m := by
  unfold fwN msN
  have h1 : (c * e + m - 1) / m ≤ q ↔ c * e ≤ q * m := by
    rw [Nat.div_le_iff_le_mul_add_pred (by omega)]
    rw [Nat.mul_comm m q]
    omega
  have hp : 1 ≤ (c + 1) * e := Nat.mul_pos (by omega) he
  have h2 : q ≤ ((c + 1) * e - 1) / m ↔ q * m < (c + 1) * e := by
    rw [Nat.le_div_iff_mul_le (by omega)]
    omega
  rw [h1, h2]
  constructor
  · intro h
    subst h
    have h3 := Nat.lt_mul_div_succ (q * m) he
    rw [Nat.mul_comm e] at h3
    exact ⟨Nat.div_mul_le_self _ _, h3⟩
  · intro h
    exact Nat.div_eq_of_lt_le h.1 h.2
def mnA (w f s j : Nat) : Int32 := if f < j ∧ f ≤ s then nI (if w = 0 then f else if j - 1 ≤ s then j - 1 else s) else -1
theorem sim_many {h g : Hs} {a1 a2 a3 a4 : Int32} {K : Int32 → Hs → Int32 → Hs → Prop} {F : Int32 → Hs → Prop} (I : Inv h g) (hK : ∀ r h' g', Inv h' g' → K r h' r g') (hF : ∀ r h', p_M_many a1 a2 a3 a4 g (K r h') → F r h') : p_X_many a1 a2 a3 a4 h F := by
  obtain ⟨n, I⟩ := I
  have xb : ¬ (ir a1.toInt 0 3 ∧ ir a2.toInt 0 20 ∧ ir a3.toInt 1 120 ∧ ir a4.toInt 0 1) → p_X_worse h (fun r h' => F r h') := by
    intro nb h7 e7
    subst e7
    refine hF _ _ ?_
    unfold p_M_many
    exact (m_four (a0 := a1) (fun y1 M0 h0M => bN one0 (m_in (a := a2.toInt) (lo := 0) (hi := 20) (i64 a2) (by decide) (by decide) (fun y2 => bN one0 (m_in (a := a3.toInt) (lo := 1) (hi := 120) (i64 a3) (by decide) (by decide) (fun y3 => bN one0 (m_in (a := a4.toInt) (lo := 0) (hi := 1) (i64 a4) (by decide) (by decide) (fun y4 => bNN one0 (absurd ⟨y1, y2, y3, y4⟩ nb)) (fun y4 => bNY rfl (h0M (lf_bad I hK (-10)))))) (fun y3 => bY rfl (h0M (lf_bad I hK (-10)))))) (fun y2 => bY rfl (h0M (lf_bad I hK (-10)))))) (fun y1 M0 h0M => bY rfl (h0M (lf_bad I hK (-10)))))
  unfold p_X_many
  refine (x_kind (a0 := a1) (fun y1 P0 h0P => bNY rfl (x_out (a0 := a2) (lo := 0) (hi := 20) (by decide) (by decide) (fun y2 => bNY rfl (x_out (a0 := a3) (lo := 1) (hi := 120) (by decide) (by decide) (fun y3 => bNY rfl (x_out (a0 := a4) (lo := 0) (hi := 1) (by decide) (by decide) (fun y4 => bY rfl ?_) (fun y4 => bN one0 (h0P (xb (fun y => y4 y.2.2.2)))))) (fun y3 => bNN one0 (h0P (xb (fun y => y3 y.2.2.1)))))) (fun y2 => bNN one0 (h0P (xb (fun y => y2 y.2.1)))))) (fun y1 P0 h0P => bNN one0 (h0P (xb (fun y => y1 y.1)))))
  obtain ⟨k, kl, ku, ek⟩ := ir_m (lo := 0) (hi := 3) y1
  subst ek
  obtain ⟨c, cl, cu, ec⟩ := ir_m (lo := 0) (hi := 20) y2
  subst ec
  obtain ⟨m, ml, mu, em⟩ := ir_m (lo := 1) (hi := 120) y3
  subst em
  obtain ⟨w, wl, wu, ew⟩ := ir_m (lo := 0) (hi := 1) y4
  subst ew
  have re := I.R.ea k (by omega)
  have ru := re.1.2
  have rl := re.2
  have ex : gi h (9 + k) 0 = nI (nn (n (22 + k))) := by
    have := I.X.rd (k := 22 + k) (by omega) (c_each k (by omega))
    rw [show 3 + (6 + k) = 9 + k by omega] at this
    exact this.trans re.1.1
  have em : n (22 + k) = nI (nn (n (22 + k))) := re.1.1
  generalize nn (n (22 + k)) = e at *
  have ce1 : c * e ≤ 20 * 999 := Nat.mul_le_mul cu ru
  have ce2 : (c + 1) * e ≤ 21 * 999 := Nat.mul_le_mul (by omega) ru
  have ce3 : 1 ≤ (c + 1) * e := Nat.mul_pos (by omega) rl
  have fl : fwN c e m ≤ 30000 := Nat.le_trans (Nat.div_le_self _ _) (by omega)
  have sl' : msN c e m ≤ 30000 := Nat.le_trans (Nat.div_le_self _ _) (by omega)
  have MD : ∀ r h', K r h' (mnA w (fwN c e m) (msN c e m) 1000) g → p_M_many (nI k) (nI c) (nI m) (nI w) g (K r h') := by
    intro r h' k1
    unfold p_M_many
    refine (m_four  (fun _ M0 h0M => bN one0 (m_in (lo := 0) (hi := 20) (i64 _) (by decide) (by decide) (fun _ => bN one0 (m_in (lo := 1) (hi := 120) (i64 _) (by decide) (by decide) (fun _ => bN one0 (m_in (lo := 0) (hi := 1) (i64 _) (by decide) (by decide) (fun _ => bNN one0 ?_) (fun z => absurd y4 z))) (fun z => absurd y3 z))) (fun z => absurd y2 z))) (fun z => absurd y1 z))
    intro P55 h55
    refine lpG (σ := Unit) (fun j _ => P55 (mnA w (fwN c e m) (msN c e m) j) (nI j)) (fun _ _ => True) 1000 (s := ()) trivial ?_ ?_
    · intro _ _
      exact h55 _ _ (bY (nI_lt (a := 999) (by omega) (by omega)) k1)
    · intro j _ hj _ nx
      have nx := nx () trivial
      have jm : j * m ≤ 999 * 120 := Nat.mul_le_mul (by omega) mu
      have jd : j * m / e ≤ 999 * 120 := Nat.le_trans (Nat.div_le_self _ _) jm
      refine h55 _ _ (bN (nI_nlt (a := 999) (by omega) (by omega)) ?_)
      rw [show (22 : Int32) + nI k = nI (22 + k) from nI_add 22 k, nI_clamp (by omega), I.M _ (by omega), em, nI_mul, pk_div (by omega) rl (by omega)]
      refine ⟨vp_in_nI (by omega) (by omega), nI_ne0 rl (by omega), fun P86 h86 => ?_⟩
      have iff1 := mny (c := c) (q := j) rl ml
      generalize fwN c e m = f at *
      generalize msN c e m = s at *
      have fin : ∀ P112 : Int32 → Prop, (∀ t0 : Int32, (∀ a6 : Int32, a6 = nI j + 1 → P55 t0 a6) → P112 t0) → P112 (mnA w f s (j + 1)) := fun P112 h112 => h112 _ (fun a6 e6 => by
        rw [nI_1] at e6
        subst e6
        exact nx)
      refine beqN rfl rfl (by omega) (by omega) (fun z => h86 _ (fun P112 h112 P110 h110 => bY rfl (h110 ?_))) (fun z => h86 _ (fun P112 h112 P110 h110 => bN one0 (fun P105 h105 => ?_)))
      · have no : ¬ (f ≤ j ∧ j ≤ s) := fun y => z (iff1.mpr y)
        have ea : mnA w f s j = mnA w f s (j + 1) := by
          unfold mnA
          by_cases q1 : f < j ∧ f ≤ s
          · rw [if_pos q1, if_pos (show f < j + 1 ∧ f ≤ s by omega)]
            congr 1
            split
            · rfl
            · split <;> split <;> omega
          · rw [if_neg q1, if_neg (show ¬ (f < j + 1 ∧ f ≤ s) by omega)]
        rw [ea]
        exact fin P112 h112
      · have yes := iff1.mp z
        have val : mnA w f s (j + 1) = nI (if w = 0 then f else j) := by
          unfold mnA
          rw [if_pos (by omega), Nat.add_sub_cancel, if_pos (show j ≤ s by omega)]
        have G := fin P112 h112
        rw [val] at G
        refine beq (b := 1) rfl rfl (by omega) (by omega) (fun w1 => h105 ?_) (fun w1 => ?_)
        · rw [if_neg (by omega)] at G
          exact G
        · rw [if_pos (by omega)] at G
          by_cases q1 : f < j
          · have vj : mnA w f s j = nI f := by
              unfold mnA
              rw [if_pos (by omega), if_pos (by omega)]
            rw [vj]
            refine bNN (fun y => ?_) (h110 (by rw [vj]; exact G))
            have := congrArg Int32.toInt y
            rw [nI_toInt (by omega)] at this
            have h3 : (-1 : Int32).toInt = -1 := by decide
            rw [h3] at this
            omega
          · have vj : mnA w f s j = -1 := by
              unfold mnA
              rw [if_neg (by omega)]
            rw [vj]
            refine bNY rfl (h105 ?_)
            rw [show f = j by omega] at G
            exact G
  rw [nI_clamp (by omega), show 8 + 1 + 1 * k = 9 + k by omega, ex]
  refine ⟨vp_in_nI (by omega) (by omega), fun a5 e5 => ⟨nI_ne0 (by omega) (by omega), fun a6 e6 => ⟨nI_ne0 (by omega) (by omega), fun a7 e7 => ?_⟩⟩⟩
  subst e5
  have e6' : a6 = nI (fwN c e m) := by
    rw [e6, nI_mul, nI_add, show nI (c * e + m) - 1 = nI (c * e + m - 1) from pk_sub (b := 1) (by omega), pk_div (by omega) (by omega) (by omega)]
    rfl
  have e7' : a7 = nI (if 999 < msN c e m then 999 else msN c e m) := by
    rw [e7, nI_1, nI_mul, show nI ((c + 1) * e) - 1 = nI ((c + 1) * e - 1) from pk_sub (b := 1) (by omega), pk_div (by omega) (by omega) (by omega)]
    show (if (999 : Int32) < nI (msN c e m) then (999 : Int32) else nI (msN c e m)) = _
    rw [show (999 : Int32) = nI 999 from rfl]
    by_cases q : 999 < msN c e m
    · rw [if_pos (nI_lt q (by omega)), if_pos q]
    · rw [if_neg (nI_nlt (by omega) (by omega)), if_neg q]
  have ml9 : (if 999 < msN c e m then 999 else msN c e m) ≤ 999 := by split <;> omega
  have fin : ∀ x : Int32, mnA w (fwN c e m) (msN c e m) 1000 = x → F x h := fun x hx => hF _ _ (MD _ _ (by rw [hx]; exact hK _ _ _ ⟨n, I⟩))
  refine ble e6' e7' (by omega) (by omega) (fun z P106 h106 => ?_) (fun z => fin _ ?_)
  · have q1 : fwN c e m < 1000 ∧ fwN c e m ≤ msN c e m := by
      split at z <;> omega
    refine beqN (b := 0) rfl nI_lit0 (by omega) (by omega) (fun w1 => h106 _ (fin _ ?_)) (fun w1 => h106 _ (fin _ ?_))
    · unfold mnA
      rw [if_pos q1, if_neg w1, e7']
      congr 1
      split <;> split <;> omega
    · unfold mnA
      rw [if_pos q1, if_pos w1, e6']
  · unfold mnA
    rw [if_neg (fun y => by split at z <;> omega)]
