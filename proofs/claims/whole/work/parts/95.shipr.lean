/-! ===== the reference's ship ===== -/
theorem m_dayBehind {n : Nat → Int32} {d k : Nat} {a1 a2 : Int32} {g : Hs} {Q : Int32 → Prop} (M : MS g n) (e1 : a1 = nI d) (e2 : a2 = nI k) (hd : d ≤ 10000) (hk : k ≤ 20) (hQ : Q (nI (dyB n d k))) : p_M_dayBehind a1 a2 g Q := by
  subst e1 e2
  unfold p_M_dayBehind
  intro P5 h5
  have key : ∀ (m e j : Nat), (60 - e) + j ≤ m → e + m ≤ 20000 → j ≤ 20 → dyB n e j = dyB n d k → P5 (nI e) (nI j) := by
    intro m
    induction m with
    | zero =>
      intro e j hm he hj hv
      have j0 : j = 0 := by omega
      subst j0
      refine h5 _ _ (ble (a := 0) (b := 0) rfl nI_lit0 (by omega) (by omega) (fun _ => ?_) (fun z => by omega))
      rw [dyB_0] at hv
      rw [hv]
      exact hQ
    | succ m ih =>
      intro e j hm he hj hv
      refine h5 _ _ (ble (b := 0) rfl nI_lit0 (by omega) (by omega) (fun z => ?_) (fun z P36 h36 P31 h31 => ?_))
      · have j0 : j = 0 := by omega
        subst j0
        rw [dyB_0] at hv
        rw [hv]
        exact hQ
      · obtain ⟨j', ej⟩ : ∃ j', j = j' + 1 := ⟨j - 1, by omega⟩
        subst ej
        rw [dyB_s] at hv
        have free : fre n e = true → P31 := fun c => h31 (h36 _ (fun a4 e4 a3 e3 => by
          rw [nI_1] at e3
          rw [nI_pred] at e4
          subst e3 e4
          rw [if_pos c] at hv
          exact ih (e + 1) j' (by omega) (by omega) (by omega) hv))
        refine blt (a := 59) rfl rfl (by omega) (by omega) (fun c => free (decide_eq_true (Or.inl (by omega)))) (fun c => ?_)
        rw [show (611 : Int32) + nI e = nI (611 + e) from nI_add 611 e, nI_clamp (by omega), M _ (by omega)]
        refine ⟨vp_in_nI (by omega) (by omega), fun c2 => h36 _ (fun a4 e4 a3 e3 => ?_), fun c2 => free (decide_eq_true (Or.inr c2))⟩
        rw [nI_1] at e3
        rw [nI_lit0, pk_sub (by omega), Nat.sub_zero] at e4
        subst e3 e4
        rw [if_neg (by unfold fre; intro y; rcases of_decide_eq_true y with w | w; omega; exact c2 w)] at hv
        exact ih (e + 1) (j' + 1) (by omega) (by omega) (by omega) hv
  exact key _ d k (Nat.le_refl _) (by omega) hk rfl
def BFI (n : Nat → Int32) (a : Nat) (f ρ : Nat → Nat) (k T : Nat) (r : Nat → Nat) : Prop := (r a ≠ 0 ∧ r a ≤ f a) ∧ (∀ q, r q ≠ 0 → f q ≠ 0 ∧ f q ≤ r q) ∧ (∀ q, r q ≤ 1101 + 20 * T) ∧ (∀ q, f q ≠ 0 → ρ q ≤ k → r q ≠ 0 ∧ r q ≤ f q)
def BFV (n : Nat → Int32) (f ρ : Nat → Nat) (k p : Nat) (r : Nat → Nat) : Prop := ∀ p', p' < p → ∀ q, q < nP n → ρ p' ≤ k → f p' ≠ 0 → 0 < wy n p' q → r q ≠ 0 ∧ r q ≤ eE n (f p') p' q
def BFW (n : Nat → Int32) (f ρ : Nat → Nat) (k p q : Nat) (r : Nat → Nat) : Prop := ∀ q', q' < q → ρ p ≤ k → f p ≠ 0 → 0 < wy n p q' → r q' ≠ 0 ∧ r q' ≤ eE n (f p) p q'
def bfr (n : Nat → Int32) (p q : Nat) (r : Nat → Nat) (x : Nat) : Nat := if x = q ∧ 0 < wy n p q ∧ (r q = 0 ∨ eE n (r p) p q < r q) then eE n (r p) p q else r x
theorem bfr_le {n : Nat → Int32} {p q x : Nat} {r : Nat → Nat} (h : r x ≠ 0) : bfr n p q r x ≠ 0 ∧ bfr n p q r x ≤ r x := by
  unfold bfr
  split
  · rename_i c
    obtain ⟨c1, c2, c3⟩ := c
    subst c1
    unfold eE at c3 ⊢
    omega
  · exact ⟨h, Nat.le_refl _⟩
theorem BFI.relax {n : Nat → Int32} {a k T p q day : Nat} {f ρ r : Nat → Nat} (R : RG n) (S : SHP n a day f ρ) (B : BFI n a f ρ k T r) (rp : r p ≠ 0) (hp : p < nP n) (hq : q < nP n) : BFI n a f ρ k (T + 1) (bfr n p q r) := by
  obtain ⟨b1, b2, b3, b4⟩ := B
  have h6 := R.pl.2
  have wl : wy n p q ≤ 20 := (R.da p (by unfold nP at hp; omega) q (by unfold nP at hq; omega)).1.2
  refine ⟨?_, fun x hx => ?_, fun x => ?_, fun x fx rx => ?_⟩
  · have := bfr_le (n := n) (p := p) (q := q) b1.1
    exact ⟨this.1, by omega⟩
  · unfold bfr at hx ⊢
    by_cases c : x = q ∧ 0 < wy n p q ∧ (r q = 0 ∨ eE n (r p) p q < r q)
    · rw [if_pos c]
      obtain ⟨c1, c2, c3⟩ := c
      subst c1
      obtain ⟨f1, f2⟩ := b2 p rp
      obtain ⟨g1, g2⟩ := S.2.2.1 p x f1 hq c2
      have := eE_mono (n := n) (p := p) (q := x) f2
      exact ⟨g1, by omega⟩
    · rw [if_neg c] at hx ⊢
      exact b2 x hx
  · unfold bfr
    have h2 := eE_le (n := n) (x := r p) (p := p) (q := q) (B := 1101 + 20 * T) (by omega) (b3 p) wl
    have h3 := b3 x
    split <;> omega
  · obtain ⟨u1, u2⟩ := b4 x fx rx
    have := bfr_le (n := n) (p := p) (q := q) u1
    exact ⟨this.1, by omega⟩
theorem BFV.relax {n : Nat → Int32} {k m p q : Nat} {f ρ r : Nat → Nat} (V : BFV n f ρ k m r) : BFV n f ρ k m (bfr n p q r) := fun p' h1 x h2 h3 h4 h5 => by
  obtain ⟨u1, u2⟩ := V p' h1 x h2 h3 h4 h5
  have := bfr_le (n := n) (p := p) (q := q) u1
  exact ⟨this.1, by omega⟩
theorem BFW.relax {n : Nat → Int32} {a k T p q : Nat} {f ρ r : Nat → Nat} (B : BFI n a f ρ k T r) (W : BFW n f ρ k p q r) : BFW n f ρ k p (q + 1) (bfr n p q r) := fun x hx h3 h4 h5 => by
  by_cases e : x = q
  · subst e
    obtain ⟨u1, u2⟩ := B.2.2.2 p h4 h3
    have hm := eE_mono (n := n) (p := p) (q := x) u2
    unfold bfr
    by_cases c : r x = 0 ∨ eE n (r p) p x < r x
    · rw [if_pos ⟨rfl, h5, c⟩]
      exact ⟨by unfold eE; omega, hm⟩
    · rw [if_neg (fun z => c z.2.2)]
      exact ⟨by omega, by omega⟩
  · obtain ⟨u1, u2⟩ := W x (by omega) h3 h4 h5
    have := bfr_le (n := n) (p := p) (q := q) u1
    exact ⟨this.1, by omega⟩
def RS (g : Hs) (r : Nat → Nat) : Prop := ∀ q, q < 6 → gi g 13 q = wv (r q)
theorem r_sailsTo {n : Nat → Int32} {a t day : Nat} {f ρ : Nat → Nat} {a1 a2 a3 : Int32} {g : Hs} {Q : Int32 → Hs → Prop} (M : MS g n) (R : RG n) (S : SHP n a day f ρ) (e1 : a1 = nI a) (e2 : a2 = nI t) (e3 : a3 = nI day) (ha : a < nP n) (ht : t < nP n) (hd : day ≤ 1100) (hQ : ∀ g', frm (fun c => c = 13) g g' → Q (wv (f t)) g') : p_M_sailsTo a1 a2 a3 g Q := by
  subst e1 e2 e3
  have hp := M.pl R
  have Mf : ∀ q, frm (fun c => c = 13) g q → MS q n := fun q y => M.frm y (by omega)
  unfold p_M_sailsTo
  intro P3 h3
  refine lpH (fun k q => (∀ x, x < k → gi q 13 x = wv (f00 a day x)) ∧ frm (fun c => c = 13) g q) 6 ⟨fun x hx => by omega, frm.refl⟩ ?_ ?_
  · intro q0 hI
    obtain ⟨I1, I2⟩ := hI
    refine h3 _ _ (bY (nI_le (a := 6) (b := 6) (by omega) (by omega)) (fun P37 h37 => ?_))
    have B0 : BFI n a f ρ 0 0 (f00 a day) := by
      refine ⟨⟨by rw [f00_s]; omega, by rw [f00_s, S.1]; exact Nat.le_refl _⟩, fun q hq => ?_, fun q => ?_, fun q fq rq => ?_⟩
      · by_cases e : q = a
        · rw [e, f00_s, S.1]
          exact ⟨by omega, Nat.le_refl _⟩
        · exact absurd (f00_n e) hq
      · by_cases e : q = a
        · rw [e, f00_s]
          omega
        · rw [f00_n e]
          omega
      · by_cases e : q = a
        · rw [e, f00_s, S.1]
          exact ⟨by omega, Nat.le_refl _⟩
        · obtain ⟨p, p1, p2, _⟩ := S.2.2.2 q fq e
          omega
    refine lpH (fun k q => (∃ r, RS q r ∧ BFI n a f ρ k (36 * k) r) ∧ frm (fun c => c = 13) g q) 6 ⟨⟨f00 a day, I1, B0⟩, I2⟩ ?_ ?_
    · intro q hJ
      obtain ⟨⟨r, rs, b1, b2, b3, b4⟩, fq⟩ := hJ
      refine h37 _ _ (bY (nI_le (a := 6) (b := 6) (by omega) (by omega)) ⟨vp_in_nI (by omega) (by omega), ?_⟩)
      have er : r t = f t := by
        by_cases c : f t = 0
        · by_cases z : r t = 0
          · rw [c, z]
          · exact absurd c (b2 t z).1
        · have h1 := b4 t c (by have := (S.2.1 t c).2.2; omega)
          have h2 := b2 t h1.1
          omega
      rw [nI_clamp (by omega), rs t (by omega), er]
      exact hQ q fq
    · intro k q hk hJ nx
      obtain ⟨⟨r, rs, B⟩, fq⟩ := hJ
      refine h37 _ _ (bN (nI_ge (b := 6) hk (by omega)) (fun P47 h47 => ?_))
      refine lpH (fun p q => (∃ r, RS q r ∧ BFI n a f ρ k (36 * k + 6 * p) r ∧ BFV n f ρ k p r) ∧ frm (fun c => c = 13) g q) (nP n) ⟨⟨r, rs, B, fun p' h => by omega⟩, fq⟩ ?_ ?_
      · intro q2 hL
        obtain ⟨⟨r, rs, ⟨b1, b2, b3, b4⟩, V⟩, fq⟩ := hL
        unfold p_M_places at h47
        refine h47 _ _ (bY (by rw [((Mf q2 fq).pl R).1]; exact nI_le (Nat.le_refl _) (by omega)) (fun a4 e4 => ?_))
        rw [nI_1] at e4
        subst e4
        refine nx q2 ⟨⟨r, rs, b1, b2, fun x => by have := b3 x; omega, fun x fx rx => ?_⟩, fq⟩
        by_cases e : x = a
        · rw [e]
          exact b1
        · obtain ⟨p, p1, p2, p3, p4⟩ := S.2.2.2 x fx e
          have := V p (S.2.1 p p1).1 x (S.2.1 x fx).1 (by omega) p1 p3
          rw [p4]
          exact ⟨this.1, this.2⟩
      · intro p q2 hpp hL nx2
        obtain ⟨⟨r, rs, B, V⟩, fq⟩ := hL
        have p6 : p < 6 := by omega
        refine h47 _ _ ?_
        unfold p_M_places
        refine bN (by rw [((Mf q2 fq).pl R).1]; exact nI_ge hpp (by omega)) (fun P59 h59 => ?_)
        have out : ∀ (q3 : Hs) (r3 : Nat → Nat) (j : Nat), j ≤ 6 → RS q3 r3 → BFI n a f ρ k (36 * k + 6 * p + j) r3 → BFV n f ρ k p r3 → (∀ x, x < nP n → ρ p ≤ k → f p ≠ 0 → 0 < wy n p x → r3 x ≠ 0 ∧ r3 x ≤ eE n (f p) p x) → frm (fun c => c = 13) g q3 → ∀ P176 : Prop, ((∀ a5_176 : Int32, a5_176 = nI p + 1 → P47 a5_176 q3) → P176) → P176 := by
          intro q3 r3 j hj rs3 B3 V3 W3 f3 P176 h176
          apply h176
          intro a5 e5
          rw [nI_1] at e5
          subst e5
          obtain ⟨b1, b2, b3, b4⟩ := B3
          refine nx2 q3 ⟨⟨r3, rs3, ⟨b1, b2, fun x => by have := b3 x; omega, b4⟩, fun p' h1 x h2 h3 h4 h5 => ?_⟩, f3⟩
          by_cases e : p' = p
          · subst e
            exact W3 x h2 h3 h4 h5
          · exact V3 p' (by omega) x h2 h3 h4 h5
        refine lpH (fun j q3 => (∃ r3, RS q3 r3 ∧ BFI n a f ρ k (36 * k + 6 * p + j) r3 ∧ BFV n f ρ k p r3 ∧ BFW n f ρ k p j r3) ∧ frm (fun c => c = 13) g q3) (nP n) ⟨⟨r, rs, B, V, fun x hx => by omega⟩, fq⟩ ?_ ?_
        · intro q3 hN
          obtain ⟨⟨r3, rs3, B3, V3, W3⟩, f3⟩ := hN
          refine h59 _ _ (fun P176 h176 => bY (by rw [((Mf q3 f3).pl R).1]; exact nI_le (Nat.le_refl _) (by omega)) (out q3 r3 (nP n) hp.2 rs3 B3 V3 W3 f3 P176 h176))
        · intro j q3 hj hN nx3
          obtain ⟨⟨r3, rs3, B3, V3, W3⟩, f3⟩ := hN
          have M3 := Mf q3 f3
          have j6 : j < 6 := by omega
          have rb : ∀ x, r3 x ≤ 6000 := fun x => by have := B3.2.2.1 x; omega
          have rp := rb p
          have rj := rb j
          obtain ⟨w1, w2⟩ := wy_eq R p6 j6
          refine h59 _ _ (fun P176 h176 => bN (by rw [(M3.pl R).1]; exact nI_ge hj (by omega)) ⟨vp_in_nI p6 (by omega), ?_⟩)
          rw [nI_clamp (show p < 2 ^ 31 by omega), nI_clamp (show j < 2 ^ 31 by omega), rs3 p p6, rs3 j j6, wv_n (by omega), d_idx, nI_clamp (by omega), M3 _ (by omega), w1]
          refine ⟨fun c => out q3 r3 j (by omega) rs3 B3 V3 (fun x _ h3 h4 _ => absurd c (B3.2.2.2 p h4 h3).1) f3 P176 h176, fun c => ⟨vp_in_nI (by omega) (by omega), fun a7 e7 P120 h120 => ?_⟩⟩
          subst e7
          have B4 := B3.relax R S c hpp hj
          have V4 := V3.relax (p := p) (q := j)
          have W4 := BFW.relax B3 W3
          -- the row is written anew at j
          have wr : ∀ (P169 : Int32 → Prop), (∀ t2 : Int32, (vp_in (nI j) 6 ∧ ∀ h_169 : Hs, h_169 = si q3 13 j t2 → ∀ a6_170 : Int32, a6_170 = nI j + 1 → P59 a6_170 h_169) → P169 t2) → P169 (wv (bfr n p j r3 j)) := fun P169 h169 => h169 _ ⟨vp_in_nI j6 (by omega), fun h' e' a6 e6 => by
            rw [nI_1] at e6
            subst e6 e'
            refine nx3 _ ⟨⟨bfr n p j r3, fun x hx => ?_, B4, V4, W4⟩, f3.trans (frm.si rfl)⟩
            by_cases e : x = j
            · subst e
              rw [gi_s]
            · rw [gi_k e, show bfr n p j r3 x = r3 x from if_neg (fun z => e z.1)]
              exact rs3 x hx⟩
          have old : ∀ (P169 : Int32 → Prop), bfr n p j r3 j = r3 j → (∀ t2 : Int32, (vp_in (nI j) 6 ∧ ∀ h_169 : Hs, h_169 = si q3 13 j t2 → ∀ a6_170 : Int32, a6_170 = nI j + 1 → P59 a6_170 h_169) → P169 t2) → P169 (wv (r3 j)) := fun P169 e h169 => by
            have := wr P169 h169
            rw [e] at this
            exact this
          refine beqN (b := 0) rfl nI_lit0 (by omega) (by omega) (fun w => ⟨vp_in_nI p6 (by omega), ?_⟩) (fun w => h120 _ (fun P169 h169 P162 h162 => bY rfl (h162 ⟨vp_in_nI j6 (by omega), old P169 (if_neg (fun z => by omega)) h169⟩)))
          rw [wv_p c]
          have eEl := eE_le (n := n) (x := r3 p) (p := p) (q := j) (B := 6000) (by omega) rp w2
          have ev : dyB n (r3 p - 1) (wy n p j) = eE n (r3 p) p j - 1 := by
            unfold eE
            omega
          have en : eE n (r3 p) p j ≠ 0 := by unfold eE; omega
          refine m_dayBehind M3 rfl rfl (by omega) w2 (h120 _ (fun P169 h169 P162 h162 => ?_))
          rw [ev]
          refine bN (fun y => ?_) ⟨vp_in_nI j6 (by omega), fun P157 h157 => ?_⟩
          · have := congrArg Int32.toInt y
            rw [nI_toInt (by omega)] at this
            have h3 : (-1 : Int32).toInt = -1 := by decide
            rw [h3] at this
            omega
          · have new : (r3 j = 0 ∨ eE n (r3 p) p j < r3 j) → P157 := fun yes => h157 (by
              have := wr P169 h169
              rw [show bfr n p j r3 j = eE n (r3 p) p j from if_pos ⟨rfl, by omega, yes⟩, wv_p en] at this
              exact this)
            rw [wv_n (show r3 j < 2 ^ 31 by omega)]
            refine ⟨fun c0 => new (Or.inl c0), fun c0 => ⟨vp_in_nI j6 (by omega), ?_⟩⟩
            rw [wv_p c0]
            refine ble rfl rfl (by omega) (by omega) (fun le => h162 ⟨vp_in_nI j6 (by omega), ?_⟩) (fun gt => new (Or.inr (by omega)))
            exact old P169 (if_neg (fun z => by omega)) h169
  · intro k q hk hI nx
    refine h3 _ _ (bN (nI_ge (b := 6) hk (by omega)) (fun P27 h27 => ?_))
    have go : ∀ x : Int32, x = wv (f00 a day k) → P27 x := fun x hx => h27 _ ⟨vp_in_nI hk (by omega), fun h' e' a4 e4 => by
      rw [nI_1] at e4
      rw [nI_clamp (by omega)] at e'
      subst e4 e' hx
      refine nx _ ⟨fun y hy => ?_, hI.2.trans (frm.si rfl)⟩
      by_cases e : y = k
      · subst e
        rw [gi_s]
      · rw [gi_k e]
        exact hI.1 y (by omega)⟩
    refine beqN rfl rfl (by omega) (by omega) (fun z => go _ (by rw [f00_n z]; rfl)) (fun z => go _ (by rw [z, f00_s, wv_p (by omega)]; rfl))
theorem sim_sails {h g : Hs} {a1 a2 a3 : Int32} {K : Int32 → Hs → Int32 → Hs → Prop} {F : Int32 → Hs → Prop} (I : Inv h g) (hK : ∀ r h' g', Inv h' g' → K r h' r g') (hF : ∀ r h', p_M_sails a1 a2 a3 g (K r h') → F r h') : p_X_sails a1 a2 a3 h F := by
  obtain ⟨n, I⟩ := I
  have xb : ¬ (ir a1.toInt 0 ((nP n : Int) - 1) ∧ ir a2.toInt 0 ((nP n : Int) - 1) ∧ ir a3.toInt 0 59) → p_X_worse h (fun r h' => F r h') := by
    intro nb h7 e7
    subst e7
    refine hF _ _ ?_
    unfold p_M_sails
    exact m_place (a1 := a1) I.M I.R (fun y1 P39 h39 P33 h33 => bN one0 (m_place (a1 := a2) I.M I.R (fun y2 => bN one0 (m_day (a0 := a3) (fun y3 => absurd ⟨y1, y2, y3⟩ nb) (fun y3 => bY rfl (h33 (fun h9 e => h39 _ _ (lf_bad I hK (-10) h9 e)))))) (fun y2 => bY rfl (h33 (fun h9 e => h39 _ _ (lf_bad I hK (-10) h9 e)))))) (fun y1 P39 h39 P33 h33 => bY rfl (h33 (fun h9 e => h39 _ _ (lf_bad I hK (-10) h9 e))))
  unfold p_X_sails
  refine (x_place (a1 := a1) I.X I.R (fun y1 P0 h0P => bNY rfl (x_place (a1 := a2) I.X I.R (fun y2 => bNY rfl (x_out (a0 := a3) (lo := 0) (hi := 59) (by decide) (by decide) (fun y3 => bY rfl ?_) (fun y3 => bN one0 (h0P (xb (fun y => y3 y.2.2)))))) (fun y2 => bNN one0 (h0P (xb (fun y => y2 y.2.1)))))) (fun y1 P0 h0P => bNN one0 (h0P (xb (fun y => y1 y.1)))))
  obtain ⟨a, au, ea⟩ := ir_p y1
  subst ea
  obtain ⟨t, tu, et⟩ := ir_p y2
  subst et
  obtain ⟨d, dl, du, ed⟩ := ir_m (lo := 0) (hi := 59) y3
  subst ed
  refine s_firstDayAt I.X I.R rfl rfl rfl au tu (by omega) (fun h' f ρ S fx => hF _ _ ?_)
  unfold p_M_sails
  exact m_place I.M I.R (fun _ P39 h39 P33 h33 => bN one0 (m_place I.M I.R (fun _ => bN one0 (m_day (fun _ => bN one0 (r_sailsTo I.M I.R S rfl rfl rfl au tu (by omega) (fun g' fm => h39 _ _ (hK _ _ _ ⟨n, I.qu fx (fun c hc => by unfold shS2 at hc; omega) (fm.smf (fun c hc => Or.inr hc))⟩)))) (fun z => absurd y3 z))) (fun z => absurd y2 z))) (fun z => absurd y1 z)
/-- five legs at most -/
theorem SHP.bnd {n : Nat → Int32} {a day q : Nat} {f ρ : Nat → Nat} (R : RG n) (S : SHP n a day f ρ) (hd : day ≤ 59) (h : f q ≠ 0) : f q ≤ 1000 := by
  have key : ∀ r q, ρ q = r → f q ≠ 0 → f q ≤ 61 + 20 * (r + 1) := by
    intro r
    induction r using Nat.strongRecOn with
    | _ r ih =>
      intro q hr hq
      by_cases e : q = a
      · rw [e, S.1]
        omega
      · obtain ⟨p, p1, p2, p3, p4⟩ := S.2.2.2 q hq e
        have h1 := ih (ρ p) (by omega) p rfl p1
        have hp6 := R.pl.2
        have pp := (S.2.1 p p1).1
        have qp := (S.2.1 q hq).1
        have w : wy n p q ≤ 20 := (R.da p (by unfold nP at pp; omega) q (by unfold nP at qp; omega)).1.2
        have := eE_le (n := n) (x := f p) (p := p) (q := q) (B := 61 + 20 * (ρ p + 1)) (by omega) h1 w
        omega
  have := key _ q rfl h
  have := (S.2.1 q h).2.2
  omega
theorem sim_back {h g : Hs} {a1 a2 a3 a4 a5 : Int32} {K : Int32 → Hs → Int32 → Hs → Prop} {F : Int32 → Hs → Prop} (I : Inv h g) (hK : ∀ r h' g', Inv h' g' → K r h' r g') (hF : ∀ r h', p_M_back a1 a2 a3 a4 a5 g (K r h') → F r h') : p_X_back a1 a2 a3 a4 a5 h F := by
  obtain ⟨n, I⟩ := I
  have xb : ¬ (ir a1.toInt 0 ((nP n : Int) - 1) ∧ ir a2.toInt 0 ((nP n : Int) - 1) ∧ ir a3.toInt 0 59 ∧ ir a4.toInt 0 59 ∧ ir a5.toInt 0 999) → p_X_bad h (fun r h' => F r h') := by
    intro nb h7 e7
    subst e7
    refine hF _ _ ?_
    unfold p_M_back
    exact (m_place (a1 := a1) I.M I.R (fun y1 M0 h0M => bN one0 (m_place (a1 := a2) I.M I.R (fun y2 => bN one0 (m_day (a0 := a3) (fun y3 => bN one0 (m_in (a := a4.toInt) (lo := 0) (hi := 59) (i64 a4) (by decide) (by decide) (fun y4 => bN one0 (m_in (a := a5.toInt) (lo := 0) (hi := 999) (i64 a5) (by decide) (by decide) (fun y5 => bNN one0 (absurd ⟨y1, y2, y3, y4, y5⟩ nb)) (fun y5 => bNY rfl (h0M (lf_bad I hK (-2)))))) (fun y4 => bY rfl (h0M (lf_bad I hK (-2)))))) (fun y3 => bY rfl (h0M (lf_bad I hK (-2)))))) (fun y2 => bY rfl (h0M (lf_bad I hK (-2)))))) (fun y1 M0 h0M => bY rfl (h0M (lf_bad I hK (-2)))))
  unfold p_X_back
  refine (x_place (a1 := a1) I.X I.R (fun y1 P0 h0P => bNY rfl (x_place (a1 := a2) I.X I.R (fun y2 => bNY rfl (x_out (a0 := a3) (lo := 0) (hi := 59) (by decide) (by decide) (fun y3 => bY rfl (x_out (a0 := a4) (lo := 0) (hi := 59) (by decide) (by decide) (fun y4 P1 h1P => bNY rfl (x_out (a0 := a5) (lo := 0) (hi := 999) (by decide) (by decide) (fun y5 => bY rfl ?_) (fun y5 => bN one0 (h1P (xb (fun y => y5 y.2.2.2.2)))))) (fun y4 P1 h1P => bNN one0 (h1P (xb (fun y => y4 y.2.2.2.1)))))) (fun y3 => bN one0 (h0P (xb (fun y => y3 y.2.2.1)))))) (fun y2 => bNN one0 (h0P (xb (fun y => y2 y.2.1)))))) (fun y1 P0 h0P => bNN one0 (h0P (xb (fun y => y1 y.1)))))
  obtain ⟨a, au, ea⟩ := ir_p y1
  subst ea
  obtain ⟨t, tu, et⟩ := ir_p y2
  subst et
  obtain ⟨d, dl, du, ed⟩ := ir_m (lo := 0) (hi := 59) y3
  subst ed
  obtain ⟨s, sl, su, es⟩ := ir_m (lo := 0) (hi := 59) y4
  subst es
  obtain ⟨l, ll, lu, el⟩ := ir_m (lo := 0) (hi := 999) y5
  subst el
  have MB : ∀ r h' f ρ, SHP n a d f ρ → (f t = 0 → ∀ g', smf g g' → K r h' 0 g') → (f t ≠ 0 → ∃ f2 ρ2, SHP n t (f t - 1 + s) f2 ρ2 ∧ ∀ g', smf g g' → K r h' (if f2 a - 1 ≤ l then 1 else 0) g') → p_M_back (nI a) (nI t) (nI d) (nI s) (nI l) g (K r h') := by
    intro r h' f ρ S k0 k1
    unfold p_M_back
    refine (m_place I.M I.R (fun _ M0 h0M => bN one0 (m_place I.M I.R (fun _ => bN one0 (m_day  (fun _ => bN one0 (m_in (lo := 0) (hi := 59) (i64 _) (by decide) (by decide) (fun _ => bN one0 (m_in (lo := 0) (hi := 999) (i64 _) (by decide) (by decide) (fun _ => bNN one0 ?_) (fun z => absurd y5 z))) (fun z => absurd y4 z))) (fun z => absurd y3 z))) (fun z => absurd y2 z))) (fun z => absurd y1 z))
    refine r_sailsTo I.M I.R S rfl rfl rfl au tu (by omega) (fun g1 fm1 => ?_)
    have s1 : smf g g1 := fm1.smf (fun c hc => Or.inr hc)
    by_cases c : f t = 0
    · rw [c]
      exact bNY rfl (k0 c g1 s1)
    · have fl := (S.2.1 t c).2.1
      obtain ⟨f2, ρ2, S2, kk⟩ := k1 c
      have fa := SHP.back I.R S S2 c
      have fl2 := (S2.2.1 a fa).2.1
      refine bNN (fun z => c ((wv_n (by omega)).mp z)) ?_
      by_cases big : f t - 1 + s ≤ 1100
      · refine r_sailsTo (I.M.smf s1) I.R S2 rfl rfl (by rw [wv_p c, nI_add]) tu au big (fun g2 fm2 P94 h94 => ?_)
        have k2 := kk g2 (s1.trans (fm2.smf (fun c hc => Or.inr hc)))
        rw [wv_p fa]
        refine blt rfl rfl (by omega) (by omega) (fun z => h94 _ ?_) (fun z => h94 _ ?_)
        · rw [if_neg (by omega)] at k2
          exact k2
        · rw [if_pos z] at k2
          exact k2
      · have bb := S.bnd I.R (by omega) c
        omega
  refine s_firstDayAt I.X I.R rfl rfl rfl au tu (by omega) (fun h70 f ρ S fx => ?_)
  have I70 : Iv h70 g n := I.qu fx (fun c hc => by unfold shS2 at hc; omega) smf.refl
  by_cases c : f t = 0
  · rw [c]
    exact bNY rfl (hF _ _ (MB _ _ f ρ S (fun _ g' fm => hK _ _ _ ⟨n, I70.mf fm⟩) (fun z => absurd c z)))
  · have fl := (S.2.1 t c).2.1
    have bb := S.bnd I.R (by omega) c
    refine bNN (fun z => c ((wv_n (by omega)).mp z)) ?_
    refine s_firstDayAt I70.X I.R rfl rfl (by rw [wv_p c, nI_add]) tu au (by omega) (fun h98 f2 ρ2 S2 fx2 P121 h121 P120 h120 => ?_)
    have I98 : Iv h98 g n := I70.qu fx2 (fun c hc => by unfold shS2 at hc; omega) smf.refl
    have fa := SHP.back I.R S S2 c
    have fl2 := (S2.2.1 a fa).2.1
    have fin : ∀ x : Int32, x = (if f2 a - 1 ≤ l then 1 else 0) → P121 x := fun x hx => h121 _ (hF _ _ (MB _ _ f ρ S (fun z => absurd z c) (fun _ => ⟨f2, ρ2, S2, fun g' fm => by rw [← hx]; exact hK _ _ _ ⟨n, I98.mf fm⟩⟩)))
    rw [wv_n (show f2 a < 2 ^ 31 by omega)]
    refine bN fa ?_
    rw [wv_p fa]
    exact blt rfl rfl (by omega) (by omega) (fun z => h120 (fin 0 (by rw [if_neg (by omega)]))) (fun z => fin 1 (by rw [if_pos z]))
