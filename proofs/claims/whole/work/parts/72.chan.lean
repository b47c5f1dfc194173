/-! ===== the class's chances of signs ===== -/
theorem lpD {P : Int32 → Hs → Prop} (I : Nat → Hs → Prop) : ∀ (N : Nat) {h : Hs}, I N h → (∀ g, I 0 g → P (nI 0) g) → (∀ k g, k < N → I (k + 1) g → (∀ g', I k g' → P (nI k) g') → P (nI (k + 1)) g) → P (nI N) h
  | 0, h, h0, done, _ => done h h0
  | N + 1, h, h0, done, step => step N h (by omega) h0 (fun g' hI => lpD I N hI done (fun k g hk => step k g (by omega)))
theorem kX_bf : ∀ i, i < 10 → kX (329 + 2 * i) = 1 ∧ lX (329 + 2 * i + 1) = 5 := by decide +kernel
theorem kX_tb : ∀ i, i < 126 → kX (77 + 2 * i) = 1 ∧ lX (77 + 2 * i + 1) = 5 := by decide +kernel
theorem kX_74 : kX 74 = 1 ∧ lX (74 + 1) = 5 := by decide +kernel
theorem fit5 {x : Nat} (h : x ≤ 10 ^ 31) : x < BB ^ 5 := Nat.lt_of_le_of_lt h (by decide +kernel)
def wS (s : Nat) : Nat → Prop := fun c => c = 74 ∨ c = 75 ∨ (329 ≤ c ∧ c ≤ 348) ∨ (77 + 42 * s ≤ c ∧ c < 119 + 42 * s)
theorem bS_wf {s i c : Nat} (hi : i < 10) (h : bS (329 + 2 * i) c) : wS s c := by unfold bS at h; unfold wS; omega
theorem bS_wt {s x c : Nat} (hx : x ≤ 20) (h : bS (77 + 2 * (21 * s + x)) c) : wS s c := by unfold bS at h; unfold wS; omega
theorem bS_w7 {s c : Nat} (h : bS 74 c) : wS s c := by unfold bS at h; unfold wS; omega
theorem s_carry {s f a : Nat} {a1 a2 : Int32} {h : Hs} {Q : Hs → Prop} (e1 : a1 = nI f) (e2 : a2 = nI a) (hf : f ≤ 9) (ha : a ≤ 9) (hQ : ∀ h', (∀ c, c ≤ f → BV h' (329 + 2 * c) (a ^ c)) → frm (wS s) h h' → Q h') : p_Chances_carry a1 a2 h Q := by
  subst e1 e2
  unfold p_Chances_carry
  intro P5 h5
  have key := lpG (fun k (g : Hs) => P5 (lN (a ^ k)) (nI k) g) (fun k g => (∀ c, c < k → BV g (329 + 2 * c) (a ^ c)) ∧ frm (wS s) h g) (f + 1) (s := h) ⟨fun c hc => by omega, frm.refl⟩ ?_ ?_
  · rw [nI_lit0, lN_lit1]
    rw [Nat.pow_zero] at key
    exact key
  · intro g hI
    exact h5 _ _ _ (bY (nI_lt (by omega) (by omega)) (hQ g (fun c hc => hI.1 c (by omega)) hI.2))
  · intro k g hk hI nx
    have p1 : a ^ k ≤ 10 ^ k := Nat.pow_le_pow_left (by omega) k
    have p2 : 10 ^ k ≤ 10 ^ 9 := Nat.pow_le_pow_right (by omega) (by omega)
    have p4 : a ^ k < 2 ^ 63 := Nat.lt_of_le_of_lt (Nat.le_trans p1 p2) (by decide)
    refine h5 _ _ _ (bN (nI_nlt (by omega) (by omega)) ⟨vp_in_nI (by omega) (by omega), ?_⟩)
    rw [nI_clamp (show k < 2 ^ 31 by omega)]
    refine s_become (kX_bf k (by omega)).1 p4 (fun h19 b19 f19 a3 ea3 a5 ea5 => ?_)
    rw [nI_l (show a < 2 ^ 31 by omega), lN_mul, ← Nat.pow_succ] at ea3
    rw [nI_1] at ea5
    subst ea3 ea5
    refine nx h19 ⟨fun c hc => ?_, hI.2.trans (f19.mono (fun c hc => bS_wf (i := k) (by omega) hc))⟩
    by_cases e : c = k
    · subst e
      exact b19
    · exact (hI.1 c (by omega)).frm f19 (by unfold bS; omega) (by unfold bS; omega)
theorem bf_s0 (d a x : Nat) : bf d a (x + 1) 0 = bf d a x 0 * (10 - d) := rfl
theorem bf_ss (d a x c : Nat) : bf d a (x + 1) (c + 1) = bf d a x (c + 1) * (10 - d) + bf d a x c * (10 * d) := rfl
theorem s_weighSign {s f d a : Nat} {a1 a2 a3 a4 : Int32} {h : Hs} {Q : Hs → Prop} (e1 : a1 = nI s) (e2 : a2 = nI f) (e3 : a3 = nI d) (e4 : a4 = nI a) (hs : s < 6) (hf : f ≤ 9) (hd : d ≤ 10) (ha : a ≤ 9) (hQ : ∀ h', (∀ x, x ≤ 20 → BV h' (77 + 2 * (21 * s + x)) (chc d a f x)) → frm (wS s) h h' → Q h') : p_Chances_weighSign a1 a2 a3 a4 h Q := by
  subst e1 e2 e3 e4
  have hBB : BB = 1073741824 := rfl
  have bb : ∀ x c, x ≤ 21 → c ≤ 9 → bf d a x c ≤ 10 ^ 30 := fun x c hx hc => Nat.le_trans (bf_le hd (show a ≤ 10 by omega) x c) (Nat.pow_le_pow_right (by omega) (by omega))
  unfold p_Chances_weighSign
  refine s_carry (s := s) rfl rfl hf ha (fun h4 b4 f4 => ?_)
  intro P10 h10
  refine lpH (fun x g => (∀ c, c ≤ f → BV g (329 + 2 * c) (bf d a x c)) ∧ (∀ x', x' < x → BV g (77 + 2 * (21 * s + x')) (chc d a f x')) ∧ frm (wS s) h g) 21 ⟨b4, fun x hx => by omega, f4⟩ ?_ ?_
  · intro g hI
    exact h10 _ _ (bY (nI_lt (a := 20) (by omega) (by omega)) (hQ g (fun x hx => hI.2.1 x (by omega)) hI.2.2))
  · intro x g hx hI nx
    obtain ⟨I1, I2, I3⟩ := hI
    refine h10 _ _ (bN (nI_nlt (a := 20) (by omega) (by omega)) ?_)
    unfold p_Chances_of
    have ei : nI s * 21 + nI x = nI (21 * s + x) := by
      rw [show (21 : Int32) = nI 21 from rfl, nI_mul, nI_add, Nat.mul_comm s 21]
    rw [ei, nI_clamp (show 21 * s + x < 2 ^ 31 by omega), nI_clamp (show f < 2 ^ 31 by omega)]
    have kt := kX_tb (21 * s + x) (by omega)
    refine ⟨vp_in_nI (by omega) (by omega), kt.1, vp_in_nI (by omega) (by omega), ?_⟩
    refine s_copy kt.1 (kX_bf f (by omega)).1 (by omega) (I1 f (Nat.le_refl _)) (by rw [kt.2]; exact fit5 (Nat.le_trans (bb x f (by omega) hf) (by decide))) (fun h34 b34 f34 => ?_)
    rw [show (20 : Int32) - nI x = nI (20 - x) from pk_sub (a := 20) (by omega), show (10 : Int32) = nI 10 from rfl]
    have hfx : ∀ j, j ≤ 20 - x → bf d a x f * 10 ^ j < BB ^ lX (77 + 2 * (21 * s + x) + 1) := fun j hj => by
      rw [kt.2]
      have h1 := Nat.mul_le_mul (bf_le hd (show a ≤ 10 by omega) x f) (Nat.pow_le_pow_right (show 0 < 10 by omega) hj)
      rw [← Nat.pow_add] at h1
      exact fit5 (Nat.le_trans h1 (Nat.pow_le_pow_right (by omega) (by omega)))
    refine s_timesPower kt.1 b34 (by omega) (by omega) hfx (fun h46 b46 f46 => ?_)
    have F46 : frm (wS s) g h46 := (f34.mono (fun c hc => bS_wt (by omega) hc)).trans (f46.mono (fun c hc => bS_wt (by omega) hc))
    intro P52 h52
    have nt : ∀ c i, i < 10 → bS (329 + 2 * i) c → ∀ x', c ≠ 77 + 2 * (21 * s + x') ∨ 20 < x' := fun c i _ hb x' => by unfold bS at hb; omega
    refine lpD (fun c g' => (∀ i, c < i → i ≤ f → BV g' (329 + 2 * i) (bf d a (x + 1) i)) ∧ (∀ i, i ≤ c → BV g' (329 + 2 * i) (bf d a x i)) ∧ (∀ x', x' < x + 1 → BV g' (77 + 2 * (21 * s + x')) (chc d a f x')) ∧ frm (wS s) h g') f ⟨fun i h1 h2 => by omega, fun i hi => ?_, fun x' hx' => ?_, I3.trans F46⟩ ?_ ?_
    · exact ((I1 i hi).frm f34 (by unfold bS; omega) (by unfold bS; omega)).frm f46 (by unfold bS; omega) (by unfold bS; omega)
    · by_cases e : x' = x
      · subst e
        exact b46
      · exact ((I2 x' (by omega)).frm f34 (by unfold bS; omega) (by unfold bS; omega)).frm f46 (by unfold bS; omega) (by unfold bS; omega)
    · intro g' hJ
      obtain ⟨J1, J2, J3, J4⟩ := hJ
      refine h52 _ _ (ble (a := 0) (b := 0) rfl nI_lit0 (by omega) (by omega) (fun _ => ?_) (fun z => by omega))
      rw [show nI 10 - nI d = nI (10 - d) from pk_sub hd]
      have hm : bf d a x 0 * (10 - d) ≤ 10 ^ 31 := Nat.le_trans (Nat.mul_le_mul (bb x 0 (by omega) (by omega)) (show 10 - d ≤ 10 by omega)) (by decide)
      refine s_times (kX_bf 0 (by omega)).1 (J2 0 (Nat.le_refl _)) (by omega) (by rw [(kX_bf 0 (by omega)).2]; exact fit5 hm) (fun h128 b128 f128 a5 ea => ?_)
      rw [nI_1] at ea
      subst ea
      refine nx h128 ⟨fun c hc => ?_, fun x' hx' => (J3 x' hx').frm f128 (by unfold bS; omega) (by unfold bS; omega), J4.trans (f128.mono (fun c hc => bS_wf (i := 0) (by omega) hc))⟩
      by_cases e : c = 0
      · subst e
        exact b128
      · exact (J1 c (by omega) hc).frm f128 (by unfold bS; omega) (by unfold bS; omega)
    · intro c g' hc hJ nx2
      obtain ⟨J1, J2, J3, J4⟩ := hJ
      have v1 := bb x c (by omega) (by omega)
      have v2 := bb x (c + 1) (by omega) (by omega)
      have v3 : bf d a x c * (10 * d) ≤ 10 ^ 31 := by
        have h1 := Nat.mul_le_mul (Nat.le_trans (bf_le hd (show a ≤ 10 by omega) x c) (Nat.pow_le_pow_right (show 0 < 10 by omega) (show x + c ≤ 29 by omega))) (show 10 * d ≤ 100 by omega)
        exact Nat.le_trans h1 (by decide)
      have v4 : bf d a x (c + 1) * (10 - d) ≤ 10 ^ 31 := Nat.le_trans (Nat.mul_le_mul v2 (show 10 - d ≤ 10 by omega)) (by decide)
      have v5 : bf d a x (c + 1) * (10 - d) + bf d a x c * (10 * d) ≤ 10 ^ 31 := by
        rw [← bf_ss]
        exact Nat.le_trans (bb (x + 1) (c + 1) (by omega) (by omega)) (by decide)
      refine h52 _ _ (ble (b := 0) rfl nI_lit0 (by omega) (by omega) (fun z => by omega) (fun _ => ?_))
      rw [nI_pred, nI_clamp (show c < 2 ^ 31 by omega), nI_clamp (show c + 1 < 2 ^ 31 by omega), show nI 10 - nI d = nI (10 - d) from pk_sub hd, nI_mul]
      have kc := kX_bf (c + 1) (by omega)
      refine ⟨vp_in_nI (by omega) (by omega), s_copy kX_74.1 (kX_bf c (by omega)).1 (by omega) (J2 c (by omega)) (by rw [kX_74.2]; exact fit5 (Nat.le_trans v1 (by decide))) (fun h70 b70 f70 => ?_)⟩
      refine s_times kX_74.1 b70 (by omega) (by rw [kX_74.2]; exact fit5 v3) (fun h81 b81 f81 => ⟨vp_in_nI (by omega) (by omega), ?_⟩)
      have c81 : BV h81 (329 + 2 * (c + 1)) (bf d a x (c + 1)) := ((J2 (c + 1) (Nat.le_refl _)).frm f70 (by unfold bS; omega) (by unfold bS; omega)).frm f81 (by unfold bS; omega) (by unfold bS; omega)
      refine s_times kc.1 c81 (by omega) (by rw [kc.2]; exact fit5 v4) (fun h95 b95 f95 => ⟨vp_in_nI (by omega) (by omega), ?_⟩)
      have d95 : BV h95 74 (bf d a x c * (10 * d)) := b81.frm f95 (by unfold bS; omega) (by unfold bS; omega)
      refine s_plus kc.1 kX_74.1 (by omega) b95 d95 (by rw [kc.2]; exact fit5 v5) (fun h109 b109 f109 a7 ea => ?_)
      rw [nI_m1] at ea
      subst ea
      have all : ∀ o v, (o ≠ 74 ∧ o ≠ 75 ∧ o + 1 ≠ 74 ∧ o ≠ 329 + 2 * (c + 1) ∧ o ≠ 329 + 2 * (c + 1) + 1 ∧ o + 1 ≠ 329 + 2 * (c + 1)) → BV g' o v → BV h109 o v := fun o v ho hb => (((hb.frm f70 (by unfold bS; omega) (by unfold bS; omega)).frm f81 (by unfold bS; omega) (by unfold bS; omega)).frm f95 (by unfold bS; omega) (by unfold bS; omega)).frm f109 (by unfold bS; omega) (by unfold bS; omega)
      refine nx2 h109 ⟨fun i h1 h2 => ?_, fun i hi => all _ _ (by omega) (J2 i (by omega)), fun x' hx' => all _ _ (by omega) (J3 x' hx'), J4.trans ((((f70.mono (fun c hc => bS_w7 hc)).trans (f81.mono (fun c hc => bS_w7 hc))).trans (f95.mono (fun c' hc => bS_wf (i := c + 1) (by omega) hc))).trans (f109.mono (fun c' hc => bS_wf (i := c + 1) (by omega) hc)))⟩
      by_cases e : i = c + 1
      · subst e
        rw [bf_ss]
        exact b109
      · exact all _ _ (by omega) (J1 i (by omega) h2)
/-- what the keys stand for -/
def KO (h : Hs) : Prop := ∀ s, s < 6 → gi h 76 s = 0 ∨ ∃ f d a : Nat, f ≤ 9 ∧ d ≤ 10 ∧ a ≤ 9 ∧ gi h 76 s = nI (10000 + 1000 * f + 10 * d + a) ∧ ∀ x, x ≤ 20 → BV h (77 + 2 * (21 * s + x)) (chc d a f x)
def CK (h : Hs) (n : Nat → Int32) (k : Nat) : Prop := ∀ s, s < k → ∀ x, x ≤ 20 → BV h (77 + 2 * (21 * s + x)) (chc (sDu n s) (sCa n s) (sFo n s) x)
def kS : Nat → Prop := fun c => 74 ≤ c ∧ c ≤ 348
theorem KO.frm {S : Nat → Prop} {h h' : Hs} (K : KO h) (f : frm S h h') (hS : ∀ c, 76 ≤ c ∧ c ≤ 328 → ¬ S c) : KO h' := fun s hs => by
  rw [f.1 76 (hS 76 (by omega))]
  rcases K s hs with h0 | ⟨f', d, a, h1, h2, h3, h4, h5⟩
  · exact Or.inl h0
  · exact Or.inr ⟨f', d, a, h1, h2, h3, h4, fun x hx => (h5 x hx).frm f (hS _ (by omega)) (hS _ (by omega))⟩
theorem s_Crefresh {n : Nat → Int32} {h : Hs} {Q : Hs → Prop} (X : XS h 3 n) (R : RG n) (K : KO h) (hQ : ∀ h', KO h' → CK h' n (nSg n) → frm kS h h' → Q h') : p_Chances_refresh h Q := by
  have hS := X.sg R
  unfold p_Chances_refresh
  intro P2 h2
  have Xf : ∀ g, frm kS h g → XS g 3 n := fun g f => X.frm f (fun c a b => by unfold kS; omega)
  refine lpH (fun k g => KO g ∧ CK g n k ∧ frm kS h g) (nSg n) ⟨K, fun s hs => by omega, frm.refl⟩ ?_ ?_
  · intro g hI
    exact h2 _ _ (bY (by rw [((Xf g hI.2.2).sg R).1]; exact nI_le (Nat.le_refl _) (by omega)) (hQ g hI.1 hI.2.1 hI.2.2))
  · intro s g hs hI nx
    obtain ⟨I1, I2, I3⟩ := hI
    have Xg := Xf g I3
    obtain ⟨n0, l0, n1, l1, n2, l2, n3, l3, n4, l4⟩ := R.sgn (show s < 6 by omega)
    have x1 : gi g (21 + s) 1 = nI (sKi n s) := by
      have := Xg.rd (k := 518 + 4 * s + 1) (by omega) (c_sign s (by omega) 1 (by omega))
      rw [show 3 + (18 + s) = 21 + s by omega] at this
      exact this.trans n1
    have x2 : gi g (21 + s) 2 = nI (sFo n s) := by
      have := Xg.rd (k := 518 + 4 * s + 2) (by omega) (c_sign s (by omega) 2 (by omega))
      rw [show 3 + (18 + s) = 21 + s by omega] at this
      exact this.trans n2
    have x3 : gi g (21 + s) 3 = nI (sDu n s) := by
      have := Xg.rd (k := 518 + 4 * s + 3) (by omega) (c_sign s (by omega) 3 (by omega))
      rw [show 3 + (18 + s) = 21 + s by omega] at this
      exact this.trans n3
    have x4 : gi g (9 + sKi n s) 1 = nI (sCa n s) := by
      have := Xg.rd (k := 26 + sKi n s) (by omega) (c_carr (sKi n s) (by omega))
      rw [show 3 + (6 + sKi n s) = 9 + sKi n s by omega] at this
      exact this.trans n4
    refine h2 _ _ (bN (by rw [(Xg.sg R).1]; exact nI_ge hs (by omega)) ?_)
    rw [nI_clamp (show s < 2 ^ 31 by omega), show 20 + 1 + 1 * s = 21 + s by omega, x1, x2, x3, nI_clamp (show sKi n s < 2 ^ 31 by omega), show 8 + 1 + 1 * sKi n s = 9 + sKi n s by omega, x4]
    refine ⟨vp_in_nI (by omega) (by omega), vp_in_nI (by omega) (by omega), fun a4 e4 a5 e5 => ⟨vp_in_nI (by omega) (by omega), fun P84 h84 => ?_⟩⟩
    subst e4
    have e5' : a5 = nI (10000 + 1000 * sFo n s + 10 * sDu n s + sCa n s) := by
      rw [e5, show (10000 : Int32) = nI 10000 from rfl, show (1000 : Int32) = nI 1000 from rfl, show (10 : Int32) = nI 10 from rfl, nI_mul, nI_mul, nI_add, nI_add, nI_add]
    have go : ∀ g', KO g' → CK g' n (s + 1) → frm kS h g' → P84 g' := fun g' q1 q2 q3 => h84 g' (fun a2 ea => by
      rw [nI_1] at ea
      subst ea
      exact nx g' ⟨q1, q2, q3⟩)
    refine ⟨fun c => ?_, fun c => ⟨vp_in_nI (by omega) (by omega), fun h70 e70 => ?_⟩⟩
    · refine go g I1 (fun s' hs' x hx => ?_) I3
      by_cases e : s' = s
      · subst e
        rcases I1 s' (by omega) with h0 | ⟨f', d, a, h1, h2, h3, h4, h5⟩
        · rw [h0, e5', nI_lit0] at c
          have := (nI_eq (by omega) (by omega)).mp c
          omega
        · rw [h4, e5'] at c
          have := (nI_eq (by omega) (by omega)).mp c
          rw [show sDu n s' = d by omega, show sCa n s' = a by omega, show sFo n s' = f' by omega]
          exact h5 x hx
      · exact I2 s' (by omega) x hx
    · have f70 : frm (fun c => c = 76) g h70 := e70 ▸ frm.si rfl
      rw [f70.1 (21 + s) (by omega), f70.1 (21 + s) (by omega), x2, x3]
      refine s_weighSign rfl rfl rfl rfl (show s < 6 by omega) l2 l3 l4 (fun h81 b81 f81 => go h81 (fun s' hs' => ?_) (fun s' hs' x hx => ?_) ((I3.trans (f70.mono (fun c hc => by unfold kS; omega))).trans (f81.mono (fun c hc => by unfold wS at hc; unfold kS; omega))))
      · by_cases e : s' = s
        · subst e
          refine Or.inr ⟨sFo n s', sDu n s', sCa n s', l2, l3, l4, ?_, b81⟩
          rw [f81.1 76 (by unfold wS; omega), e70, gi_s, e5']
        · rw [f81.1 76 (by unfold wS; omega), e70, gi_k e]
          rcases I1 s' hs' with h0 | ⟨f', d, a, h1, h2, h3, h4, h5⟩
          · exact Or.inl h0
          · refine Or.inr ⟨f', d, a, h1, h2, h3, h4, fun x hx => ?_⟩
            exact ((h5 x hx).frm f70 (by omega) (by omega)).frm f81 (by unfold wS; omega) (by unfold wS; omega)
      · by_cases e : s' = s
        · subst e
          exact b81 x hx
        · exact ((I2 s' (by omega) x hx).frm f70 (by omega) (by omega)).frm f81 (by unfold wS; omega) (by unfold wS; omega)
