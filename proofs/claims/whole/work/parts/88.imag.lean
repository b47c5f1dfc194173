/-! ===== images ===== -/
def stO (a : Nat) : Prop := a = 3 ∨ a = 424 ∨ a = 464
def rfc (c : Nat) : Bool := decide (c = 5 ∨ c = 12 ∨ c = 17 ∨ c = 25 ∨ c = 32)
def lnS (c : Nat) : Nat := if c = 0 then 4 else lX (3 + c)
theorem lX_st0 : ∀ c, c < 40 → lX (424 + c) = lX (3 + c) ∧ lX (464 + c) = lX (3 + c) ∨ c = 0 := by decide +kernel
theorem lX_st {a c : Nat} (ha : stO a) (h1 : 1 ≤ c) (h2 : c < 40) : lX (a + c) = lX (3 + c) := by
  rcases lX_st0 c h2 with e | e
  · rcases ha with y | y | y
    · rw [y]
    · rw [y]; exact e.1
    · rw [y]; exact e.2
  · omega
theorem lnS_b : ∀ c, c < 40 → lnS c ≤ 120 := by decide +kernel
theorem ce_ok : ∀ k, k < 675 → rfc (ce k) = false ∧ sk k < lnS (ce k) := by decide +kernel
theorem s_copyRow {d s N : Nat} {h : Hs} {Q : Hs → Prop} (hd : lX d = N) (hs : lX s = N) (hN : N < 1000) (hQ : ∀ h', (∀ j, j < N → gi h' d j = gi h s j) → frm (fun c => c = d) h h' → Q h') : p_State_copyRow s d h Q := by
  unfold p_State_copyRow
  rw [hd, hs, if_neg (nI_nlt (Nat.le_refl N) (by omega)), nI_clamp (by omega)]
  refine ⟨nI_pos (by omega), Nat.le_refl _, Nat.le_refl _, fun h11 e11 => hQ h11 (fun j hj => ?_) (e11 ▸ frm.sa rfl)⟩
  rw [e11, gi_sa, if_pos rfl]
  have z : (0 : Int32).toNatClampNeg = 0 := by decide
  rw [z, pk_cpy_in (by omega) (by omega), Nat.zero_add, Nat.sub_zero]
theorem s_copyRows {d s m N : Nat} {h : Hs} {Q : Hs → Prop} (hd : lX d = m) (hs : lX s = m) (hm : m < 100) (rd : ∀ i, i < m → lX (d + 1 + i) = N) (rs : ∀ i, i < m → lX (s + 1 + i) = N) (hN : N < 1000) (ap : s + 1 + m ≤ d + 1 ∨ d + 1 + m ≤ s + 1) (hQ : ∀ h', (∀ i, i < m → ∀ j, j < N → gi h' (d + 1 + i) j = gi h (s + 1 + i) j) → frm (fun c => d + 1 ≤ c ∧ c < d + 1 + m) h h' → Q h') : p_State_copyRows s d h Q := by
  unfold p_State_copyRows
  rw [hd, hs]
  intro P2 h2
  refine lpH (fun k g => (∀ i, i < k → ∀ j, j < N → gi g (d + 1 + i) j = gi h (s + 1 + i) j) ∧ frm (fun c => d + 1 ≤ c ∧ c < d + 1 + m) h g) m ⟨fun i hi => by omega, frm.refl⟩ ?_ ?_
  · intro g hI
    exact h2 _ _ (fun P29 h29 => bY (nI_le (Nat.le_refl _) (by omega)) (h29 (hQ g hI.1 hI.2)))
  · intro k g hk hI nx
    refine h2 _ _ (fun P29 h29 => bN (nI_ge hk (by omega)) (bN (nI_ge hk (by omega)) ⟨vp_in_nI hk (by omega), vp_in_nI hk (by omega), ?_⟩))
    rw [nI_clamp (show k < 2 ^ 31 by omega), Nat.one_mul]
    refine s_copyRow (rd k hk) (rs k hk) hN (fun h20 y1 y2 a2 e2 => ?_)
    rw [nI_1] at e2
    subst e2
    refine nx h20 ⟨fun i hi j hj => ?_, hI.2.trans (y2.mono (fun c hc => by omega))⟩
    by_cases e : i = k
    · subst e
      rw [y1 j hj, hI.2.1 _ (by omega)]
    · rw [y2.1 _ (by omega)]
      exact hI.1 i (by omega) j hj
def CP (h h' : Hs) (a0 a1 k : Nat) : Prop := (∀ c, c < k → rfc c = false → ∀ j, j < lnS c → gi h' (a0 + c) j = gi h (a1 + c) j) ∧ frm (fun c => a0 ≤ c ∧ c < a0 + 40) h h'
theorem CP.row {h g : Hs} {a0 a1 k : Nat} {Q : Hs → Prop} (C : CP h g a0 a1 k) (h0 : stO a0) (h1 : stO a1) (ne : a0 ≠ a1) (hk : 1 ≤ k ∧ k < 40) (hQ : ∀ g', CP h g' a0 a1 (k + 1) → Q g') : p_State_copyRow (a1 + k) (a0 + k) g Q := by
  have ap : a0 + 40 ≤ a1 ∨ a1 + 40 ≤ a0 := by unfold stO at h0 h1; omega
  have eN : lnS k = lX (3 + k) := if_neg (by omega)
  have bN' := lnS_b k hk.2
  refine s_copyRow (N := lnS k) (by rw [lX_st h0 hk.1 hk.2, eN]) (by rw [lX_st h1 hk.1 hk.2, eN]) (by omega) (fun g' y1 y2 => hQ g' ⟨fun c hc hr j hj => ?_, C.2.trans (y2.mono (fun c hc => by omega))⟩)
  by_cases e : c = k
  · subst e
    rw [y1 j hj, C.2.1 _ (by omega)]
  · rw [y2.1 _ (by omega)]
    exact C.1 c (by omega) hr j hj
theorem CP.rows {h g : Hs} {a0 a1 k m : Nat} {Q : Hs → Prop} (C : CP h g a0 a1 k) (h0 : stO a0) (h1 : stO a1) (ne : a0 ≠ a1) (hk : 1 ≤ k ∧ k + 1 + m ≤ 40) (hr : rfc k = true) (hm : lnS k = m) (N : Nat) (hN : ∀ i, i < m → lnS (k + 1 + i) = N) (hN2 : N < 1000) (hQ : ∀ g', CP h g' a0 a1 (k + 1 + m) → Q g') : p_State_copyRows (a1 + k) (a0 + k) g Q := by
  have ap : a0 + 40 ≤ a1 ∨ a1 + 40 ≤ a0 := by unfold stO at h0 h1; omega
  have em : lnS k = lX (3 + k) := if_neg (by omega)
  have en : ∀ i, i < m → lX (3 + (k + 1 + i)) = N := fun i hi => by
    have : lnS (k + 1 + i) = lX (3 + (k + 1 + i)) := if_neg (by omega)
    rw [← this]
    exact hN i hi
  refine s_copyRows (m := m) (N := N) (by rw [lX_st h0 hk.1 (by omega), ← em, hm]) (by rw [lX_st h1 hk.1 (by omega), ← em, hm]) (by omega) (fun i hi => ?_) (fun i hi => ?_) hN2 (by omega) (fun g' y1 y2 => hQ g' ⟨fun c hc hr' j hj => ?_, C.2.trans (y2.mono (fun c hc => by omega))⟩)
  · rw [Nat.add_assoc, Nat.add_assoc, ← Nat.add_assoc k, lX_st h0 (by omega) (by omega)]
    exact en i hi
  · rw [Nat.add_assoc, Nat.add_assoc, ← Nat.add_assoc k, lX_st h1 (by omega) (by omega)]
    exact en i hi
  · by_cases e : c < k
    · rw [y2.1 _ (by omega)]
      exact C.1 c e hr' j hj
    · by_cases e2 : c = k
      · subst e2
        rw [hr] at hr'
        exact absurd hr' (by decide)
      · obtain ⟨i, hi⟩ : ∃ i, c = k + 1 + i := ⟨c - (k + 1), by omega⟩
        subst hi
        have hn := hN i (by omega)
        rw [hn] at hj
        have := y1 i (by omega) j hj
        rw [show a0 + k + 1 + i = a0 + (k + 1 + i) by omega, show a1 + k + 1 + i = a1 + (k + 1 + i) by omega] at this
        rw [this, C.2.1 _ (by omega)]
theorem ln_rows : lnS 5 = 4 ∧ (∀ i, i < 4 → lnS (5 + 1 + i) = 2) ∧ lnS 12 = 4 ∧ (∀ i, i < 4 → lnS (12 + 1 + i) = 120) ∧ lnS 17 = 6 ∧ (∀ i, i < 6 → lnS (17 + 1 + i) = 4) ∧ lnS 25 = 6 ∧ (∀ i, i < 6 → lnS (25 + 1 + i) = 5) ∧ lnS 32 = 6 ∧ (∀ i, i < 6 → lnS (32 + 1 + i) = 6) := by decide +kernel
theorem s_copyState {a0 a1 : Nat} {n : Nat → Int32} {h : Hs} {Q : Hs → Prop} (h0 : stO a0) (h1 : stO a1) (ne : a0 ≠ a1) (X : XS h a1 n) (hQ : ∀ h', XS h' a0 n → frm (fun c => a0 ≤ c ∧ c < a0 + 40) h h' → Q h') : p_State_copy a0 a1 h Q := by
  have ap : a0 + 40 ≤ a1 ∨ a1 + 40 ≤ a0 := by unfold stO at h0 h1; omega
  unfold p_State_copy
  intro h5 e5 h13 e13 h21 e21 h29 e29
  rw [e5, gi_c (by omega)] at e13
  rw [e13, gi_c (by omega), gi_c (by omega)] at e21
  rw [e21, gi_c (by omega), gi_c (by omega), gi_c (by omega)] at e29
  have C1 : CP h h29 a0 a1 1 := by
    refine ⟨fun c hc hr j hj => ?_, ?_⟩
    · have c0 : c = 0 := by omega
      subst c0
      have j4 : j < 4 := hj
      rw [e29, Nat.add_zero, Nat.add_zero]
      rcases (show j = 0 ∨ j = 1 ∨ j = 2 ∨ j = 3 by omega) with e | e | e | e
      · rw [e, gi_k (by omega), gi_k (by omega), gi_k (by omega), gi_s]
      · rw [e, gi_k (by omega), gi_k (by omega), gi_s]
      · rw [e, gi_k (by omega), gi_s]
      · rw [e, gi_s]
    · rw [e29]
      have s0 : (fun c => a0 ≤ c ∧ c < a0 + 40) a0 := ⟨Nat.le_refl _, by omega⟩
      exact (((frm.si (S := fun c => a0 ≤ c ∧ c < a0 + 40) s0).trans (frm.si s0)).trans (frm.si s0)).trans (frm.si s0)
  refine C1.row h0 h1 ne (by omega) (fun g0 D0 => ?_)
  refine D0.row h0 h1 ne (by omega) (fun g1 D1 => ?_)
  refine D1.row h0 h1 ne (by omega) (fun g2 D2 => ?_)
  refine D2.row h0 h1 ne (by omega) (fun g3 D3 => ?_)
  refine D3.rows h0 h1 ne (by omega) (by decide) ln_rows.1 2 ln_rows.2.1 (by omega) (fun g4 D4 => ?_)
  refine D4.row h0 h1 ne (by omega) (fun g5 D5 => ?_)
  refine D5.row h0 h1 ne (by omega) (fun g6 D6 => ?_)
  refine D6.rows h0 h1 ne (by omega) (by decide) ln_rows.2.2.1 120 ln_rows.2.2.2.1 (by omega) (fun g7 D7 => ?_)
  refine D7.rows h0 h1 ne (by omega) (by decide) ln_rows.2.2.2.2.1 4 ln_rows.2.2.2.2.2.1 (by omega) (fun g8 D8 => ?_)
  refine D8.row h0 h1 ne (by omega) (fun g9 D9 => ?_)
  refine D9.rows h0 h1 ne (by omega) (by decide) ln_rows.2.2.2.2.2.2.1 5 ln_rows.2.2.2.2.2.2.2.1 (by omega) (fun g10 D10 => ?_)
  refine D10.rows h0 h1 ne (by omega) (by decide) ln_rows.2.2.2.2.2.2.2.2.1 6 ln_rows.2.2.2.2.2.2.2.2.2 (by omega) (fun g11 D11 => ?_)
  refine D11.row h0 h1 ne (by omega) (fun g12 D12 => ?_)
  refine hQ _ (fun k hk => ?_) D12.2
  have c1 := ce_ok k hk
  rw [D12.1 (ce k) (ce_lt k hk) c1.1 (sk k) c1.2]
  exact X k hk
theorem sim_image {h g : Hs} {a1 : Int32} {K : Int32 → Hs → Int32 → Hs → Prop} {F : Int32 → Hs → Prop} (I : Inv h g) (hK : ∀ r h' g', Inv h' g' → K r h' r g') (hF : ∀ r h', p_M_image a1 g (K r h') → F r h') : p_X_image a1 h F := by
  obtain ⟨n, I⟩ := I
  have xb : ¬ (ir a1.toInt 0 1) → p_X_bad h (fun r h' => F r h') := by
    intro nb h7 e7
    subst e7
    refine hF _ _ ?_
    unfold p_M_image
    exact (m_in (a := a1.toInt) (lo := 0) (hi := 1) (i64 a1) (by decide) (by decide) (fun y1 => bNN one0 (absurd y1 nb)) (fun y1 => bNY rfl (lf_bad I hK (-2))))
  unfold p_X_image
  refine (x_out (a0 := a1) (lo := 0) (hi := 1) (by decide) (by decide) (fun y1 => bY rfl ?_) (fun y1 => bN one0 (xb (fun y => y1 y))))
  obtain ⟨i, il, iu, ei⟩ := ir_m (lo := 0) (hi := 1) y1
  subst ei
  have so : stO (424 + 40 * i) := by unfold stO; omega
  rw [nI_clamp (by omega)]
  refine ⟨vp_in_nI (by omega) (by omega), s_copyState so (Or.inl rfl) (by omega) I.X (fun h24 X24 f24 => ⟨vp_in_nI (by omega) (by omega), fun h33 e33 => hF _ _ ?_⟩)⟩
  unfold p_M_image
  refine (m_in (lo := 0) (hi := 1) (i64 _) (by decide) (by decide) (fun _ => bNN one0 ?_) (fun z => absurd y1 z))
  intro P19 h19
  refine lpH (fun k q => (∀ j, j < k → gi q 2 (675 * i + j) = n j) ∧ (∀ j, (j < 675 * i ∨ 675 * i + 675 ≤ j) → gi q 2 j = gi g 2 j) ∧ frm (fun c => c = 2) g q) 675 ⟨fun j hj => by omega, fun _ _ => rfl, frm.refl⟩ ?_ ?_
  · intro q hJ
    obtain ⟨J1, J2, J3⟩ := hJ
    refine h19 _ _ (bY (nI_le (a := 675) (b := 675) (by omega) (by omega)) ⟨vp_in_nI (by omega) (by omega), fun h56 e56 => ?_⟩)
    rw [nI_clamp (by omega), zn1] at e56
    rw [zn1] at e33
    have fx : frm (fun c => (424 + 40 * i ≤ c ∧ c < 424 + 40 * i + 40) ∨ c = 405) h h33 := (f24.mono (fun c hc => Or.inl hc)).trans (e33 ▸ frm.si (Or.inr rfl))
    have q56 : frm (fun c => c = 3) q h56 := e56 ▸ frm.si rfl
    have fm : frm (fun c => c = 2 ∨ c = 3) g h56 := (J3.mono (fun c hc => Or.inl hc)).trans (q56.mono (fun c hc => Or.inr hc))
    have ne4 : ∀ c, c < 405 ∨ (405 < c ∧ c < 424) → gi h33 c = gi h c := fun c hc => funext (fun j => fx.1 c (by omega) j)
    have r := I.rf
    obtain ⟨p, t, b1, b2, b3, b4, b5⟩ := I.fc
    refine hK _ _ _ ⟨n, I.X.frm fx (fun c a b => by omega), I.M.frm fm (by omega), I.R, fun i' hi' => ?_, ?_, ⟨p, t, b1.frm fx (by omega) (by omega), b2.frm fx (by omega) (by omega), b3.frm fm (by omega), b4.frm fm (by omega), by rw [fm.1 0 (by omega)]; exact b5⟩, I.fr.frm fx, I.wf.frm fx, I.ko.frm fx (fun c hc => by omega), ?_, ?_⟩
    · by_cases e : i' = i
      · subst e
        refine Or.inr ⟨by rw [e33, gi_s], by rw [e56, gi_s], n, I.R, ?_, fun j hj => ?_⟩
        · rw [e33]
          exact X24.keep (fun c h1 h2 j => by rw [gi_c (by omega)])
        · rw [e56, gi_c (by omega)]
          exact J1 j hj
      · rw [e33, gi_k e, e56, gi_k e, f24.1 405 (by omega), J3.1 3 (by omega)]
        rcases I.im i' hi' with y | ⟨y1, y2, k, y3, y4, y5⟩
        · exact Or.inl y
        · refine Or.inr ⟨y1, y2, k, y3, ?_, fun j hj => ?_⟩
          · rw [← e33]
            exact y4.frm fx (fun c a b => by omega)
          · rw [gi_c (by omega), J2 _ (by omega)]
            exact y5 j hj
    · unfold RFD at r ⊢
      rw [fx.1 0 (by omega), fx.1 0 (by omega), fx.1 0 (by omega), fm.1 4 (by omega), fm.1 4 (by omega), fm.1 4 (by omega)]
      exact r
    · rcases I.lo with y | y
      · left
        rw [fx.1 2 (by omega)]
        exact y
      · exact Or.inr (y.frm fx (fun c hc => by omega) I.R)
    · rcases I.wo with y | y
      · left
        rw [fx.1 1 (by omega)]
        exact y
      · exact Or.inr (y.frm I.R fx (fun c a b => by omega))
  · intro k q hk hJ nx
    obtain ⟨J1, J2, J3⟩ := hJ
    refine h19 _ _ (bN (nI_ge (b := 675) hk (by omega)) ?_)
    rw [show (675 : Int32) * nI i + nI k = nI (675 * i + k) from by rw [show (675 : Int32) = nI 675 from rfl, nI_mul, nI_add], nI_clamp (by omega), nI_clamp (by omega)]
    refine ⟨vp_in_nI hk (by omega), vp_in_nI (by omega) (by omega), fun h43 e43 a2 e2 => ?_⟩
    rw [nI_1] at e2
    rw [J3.1 1 (by omega), I.M k hk] at e43
    subst e2 e43
    refine nx _ ⟨fun j hj => ?_, fun j hj => ?_, J3.trans (frm.si rfl)⟩
    · by_cases e : j = k
      · subst e
        rw [gi_s]
      · rw [gi_k (by omega)]
        exact J1 j (by omega)
    · rw [gi_k (by omega)]
      exact J2 j hj
theorem sim_from {h g : Hs} {a1 : Int32} {K : Int32 → Hs → Int32 → Hs → Prop} {F : Int32 → Hs → Prop} (I : Inv h g) (hK : ∀ r h' g', Inv h' g' → K r h' r g') (hF : ∀ r h', p_M_from a1 g (K r h') → F r h') : p_X_from a1 h F := by
  obtain ⟨n, I⟩ := I
  have xb : ¬ (ir a1.toInt 0 1) → p_X_bad h (fun r h' => F r h') := by
    intro nb h7 e7
    subst e7
    refine hF _ _ ?_
    unfold p_M_from
    exact (m_in (a := a1.toInt) (lo := 0) (hi := 1) (i64 a1) (by decide) (by decide) (fun y1 => bNN one0 (absurd y1 nb)) (fun y1 => bNY rfl (lf_bad I hK (-2))))
  unfold p_X_from
  refine (x_out (a0 := a1) (lo := 0) (hi := 1) (by decide) (by decide) (fun y1 => bY rfl ?_) (fun y1 => bN one0 (xb (fun y => y1 y))))
  obtain ⟨i, il, iu, ei⟩ := ir_m (lo := 0) (hi := 1) y1
  subst ei
  have so : stO (424 + 40 * i) := by unfold stO; omega
  rw [nI_clamp (by omega)]
  have im := I.im i (by omega)
  have MG : ∀ r h', (gi g 3 i = 0 → p_M_no g (K r h')) → (¬ gi g 3 i = 0 → ∀ g', (∀ j, j < 675 → gi g' 1 j = gi g 2 (675 * i + j)) → frm (fun c => c = 1) g g' → K r h' 1 g') → p_M_from (nI i) g (K r h') := by
    intro r h' k0 k1
    unfold p_M_from
    refine (m_in (lo := 0) (hi := 1) (i64 _) (by decide) (by decide) (fun _ => bNN one0 ?_) (fun z => absurd y1 z))
    rw [nI_clamp (by omega)]
    refine ⟨vp_in_nI (by omega) (by omega), fun c P33 h33 => ?_, fun c => k0 c⟩
    refine lpH (fun k q => (∀ j, j < k → gi q 1 j = gi g 2 (675 * i + j)) ∧ frm (fun c => c = 1) g q) 675 ⟨fun j hj => by omega, frm.refl⟩ (fun q hJ => h33 _ _ (bY (nI_le (a := 675) (b := 675) (by omega) (by omega)) (k1 c q hJ.1 hJ.2))) (fun k q hk hJ nx => ?_)
    refine h33 _ _ (bN (nI_ge (b := 675) hk (by omega)) ?_)
    rw [show (675 : Int32) * nI i + nI k = nI (675 * i + k) from by rw [show (675 : Int32) = nI 675 from rfl, nI_mul, nI_add], nI_clamp (by omega), nI_clamp (by omega)]
    refine ⟨vp_in_nI (by omega) (by omega), vp_in_nI hk (by omega), fun h43 e43 a2 e2 => ?_⟩
    rw [nI_1] at e2
    rw [hJ.2.1 2 (by omega)] at e43
    subst e2 e43
    refine nx _ ⟨fun j hj => ?_, hJ.2.trans (frm.si rfl)⟩
    by_cases e : j = k
    · subst e
      rw [gi_s]
    · rw [gi_k e]
      exact hJ.1 j (by omega)
  refine ⟨vp_in_nI (by omega) (by omega), fun c => ⟨vp_in_nI (by omega) (by omega), ?_⟩, fun c h7 e7 => hF _ _ (MG _ _ (fun _ => by subst e7; exact lf_no I hK) (fun z => ?_))⟩
  · rcases im with y | ⟨w1, w2, k, w3, w4, w5⟩
    · exact absurd y.1 c
    · refine s_copyState (Or.inl rfl) so (by omega) w4 (fun h38 X38 f38 => s_changed (hF _ _ (MG _ _ (fun z => ?_) (fun _ g' mg fg => hK _ _ _ ⟨k, I.st ((f38.mono (fun c hc => by unfold sX; omega)).trans chg_f) chg_z.1 chg_z.2 fg X38.chg (fun j hj => by rw [mg j hj]; exact w5 j hj) w3⟩))))
      rw [w2] at z
      exact absurd z one0
  · rcases im with y | ⟨w1, _⟩
    · exact absurd y.2 z
    · rw [w1] at c
      exact absurd c one0
