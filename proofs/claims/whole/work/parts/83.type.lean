/-! ===== type ===== -/
def tyN (n : Nat → Int32) (b N : Nat) (v : Int64) (i : Nat) : Nat → Int32 := fun j => if b ≤ j ∧ j < b + i then nI (byt v (N - 1 - (j - b))) else n j
theorem tyN_0 {n : Nat → Int32} {b N : Nat} {v : Int64} : tyN n b N v 0 = n := funext (fun j => if_neg (by omega))
theorem tyN_s {n : Nat → Int32} {b N i : Nat} {v : Int64} : un (tyN n b N v i) (b + i) (nI (byt v (N - 1 - i))) = tyN n b N v (i + 1) := funext (fun j => by
  unfold un tyN
  by_cases e : j = b + i
  · rw [if_pos e, if_pos (by omega), show j - b = i by omega]
  · rw [if_neg e]
    by_cases c : b ≤ j ∧ j < b + i
    · rw [if_pos c, if_pos (by omega)]
    · rw [if_neg c, if_neg (by omega)])
theorem un_comm {n : Nat → Int32} {a b : Nat} {x y : Int32} (h : a ≠ b) : un (un n a x) b y = un (un n b y) a x := funext (fun j => by
  unfold un
  by_cases e : j = b
  · rw [if_pos e, if_neg (by omega), if_pos e]
  · rw [if_neg e]
    by_cases e2 : j = a
    · rw [if_pos e2, if_pos e2]
    · rw [if_neg e2, if_neg e2, if_neg e])
theorem un_un {n : Nat → Int32} {a : Nat} {x y : Int32} : un (un n a x) a y = un n a y := funext (fun j => by
  unfold un
  by_cases e : j = a
  · rw [if_pos e, if_pos e]
  · rw [if_neg e, if_neg e, if_neg e])
theorem ty_fin {n : Nat → Int32} {s len N i : Nat} {v : Int64} {x : Int32} (R : RG n) (hs : s < 4) (hl : len + i ≤ 120) (hx : rg 120 x) : RG (un (tyN n (35 + 121 * s + len) N v i) (34 + 121 * s) x) := by
  have e : ∀ j, 518 ≤ j → un (tyN n (35 + 121 * s + len) N v i) (34 + 121 * s) x j = n j := fun j hj => by
    rw [un_n (by omega)]
    exact if_neg (by omega)
  refine RG.of (RG.set (fun j hj => ?_) ?_) ?_
  · unfold tyN
    by_cases c : 35 + 121 * s + len ≤ j ∧ j < 35 + 121 * s + len + i
    · rw [if_pos c]
      unfold rgk
      rw [if_neg (by omega), if_neg (by omega), if_neg (by omega), if_neg (by omega), if_neg (by omega), if_neg (by omega), if_pos (by omega), if_neg (by omega)]
      exact rg_of byt_lt
    · rw [if_neg c]
      exact R.k j hj
  · unfold rgk
    rw [if_neg (by omega), if_neg (by omega), if_neg (by omega), if_neg (by omega), if_neg (by omega), if_neg (by omega), if_pos (by omega), if_pos (by omega)]
    exact hx
  · have L := R.rel
    unfold REL at L ⊢
    rw [e 674 (by omega), e 672 (by omega), e 671 (by omega)]
    refine ⟨fun t ht => ?_, fun p hp q hq => ?_⟩
    · rw [e _ (by omega)]
      exact L.1 t ht
    · rw [e _ (by omega), e _ (by omega)]
      exact L.2 p hp q hq
theorem m_tl {s : Nat} {a1 x : Int32} {g : Hs} {Q : Int32 → Prop} (e : a1 = nI s) (hs : s < 4) (hx : gi g 1 (34 + 121 * s) = x) (hQ : Q x) : p_M_textLong a1 g Q := by
  subst e
  unfold p_M_textLong
  rw [m121, nI_clamp (by omega), hx]
  exact ⟨vp_in_nI (by omega) (by omega), hQ⟩
def bvd (N j : Nat) : Int32 := if j < N then nI (N - 1 - j) else -1
theorem bvd_s {N j : Nat} (h : j < N) : bvd N j + (-1) = bvd N (j + 1) := by
  unfold bvd
  rw [if_pos h]
  by_cases c : j + 1 < N
  · rw [if_pos c]
    have := nI_m1 (N - 1 - (j + 1))
    rw [show N - 1 - (j + 1) + 1 = N - 1 - j by omega] at this
    exact this
  · rw [if_neg c, show N - 1 - j = 0 by omega]
    decide
theorem sim_type {h g : Hs} {a1 : Int32} {a2 : Int64} {a4 : Int32} {K : Int32 → Hs → Int32 → Hs → Prop} {F : Int32 → Hs → Prop} (I : Inv h g) (hK : ∀ r h' g', Inv h' g' → K r h' r g') (hF : ∀ r h', p_M_type a1 a2 a4 g (K r h') → F r h') : p_X_type a1 a2 a4 h F := by
  obtain ⟨n, I⟩ := I
  have xb : ¬ (ir a1.toInt 0 3 ∧ ir a4.toInt 1 8) → p_X_bad h (fun r h' => F r h') := by
    intro nb h7 e7
    subst e7
    refine hF _ _ ?_
    unfold p_M_type
    exact (m_four (a0 := a1) (fun y1 M0 h0M => bN one0 (m_in (a := a4.toInt) (lo := 1) (hi := 8) (i64 a4) (by decide) (by decide) (fun y2 => bNN one0 (absurd ⟨y1, y2⟩ nb)) (fun y2 => bNY rfl (h0M (lf_bad I hK (-2)))))) (fun y1 M0 h0M => bY rfl (h0M (lf_bad I hK (-2)))))
  unfold p_X_type
  refine (x_four (a0 := a1) (fun y1 P0 h0P => bNY rfl (x_out (a0 := a4) (lo := 1) (hi := 8) (by decide) (by decide) (fun y2 => bY rfl ?_) (fun y2 => bN one0 (h0P (xb (fun y => y2 y.2)))))) (fun y1 P0 h0P => bNN one0 (h0P (xb (fun y => y1 y.1)))))
  obtain ⟨s, sl, su, es⟩ := ir_m (lo := 0) (hi := 3) y1
  subst es
  obtain ⟨N, Nl, Nu, eN⟩ := ir_m (lo := 1) (hi := 8) y2
  subst eN
  have rl := I.R.ln s (by omega)
  have rlu := rl.2
  have elen : n (34 + 121 * s) = nI (tL n s) := rl.1
  have hlen : tL n s ≤ 120 := rl.2
  have ex : gi h 14 s = nI (tL n s) := (I.X.rd (k := 34 + 121 * s) (by omega) (c_leng s (by omega))).trans elen
  rw [nI_clamp (by omega), ex]
  refine ⟨vp_in_nI (by omega) (by omega), fun a5 e5 => ?_⟩
  subst e5
  generalize hln : tL n s = len at *
  have MT : ∀ r h', (len + N ≤ 120 → ∀ g', MS g' (un (tyN n (35 + 121 * s + len) N a2 N) (34 + 121 * s) (nI (len + N))) → frm (fun c => c = 1) g g' → K r h' (nI (len + N)) g') → (120 < len + N → p_M_full g (K r h')) → p_M_type (nI s) a2 (nI N) g (K r h') := by
    intro r h' k1 k2
    unfold p_M_type
    refine (m_four  (fun _ M0 h0M => bN one0 (m_in (lo := 1) (hi := 8) (i64 _) (by decide) (by decide) (fun _ => bNN one0 ?_) (fun z => absurd y2 z))) (fun z => absurd y1 z))
    refine m_tl (x := nI len) rfl (by omega) (by rw [I.M _ (by omega)]; exact elen) (ble (b := 120) (nI_add _ _) rfl (by omega) (by omega) (fun c a5 e5 P51 h51 => ?_) (fun c => k2 c))
    have e50 : a5 = bvd N 0 := by
      rw [e5]
      unfold bvd
      rw [if_pos (by omega)]
      exact pk_sub (b := 1) (by omega)
    rw [e50]
    refine lpG (fun j (q : Hs) => P51 (bvd N j) q) (fun j q => MS q (un (tyN n (35 + 121 * s + len) N a2 j) (34 + 121 * s) (nI (len + j))) ∧ frm (fun c => c = 1) g q) N ⟨fun j hj => ?_, frm.refl⟩ ?_ ?_
    · rw [tyN_0]
      unfold un
      by_cases e : j = 34 + 121 * s
      · rw [if_pos e, e, I.M _ (by omega)]
        exact elen
      · rw [if_neg e]
        exact I.M j hj
    · intro q hI
      have el : gi q 1 (34 + 121 * s) = nI (len + N) := by
        rw [hI.1 _ (by omega), un_s]
      exact h51 _ _ (bY (by unfold bvd; rw [if_neg (by omega)]; decide) (m_tl rfl (by omega) el (k1 c q hI.1 hI.2)))
    · intro j q hj hI nx
      have el : gi q 1 (34 + 121 * s) = nI (len + j) := by
        rw [hI.1 _ (by omega), un_s]
      have eb : bvd N j = nI (N - 1 - j) := if_pos hj
      refine h51 _ _ (bN (by rw [eb]; exact nI_pos (by omega)) (m_tl rfl (by omega) el ?_))
      rw [m121, nI_1, nI_add, nI_clamp (by omega), nI_clamp (by omega), show 34 + 121 * s + 1 + (len + j) = 35 + 121 * s + len + j by omega]
      refine ⟨vp_in_nI (by omega) (by omega), fun h87 e87 => ⟨vp_in_nI (by omega) (by omega), vp_in_nI (by omega) (by omega), fun h103 e103 a6 e6 => ?_⟩⟩
      rw [eb, byt_m (by omega)] at e87
      rw [bvd_s hj] at e6
      subst e6
      have e103' : h103 = si h87 1 (34 + 121 * s) (nI (len + (j + 1))) := by
        rw [e103, e87, gi_k (by omega), el, nI_1]
        rfl
      refine nx h103 ⟨?_, hI.2.trans ((e87 ▸ frm.si rfl : frm (fun c => c = 1) q h87).trans (e103' ▸ frm.si rfl))⟩
      rw [e103', e87, ← tyN_s]
      have h1 := (hI.1.up (k := 35 + 121 * s + len + j) (v := nI (byt a2 (N - 1 - j)))).up (k := 34 + 121 * s) (v := nI (len + (j + 1)))
      rw [un_comm (show 34 + 121 * s ≠ 35 + 121 * s + len + j by omega), un_un] at h1
      exact h1
  rw [nI_add]
  refine ble (b := 120) rfl rfl (by omega) (by omega) (fun c P52 h52 => ?_) (fun c h7 e7 => hF _ _ (MT _ _ (fun z => by omega) (fun _ => by subst e7; exact lf_full I hK)))
  refine lpH (fun i q => XS q 3 (tyN n (35 + 121 * s + len) N a2 i) ∧ frm sX h q) N ⟨by rw [tyN_0]; exact I.X, frm.refl⟩ ?_ ?_
  · intro q hI
    refine h52 _ _ (bY (nI_le (Nat.le_refl _) (by omega)) ⟨vp_in_nI (by omega) (by omega), fun h110 e110 => s_changed (hF _ _ (MT _ _ (fun _ g' Mg fg => hK _ _ _ ⟨_, I.st ?_ chg_z.1 chg_z.2 fg ?_ Mg (ty_fin I.R (by omega) c (rg_of c))⟩) (fun z => by omega)))⟩)
    · exact (hI.2.trans (e110 ▸ frm.si (show sX 14 by unfold sX; omega))).trans chg_f
    · rw [e110]
      exact (hI.1.up2 (by omega) (by rw [(c_leng s (by omega)).1]) (c_leng s (by omega)).2).chg
  · intro i q hi hI nx
    refine h52 _ _ (bN (nI_ge hi (by omega)) ⟨vp_in_nI (by omega) (by omega), ?_⟩)
    rw [nI_add, nI_clamp (show len + i < 2 ^ 31 by omega), show 15 + 1 + 1 * s = 16 + s by omega]
    refine ⟨vp_in_nI (by omega) (by omega), fun h90 e90 a6 e6 => ?_⟩
    rw [nI_1] at e6
    subst e6
    have ek : (8 : Int32) * (nI N - 1 - nI i) = nI (8 * (N - 1 - i)) := by
      rw [show nI N - 1 = nI (N - 1) from pk_sub (b := 1) (by omega), pk_sub (by omega), show (8 : Int32) = nI 8 from rfl, nI_mul]
    rw [ek, byt_x (by omega)] at e90
    refine nx h90 ⟨?_, hI.2.trans (e90 ▸ frm.si (show sX (16 + s) by unfold sX; omega))⟩
    rw [e90, ← tyN_s]
    have ct := c_text s (by omega) (len + i) (by omega)
    rw [show 35 + 121 * s + (len + i) = 35 + 121 * s + len + i by omega] at ct
    exact hI.1.up2 (by omega) (by rw [ct.1]; omega) ct.2
