/-! ===== the calls that set one number ===== -/
def whr (n : Nat → Int32) (a : Int32) : Prop := ir a.toInt 0 ((nP n : Int) - 1) ∨ a = 6 ∨ a = 7
theorem x_four {a0 : Int32} {h : Hs} {Q : Int32 → Prop} (h0 : ir a0.toInt 0 3 → Q 0) (h1 : ¬ ir a0.toInt 0 3 → Q 1) : p_X_noStory a0 h Q := by
  unfold p_X_noStory
  exact x_out (by decide) (by decide) h0 h1
theorem x_kind {a0 : Int32} {h : Hs} {Q : Int32 → Prop} (h0 : ir a0.toInt 0 3 → Q 0) (h1 : ¬ ir a0.toInt 0 3 → Q 1) : p_X_noKind a0 h Q := by
  unfold p_X_noKind
  exact x_out (by decide) (by decide) h0 h1
theorem x_month {a0 : Int32} {h : Hs} {Q : Int32 → Prop} (h0 : ir a0.toInt 0 119 → Q 0) (h1 : ¬ ir a0.toInt 0 119 → Q 1) : p_X_noMonth a0 h Q := by
  unfold p_X_noMonth
  exact x_out (by decide) (by decide) h0 h1
theorem x_place {n : Nat → Int32} {a1 : Int32} {h : Hs} {Q : Int32 → Prop} (X : XS h 3 n) (R : RG n) (h0 : ir a1.toInt 0 ((nP n : Int) - 1) → Q 0) (h1 : ¬ ir a1.toInt 0 ((nP n : Int) - 1) → Q 1) : p_X_noPlace a1 h Q := by
  have hp := X.pl R
  unfold p_X_noPlace
  exact x_out (by decide) (by rw [hp.1]; exact nI_m1i (by omega)) h0 h1
theorem x_lot {n : Nat → Int32} {a1 : Int32} {h : Hs} {Q : Int32 → Prop} (X : XS h 3 n) (R : RG n) (h0 : ir a1.toInt 0 ((nLo n : Int) - 1) → Q 0) (h1 : ¬ ir a1.toInt 0 ((nLo n : Int) - 1) → Q 1) : p_X_noLot a1 h Q := by
  have hp := X.lo R
  unfold p_X_noLot
  exact x_out (by decide) (by rw [hp.1]; exact nI_m1i (by omega)) h0 h1
theorem x_where {n : Nat → Int32} {a1 : Int32} {h : Hs} {Q : Int32 → Prop} (X : XS h 3 n) (R : RG n) (h0 : whr n a1 → Q 0) (h1 : ¬ whr n a1 → Q 1) : p_X_noWhere a1 h Q := by
  unfold p_X_noWhere
  refine x_place X R (fun y P25 h25 P24 h24 => bY rfl (h24 (h25 _ ⟨zb0, h0 (Or.inl y)⟩))) (fun y P25 h25 P24 h24 => bN one0 ⟨fun e => h24 (h25 _ ⟨zb0, h0 (Or.inr (Or.inl e))⟩), fun e6 => ⟨fun e => h24 (h25 _ ⟨zb0, h0 (Or.inr (Or.inr e))⟩), fun e7 => h25 _ ⟨zb1, h1 (fun z => ?_)⟩⟩⟩)
  rcases z with z | z | z
  · exact y z
  · exact e6 z
  · exact e7 z
theorem m_four {a0 : Int32} {g : Hs} {Q : Int32 → Prop} (h1 : ir a0.toInt 0 3 → Q 1) (h0 : ¬ ir a0.toInt 0 3 → Q 0) : p_M_isFour a0 g Q := by
  unfold p_M_isFour
  exact m_in (i64 a0) (by decide) (by decide) h1 h0
theorem m_month {a0 : Int32} {g : Hs} {Q : Int32 → Prop} (h1 : ir a0.toInt 0 119 → Q 1) (h0 : ¬ ir a0.toInt 0 119 → Q 0) : p_M_isMonth a0 g Q := by
  unfold p_M_isMonth
  exact m_in (i64 a0) (by decide) (by decide) h1 h0
theorem m_day {a0 : Int32} {g : Hs} {Q : Int32 → Prop} (h1 : ir a0.toInt 0 59 → Q 1) (h0 : ¬ ir a0.toInt 0 59 → Q 0) : p_M_isDay a0 g Q := by
  unfold p_M_isDay
  exact m_in (i64 a0) (by decide) (by decide) h1 h0
theorem m_year {a0 : Int32} {g : Hs} {Q : Int32 → Prop} (h1 : ir a0.toInt 0 9 → Q 1) (h0 : ¬ ir a0.toInt 0 9 → Q 0) : p_M_isYear a0 g Q := by
  unfold p_M_isYear
  exact m_in (i64 a0) (by decide) (by decide) h1 h0
theorem m_place {n : Nat → Int32} {a1 : Int32} {g : Hs} {Q : Int32 → Prop} (M : MS g n) (R : RG n) (h1 : ir a1.toInt 0 ((nP n : Int) - 1) → Q 1) (h0 : ¬ ir a1.toInt 0 ((nP n : Int) - 1) → Q 0) : p_M_isPlace a1 g Q := by
  have hp := M.pl R
  unfold p_M_isPlace p_M_places
  exact m_in (i64 a1) (by decide) (by rw [i64, hp.1]; exact nI_m1i (by omega)) h1 h0
theorem m_lot {n : Nat → Int32} {a1 : Int32} {g : Hs} {Q : Int32 → Prop} (M : MS g n) (R : RG n) (h1 : ir a1.toInt 0 ((nLo n : Int) - 1) → Q 1) (h0 : ¬ ir a1.toInt 0 ((nLo n : Int) - 1) → Q 0) : p_M_isLot a1 g Q := by
  have hp := M.lo R
  unfold p_M_isLot p_M_lots
  exact m_in (i64 a1) (by decide) (by rw [i64, hp.1]; exact nI_m1i (by omega)) h1 h0
theorem m_where {n : Nat → Int32} {a1 : Int32} {g : Hs} {Q : Int32 → Prop} (M : MS g n) (R : RG n) (h1 : whr n a1 → Q 1) (h0 : ¬ whr n a1 → Q 0) : p_M_isWhere a1 g Q := by
  unfold p_M_isWhere
  refine m_place M R (fun y P25 h25 P20 h20 => bNN one0 (h20 (h25 _ ⟨zb1, h1 (Or.inl y)⟩))) (fun y P25 h25 P20 h20 => bNY rfl ⟨fun e => h20 (h25 _ ⟨zb1, h1 (Or.inr (Or.inl e))⟩), fun e6 => ⟨fun e7 => h25 _ ⟨zb0, h0 (fun z => ?_)⟩, fun e => h20 (h25 _ ⟨zb1, h1 (Or.inr (Or.inr e))⟩)⟩⟩)
  rcases z with z | z | z
  · exact y z
  · exact e6 z
  · exact e7 z
theorem ir_m {a : Int32} {lo hi : Nat} (h : ir a.toInt (lo : Int) (hi : Int)) : ∃ i, lo ≤ i ∧ i ≤ hi ∧ a = nI i := by
  obtain ⟨e, h1, h2, h3⟩ := ir_nat h (by omega)
  exact ⟨nn a, by omega, by omega, e⟩
theorem ir_p {a : Int32} {p : Nat} (h : ir a.toInt 0 ((p : Int) - 1)) : ∃ i, i < p ∧ a = nI i := by
  obtain ⟨e, h1, h2, h3⟩ := ir_nat h (by omega)
  exact ⟨nn a, by omega, e⟩
theorem lf_bad {h g : Hs} {n : Nat → Int32} {K : Int32 → Hs → Int32 → Hs → Prop} (I : Iv h g n) (hK : ∀ r h' g', Inv h' g' → K r h' r g') (x : Int32) : p_M_bad x g (K x (si h 0 9 (gi h 0 9 + 1))) := by
  intro h9 e
  subst e
  exact hK _ _ _ ⟨n, I.ref (k := 0) (by omega)⟩
theorem lf_no {h g : Hs} {n : Nat → Int32} {K : Int32 → Hs → Int32 → Hs → Prop} (I : Iv h g n) (hK : ∀ r h' g', Inv h' g' → K r h' r g') : p_M_no g (K (-3) (si h 0 10 (gi h 0 10 + 1))) := by
  intro h9 e
  subst e
  exact hK _ _ _ ⟨n, I.ref (k := 1) (by omega)⟩
theorem lf_full {h g : Hs} {n : Nat → Int32} {K : Int32 → Hs → Int32 → Hs → Prop} (I : Iv h g n) (hK : ∀ r h' g', Inv h' g' → K r h' r g') : p_M_full g (K (-4) (si h 0 11 (gi h 0 11 + 1))) := by
  intro h9 e
  subst e
  exact hK _ _ _ ⟨n, I.ref (k := 2) (by omega)⟩
def chg (h : Hs) : Hs := si (si h 2 9 0) 1 11 0
theorem s_changed {h : Hs} {Q : Hs → Prop} (hQ : Q (chg h)) : p_X_changed h Q := by
  intro h5 e5 h13 e13
  subst e5 e13
  exact hQ
theorem chg_z {h : Hs} : gi (chg h) 2 9 = 0 ∧ gi (chg h) 1 11 = 0 := by
  unfold chg
  exact ⟨by rw [gi_c (by omega), gi_s], gi_s⟩
theorem chg_f {h : Hs} : frm sX h (chg h) := (frm.si (show sX 2 by unfold sX; omega)).trans (frm.si (show sX 1 by unfold sX; omega))
theorem chg_g {h : Hs} {c j : Nat} (hc : 3 ≤ c) : gi (chg h) c j = gi h c j := by
  unfold chg
  rw [gi_c (by omega), gi_c (by omega)]
theorem XS.chg {h : Hs} {n : Nat → Int32} (X : XS h 3 n) : XS (chg h) 3 n := X.keep (fun c h1 _ j => chg_g h1)
theorem MS.up {g : Hs} {n : Nat → Int32} {k : Nat} {v : Int32} (M : MS g n) : MS (si g 1 k v) (un n k v) := fun j hj => by
  by_cases e : j = k
  · subst e
    rw [gi_s, un_s]
  · rw [gi_k e, un_n e]
    exact M j hj
theorem s_exchange {o N i : Nat} {a2 v : Int32} {h : Hs} {Q : Int32 → Hs → Prop} (hl : lX o = N) (e2 : a2 = nI i) (hi : i < N) (hN : N < 1000) (hQ : Q (gi h o i) (chg (si h o i v))) : p_X_exchange o a2 v h Q := by
  subst e2
  unfold p_X_exchange
  rw [hl, nI_clamp (by omega)]
  refine ⟨vp_in_nI hi (by omega), fun a4 e4 => ⟨vp_in_nI hi (by omega), fun h8 e8 => s_changed ?_⟩⟩
  subst e4 e8
  exact hQ
theorem Iv.one {h g : Hs} {n : Nat → Int32} {k c i : Nat} {v : Int32} (I : Iv h g n) (hk : k < 675) (ec : 3 + ce k = c) (ei : sk k = i) (hv : rgk k v) (rel : REL (un n k v)) : Iv (chg (si h c i v)) (si g 1 k v) (un n k v) := by
  have hc : 3 ≤ c ∧ c ≤ 42 := by have := ce_lt k hk; omega
  exact I.st ((frm.si (show sX c by unfold sX; omega)).trans chg_f) chg_z.1 chg_z.2 (frm.si rfl) (I.X.up2 hk ec ei).chg I.M.up (RG.of (RG.set I.R.k hv) rel)
theorem Iv.fin {h g : Hs} {n : Nat → Int32} {k c i : Nat} {v x y : Int32} {K : Int32 → Hs → Int32 → Hs → Prop} (I : Iv h g n) (hK : ∀ r h' g', Inv h' g' → K r h' r g') (hk : k < 675) (ec : 3 + ce k = c) (ei : sk k = i) (hv : rgk k v) (rel : REL (un n k v)) (ex : x = gi h c i) (ey : y = gi g 1 k) : K x (chg (si h c i v)) y (si g 1 k v) := by
  have e : x = y := by
    rw [ex, ey, I.M k hk, ← ec, ← ei]
    exact I.X k hk
  rw [e]
  exact hK _ _ _ ⟨_, I.one hk ec ei hv rel⟩
theorem rg_of {m hi : Nat} (h : m ≤ hi) (hh : hi < 2 ^ 31 := by omega) : rg hi (nI m) := rg.of h hh
theorem nn_nI {m : Nat} (h : m < 2 ^ 31) : nn (nI m) = m := nI_clamp h
theorem lX_rows : lX 5 = 10 ∧ lX 7 = 2 ∧ lX 13 = 4 ∧ lX 14 = 4 ∧ (∀ k, k < 4 → lX (9 + k) = 2) ∧ (∀ k, k < 6 → lX (36 + k) = 6) := by decide +kernel
theorem sim_rain {h g : Hs} {a1 a2 : Int32} {K : Int32 → Hs → Int32 → Hs → Prop} {F : Int32 → Hs → Prop} (I : Inv h g) (hK : ∀ r h' g', Inv h' g' → K r h' r g') (hF : ∀ r h', p_M_rain a1 a2 g (K r h') → F r h') : p_X_rain a1 a2 h F := by
  obtain ⟨n, I⟩ := I
  have xb : ¬ (ir a1.toInt 0 9 ∧ ir a2.toInt 0 9) → p_X_bad h (fun r h' => F r h') := by
    intro nb h7 e7
    subst e7
    refine hF _ _ ?_
    unfold p_M_rain
    exact (m_in (a := a1.toInt) (lo := 0) (hi := 9) (i64 a1) (by decide) (by decide) (fun y1 M0 h0M => bN one0 (m_in (a := a2.toInt) (lo := 0) (hi := 9) (i64 a2) (by decide) (by decide) (fun y2 => bNN one0 (absurd ⟨y1, y2⟩ nb)) (fun y2 => bNY rfl (h0M (lf_bad I hK (-2)))))) (fun y1 M0 h0M => bY rfl (h0M (lf_bad I hK (-2)))))
  unfold p_X_rain
  refine (x_out (a0 := a1) (lo := 0) (hi := 9) (by decide) (by decide) (fun y1 P0 h0P => bNY rfl (x_out (a0 := a2) (lo := 0) (hi := 9) (by decide) (by decide) (fun y2 => bY rfl ?_) (fun y2 => bN one0 (h0P (xb (fun y => y2 y.2)))))) (fun y1 P0 h0P => bNN one0 (h0P (xb (fun y => y1 y.1)))))
  obtain ⟨i, il, iu, ei⟩ := ir_m (lo := 0) (hi := 9) y1
  subst ei
  obtain ⟨v, vl, vu, ev⟩ := ir_m (lo := 0) (hi := 9) y2
  subst ev
  refine s_exchange (N := 10) lX_rows.1 rfl (by omega) (by omega) (hF _ _ ?_)
  unfold p_M_rain
  refine (m_in (lo := 0) (hi := 9) (i64 _) (by decide) (by decide) (fun _ M0 h0M => bN one0 (m_in (lo := 0) (hi := 9) (i64 _) (by decide) (by decide) (fun _ => bNN one0 ?_) (fun z => absurd y2 z))) (fun z => absurd y1 z))
  rw [show (6 : Int32) + nI i = nI (6 + i) from nI_add 6 i, nI_clamp (by omega)]
  refine ⟨vp_in_nI (by omega) (by omega), fun a3 e3 => ⟨vp_in_nI (by omega) (by omega), fun h50 e50 => ?_⟩⟩
  subst e50
  exact I.fin hK (k := 6 + i) (by omega) (by rw [(c_rain i (by omega)).1]) (c_rain i (by omega)).2 (by unfold rgk; rw [if_neg (by omega), if_pos (by omega)]; exact rg_of vu) (I.R.rel.oth I.R.te.2 (by omega)) rfl e3
theorem sim_prior {h g : Hs} {a1 a2 : Int32} {K : Int32 → Hs → Int32 → Hs → Prop} {F : Int32 → Hs → Prop} (I : Inv h g) (hK : ∀ r h' g', Inv h' g' → K r h' r g') (hF : ∀ r h', p_M_prior a1 a2 g (K r h') → F r h') : p_X_prior a1 a2 h F := by
  obtain ⟨n, I⟩ := I
  have xb : ¬ (ir a1.toInt 0 3 ∧ ir a2.toInt 1 9) → p_X_bad h (fun r h' => F r h') := by
    intro nb h7 e7
    subst e7
    refine hF _ _ ?_
    unfold p_M_prior
    exact (m_four (a0 := a1) (fun y1 M0 h0M => bN one0 (m_in (a := a2.toInt) (lo := 1) (hi := 9) (i64 a2) (by decide) (by decide) (fun y2 => bNN one0 (absurd ⟨y1, y2⟩ nb)) (fun y2 => bNY rfl (h0M (lf_bad I hK (-2)))))) (fun y1 M0 h0M => bY rfl (h0M (lf_bad I hK (-2)))))
  unfold p_X_prior
  refine (x_four (a0 := a1) (fun y1 P0 h0P => bNY rfl (x_out (a0 := a2) (lo := 1) (hi := 9) (by decide) (by decide) (fun y2 => bY rfl ?_) (fun y2 => bN one0 (h0P (xb (fun y => y2 y.2)))))) (fun y1 P0 h0P => bNN one0 (h0P (xb (fun y => y1 y.1)))))
  obtain ⟨i, il, iu, ei⟩ := ir_m (lo := 0) (hi := 3) y1
  subst ei
  obtain ⟨v, vl, vu, ev⟩ := ir_m (lo := 1) (hi := 9) y2
  subst ev
  refine s_exchange (N := 4) lX_rows.2.2.1 rfl (by omega) (by omega) (hF _ _ ?_)
  unfold p_M_prior
  refine (m_four  (fun _ M0 h0M => bN one0 (m_in (lo := 1) (hi := 9) (i64 _) (by decide) (by decide) (fun _ => bNN one0 ?_) (fun z => absurd y2 z))) (fun z => absurd y1 z))
  rw [show (30 : Int32) + nI i = nI (30 + i) from nI_add 30 i, nI_clamp (by omega)]
  refine ⟨vp_in_nI (by omega) (by omega), fun a3 e3 => ⟨vp_in_nI (by omega) (by omega), fun h50 e50 => ?_⟩⟩
  subst e50
  exact I.fin hK (k := 30 + i) (by omega) (by rw [(c_prio i (by omega)).1]) (c_prio i (by omega)).2 (by unfold rgk; rw [if_neg (by omega), if_neg (by omega), if_neg (by omega), if_neg (by omega), if_neg (by omega), if_pos (by omega)]; exact rg_of vu) (I.R.rel.oth I.R.te.2 (by omega)) rfl e3
