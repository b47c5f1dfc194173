/-! ===== part, limb, status, count, stone ===== -/
theorem FC.sz {h g : Hs} (C : FC h g) : (∃ p, BV h 407 p ∧ RV g 0 p ∧ gi g 0 6 = sgn p ∧ gi h 407 1 = gi g 6 0 ∧ gi h 407 1 = nI (szB h 407) ∧ szB h 407 ≤ 32 ∧ ∀ i, i < szB h 407 → gi h 408 i = nI (dg h 408 i) ∧ dg h 408 i < BB ∧ gl g 5 i = lN (dg h 408 i)) ∧ (∃ t, BV h 409 t ∧ RV g 1 t ∧ gi h 409 1 = gi g 6 1 ∧ gi h 409 1 = nI (szB h 409) ∧ szB h 409 ≤ 32 ∧ ∀ i, i < szB h 409 → gi h 410 i = nI (dg h 410 i) ∧ dg h 410 i < BB ∧ gl g 5 (64 + i) = lN (dg h 410 i)) := by
  obtain ⟨p, t, a, b, c, d, e⟩ := C
  have s1 := BV_RV_size a c
  have s2 := BV_RV_size b d
  have l1 : lX (407 + 1) = 32 := lx32.1
  have l2 : lX (409 + 1) = 32 := lx32.2.1
  refine ⟨⟨p, a, c, e, ?_, a.1, by have := a.2.1; omega, fun i hi => ?_⟩, t, b, d, ?_, b.1, by have := b.2.1; omega, fun i hi => ?_⟩
  · rw [a.1, c.1, s1.1]
  · have q := a.2.2.1 i hi
    refine ⟨q.1, q.2, ?_⟩
    have r := (c.2.2.1 i (by rw [← s1.1]; exact hi)).1
    rw [Nat.mul_zero, Nat.zero_add] at r
    rw [r, ← s1.2 i hi]
  · rw [b.1, d.1, s2.1]
  · have q := b.2.2.1 i hi
    refine ⟨q.1, q.2, ?_⟩
    have r := (d.2.2.1 i (by rw [← s2.1]; exact hi)).1
    rw [Nat.mul_one] at r
    rw [r, ← s2.2 i hi]
theorem sgn_ne {p : Nat} : sgn p = nI (if p = 0 then 0 else 1) := by
  unfold sgn
  split <;> rfl
/-- what a part is -/
theorem s_partOf {h g : Hs} {a1 : Int32} {Q : Int32 → Prop} (C : FC h g) (hQ : Q (if a1 = 0 then gi g 0 6 else if a1 = 1 then gi g 6 0 else gi g 6 1)) : p_X_partOf a1 h Q := by
  obtain ⟨⟨p, b1, _, b3, b4, _⟩, t, c1, _, c3, _⟩ := C.sz
  have k407 : kX 407 = 1 := by decide +kernel
  unfold p_X_partOf
  by_cases z : a1 = 0
  · rw [if_pos z, b3] at hQ
    refine bNY z (s_isZero k407 b1 (fun e P22 h22 => bN one0 (h22 _ ?_)) (fun e P22 h22 => bY rfl (h22 _ ?_)))
    · unfold sgn at hQ
      rw [if_pos e] at hQ
      exact hQ
    · unfold sgn at hQ
      rw [if_neg e] at hQ
      exact hQ
  · rw [if_neg z] at hQ
    refine bNN z (fun P51 h51 => ?_)
    by_cases o : a1 = 1
    · rw [if_pos o, ← b4] at hQ
      exact bNY o (h51 _ hQ)
    · rw [if_neg o, ← c3] at hQ
      exact bNN o (h51 _ hQ)
theorem sim_part {h g : Hs} {a1 : Int32} {K : Int32 → Hs → Int32 → Hs → Prop} {F : Int32 → Hs → Prop} (I : Inv h g) (hK : ∀ r h' g', Inv h' g' → K r h' r g') (hF : ∀ r h', p_M_part a1 g (K r h') → F r h') : p_X_part a1 h F := by
  obtain ⟨n, I⟩ := I
  unfold p_X_part
  refine x_out (a0 := a1) (lo := 0) (hi := 2) (by decide) (by decide) (fun y => bY rfl (s_partOf I.fc (hF _ _ ?_))) (fun y => bN one0 (fun h7 e7 => ?_))
  · unfold p_M_part
    intro P45 h45
    by_cases z : a1 = 0
    · rw [if_pos z] at h45
      exact bNY z (h45 _ _ (hK _ _ _ ⟨n, I⟩))
    · rw [if_neg z] at h45
      refine bNN z ?_
      by_cases o : a1 = 1
      · rw [if_pos o] at h45
        exact bNY o (h45 _ _ (hK _ _ _ ⟨n, I⟩))
      · rw [if_neg o] at h45
        obtain ⟨i, il, iu, ei⟩ := ir_m (lo := 0) (hi := 2) y
        have e2 : a1 = 2 := by
          rcases (show i = 0 ∨ i = 1 ∨ i = 2 by omega) with e | e | e
          · rw [e, nI_0] at ei
            exact absurd ei z
          · rw [e] at ei
            exact absurd ei o
          · rw [ei, e]
            rfl
        exact bNN o (bNY e2 (h45 _ _ (hK _ _ _ ⟨n, I⟩)))
  · subst e7
    refine hF _ _ ?_
    unfold p_M_part
    intro P45 h45
    refine bNN (fun e => y (by rw [e]; exact ⟨by decide, by decide⟩)) (bNN (fun e => y (by rw [e]; exact ⟨by decide, by decide⟩)) (bNN (fun e => y (by rw [e]; exact ⟨by decide, by decide⟩)) (fun h9 e => h45 _ _ (lf_bad I hK (-2) h9 e))))
theorem sim_limb {h g : Hs} {a1 a2 : Int32} {K : Int32 → Hs → Int32 → Hs → Prop} {F : Int32 → Hs → Prop} (I : Inv h g) (hK : ∀ r h' g', Inv h' g' → K r h' r g') (hF : ∀ r h', p_M_limb a1 a2 g (K r h') → F r h') : p_X_limb a1 a2 h F := by
  obtain ⟨n, I⟩ := I
  have xb : ¬ (ir a1.toInt 0 1 ∧ 0 ≤ a2) → p_X_bad h (fun r h' => F r h') := by
    intro nb h7 e7
    subst e7
    refine hF _ _ ?_
    unfold p_M_limb
    exact m_in (a := a1.toInt) (lo := 0) (hi := 1) (i64 a1) (by decide) (by decide) (fun y P hP => bN one0 ⟨fun z => absurd ⟨y, z⟩ nb, fun _ => hP (lf_bad I hK (-2))⟩) (fun y P hP => bY rfl (hP (lf_bad I hK (-2))))
  unfold p_X_limb
  refine x_out (a0 := a1) (lo := 0) (hi := 1) (by decide) (by decide) (fun y P13 h13 => bNY rfl ⟨fun z P39 h39 => ?_, fun z => h13 (xb (fun q => z q.2))⟩) (fun y P13 h13 => bNN one0 (h13 (xb (fun q => y q.1))))
  have nz : ¬ a2 < 0 := fun c => by
    have h1 := Int32.lt_iff_toInt_lt.mp c
    have h3 := Int32.le_iff_toInt_le.mp z
    omega
  obtain ⟨i, ilt, ei⟩ := nI_of nz
  obtain ⟨w, wl, wu, ew⟩ := ir_m (lo := 0) (hi := 1) y
  subst ei ew
  obtain ⟨⟨p, b1, _, b3, b4, b5, b6, b7⟩, t, c1, _, c3, c5, c6, c7⟩ := I.fc.sz
  have k407 : kX 407 = 1 ∧ kX 409 = 1 := by decide +kernel
  have ML : ∀ r h' x, ((gi g 6 w ≤ nI i) → x = -1) → (¬ gi g 6 w ≤ nI i → 64 * w + i < 768 ∧ x = (gl g 5 (64 * w + i)).toInt32) → K r h' x g → p_M_limb (nI w) (nI i) g (K r h') := by
    intro r h' x k1 k2 kk
    unfold p_M_limb
    refine m_in (lo := 0) (hi := 1) (i64 _) (by decide) (by decide) (fun _ P hP => bN one0 ⟨fun _ => ?_, fun q => absurd z q⟩) (fun q => absurd y q)
    have ek : (64 : Int32) * nI w + nI i = nI (64 * w + i) := m64
    rw [ek, nI_clamp (show w < 2 ^ 31 by omega)]
    refine ⟨vp_in_nI (by omega) (by omega), fun P47 h47 => ⟨fun c => h47 _ ?_, fun c => ?_⟩⟩
    · rw [k1 c] at kk
      exact kk
    · obtain ⟨q1, q2⟩ := k2 c
      rw [q2] at kk
      rw [nI_clamp (by omega)]
      exact ⟨vp_in_nI q1 (by omega), h47 _ kk⟩
  have go : ∀ (o S : Nat) (v : Nat), kX o = 1 → BV h o v → gi h o 1 = gi g 6 w → gi h o 1 = nI S → S = szB h o → S ≤ 32 → (∀ j, j < S → dg h (o + 1) j < BB ∧ gl g 5 (64 * w + j) = lN (dg h (o + 1) j)) → P39 o := by
    intro o S v ko bo e1 e2 eS s32 hd
    apply h39
    intro P57 h57
    refine ble e2 rfl (by omega) ilt (fun c => h57 _ (hF _ _ (ML _ _ (-1) (fun _ => rfl) (fun q => absurd ?_ q) (hK _ _ _ ⟨n, I⟩)))) (fun c => ?_)
    · rw [← e1, e2]
      exact nI_le c ilt
    · have hi : i < szB h o := by rw [← eS]; exact c
      refine s_digit ko bo hi (h57 _ (hF _ _ (ML _ _ (nI (dg h (o + 1) i)) (fun q => ?_) (fun _ => ⟨by omega, ?_⟩) (hK _ _ _ ⟨n, I⟩))))
      · rw [← e1, e2] at q
        exact absurd ((nI_leI (by omega) ilt).mp q) (by omega)
      · rw [(hd i c).2, lN_i]
  rcases (show w = 0 ∨ w = 1 by omega) with e | e
  · subst e
    refine bNY nI_0 (go 407 (szB h 407) p k407.1 b1 b4 b5 rfl b6 (fun j hj => ?_))
    rw [Nat.mul_zero, Nat.zero_add]
    exact (b7 j hj).2
  · subst e
    refine bNN (by decide) (go 409 (szB h 409) t k407.2 c1 c3 c5 rfl c6 (fun j hj => ?_))
    rw [Nat.mul_one]
    exact (c7 j hj).2
theorem sim_status {h g : Hs} {a1 : Int32} {K : Int32 → Hs → Int32 → Hs → Prop} {F : Int32 → Hs → Prop} (I : Inv h g) (hK : ∀ r h' g', Inv h' g' → K r h' r g') (hF : ∀ r h', p_M_status a1 g (K r h') → F r h') : p_X_status a1 h F := by
  obtain ⟨n, I⟩ := I
  have r := I.rf
  have ms : ∀ (i : Nat) (x : Int32), a1 = nI i → i ≤ 2 → gi g 4 i = x → p_M_status a1 g (K x h) := by
    intro i x e hi hx
    subst e
    unfold p_M_status
    refine m_in (lo := 0) (hi := 2) (i64 _) (by decide) (by decide) (fun _ P h26 => bN one0 ?_) (fun q => absurd ?_ q)
    · rw [nI_clamp (by omega), hx]
      exact ⟨vp_in_nI (by omega) (by omega), h26 _ _ (hK _ _ _ ⟨n, I⟩)⟩
    · rw [nI_toInt (by omega)]
      unfold ir
      omega
  unfold p_X_status
  refine ⟨fun e => hF _ _ (ms 0 _ (e.trans nI_lit0) (by omega) r.1.symm), fun e => hF _ _ (ms 1 _ e (by omega) r.2.1.symm), fun e => hF _ _ (ms 2 _ e (by omega) r.2.2.symm), fun e0 e1 e2 h50 e50 => ?_⟩
  subst e50
  refine hF _ _ ?_
  unfold p_M_status
  refine m_in (lo := 0) (hi := 2) (i64 _) (by decide) (by decide) (fun y => ?_) (fun _ P h26 => bY rfl (fun h9 e => h26 _ _ (lf_bad I hK (-1) h9 e)))
  obtain ⟨i, il, iu, ei⟩ := ir_m (lo := 0) (hi := 2) y
  rcases (show i = 0 ∨ i = 1 ∨ i = 2 by omega) with e | e | e
  · rw [e, nI_0] at ei
    exact absurd ei e0
  · rw [e] at ei
    exact absurd ei e1
  · rw [e] at ei
    exact absurd ei e2
/-- a count, as both sides find it -/
def cou (n : Nat → Int32) (i : Nat) : Int32 := if i < 4 then n (671 + i) else n (34 + 121 * (i - 4))
theorem s_countOf {n : Nat → Int32} {i : Nat} {a1 : Int32} {h : Hs} {Q : Int32 → Prop} (X : XS h 3 n) (e : a1 = nI i) (hi : i < 8) (hQ : Q (cou n i)) : p_State_countOf a1 h Q := by
  subst e
  have m := fun j (hj : j < 4) => X.rd (k := 671 + j) (by omega) (c_many j hj)
  have z : ∀ c, c < 8 → (nI i = nI c ↔ i = c) := fun c h => nI_eq (by omega) (by omega)
  unfold p_State_countOf
  rw [show gi h 3 0 = n 671 from m 0 (by omega), show gi h 3 1 = n 672 from m 1 (by omega), show gi h 3 2 = n 673 from m 2 (by omega), show gi h 3 3 = n 674 from m 3 (by omega)]
  have co : ∀ j, i = j → Q (cou n j) := fun j hj => hj ▸ hQ
  have z0 : nI i = 0 ↔ i = 0 := by rw [nI_lit0]; exact z 0 (by omega)
  have z1 : nI i = 1 ↔ i = 1 := z 1 (by omega)
  have z2 : nI i = 2 ↔ i = 2 := z 2 (by omega)
  have z3 : nI i = 3 ↔ i = 3 := z 3 (by omega)
  rw [z0, z1, z2, z3]
  refine ⟨fun e => co 0 e, fun e => co 1 e, fun e => co 2 e, fun e => co 3 e, fun e0 e1 e2 e3 P75 h75 P74 h74 => blt (b := 4) rfl rfl (by omega) (by omega) (fun c => by omega) (fun c => ble (a := 8) rfl rfl (by omega) (by omega) (fun c2 => by omega) (fun c2 => ?_))⟩
  rw [show nI i - 4 = nI (i - 4) from pk_sub (b := 4) c, nI_clamp (by omega)]
  refine ⟨vp_in_nI (by omega) (by omega), h75 _ ?_⟩
  rw [X.rd (k := 34 + 121 * (i - 4)) (by omega) (c_leng (i - 4) (by omega))]
  unfold cou at hQ
  rw [if_neg (by omega)] at hQ
  exact hQ
theorem m_counted {n : Nat → Int32} {i : Nat} {a1 : Int32} {g : Hs} {Q : Int32 → Prop} (M : MS g n) (e : a1 = nI i) (hi : i < 8) (hQ : Q (cou n i)) : p_M_counted a1 g Q := by
  subst e
  unfold p_M_counted cou at *
  intro P25 h25
  refine ble (a := 4) rfl rfl (by omega) (by omega) (fun c => ?_) (fun c => ?_)
  · rw [if_neg (by omega)] at hQ
    rw [show nI i - 4 = nI (i - 4) from pk_sub (b := 4) c]
    exact m_tl rfl (by omega) (M _ (by omega)) (h25 _ hQ)
  · rw [if_pos (by omega)] at hQ
    rw [show (671 : Int32) + nI i = nI (671 + i) from nI_add 671 i, nI_clamp (by omega), M _ (by omega)]
    exact ⟨vp_in_nI (by omega) (by omega), h25 _ hQ⟩
theorem sim_count {h g : Hs} {a1 : Int32} {K : Int32 → Hs → Int32 → Hs → Prop} {F : Int32 → Hs → Prop} (I : Inv h g) (hK : ∀ r h' g', Inv h' g' → K r h' r g') (hF : ∀ r h', p_M_count a1 g (K r h') → F r h') : p_X_count a1 h F := by
  obtain ⟨n, I⟩ := I
  unfold p_X_count
  refine x_out (a0 := a1) (lo := 0) (hi := 7) (by decide) (by decide) (fun y => bY rfl ?_) (fun y => bN one0 (fun h7 e7 => ?_))
  · obtain ⟨i, il, iu, ei⟩ := ir_m (lo := 0) (hi := 7) y
    subst ei
    refine s_countOf I.X rfl (by omega) (hF _ _ ?_)
    unfold p_M_count
    exact m_in (lo := 0) (hi := 7) (i64 _) (by decide) (by decide) (fun _ P h26 => bN one0 (m_counted I.M rfl (by omega) (h26 _ _ (hK _ _ _ ⟨n, I⟩)))) (fun q => absurd y q)
  · subst e7
    refine hF _ _ ?_
    unfold p_M_count
    exact m_in (lo := 0) (hi := 7) (i64 _) (by decide) (by decide) (fun q => absurd q y) (fun _ P h26 => bY rfl (fun h9 e => h26 _ _ (lf_bad I hK (-2) h9 e)))
/-- a new fraction -/
theorem Iv.shr {h h' g g' : Hs} {n : Nat → Int32} (I : Iv h g n) (fx : frr (fun c => fS c ∨ (420 ≤ c ∧ c ≤ 423)) fT h h') (fr : FR h') (fm : ∀ c, c = 1 ∨ c = 2 ∨ c = 3 ∨ c = 4 → ∀ j, gi g' c j = gi g c j) (fc : FC h' g') : Iv h' g' n := by
  have r := I.rf
  have na : ∀ c, (c < 407 ∨ (416 < c ∧ c < 420) ∨ 423 < c) → ¬ (fS c ∨ (420 ≤ c ∧ c ≤ 423)) := fun c hc => by unfold fS; omega
  refine ⟨I.X.frr fx (fun c a b => na c (by omega)), fun k hk => by rw [fm 1 (by omega)]; exact I.M k hk, I.R, fun i hi => ?_, ?_, fc, fr, ?_, I.ko.frr fx (fun c hc => na c (by omega)), ?_, ?_⟩
  · rw [fx.1 405 (na 405 (by omega)), fm 3 (by omega)]
    rcases I.im i hi with y | ⟨y1, y2, k, y3, y4, y5⟩
    · exact Or.inl y
    · exact Or.inr ⟨y1, y2, k, y3, y4.frr fx (fun c a b => na c (by omega)), fun j hj => by rw [fm 2 (by omega)]; exact y5 j hj⟩
  · unfold RFD at r ⊢
    rw [fx.1 0 (na 0 (by omega)), fx.1 0 (na 0 (by omega)), fx.1 0 (na 0 (by omega)), fm 4 (by omega), fm 4 (by omega), fm 4 (by omega)]
    exact r
  · have w := I.wf
    unfold WF at w ⊢
    rw [fx.2.2 1 (by unfold fT; omega), fx.2.2 1 (by unfold fT; omega)]
    exact w
  · rcases I.lo with y | y
    · left
      rw [fx.1 2 (na 2 (by omega))]
      exact y
    · exact Or.inr (y.frr fx (fun c hc => na c (by omega)) I.R)
  · rcases I.wo with y | y
    · left
      rw [fx.1 1 (na 1 (by omega))]
      exact y
    · exact Or.inr (SUMS.frr y I.R fx (fun c a b => na c (by omega)))
theorem sgn_div {v d : Nat} (hd : 0 < d) (h : d ∣ v) : sgn (v / d) = sgn v := by
  unfold sgn
  by_cases e : v = 0
  · rw [if_pos e, e, Nat.zero_div, if_pos rfl]
  · rw [if_neg e, if_neg]
    intro z
    obtain ⟨q, hq⟩ := h
    rw [hq, Nat.mul_div_cancel_left _ hd] at z
    rw [z, Nat.mul_zero] at hq
    exact e hq
def rlt (k f i : Nat) : Nat := if i < k then f else 10 - f
theorem rlt_pow {k f : Nat} : ∀ m, prdN (rlt k f) m = f ^ (if m ≤ k then m else k) * (10 - f) ^ (m - k)
  | 0 => by
    rw [if_pos (Nat.zero_le _), Nat.zero_sub]
    rfl
  | m + 1 => by
    rw [prdN_s, rlt_pow m]
    unfold rlt
    by_cases c : m < k
    · rw [if_pos c, if_pos (by omega), if_pos (by omega), show m - k = 0 by omega, show m + 1 - k = 0 by omega, Nat.pow_zero, Nat.mul_one, Nat.mul_one, Nat.pow_succ]
    · rw [if_neg c, show m + 1 - k = (m - k) + 1 by omega, Nat.pow_succ, ← Nat.mul_assoc]
      by_cases e : m = k
      · rw [if_pos (by omega), if_neg (by omega), e]
      · rw [if_neg (by omega), if_neg (by omega)]
theorem s_rightLetters {N k f : Nat} {a0 a1 a2 : Int32} {h : Hs} {Q : Int64 → Prop} (e0 : a0 = nI N) (e1 : a1 = nI k) (e2 : a2 = nI f) (hN : N ≤ 12) (hk : k ≤ N) (hf : f ≤ 9) (hQ : Q (lN (f ^ k * (10 - f) ^ (N - k)))) : p_X_rightLetters a0 a1 a2 h Q := by
  subst e0 e1 e2
  unfold p_X_rightLetters
  intro P5 h5
  have key := lpG (σ := Unit) (fun i _ => P5 (lN (prdN (rlt k f) i)) (nI i)) (fun _ _ => True) N (s := ()) trivial ?_ ?_
  · exact key
  · intro _ _
    refine h5 _ _ (bY (nI_le (Nat.le_refl _) (by omega)) ?_)
    rw [rlt_pow]
    by_cases c : N ≤ k
    · rw [if_pos c, show N = k by omega]
      rw [show N = k by omega] at hQ
      exact hQ
    · rw [if_neg c]
      exact hQ
  · intro i _ hi _ nx
    have nx := nx () trivial
    rw [prdN_s] at nx
    unfold rlt at nx
    refine h5 _ _ (bN (nI_ge hi (by omega)) (fun P28 h28 => ?_))
    rw [show (10 : Int32) - nI f = nI (10 - f) from pk_sub (a := 10) (by omega), lt64n _ (by omega), lt64n _ (by omega)]
    refine ble rfl rfl (by omega) (by omega) (fun c => h28 _ (fun a3 e3 a5 e5 => ?_)) (fun c => h28 _ (fun a3 e3 a5 e5 => ?_))
    · rw [lN_mul] at e3
      rw [nI_1] at e5
      subst e3 e5
      rw [if_neg (by omega)] at nx
      exact nx
    · rw [lN_mul] at e3
      rw [nI_1] at e5
      subst e3 e5
      rw [if_pos c] at nx
      exact nx
theorem m_power {v e : Nat} {a0 : Int64} {a2 : Int32} {g : Hs} {Q : Int64 → Prop} (e0 : a0 = lN v) (e2 : a2 = nI e) (he : e ≤ 12) (hQ : Q (lN (v ^ e))) : p_M_power a0 a2 g Q := by
  subst e0 e2
  unfold p_M_power
  intro P5 h5
  have key := lpG (σ := Unit) (fun i _ => P5 (lN (v ^ i)) (nI i)) (fun _ _ => True) e (s := ()) trivial ?_ ?_
  · exact key
  · intro _ _
    exact h5 _ _ (bY (nI_le (Nat.le_refl _) (by omega)) hQ)
  · intro i _ hi _ nx
    have nx := nx () trivial
    refine h5 _ _ (bN (nI_ge hi (by omega)) (fun a3 e3 a5 e5 => ?_))
    rw [lN_mul, ← Nat.pow_succ] at e3
    rw [nI_1] at e5
    subst e3 e5
    exact nx
theorem sim_stone {h g : Hs} {a1 a2 a3 a4 a5 : Int32} {K : Int32 → Hs → Int32 → Hs → Prop} {F : Int32 → Hs → Prop} (I : Inv h g) (hK : ∀ r h' g', Inv h' g' → K r h' r g') (hF : ∀ r h', p_M_stone a1 a2 a3 a4 a5 g (K r h') → F r h') : p_X_stone a1 a2 a3 a4 a5 h F := by
  obtain ⟨n, I⟩ := I
  have xb : ¬ (ir a1.toInt 0 10 ∧ ir a2.toInt 1 12 ∧ ir a3.toInt 0 a2.toInt ∧ ir a4.toInt 1 9 ∧ ir a5.toInt 1 9) → p_X_bad h (fun r h' => F r h') := by
    intro nb h7 e7
    subst e7
    refine hF _ _ ?_
    unfold p_M_stone
    exact (m_in (a := a1.toInt) (lo := 0) (hi := 10) (i64 a1) (by decide) (by decide) (fun y1 M0 h0M => bN one0 (m_in (a := a2.toInt) (lo := 1) (hi := 12) (i64 a2) (by decide) (by decide) (fun y2 => bN one0 (m_in (a := a3.toInt) (lo := 0) (hi := a2.toInt) (i64 a3) (by decide) (i64 a2) (fun y3 => bN one0 (m_in (a := a4.toInt) (lo := 1) (hi := 9) (i64 a4) (by decide) (by decide) (fun y4 => bN one0 (m_in (a := a5.toInt) (lo := 1) (hi := 9) (i64 a5) (by decide) (by decide) (fun y5 => bNN one0 (absurd ⟨y1, y2, y3, y4, y5⟩ nb)) (fun y5 => bNY rfl (h0M (lf_bad I hK (-2)))))) (fun y4 => bY rfl (h0M (lf_bad I hK (-2)))))) (fun y3 => bY rfl (h0M (lf_bad I hK (-2)))))) (fun y2 => bY rfl (h0M (lf_bad I hK (-2)))))) (fun y1 M0 h0M => bY rfl (h0M (lf_bad I hK (-2)))))
  unfold p_X_stone
  refine (x_out (a0 := a1) (lo := 0) (hi := 10) (by decide) (by decide) (fun y1 P0 h0P => bNY rfl (x_out (a0 := a2) (lo := 1) (hi := 12) (by decide) (by decide) (fun y2 => bNY rfl (x_out (a0 := a3) (lo := 0) (hi := a2.toInt) (by decide) rfl (fun y3 => bY rfl (x_out (a0 := a4) (lo := 1) (hi := 9) (by decide) (by decide) (fun y4 P1 h1P => bNY rfl (x_out (a0 := a5) (lo := 1) (hi := 9) (by decide) (by decide) (fun y5 => bY rfl ?_) (fun y5 => bN one0 (h1P (xb (fun y => y5 y.2.2.2.2)))))) (fun y4 P1 h1P => bNN one0 (h1P (xb (fun y => y4 y.2.2.2.1)))))) (fun y3 => bN one0 (h0P (xb (fun y => y3 y.2.2.1)))))) (fun y2 => bNN one0 (h0P (xb (fun y => y2 y.2.1)))))) (fun y1 P0 h0P => bNN one0 (h0P (xb (fun y => y1 y.1)))))
  obtain ⟨p, pl, pu, ep⟩ := ir_m (lo := 0) (hi := 10) y1
  subst ep
  obtain ⟨N, Nl, Nu, eN⟩ := ir_m (lo := 1) (hi := 12) y2
  subst eN
  have y3' := y3
  rw [nI_toInt (by omega)] at y3'
  obtain ⟨k, kl, ku, ek⟩ := ir_m (lo := 0) (hi := N) y3'
  subst ek
  obtain ⟨t, tl, tu, et⟩ := ir_m (lo := 1) (hi := 9) y4
  subst et
  obtain ⟨f, fl, fu, ef⟩ := ir_m (lo := 1) (hi := 9) y5
  subst ef
  have pw : ∀ b e, b ≤ 9 → e ≤ 12 → b ^ e ≤ 9 ^ e := fun b e hb _ => Nat.pow_le_pow_left hb e
  have bd : ∀ x, 1 ≤ x → x ≤ 9 → 1 ≤ x ^ k * (10 - x) ^ (N - k) ∧ x ^ k * (10 - x) ^ (N - k) ≤ 282429536481 := fun x h1 h2 => by
    refine ⟨Nat.mul_pos (Nat.pow_pos (by omega)) (Nat.pow_pos (by omega)), ?_⟩
    have q := Nat.mul_le_mul (pw x k h2 (by omega)) (pw (10 - x) (N - k) (by omega) (by omega))
    rw [← Nat.pow_add] at q
    exact Nat.le_trans q (Nat.le_trans (Nat.pow_le_pow_right (by omega) (show k + (N - k) ≤ 12 by omega)) (by decide))
  have bf' := bd f fl fu
  have bt' := bd t tl tu
  have MF : ∀ r h', (∀ g', RV g' 0 ((p * (f ^ k * (10 - f) ^ (N - k))) / Nat.gcd (p * (f ^ k * (10 - f) ^ (N - k))) (p * (f ^ k * (10 - f) ^ (N - k)) + (10 - p) * (t ^ k * (10 - t) ^ (N - k)))) → RV g' 1 ((p * (f ^ k * (10 - f) ^ (N - k)) + (10 - p) * (t ^ k * (10 - t) ^ (N - k))) / Nat.gcd (p * (f ^ k * (10 - f) ^ (N - k))) (p * (f ^ k * (10 - f) ^ (N - k)) + (10 - p) * (t ^ k * (10 - t) ^ (N - k)))) → (∀ c, c ≠ 6 → ∀ j, gi g' c j = gi g c j) → K r h' 1 (si g' 0 6 (sgn (p * (f ^ k * (10 - f) ^ (N - k)))))) → p_M_stone (nI p) (nI N) (nI k) (nI t) (nI f) g (K r h') := by
    intro r h' k1
    unfold p_M_stone
    refine (m_in (lo := 0) (hi := 10) (i64 _) (by decide) (by decide) (fun _ M0 h0M => bN one0 (m_in (lo := 1) (hi := 12) (i64 _) (by decide) (by decide) (fun _ => bN one0 (m_in (lo := 0) (hi := (nI N).toInt) (i64 _) (by decide) (i64 _) (fun _ => bN one0 (m_in (lo := 1) (hi := 9) (i64 _) (by decide) (by decide) (fun _ => bN one0 (m_in (lo := 1) (hi := 9) (i64 _) (by decide) (by decide) (fun _ => bNN one0 ?_) (fun z => absurd y5 z))) (fun z => absurd y4 z))) (fun z => absurd y3 z))) (fun z => absurd y2 z))) (fun z => absurd y1 z))
    rw [lt64n f (by omega), lt64n t (by omega), lt64n p (by omega), show (10 : Int32) - nI p = nI (10 - p) from pk_sub (a := 10) pu, lt64n (10 - p) (by omega), pk_sub ku, show (10 : Int64) - lN f = lN (10 - f) from lN_sub (a := 10) (by omega), show (10 : Int64) - lN t = lN (10 - t) from lN_sub (a := 10) (by omega)]
    refine m_power rfl rfl (by omega) (m_power rfl rfl (by omega) (fun a6 e6 => m_power rfl rfl (by omega) (m_power rfl rfl (by omega) (fun a8 e8 => ?_))))
    rw [lN_mul, lN_mul, Nat.mul_assoc] at e6 e8
    subst e6 e8
    generalize f ^ k * (10 - f) ^ (N - k) = A at *
    generalize t ^ k * (10 - t) ^ (N - k) = B at *
    have q1 := Nat.mul_le_mul pu bf'.2
    have q2 := Nat.mul_le_mul (show 10 - p ≤ 10 by omega) bt'.2
    have q3 : 0 < p * A + (10 - p) * B := by
      rcases Nat.eq_zero_or_pos p with e | e
      · subst e
        have := Nat.mul_le_mul (Nat.le_refl 10) bt'.1
        show 0 < 0 * A + 10 * B
        omega
      · have := Nat.mul_pos e bf'.1
        omega
    exact r_tells rfl (lN_add _ _) (by omega) (by omega) q3 (fun g' r0 r1 fm => k1 g' r0 r1 fm.1)
  refine s_rightLetters rfl rfl rfl (by omega) ku (by omega) (fun a6 e6 => s_rightLetters rfl rfl rfl (by omega) ku (by omega) (fun a8 e8 => ?_))
  rw [lt64n p (by omega), lN_mul] at e6
  rw [show (10 : Int32) - nI p = nI (10 - p) from pk_sub (a := 10) pu, lt64n (10 - p) (by omega), lN_mul] at e8
  subst e6 e8
  rw [lN_add]
  generalize f ^ k * (10 - f) ^ (N - k) = A at *
  generalize t ^ k * (10 - t) ^ (N - k) = B at *
  have q1 := Nat.mul_le_mul pu bf'.2
  have q2 := Nat.mul_le_mul (show 10 - p ≤ 10 by omega) bt'.2
  have q3 : 0 < p * A + (10 - p) * B := by
    rcases Nat.eq_zero_or_pos p with e | e
    · subst e
      have := Nat.mul_le_mul (Nat.le_refl 10) bt'.1
      show 0 < 0 * A + 10 * B
      omega
    · have := Nat.mul_pos e bf'.1
      omega
  have k420 : kX 420 = 1 ∧ kX 422 = 1 := by decide +kernel
  refine s_become k420.1 (by omega) (fun h94 b94 f94 => s_become k420.2 (by omega) (fun h106 b106 f106 => ?_))
  have b94' := b94.frm f106 (by unfold bS; omega) (by unfold bS; omega)
  have F106 : frm (fun c => 420 ≤ c ∧ c ≤ 423) h h106 := (f94.mono (fun c hc => by unfold bS at hc; omega)).trans (f106.mono (fun c hc => by unfold bS at hc; omega))
  refine s_Fbecome (I.fr.frm F106) k420.1 k420.2 (by unfold fS; omega) (by unfold fS; omega) b94' b106 (by omega) (by omega) (fun h121 fr b407 b409 fx => hF _ _ (MF _ _ (fun g' r0 r1 fm => hK _ _ _ ⟨n, I.shr ?_ fr ?_ ?_⟩)))
  · exact (F106.frr.mono (fun c hc => Or.inr hc) (fun c hc => hc)).trans (fx.mono (fun c hc => Or.inl hc) (fun c hc => hc))
  · intro c hc j
    rw [gi_c (by omega)]
    exact fm c (by omega) j
  · rw [Nat.gcd_comm] at b407 b409
    have gp : 0 < Nat.gcd (p * A) (p * A + (10 - p) * B) := Nat.gcd_pos_of_pos_right _ q3
    exact ⟨_, _, b407, b409, r0.si0, r1.si0, by rw [gi_s, sgn_div gp (Nat.gcd_dvd_left _ _)]⟩
