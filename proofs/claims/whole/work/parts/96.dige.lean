/-! ===== the digest ===== -/
def dgf (f : Nat → Int32) : Nat → Int64 → Int64
  | 0, a => a
  | k + 1, a => 31 * dgf f k a + (f k).toInt64
def dgR (r : Nat → Nat → Int32) (L : Nat) : Nat → Int64 → Int64
  | 0, a => a
  | k + 1, a => dgf (r k) L (dgR r L k a)
theorem dgf_c {f g : Nat → Int32} : ∀ {k : Nat} {a : Int64}, (∀ i, i < k → f i = g i) → dgf f k a = dgf g k a
  | 0, _, _ => rfl
  | k + 1, a, h => by
    show 31 * dgf f k a + (f k).toInt64 = 31 * dgf g k a + (g k).toInt64
    rw [dgf_c (fun i hi => h i (by omega)), h k (by omega)]
theorem dgf_add {f : Nat → Int32} {m : Nat} {a : Int64} : ∀ k, dgf f (m + k) a = dgf (fun i => f (m + i)) k (dgf f m a)
  | 0 => rfl
  | k + 1 => by
    show 31 * dgf f (m + k) a + (f (m + k)).toInt64 = 31 * dgf (fun i => f (m + i)) k (dgf f m a) + (f (m + k)).toInt64
    rw [dgf_add k]
theorem dgR_flat {r : Nat → Nat → Int32} {f : Nat → Int32} {L : Nat} {a : Int64} : ∀ k, (∀ i, i < k → ∀ j, j < L → r i j = f (L * i + j)) → dgR r L k a = dgf f (L * k) a
  | 0, _ => by rw [Nat.mul_zero]; rfl
  | k + 1, h => by
    show dgf (r k) L (dgR r L k a) = _
    rw [dgR_flat k (fun i hi => h i (by omega)), Nat.mul_succ, dgf_add]
    exact dgf_c (fun j hj => h k (by omega) j hj)
theorem s_digestRow {o N : Nat} {a0 : Int64} {a3 : Int32} {h : Hs} {Q : Int64 → Prop} (e3 : a3 = nI N) (hN : N ≤ lX o) (hl : lX o < 1000) (hQ : Q (dgf (gi h o) N a0)) : p_X_digestRow a0 o a3 h Q := by
  subst e3
  unfold p_X_digestRow
  intro P6 h6
  have key := lpG (σ := Unit) (fun i _ => P6 (dgf (gi h o) i a0) (nI i)) (fun _ _ => True) N (s := ()) trivial ?_ ?_
  · exact key
  · intro _ _
    exact h6 _ _ (fun P39 h39 => bY (nI_le (Nat.le_refl _) (by omega)) (h39 hQ))
  · intro i _ hi _ nx
    have nx := nx () trivial
    refine h6 _ _ (fun P39 h39 => bN (nI_ge hi (by omega)) (bN (nI_ge (by omega) (by omega)) ⟨vp_in_nI (by omega) (by omega), fun a4 e4 a6 e6 => ?_⟩))
    rw [nI_clamp (by omega)] at e4
    rw [nI_1] at e6
    subst e4 e6
    exact nx
theorem s_digestRows {o m N : Nat} {a0 : Int64} {a3 : Int32} {h : Hs} {Q : Int64 → Prop} (e3 : a3 = nI m) (hm : m ≤ lX o) (hl : lX o < 1000) (hN : ∀ i, i < m → lX (o + 1 + i) = N) (hN2 : N < 1000) (hQ : Q (dgR (fun i => gi h (o + 1 + i)) N m a0)) : p_State_digestRows a0 o a3 h Q := by
  subst e3
  unfold p_State_digestRows
  intro P6 h6
  have key := lpG (σ := Unit) (fun i _ => P6 (dgR (fun i => gi h (o + 1 + i)) N i a0) (nI i)) (fun _ _ => True) m (s := ()) trivial ?_ ?_
  · exact key
  · intro _ _
    exact h6 _ _ (fun P41 h41 => bY (nI_le (Nat.le_refl _) (by omega)) (h41 hQ))
  · intro i _ hi _ nx
    have nx := nx () trivial
    refine h6 _ _ (fun P41 h41 => bN (nI_ge hi (by omega)) (bN (nI_ge (by omega) (by omega)) ⟨vp_in_nI (by omega) (by omega), vp_in_nI (by omega) (by omega), ?_⟩))
    rw [nI_clamp (by omega), Nat.one_mul, hN i hi]
    refine s_digestRow rfl (by rw [hN i hi]; exact Nat.le_refl _) (by rw [hN i hi]; exact hN2) (fun a6 e6 => ?_)
    rw [nI_1] at e6
    subst e6
    exact nx
theorem m_sums {n : Nat → Int32} {b N : Nat} {a1 : Int64} {a3 a4 : Int32} {g : Hs} {Q : Int64 → Prop} (M : MS g n) (e3 : a3 = nI b) (e4 : a4 = nI N) (hN : b + N ≤ 675) (hQ : Q (dgf (fun i => n (b + i)) N a1)) : p_M_sums a1 a3 a4 g Q := by
  subst e3 e4
  unfold p_M_sums
  intro P6 h6
  have key := lpG (σ := Unit) (fun i _ => P6 (dgf (fun i => n (b + i)) i a1) (nI i)) (fun _ _ => True) N (s := ()) trivial ?_ ?_
  · exact key
  · intro _ _
    exact h6 _ _ (bY (nI_le (Nat.le_refl _) (by omega)) hQ)
  · intro i _ hi _ nx
    have nx := nx () trivial
    refine h6 _ _ (bN (nI_ge hi (by omega)) ?_)
    rw [nI_add, nI_clamp (by omega), M _ (by omega)]
    refine ⟨vp_in_nI (by omega) (by omega), fun a5 e5 a7 e7 => ?_⟩
    rw [nI_1] at e7
    subst e5 e7
    exact nx
def kiF (n : Nat → Int32) : Nat → Int64 → Int64
  | 0, a => a
  | k + 1, a => 31 * (31 * kiF n k a + (n (22 + k)).toInt64) + (n (26 + k)).toInt64
def stF (n : Nat → Int32) : Nat → Int64 → Int64
  | 0, a => a
  | s + 1, a => dgf (fun i => n (35 + 121 * s + i)) (tL n s) (31 * stF n s a + (n (30 + s)).toInt64)
def daF (n : Nat → Int32) : Nat → Int64 → Int64
  | 0, a => a
  | p + 1, a => dgf (fun i => n (575 + 6 * p + i)) p (daF n p a)
def dg1 (n : Nat → Int32) : Int64 := kiF n 4 (dgf (fun i => n (20 + i)) 2 (dgf (fun i => n (16 + i)) (nLo n) (dgf (fun i => n (6 + i)) 10 (dgf (fun i => n (0 + i)) (nP n) (dgf (cou n) 8 569)))))
def dg2 (n : Nat → Int32) : Int64 := dgf (fun i => n (611 + i)) 60 (daF n (nP n) (dgf (fun i => n (545 + i)) (5 * nTe n) (dgf (fun i => n (542 + i)) 3 (dgf (fun i => n (518 + i)) (4 * nSg n) (stF n 4 (dg1 n))))))
theorem lX_dg : lX 4 = 6 ∧ lX 5 = 10 ∧ lX 6 = 4 ∧ lX 7 = 2 ∧ lX 8 = 4 ∧ (∀ i, i < 4 → lX (8 + 1 + i) = 2) ∧ lX 20 = 6 ∧ (∀ i, i < 6 → lX (20 + 1 + i) = 4) ∧ lX 27 = 3 ∧ lX 28 = 6 ∧ (∀ i, i < 6 → lX (28 + 1 + i) = 5) ∧ lX 42 = 60 ∧ (∀ i, i < 4 → lX (16 + i) = 120) ∧ (∀ i, i < 6 → lX (36 + i) = 6) := by decide +kernel
theorem s_digestOnto {n : Nat → Int32} {h : Hs} {Q : Int64 → Prop} (X : XS h 3 n) (R : RG n) (hQ : Q (dg2 n)) : p_State_digestOnto 569 h Q := by
  obtain ⟨l4, l5, l6, l7, l8, l8', l20, l20', l27, l28, l28', l42, l16, l36⟩ := lX_dg
  have hp := X.pl R
  have hl := X.lo R
  have hs := X.sg R
  have ht := X.te R
  unfold p_State_digestOnto
  rw [hp.1, hl.1, hs.1, ht.1]
  intro P5 h5
  have key := lpG (σ := Unit) (fun i _ => P5 (dgf (cou n) i 569) (nI i)) (fun _ _ => True) 8 (s := ()) trivial ?_ ?_
  · exact key
  · intro _ _
    refine h5 _ _ (bY (nI_le (a := 8) (b := 8) (by omega) (by omega)) ?_)
    refine s_digestRow rfl (by rw [l4]; exact hp.2) (by omega) ?_
    refine s_digestRow (N := 10) rfl (by omega) (by omega) ?_
    refine s_digestRow rfl (by rw [l6]; exact hl.2) (by omega) ?_
    refine s_digestRow (N := 2) rfl (by omega) (by omega) ?_
    refine s_digestRows (m := 4) (N := 2) rfl (by omega) (by omega) l8' (by omega) ?_
    have e1 : dgR (fun i => gi h (8 + 1 + i)) 2 4 (dgf (gi h 7) 2 (dgf (gi h 6) (nLo n) (dgf (gi h 5) 10 (dgf (gi h 4) (nP n) (dgf (cou n) 8 569))))) = dg1 n := by
      have q1 : ∀ a, dgf (gi h 4) (nP n) a = dgf (fun i => n (0 + i)) (nP n) a := fun a => dgf_c (fun i hi => by rw [Nat.zero_add]; exact X.rd (k := i) (by omega) (c_feed i (by omega)))
      have q2 : ∀ a, dgf (gi h 5) 10 a = dgf (fun i => n (6 + i)) 10 a := fun a => dgf_c (fun i hi => X.rd (k := 6 + i) (by omega) (c_rain i hi))
      have q3 : ∀ a, dgf (gi h 6) (nLo n) a = dgf (fun i => n (16 + i)) (nLo n) a := fun a => dgf_c (fun i hi => X.rd (k := 16 + i) (by omega) (c_peop i (by omega)))
      have q4 : ∀ a, dgf (gi h 7) 2 a = dgf (fun i => n (20 + i)) 2 a := fun a => dgf_c (fun i hi => X.rd (k := 20 + i) (by omega) (c_puts i hi))
      have q5 : ∀ k a, k ≤ 4 → dgR (fun i => gi h (8 + 1 + i)) 2 k a = kiF n k a := by
        intro k
        induction k with
        | zero => intro a _; rfl
        | succ k ih =>
          intro a hk
          show 31 * (31 * dgR (fun i => gi h (8 + 1 + i)) 2 k a + (gi h (8 + 1 + k) 0).toInt64) + (gi h (8 + 1 + k) 1).toInt64 = 31 * (31 * kiF n k a + (n (22 + k)).toInt64) + (n (26 + k)).toInt64
          have x1 : gi h (8 + 1 + k) 0 = n (22 + k) := by
            have := X.rd (k := 22 + k) (by omega) (c_each k (by omega))
            rw [show 3 + (6 + k) = 8 + 1 + k by omega] at this
            exact this
          have x2 : gi h (8 + 1 + k) 1 = n (26 + k) := by
            have := X.rd (k := 26 + k) (by omega) (c_carr k (by omega))
            rw [show 3 + (6 + k) = 8 + 1 + k by omega] at this
            exact this
          rw [ih a (by omega), x1, x2]
      rw [q1, q2, q3, q4, q5 4 _ (by omega)]
      rfl
    rw [e1]
    intro P96 h96
    have key2 := lpG (σ := Unit) (fun s _ => P96 (stF n s (dg1 n)) (nI s)) (fun _ _ => True) 4 (s := ()) trivial ?_ ?_
    · exact key2
    · intro _ _
      refine h96 _ _ (bY (nI_le (a := 4) (b := 4) (by omega) (by omega)) ?_)
      refine s_digestRows (N := 4) rfl (by rw [l20]; exact hs.2) (by omega) (fun i hi => l20' i (by omega)) (by omega) ?_
      rw [dgR_flat (f := fun i => n (518 + i)) (nSg n) (fun i hi j hj => by
        have := X.sig (t := i) (i := j) (by omega) hj
        rw [show 21 + i = 20 + 1 + i by omega, show 518 + 4 * i + j = 518 + (4 * i + j) by omega] at this
        exact this)]
      refine s_digestRow (N := 3) rfl (by omega) (by omega) ?_
      rw [dgf_c (g := fun i => n (542 + i)) (fun i hi => X.post hi)]
      refine s_digestRows (N := 5) rfl (by rw [l28]; exact ht.2) (by omega) (fun i hi => l28' i (by omega)) (by omega) ?_
      rw [dgR_flat (f := fun i => n (545 + i)) (nTe n) (fun i hi j hj => by
        have := X.tel (t := i) (i := j) (by omega) hj
        rw [show 29 + i = 28 + 1 + i by omega, show 545 + 5 * i + j = 545 + (5 * i + j) by omega] at this
        exact this)]
      intro P181 h181
      have key3 := lpG (σ := Unit) (fun p _ => P181 (daF n p (dgf (fun i => n (545 + i)) (5 * nTe n) (dgf (fun i => n (542 + i)) 3 (dgf (fun i => n (518 + i)) (4 * nSg n) (stF n 4 (dg1 n)))))) (nI p)) (fun _ _ => True) (nP n) (s := ()) trivial ?_ ?_
      · exact key3
      · intro _ _
        refine h181 _ _ (bY (nI_le (Nat.le_refl _) (by omega)) (s_digestRow (N := 60) rfl (by omega) (by omega) ?_))
        rw [dgf_c (g := fun i => n (611 + i)) (fun i hi => X.rd (k := 611 + i) (by omega) (c_stor i hi))]
        exact hQ
      · intro p _ hpp _ nx
        have nx := nx () trivial
        refine h181 _ _ (bN (nI_ge hpp (by omega)) ⟨vp_in_nI (by omega) (by omega), ?_⟩)
        rw [nI_clamp (by omega), show 35 + 1 + 1 * p = 36 + p by omega]
        refine s_digestRow rfl (by rw [l36 p (by omega)]; omega) (by rw [l36 p (by omega)]; omega) (fun a5 e5 => ?_)
        rw [nI_1] at e5
        subst e5
        rw [dgf_c (g := fun i => n (575 + 6 * p + i)) (fun i hi => by
          have := X.rd (k := 575 + 6 * p + i) (by omega) (c_days p (by omega) i (by omega))
          rw [show 3 + (33 + p) = 36 + p by omega] at this
          exact this)]
        exact nx
    · intro s _ hss _ nx
      have nx := nx () trivial
      have tx := X.tx R hss
      have hln := (R.ln s hss).2
      refine h96 _ _ (bN (nI_ge (b := 4) hss (by omega)) ⟨vp_in_nI hss (by omega), ?_⟩)
      rw [nI_clamp (by omega), show 15 + 1 + 1 * s = 16 + s by omega, tx.1, X.rd (k := 30 + s) (c := 10) (i := s) (by omega) (c_prio s hss)]
      refine fun a3 e3 => ⟨vp_in_nI hss (by omega), vp_in_nI hss (by omega), s_digestRow rfl (by rw [l16 s hss]; exact hln) (by rw [l16 s hss]; omega) (fun a5 e5 => ?_)⟩
      rw [nI_1] at e5
      subst e3 e5
      have ht120 : tL n s ≤ 120 := hln
      rw [dgf_c (g := fun i => n (35 + 121 * s + i)) (fun i hi => by
        have := X.rd (k := 35 + 121 * s + i) (by omega) (c_text s hss i (by omega))
        rw [show 3 + (13 + s) = 16 + s by omega] at this
        exact this)]
      exact nx
  · intro i _ hi _ nx
    have nx := nx () trivial
    refine h5 _ _ (bN (nI_ge (b := 8) hi (by omega)) (s_countOf X rfl hi (fun a3 e3 a5 e5 => ?_)))
    rw [nI_1] at e5
    subst e3 e5
    exact nx
/-- the fraction's part -/
def dg3 (h g : Hs) (a : Int64) : Int64 := dgf (gi h 410) (szB h 409) (dgf (gi h 408) (szB h 407) (31 * (31 * (31 * a + (gi g 0 6).toInt64) + (gi g 6 0).toInt64) + (gi g 6 1).toInt64))
theorem s_digest {n : Nat → Int32} {h g : Hs} {Q : Int64 → Prop} (X : XS h 3 n) (R : RG n) (C : FC h g) (hQ : Q (dg3 h g (dg2 n))) : p_X_digest h Q := by
  obtain ⟨⟨p, b1, b2, b3, b4, b5, b6, b7⟩, t, c1, c2, c3, c5, c6, c7⟩ := C.sz
  have l1 : lX 408 = 32 := lx32.1
  have l2 : lX 410 = 32 := lx32.2.1
  unfold p_X_digest
  refine s_digestOnto X R ?_
  intro P13 h13
  have s0 : P13 (31 * (31 * (31 * dg2 n + (gi g 0 6).toInt64) + (gi g 6 0).toInt64) + (gi g 6 1).toInt64) 3 := by
    refine h13 _ _ (bY (by decide) ?_)
    rw [b5, c5]
    exact s_digestRow rfl (by omega) (by omega) (s_digestRow rfl (by omega) (by omega) hQ)
  refine h13 _ _ (bN (by decide) (s_partOf C (fun a1 e1 a3 e3 => ?_)))
  have e3' : a3 = 1 := by rw [e3]; decide
  rw [if_pos rfl] at e1
  subst e1
  rw [e3']
  refine h13 _ _ (bN (by decide) (s_partOf C (fun a1 e1 a3 e3 => ?_)))
  have e3' : a3 = 2 := by rw [e3]; decide
  rw [if_neg (by decide), if_pos rfl] at e1
  subst e1
  rw [e3']
  refine h13 _ _ (bN (by decide) (s_partOf C (fun a1 e1 a3 e3 => ?_)))
  have e3' : a3 = 3 := by rw [e3]; decide
  rw [if_neg (by decide), if_neg (by decide)] at e1
  subst e1
  rw [e3']
  exact s0
theorem m_digest {n : Nat → Int32} {h g : Hs} {Q : Int64 → Prop} (M : MS g n) (R : RG n) (C : FC h g) (hQ : Q (dg3 h g (dg2 n))) : p_M_digest g Q := by
  obtain ⟨⟨p, b1, b2, b3, b4, b5, b6, b7⟩, t, c1, c2, c3, c5, c6, c7⟩ := C.sz
  have hp := M.pl R
  have hl := M.lo R
  have hs := M.sg R
  have ht := M.te R
  unfold p_M_digest p_M_places p_M_lots p_M_signs p_M_tellers
  rw [hp.1, hl.1, hs.1, ht.1]
  intro P6 h6
  have key := lpG (σ := Unit) (fun i _ => P6 (dgf (cou n) i 569) (nI i)) (fun _ _ => True) 8 (s := ()) trivial ?_ ?_
  · exact key
  · intro _ _
    refine h6 _ _ (bY (nI_le (a := 8) (b := 8) (by omega) (by omega)) ?_)
    refine m_sums (b := 0) M rfl rfl (by omega) (m_sums (b := 6) (N := 10) M rfl rfl (by omega) (m_sums (b := 16) M rfl rfl (by omega) (m_sums (b := 20) (N := 2) M rfl rfl (by omega) (fun P75 h75 => ?_))))
    have key1 := lpG (σ := Unit) (fun k _ => P75 (kiF n k (dgf (fun i => n (20 + i)) 2 (dgf (fun i => n (16 + i)) (nLo n) (dgf (fun i => n (6 + i)) 10 (dgf (fun i => n (0 + i)) (nP n) (dgf (cou n) 8 569)))))) (nI k)) (fun _ _ => True) 4 (s := ()) trivial ?_ ?_
    · exact key1
    · intro _ _
      refine h75 _ _ (bY (nI_le (a := 4) (b := 4) (by omega) (by omega)) (fun P120 h120 => ?_))
      have key2 := lpG (σ := Unit) (fun s _ => P120 (stF n s (dg1 n)) (nI s)) (fun _ _ => True) 4 (s := ()) trivial ?_ ?_
      · exact key2
      · intro _ _
        refine h120 _ _ (bY (nI_le (a := 4) (b := 4) (by omega) (by omega)) ?_)
        refine m_sums (b := 518) M rfl (nI_mul 4 _) (by omega) (m_sums (b := 542) (N := 3) M rfl rfl (by omega) (m_sums (b := 545) M rfl (nI_mul 5 _) (by omega) (fun P208 h208 => ?_)))
        have key3 := lpG (σ := Unit) (fun p _ => P208 (daF n p (dgf (fun i => n (545 + i)) (5 * nTe n) (dgf (fun i => n (542 + i)) 3 (dgf (fun i => n (518 + i)) (4 * nSg n) (stF n 4 (dg1 n)))))) (nI p)) (fun _ _ => True) (nP n) (s := ()) trivial ?_ ?_
        · exact key3
        · intro _ _
          refine h208 _ _ (bY (nI_le (Nat.le_refl _) (by omega)) (m_sums (b := 611) (N := 60) M rfl rfl (by omega) (fun a1 e1 P286 h286 => ?_)))
          have ea : a1 = 31 * (31 * (31 * dg2 n + (gi g 0 6).toInt64) + (gi g 6 0).toInt64) + (gi g 6 1).toInt64 := e1
          rw [ea]
          have row : ∀ (w : Nat) (o : Nat) (S : Nat) (a : Int64) (i2 : Int32), w < 2 → i2 = nI w → S ≤ 32 → gi g 6 w = nI S → (∀ i, i < S → gi h o i = nI (dg h o i) ∧ dg h o i < BB ∧ gl g 5 (64 * w + i) = lN (dg h o i)) → P286 (dgf (gi h o) S a) (nI (w + 1)) → P286 a i2 := by
            intro w o S a i2 hw ei hS e6 hd nxt
            subst ei
            refine h286 _ _ (bN (nI_nlt (a := 1) (by omega) (by omega)) (fun P294 h294 => ?_))
            have key4 := lpG (σ := Unit) (fun i _ => P294 (dgf (gi h o) i a) (nI i)) (fun _ _ => True) S (s := ()) trivial ?_ ?_
            · exact key4
            · intro _ _
              refine h294 _ _ ⟨vp_in_nI (by omega) (by omega), ?_⟩
              rw [nI_clamp (by omega), e6]
              refine bY (nI_le (Nat.le_refl _) (by omega)) (fun a3 e3 => ?_)
              rw [nI_1] at e3
              subst e3
              exact nxt
            · intro i _ hi _ nx
              have nx := nx () trivial
              obtain ⟨q1, q2, q3⟩ := hd i hi
              refine h294 _ _ ⟨vp_in_nI (by omega) (by omega), ?_⟩
              rw [nI_clamp (show w < 2 ^ 31 by omega), e6, m64, nI_clamp (by omega), q3]
              refine bN (nI_ge hi (by omega)) ⟨vp_in_nI (by omega) (by omega), fun a1 e1 a4 e4 => ?_⟩
              rw [nI_1] at e4
              subst e1 e4
              have nx' : P294 (31 * dgf (gi h o) i a + (gi h o i).toInt64) (nI (i + 1)) := nx
              rw [q1, nI_l (lt31 q2)] at nx'
              exact nx'
          refine row 0 408 (szB h 407) _ 0 (by omega) nI_lit0 b6 (by rw [← b4]; exact b5) (fun i hi => by rw [Nat.mul_zero, Nat.zero_add]; exact b7 i hi) ?_
          refine row 1 410 (szB h 409) _ (nI 1) (by omega) rfl c6 (by rw [← c3]; exact c5) (fun i hi => by rw [Nat.mul_one]; exact c7 i hi) ?_
          exact h286 _ _ (bY (nI_lt (a := 1) (b := 2) (by omega) (by omega)) hQ)
        · intro p _ hpp _ nx
          have nx := nx () trivial
          refine h208 _ _ (bN (nI_ge hpp (by omega)) ?_)
          have ek : (575 : Int32) + 6 * nI p = nI (575 + 6 * p) := by rw [show (6 : Int32) = nI 6 from rfl, show (575 : Int32) = nI 575 from rfl, nI_mul, nI_add]
          refine m_sums M ek rfl (by omega) (fun a3 e3 => ?_)
          rw [nI_1] at e3
          subst e3
          exact nx
      · intro s _ hss _ nx
        have nx := nx () trivial
        have rl := R.ln s hss
        have hln : tL n s ≤ 120 := rl.2
        refine h120 _ _ (bN (nI_ge (b := 4) hss (by omega)) ?_)
        rw [show (30 : Int32) + nI s = nI (30 + s) from nI_add 30 s, nI_clamp (by omega), M _ (by omega)]
        have ek : (34 : Int32) + 121 * nI s + 1 = nI (35 + 121 * s) := by
          rw [m121, nI_1]
          congr 1
          omega
        refine ⟨vp_in_nI (by omega) (by omega), m_tl (x := nI (tL n s)) rfl hss ((M _ (by omega)).trans rl.1) (m_sums M ek rfl (by omega) (fun a3 e3 => ?_))⟩
        rw [nI_1] at e3
        subst e3
        exact nx
    · intro k _ hk _ nx
      have nx := nx () trivial
      refine h75 _ _ (bN (nI_ge (b := 4) hk (by omega)) ?_)
      rw [show (22 : Int32) + nI k = nI (22 + k) from nI_add 22 k, show (26 : Int32) + nI k = nI (26 + k) from nI_add 26 k, nI_clamp (by omega), nI_clamp (by omega), M _ (by omega), M _ (by omega)]
      refine ⟨vp_in_nI (by omega) (by omega), vp_in_nI (by omega) (by omega), fun a1 e1 a3 e3 => ?_⟩
      rw [nI_1] at e3
      subst e1 e3
      exact nx
  · intro i _ hi _ nx
    have nx := nx () trivial
    refine h6 _ _ (bN (nI_ge (b := 8) hi (by omega)) (m_counted M rfl hi (fun a1 e1 a3 e3 => ?_)))
    rw [nI_1] at e3
    subst e1 e3
    exact nx
theorem sim_digest {h g : Hs} {K : Int64 → Int64 → Prop} {F : Int64 → Prop} (I : Inv h g) (hK : ∀ r, K r r) (hF : ∀ r, p_M_digest g (K r) → F r) : p_X_digest h F := by
  obtain ⟨n, I⟩ := I
  exact s_digest I.X I.R I.fc (hF _ (m_digest I.M I.R I.fc (hK _)))
