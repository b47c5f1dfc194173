/-! ===== the class's tokens ===== -/
def tkS : Nat → Prop := fun c => 43 ≤ c ∧ c ≤ 46
def TKs (h : Hs) (T : Nat → Nat) (L c : Nat) : Prop := ∀ i, i < c → gi h 44 i = nI (ps T L i) ∧ gi h 45 i = nI (tkK T L (ps T L i)) ∧ gi h 46 i = nI (tkV T L (ps T L i))
theorem s_keep {c : Nat} {a1 a2 a3 : Int32} {h : Hs} {Q : Hs → Prop} (e : gi h 43 3 = nI c) (hc : c < 121) (hQ : ∀ h', gi h' 43 3 = nI (c + 1) → gi h' 43 4 = gi h 43 4 → gi h' 44 c = a1 → gi h' 45 c = a2 → gi h' 46 c = a3 → (∀ i, i ≠ c → gi h' 44 i = gi h 44 i ∧ gi h' 45 i = gi h 45 i ∧ gi h' 46 i = gi h 46 i) → frm tkS h h' → Q h') : p_Tokens_keep a1 a2 a3 h Q := by
  unfold p_Tokens_keep
  intro P hP
  rw [e, nI_clamp (by omega)]
  refine ⟨fun c2 => absurd ((nI_leI (a := 121) (by omega) (by omega)).mp c2) (by omega), fun _ => ⟨vp_in_nI hc (by omega), ?_⟩⟩
  intro h1 e1
  have g1 : gi h1 43 3 = nI c := by rw [e1, gi_c (by omega)]; exact e
  rw [g1, nI_clamp (by omega)]
  refine ⟨vp_in_nI hc (by omega), ?_⟩
  intro h2 e2
  have g2 : gi h2 43 3 = nI c := by rw [e2, gi_c (by omega)]; exact g1
  rw [g2, nI_clamp (by omega)]
  refine ⟨vp_in_nI hc (by omega), ?_⟩
  intro h3 e3 h4 e4
  have g3 : gi h3 43 3 = nI c := by rw [e3, gi_c (by omega)]; exact g2
  rw [g3, nI_1] at e4
  apply hP
  refine hQ h4 (by rw [e4, gi_s]) ?_ ?_ ?_ ?_ (fun i hi => ⟨?_, ?_, ?_⟩) ?_
  · rw [e4, gi_k (by omega), e3, gi_c (by omega), e2, gi_c (by omega), e1, gi_c (by omega)]
  · rw [e4, gi_c (by omega), e3, gi_c (by omega), e2, gi_c (by omega), e1, gi_s]
  · rw [e4, gi_c (by omega), e3, gi_c (by omega), e2, gi_s]
  · rw [e4, gi_c (by omega), e3, gi_s]
  · rw [e4, gi_c (by omega), e3, gi_c (by omega), e2, gi_c (by omega), e1, gi_k hi]
  · rw [e4, gi_c (by omega), e3, gi_c (by omega), e2, gi_k hi, e1, gi_c (by omega)]
  · rw [e4, gi_c (by omega), e3, gi_k hi, e2, gi_c (by omega), e1, gi_c (by omega)]
  · exact (((e1 ▸ frm.si (show tkS 44 by unfold tkS; omega) : frm tkS h h1).trans (e2 ▸ frm.si (show tkS 45 by unfold tkS; omega))).trans (e3 ▸ frm.si (show tkS 46 by unfold tkS; omega))).trans (e4 ▸ frm.si (show tkS 43 by unfold tkS; omega))
theorem s_isLetter {c : Nat} {a0 : Int32} {h : Hs} {Q : Int32 → Prop} (e : a0 = nI c) (hc : c < 256) (h1 : smB c = true → Q 1) (h0 : ¬ smB c = true → Q 0) : p_Tokens_isLetter a0 h Q := by
  subst e
  unfold p_Tokens_isLetter
  rw [smB_iff] at h1 h0
  intro P hP P16 h16
  refine ⟨fun c1 => h16 (hP _ ⟨zb0, h0 (fun x => ?_)⟩), fun c1 => ⟨fun c2 => h16 (hP _ ⟨zb0, h0 (fun x => ?_)⟩), fun c2 => hP _ ⟨zb1, h1 ⟨?_, ?_⟩⟩⟩⟩
  · have := (nI_ltI (b := 97) (by omega) (by omega)).mp c1
    omega
  · have := (nI_ltI (a := 122) (by omega) (by omega)).mp c2
    omega
  · have : ¬ c < 97 := fun x => c1 ((nI_ltI (b := 97) (by omega) (by omega)).mpr x)
    omega
  · have : ¬ 122 < c := fun x => c2 ((nI_ltI (a := 122) (by omega) (by omega)).mpr x)
    omega
theorem s_isFigure {c : Nat} {a0 : Int32} {h : Hs} {Q : Int32 → Prop} (e : a0 = nI c) (hc : c < 256) (h1 : fgB c = true → Q 1) (h0 : ¬ fgB c = true → Q 0) : p_Tokens_isFigure a0 h Q := by
  subst e
  unfold p_Tokens_isFigure
  rw [fgB_iff] at h1 h0
  intro P hP P16 h16
  refine ⟨fun c1 => h16 (hP _ ⟨zb0, h0 (fun x => ?_)⟩), fun c1 => ⟨fun c2 => h16 (hP _ ⟨zb0, h0 (fun x => ?_)⟩), fun c2 => hP _ ⟨zb1, h1 ⟨?_, ?_⟩⟩⟩⟩
  · have := (nI_ltI (b := 48) (by omega) (by omega)).mp c1
    omega
  · have := (nI_ltI (a := 57) (by omega) (by omega)).mp c2
    omega
  · have : ¬ c < 48 := fun x => c1 ((nI_ltI (b := 48) (by omega) (by omega)).mpr x)
    omega
  · have : ¬ 57 < c := fun x => c2 ((nI_ltI (a := 57) (by omega) (by omega)).mpr x)
    omega
theorem lvC {T : Nat → Nat} {a n k C : Nat} {x : Int64} (hx : x = lN C) (hT : ∀ j, j < n → 97 ≤ T (a + j) ∧ T (a + j) ≤ 122) (hn : 1 ≤ n) (hk : k ≤ 4) (h1 : 97 * 256 ^ k ≤ C) (h2 : C < 97 * 256 ^ (k + 1)) (hC : C < 2 ^ 63) : lg_cmp (lN (lv T a n)) x = 0 ↔ n = k + 1 ∧ lv T a n = C := by
  rw [cmp_eq0, hx, lN_mod hC, lv_len hT hn hk h1 h2]
theorem d256 {x y A B : Nat} (hy : y < 256) (hB : B < 256) (h : x * 256 + y = A * 256 + B) : x = A ∧ y = B := by omega
theorem s_wordOf {T : Nat → Nat} {a n : Nat} {a0 : Int64} {h : Hs} {Q : Int32 → Prop} (e : a0 = lN (lv T a n)) (hT : ∀ j, j < n → 97 ≤ T (a + j) ∧ T (a + j) ≤ 122) (hn : 1 ≤ n) (hQ : Q (nI (wk T a n))) : p_Tokens_wordOf a0 h Q := by
  subst e
  unfold p_Tokens_wordOf
  rw [lvC (x := 26479) (k := 1) (C := 26479) rfl hT hn (by omega) (by decide) (by decide) (by decide), lvC (x := 1785686382) (k := 3) (C := 1785686382) rfl hT hn (by omega) (by decide) (by decide) (by decide), lvC (x := 6580581) (k := 2) (C := 6580581) rfl hT hn (by omega) (by decide) (by decide) (by decide), lvC (x := 2003792484) (k := 3) (C := 2003792484) rfl hT hn (by omega) (by decide) (by decide) (by decide), lvC (x := 427121668979) (k := 4) (C := 427121668979) rfl hT hn (by omega) (by decide) (by decide) (by decide)]
  have c1 : (n = 1 + 1 ∧ lv T a n = 26479) ↔ (n = 2 ∧ T a = 103 ∧ T (a + 1) = 111) := by
    constructor
    · rintro ⟨e, h⟩
      subst e
      have h1 : (0 * 256 + T (a + 0)) * 256 + T (a + 1) = 103 * 256 + 111 := h
      have g1 := d256 (by have := (hT 1 (by omega)).2; omega) (by omega) h1
      have h0 := g1.1
      rw [Nat.zero_mul, Nat.zero_add, Nat.add_zero] at h0
      exact ⟨rfl, h0, g1.2⟩
    · rintro ⟨e, x0, x1⟩
      subst e
      refine ⟨rfl, ?_⟩
      show (0 * 256 + T (a + 0)) * 256 + T (a + 1) = 26479
      rw [Nat.add_zero, x0, x1]
  have c2 : (n = 3 + 1 ∧ lv T a n = 1785686382) ↔ (n = 4 ∧ T a = 106 ∧ T (a + 1) = 111 ∧ T (a + 2) = 105 ∧ T (a + 3) = 110) := by
    constructor
    · rintro ⟨e, h⟩
      subst e
      have h3 : (((0 * 256 + T (a + 0)) * 256 + T (a + 1)) * 256 + T (a + 2)) * 256 + T (a + 3) = 6975337 * 256 + 110 := h
      have g3 := d256 (by have := (hT 3 (by omega)).2; omega) (by omega) h3
      have h2 := g3.1
      rw [show 6975337 = 27247 * 256 + 105 from rfl] at h2
      have g2 := d256 (by have := (hT 2 (by omega)).2; omega) (by omega) h2
      have h1 := g2.1
      rw [show 27247 = 106 * 256 + 111 from rfl] at h1
      have g1 := d256 (by have := (hT 1 (by omega)).2; omega) (by omega) h1
      have h0 := g1.1
      rw [Nat.zero_mul, Nat.zero_add, Nat.add_zero] at h0
      exact ⟨rfl, h0, g1.2, g2.2, g3.2⟩
    · rintro ⟨e, x0, x1, x2, x3⟩
      subst e
      refine ⟨rfl, ?_⟩
      show (((0 * 256 + T (a + 0)) * 256 + T (a + 1)) * 256 + T (a + 2)) * 256 + T (a + 3) = 1785686382
      rw [Nat.add_zero, x0, x1, x2, x3]
  have c3 : (n = 2 + 1 ∧ lv T a n = 6580581) ↔ (n = 3 ∧ T a = 100 ∧ T (a + 1) = 105 ∧ T (a + 2) = 101) := by
    constructor
    · rintro ⟨e, h⟩
      subst e
      have h2 : ((0 * 256 + T (a + 0)) * 256 + T (a + 1)) * 256 + T (a + 2) = 25705 * 256 + 101 := h
      have g2 := d256 (by have := (hT 2 (by omega)).2; omega) (by omega) h2
      have h1 := g2.1
      rw [show 25705 = 100 * 256 + 105 from rfl] at h1
      have g1 := d256 (by have := (hT 1 (by omega)).2; omega) (by omega) h1
      have h0 := g1.1
      rw [Nat.zero_mul, Nat.zero_add, Nat.add_zero] at h0
      exact ⟨rfl, h0, g1.2, g2.2⟩
    · rintro ⟨e, x0, x1, x2⟩
      subst e
      refine ⟨rfl, ?_⟩
      show ((0 * 256 + T (a + 0)) * 256 + T (a + 1)) * 256 + T (a + 2) = 6580581
      rw [Nat.add_zero, x0, x1, x2]
  have c4 : (n = 3 + 1 ∧ lv T a n = 2003792484) ↔ (n = 4 ∧ T a = 119 ∧ T (a + 1) = 111 ∧ T (a + 2) = 114 ∧ T (a + 3) = 100) := by
    constructor
    · rintro ⟨e, h⟩
      subst e
      have h3 : (((0 * 256 + T (a + 0)) * 256 + T (a + 1)) * 256 + T (a + 2)) * 256 + T (a + 3) = 7827314 * 256 + 100 := h
      have g3 := d256 (by have := (hT 3 (by omega)).2; omega) (by omega) h3
      have h2 := g3.1
      rw [show 7827314 = 30575 * 256 + 114 from rfl] at h2
      have g2 := d256 (by have := (hT 2 (by omega)).2; omega) (by omega) h2
      have h1 := g2.1
      rw [show 30575 = 119 * 256 + 111 from rfl] at h1
      have g1 := d256 (by have := (hT 1 (by omega)).2; omega) (by omega) h1
      have h0 := g1.1
      rw [Nat.zero_mul, Nat.zero_add, Nat.add_zero] at h0
      exact ⟨rfl, h0, g1.2, g2.2, g3.2⟩
    · rintro ⟨e, x0, x1, x2, x3⟩
      subst e
      refine ⟨rfl, ?_⟩
      show (((0 * 256 + T (a + 0)) * 256 + T (a + 1)) * 256 + T (a + 2)) * 256 + T (a + 3) = 2003792484
      rw [Nat.add_zero, x0, x1, x2, x3]
  have c5 : (n = 4 + 1 ∧ lv T a n = 427121668979) ↔ (n = 5 ∧ T a = 99 ∧ T (a + 1) = 114 ∧ T (a + 2) = 111 ∧ T (a + 3) = 115 ∧ T (a + 4) = 115) := by
    constructor
    · rintro ⟨e, h⟩
      subst e
      have h4 : ((((0 * 256 + T (a + 0)) * 256 + T (a + 1)) * 256 + T (a + 2)) * 256 + T (a + 3)) * 256 + T (a + 4) = 1668444019 * 256 + 115 := h
      have g4 := d256 (by have := (hT 4 (by omega)).2; omega) (by omega) h4
      have h3 := g4.1
      rw [show 1668444019 = 6517359 * 256 + 115 from rfl] at h3
      have g3 := d256 (by have := (hT 3 (by omega)).2; omega) (by omega) h3
      have h2 := g3.1
      rw [show 6517359 = 25458 * 256 + 111 from rfl] at h2
      have g2 := d256 (by have := (hT 2 (by omega)).2; omega) (by omega) h2
      have h1 := g2.1
      rw [show 25458 = 99 * 256 + 114 from rfl] at h1
      have g1 := d256 (by have := (hT 1 (by omega)).2; omega) (by omega) h1
      have h0 := g1.1
      rw [Nat.zero_mul, Nat.zero_add, Nat.add_zero] at h0
      exact ⟨rfl, h0, g1.2, g2.2, g3.2, g4.2⟩
    · rintro ⟨e, x0, x1, x2, x3, x4⟩
      subst e
      refine ⟨rfl, ?_⟩
      show ((((0 * 256 + T (a + 0)) * 256 + T (a + 1)) * 256 + T (a + 2)) * 256 + T (a + 3)) * 256 + T (a + 4) = 427121668979
      rw [Nat.add_zero, x0, x1, x2, x3, x4]
  rw [c1, c2, c3, c4, c5]
  unfold wk at hQ
  refine ⟨fun k1 => ?_, fun k1 => by rw [if_pos k1] at hQ; exact hQ⟩
  rw [if_neg k1] at hQ
  refine ⟨fun k2 => ?_, fun k2 => by rw [if_pos k2] at hQ; exact hQ⟩
  rw [if_neg k2] at hQ
  refine ⟨fun k3 => ?_, fun k3 => by rw [if_pos k3] at hQ; exact hQ⟩
  rw [if_neg k3] at hQ
  refine ⟨fun k4 => ?_, fun k4 => by rw [if_pos k4] at hQ; exact hQ⟩
  rw [if_neg k4] at hQ
  intro P hP
  refine ⟨fun k5 => hP _ (by rw [if_neg k5] at hQ; exact hQ), fun k5 => hP _ (by rw [if_pos k5] at hQ; exact hQ)⟩
theorem wk_lt {T : Nat → Nat} {a n : Nat} : wk T a n ≤ 8 := by
  unfold wk
  repeat' split
  all_goals omega
/-- the text that a row holds -/
def TX (h : Hs) (r : Nat) (T : Nat → Nat) (L : Nat) : Prop := L ≤ 120 ∧ lX r = 120 ∧ ∀ i, i < L → gi h r i = nI (T i) ∧ T i < 256
theorem TX.frm {h h' : Hs} {r L : Nat} {T : Nat → Nat} {S : Nat → Prop} (x : TX h r T L) (f : frm S h h') (hr : ¬ S r) : TX h' r T L := ⟨x.1, x.2.1, fun i hi => by rw [f.1 r hr]; exact x.2.2 i hi⟩
theorem tk43 : tkS 43 := by unfold tkS; omega
theorem dgv1 {T : Nat → Nat} {a : Nat} : dgv T a 1 = T a - 48 := by
  show 10 * 0 + (T (a + 0) - 48) = _
  rw [Nat.add_zero]
  omega
theorem lv1 {T : Nat → Nat} {a : Nat} : lv T a 1 = T a := by
  show 0 * 256 + T (a + 0) = _
  rw [Nat.add_zero]
  omega
theorem s_readLetters {r L a c : Nat} {T : Nat → Nat} {a2 a3 : Int32} {h : Hs} {Q : Hs → Prop} (e2 : a2 = nI L) (e3 : a3 = nI a) (x : TX h r T L) (hr : ¬ tkS r) (ha : a < L) (hs : smB (T a) = true) (hA : gi h 43 4 = nI (a + 1)) (hc : gi h 43 3 = nI c) (hc2 : c < 121) (hQ : ∀ h', gi h' 43 3 = nI (c + 1) → gi h' 43 4 = nI (ru smB T L (a + 1)) → gi h' 44 c = nI a → gi h' 45 c = nI (wk T a (ru smB T L (a + 1) - a)) → gi h' 46 c = nI 0 → (∀ i, i ≠ c → gi h' 44 i = gi h 44 i ∧ gi h' 45 i = gi h 45 i ∧ gi h' 46 i = gi h 46 i) → frm tkS h h' → Q h') : p_Tokens_readLetters r a2 a3 h Q := by
  subst e2 e3
  have hL := x.1
  unfold p_Tokens_readLetters
  rw [x.2.1, nI_clamp (by omega), (x.2.2 a ha).1, nI_l (by have := (x.2.2 a ha).2; omega)]
  refine ⟨vp_in_nI (by omega) (by omega), ?_⟩
  intro x4 ex4 P hP
  subst ex4
  have hE := ru_le (p := smB) (T := T) (L := L) (i := a + 1) (by omega)
  have hG := ru_ge (p := smB) (T := T) (L := L) (i := a + 1)
  have hT : ∀ j, j < ru smB T L (a + 1) - a → 97 ≤ T (a + j) ∧ T (a + j) ≤ 122 := fun j hj => by
    by_cases e : j = 0
    · subst e
      rw [Nat.add_zero]
      exact smB_iff.mp hs
    · exact smB_iff.mp (ru_all (p := smB) (T := T) (L := L) (i := a + 1) (by omega) (by omega))
  have key : ∀ (k j : Nat) (g : Hs), L - j = k → a + 1 ≤ j → j ≤ L → ru smB T L j = ru smB T L (a + 1) → gi g 43 4 = nI j → (∀ q i, (q ≠ 43 ∨ i ≠ 4) → gi g q i = gi h q i) → frm tkS h g → P (lN (lv T a (j - a))) g := by
    intro k
    induction k with
    | zero =>
      intro j g hk h1 h2 h3 h4 h5 h6
      have hj : j = L := by omega
      subst hj
      rw [ru_end (Nat.le_refl _)] at h3
      apply hP
      intro P54 h54
      rw [h4]
      refine ⟨fun _ => h54 ?_, fun c2 => absurd (nI_le (Nat.le_refl _) (by omega)) c2⟩
      refine s_wordOf rfl (by rw [← h3] at hT; exact hT) (by omega) (s_keep (by rw [h5 43 3 (by omega)]; exact hc) hc2 (fun h' y1 y2 y3 y4 y5 y6 y7 => hQ h' y1 (by rw [y2, h4, ← h3]) y3 (by rw [y4, ← h3]) (by rw [y5, nI_0]) (fun i hi => ?_) (h6.trans y7)))
      have := y6 i hi
      rw [h5 44 i (by omega), h5 45 i (by omega), h5 46 i (by omega)] at this
      exact this
    | succ k ih =>
      intro j g hk h1 h2 h3 h4 h5 h6
      apply hP
      intro P54 h54
      have xg := x.frm h6 hr
      have hj := xg.2.2 j (by omega)
      rw [h4, nI_clamp (show j < 2 ^ 31 by omega), hj.1]
      refine ⟨fun c2 => absurd ((nI_leI (by omega) (by omega)).mp c2) (by omega), fun _ => ⟨vp_in_nI (by omega) (by omega), ?_⟩⟩
      refine s_isLetter rfl hj.2 (fun hy => ⟨fun c2 => absurd c2 (by decide), fun _ => ⟨vp_in_nI (by omega) (by omega), ?_⟩⟩) (fun hn => ⟨fun _ => h54 ?_, fun c2 => absurd rfl c2⟩)
      · intro x39 e39 h48 e48
        rw [nI_l (by have := hj.2; omega), lN_or8 hj.2] at e39
        rw [nI_1] at e48
        have e9 : lv T a (j - a) * 256 + T j = lv T a (j + 1 - a) := by
          have e : j + 1 - a = (j - a) + 1 := by omega
          rw [e]
          show _ = lv T a (j - a) * 256 + T (a + (j - a))
          rw [show a + (j - a) = j by omega]
        rw [e9] at e39
        rw [e39]
        refine ih (j + 1) h48 (by omega) (by omega) (by omega) ?_ (by rw [e48, gi_s]) (fun q i hqi => ?_) (h6.trans (e48 ▸ frm.si tk43))
        · rw [← ru_yes (by omega) hy]
          exact h3
        · rw [e48, gi_if, if_neg (by omega)]
          exact h5 q i hqi
      · rw [ru_no hn] at h3
        refine s_wordOf rfl (by rw [← h3] at hT; exact hT) (by omega) (s_keep (by rw [h5 43 3 (by omega)]; exact hc) hc2 (fun h' y1 y2 y3 y4 y5 y6 y7 => hQ h' y1 (by rw [y2, h4, ← h3]) y3 (by rw [y4, ← h3]) (by rw [y5, nI_0]) (fun i hi => ?_) (h6.trans y7)))
        have := y6 i hi
        rw [h5 44 i (by omega), h5 45 i (by omega), h5 46 i (by omega)] at this
        exact this
  have := key _ (a + 1) h rfl (Nat.le_refl _) (by omega) rfl hA (fun _ _ _ => rfl) frm.refl
  rw [show a + 1 - a = 1 by omega, lv1] at this
  exact this
theorem nI_sub48 {v t : Nat} (h : 48 ≤ t) : (10 : Int32) * nI v + nI t - 48 = nI (10 * v + (t - 48)) := by
  have e : (10 : Int32) * nI v = nI (10 * v) := pk_mul 10 v
  have e2 : nI (10 * v + t) - 48 = nI (10 * v + t - 48) := pk_sub (b := 48) (by omega)
  rw [e, nI_add, e2, Nat.add_sub_assoc h]
theorem s_readFigures {r L a c : Nat} {T : Nat → Nat} {a2 a3 : Int32} {h : Hs} {Q : Hs → Prop} (e2 : a2 = nI L) (e3 : a3 = nI a) (x : TX h r T L) (hr : ¬ tkS r) (ha : a < L) (hs : fgB (T a) = true) (hA : gi h 43 4 = nI (a + 1)) (hc : gi h 43 3 = nI c) (hc2 : c < 121) (hQ : ∀ h', gi h' 43 3 = nI (c + 1) → gi h' 43 4 = nI (ru fgB T L (a + 1)) → gi h' 44 c = nI a → gi h' 45 c = nI (if ru fgB T L (a + 1) - a ≤ 3 then 1 else 3) → gi h' 46 c = nI (dgv T a (if ru fgB T L (a + 1) - a ≤ 3 then ru fgB T L (a + 1) - a else 3)) → (∀ i, i ≠ c → gi h' 44 i = gi h 44 i ∧ gi h' 45 i = gi h 45 i ∧ gi h' 46 i = gi h 46 i) → frm tkS h h' → Q h') : p_Tokens_readFigures r a2 a3 h Q := by
  subst e2 e3
  have hL := x.1
  unfold p_Tokens_readFigures
  have hs' := fgB_iff.mp hs
  have e48 : nI (T a) - 48 = nI (T a - 48) := pk_sub (b := 48) (by omega)
  rw [x.2.1, nI_clamp (by omega), (x.2.2 a ha).1, e48]
  refine ⟨vp_in_nI (by omega) (by omega), ?_⟩
  intro x4 ex4 P hP
  subst ex4
  have key : ∀ (k j : Nat) (g : Hs), L - j = k → a + 1 ≤ j → j ≤ L → ru fgB T L j = ru fgB T L (a + 1) → gi g 43 4 = nI j → (∀ q i, (q ≠ 43 ∨ i ≠ 4) → gi g q i = gi h q i) → frm tkS h g → P (nI (dgv T a (if j - a ≤ 3 then j - a else 3))) g := by
    intro k
    have fin : ∀ (j : Nat) (g : Hs), a + 1 ≤ j → j ≤ L → j = ru fgB T L (a + 1) → gi g 43 4 = nI j → (∀ q i, (q ≠ 43 ∨ i ≠ 4) → gi g q i = gi h q i) → frm tkS h g → ∀ P_85 : Int32 → Prop, (∀ (t2_85 : Int32), (p_Tokens_keep (nI a) t2_85 (nI (dgv T a (if j - a ≤ 3 then j - a else 3))) g (fun h_87 => Q h_87)) → P_85 t2_85) → (3 < ((gi g 43 4) - nI a) → (P_85 3)) ∧ (¬ 3 < ((gi g 43 4) - nI a) → (P_85 1)) := by
      intro j g h1 h2 h3 h4 h5 h6 P85 h85
      rw [h4, pk_sub (by omega)]
      have go : ∀ z : Nat, z = (if j - a ≤ 3 then 1 else 3) → P85 (nI z) := fun z hz => by
        apply h85
        refine s_keep (by rw [h5 43 3 (by omega)]; exact hc) hc2 (fun h' y1 y2 y3 y4 y5 y6 y7 => hQ h' y1 (by rw [y2, h4, ← h3]) y3 (by rw [y4, ← h3, hz]) (by rw [y5, ← h3]) (fun i hi => ?_) (h6.trans y7))
        have := y6 i hi
        rw [h5 44 i (by omega), h5 45 i (by omega), h5 46 i (by omega)] at this
        exact this
      refine ⟨fun c => ?_, fun c => ?_⟩
      · have := (nI_ltI (a := 3) (by omega) (by omega)).mp c
        exact go 3 (by rw [if_neg (by omega)])
      · have : ¬ 3 < j - a := fun y => c ((nI_ltI (a := 3) (by omega) (by omega)).mpr y)
        exact go 1 (by rw [if_pos (by omega)])
    induction k with
    | zero =>
      intro j g hk h1 h2 h3 h4 h5 h6
      have hj : j = L := by omega
      subst hj
      rw [ru_end (Nat.le_refl _)] at h3
      apply hP
      intro P68 h68
      have F := fin j g h1 h2 h3 h4 h5 h6
      refine ⟨fun _ => h68 F, fun c2 => absurd (by rw [h4]; exact nI_le (Nat.le_refl _) (by omega)) c2⟩
    | succ k ih =>
      intro j g hk h1 h2 h3 h4 h5 h6
      apply hP
      intro P68 h68
      have xg := x.frm h6 hr
      have hj := xg.2.2 j (by omega)
      have F := fin j g h1 h2
      rw [h4, nI_clamp (show j < 2 ^ 31 by omega), hj.1]
      refine ⟨fun c2 => absurd ((nI_leI (by omega) (by omega)).mp c2) (by omega), fun _ => ⟨vp_in_nI (by omega) (by omega), ?_⟩⟩
      refine s_isFigure rfl hj.2 (fun hy => ⟨fun c2 => absurd c2 (by decide), fun _ => ?_⟩) (fun hn => ⟨fun _ => h68 (F (by rw [ru_no hn] at h3; exact h3) h4 h5 h6), fun c2 => absurd rfl c2⟩)
      have hy' := fgB_iff.mp hy
      intro P55 h55
      have nxt : P55 (nI (dgv T a (if j + 1 - a ≤ 3 then j + 1 - a else 3))) := by
        apply h55
        intro h62 e62
        rw [nI_1] at e62
        refine ih (j + 1) h62 (by omega) (by omega) (by omega) ?_ (by rw [e62, gi_s]) (fun q i hqi => ?_) (h6.trans (e62 ▸ frm.si tk43))
        · rw [← ru_yes (by omega) hy]
          exact h3
        · rw [e62, gi_if, if_neg (by omega)]
          exact h5 q i hqi
      rw [pk_sub (by omega)]
      refine ⟨fun c => ?_, fun c => ⟨vp_in_nI (by omega) (by omega), ?_⟩⟩
      · have := (nI_leI (a := 3) (by omega) (by omega)).mp c
        rw [if_neg (show ¬ j + 1 - a ≤ 3 by omega)] at nxt
        have e9 : (if j - a ≤ 3 then j - a else 3) = 3 := by split <;> omega
        rw [e9]
        exact nxt
      · have : ¬ 3 ≤ j - a := fun y => c ((nI_leI (a := 3) (by omega) (by omega)).mpr y)
        intro x53 e53
        rw [nI_sub48 hy'.1] at e53
        rw [if_pos (show j - a ≤ 3 by omega)] at e53
        rw [if_pos (show j + 1 - a ≤ 3 by omega)] at nxt
        have e9 : 10 * dgv T a (j - a) + (T j - 48) = dgv T a (j + 1 - a) := by
          rw [show j + 1 - a = (j - a) + 1 by omega]
          show _ = 10 * dgv T a (j - a) + (T (a + (j - a)) - 48)
          rw [show a + (j - a) = j by omega]
        rw [e53, e9]
        exact nxt
  have := key _ (a + 1) h rfl (Nat.le_refl _) (by omega) rfl hA (fun _ _ _ => rfl) frm.refl
  rw [show a + 1 - a = 1 by omega, if_pos (by omega), dgv1] at this
  exact this
