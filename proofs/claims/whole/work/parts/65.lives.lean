/-! ===== the row's numbers by their names; the class reads all stories ===== -/
theorem RG.pl {n : Nat → Int32} (R : RG n) : n 671 = nI (nn (n 671)) ∧ nn (n 671) ≤ 6 := R.1
theorem RG.lo {n : Nat → Int32} (R : RG n) : n 672 = nI (nn (n 672)) ∧ nn (n 672) ≤ 4 := R.2.1
theorem RG.sg {n : Nat → Int32} (R : RG n) : n 673 = nI (nn (n 673)) ∧ nn (n 673) ≤ 6 := R.2.2.1
theorem RG.te {n : Nat → Int32} (R : RG n) : n 674 = nI (nn (n 674)) ∧ nn (n 674) ≤ 6 := R.2.2.2.1
theorem RG.fe {n : Nat → Int32} (R : RG n) : ∀ i, i < 6 → rg 200 (n i) := R.2.2.2.2.1
theorem RG.ra {n : Nat → Int32} (R : RG n) : ∀ i, i < 10 → rg 9 (n (6 + i)) := R.2.2.2.2.2.1
theorem RG.pe {n : Nat → Int32} (R : RG n) : ∀ i, i < 4 → rg 60 (n (16 + i)) := R.2.2.2.2.2.2.1
theorem RG.pu {n : Nat → Int32} (R : RG n) : ∀ i, i < 2 → rg 9 (n (20 + i)) := R.2.2.2.2.2.2.2.1
theorem RG.ea {n : Nat → Int32} (R : RG n) : ∀ i, i < 4 → rg 999 (n (22 + i)) ∧ 1 ≤ nn (n (22 + i)) := R.2.2.2.2.2.2.2.2.1
theorem RG.ca {n : Nat → Int32} (R : RG n) : ∀ i, i < 4 → rg 9 (n (26 + i)) := R.2.2.2.2.2.2.2.2.2.1
theorem RG.pr {n : Nat → Int32} (R : RG n) : ∀ i, i < 4 → rg 9 (n (30 + i)) := R.2.2.2.2.2.2.2.2.2.2.1
theorem RG.ln {n : Nat → Int32} (R : RG n) : ∀ s, s < 4 → rg 120 (n (34 + 121 * s)) := R.2.2.2.2.2.2.2.2.2.2.2.1
theorem RG.tx {n : Nat → Int32} (R : RG n) : ∀ s, s < 4 → ∀ i, i < 120 → rg 255 (n (35 + 121 * s + i)) := R.2.2.2.2.2.2.2.2.2.2.2.2.1
theorem RG.si {n : Nat → Int32} (R : RG n) : ∀ s, s < 6 → rg 5 (n (518 + 4 * s)) ∧ rg 3 (n (518 + 4 * s + 1)) ∧ rg 9 (n (518 + 4 * s + 2)) ∧ rg 10 (n (518 + 4 * s + 3)) := R.2.2.2.2.2.2.2.2.2.2.2.2.2.1
theorem RG.po {n : Nat → Int32} (R : RG n) : rg 1 (n 542) ∧ (n 543 = -1 ∨ rg 5 (n 543)) ∧ rg 1 (n 544) := R.2.2.2.2.2.2.2.2.2.2.2.2.2.2.1
theorem RG.tl {n : Nat → Int32} (R : RG n) : ∀ t, t < 6 → rg 5 (n (545 + 5 * t)) ∧ rg 3 (n (545 + 5 * t + 1)) ∧ rg 119 (n (545 + 5 * t + 2)) ∧ rg 7 (n (545 + 5 * t + 3)) ∧ rg 9 (n (545 + 5 * t + 4)) := R.2.2.2.2.2.2.2.2.2.2.2.2.2.2.2.1
theorem RG.tl2 {n : Nat → Int32} (R : RG n) : ∀ t, t < nn (n 674) → nn (n (545 + 5 * t + 1)) < nn (n 672) := R.2.2.2.2.2.2.2.2.2.2.2.2.2.2.2.2.1
theorem RG.da {n : Nat → Int32} (R : RG n) : ∀ p, p < 6 → ∀ q, q < 6 → rg 20 (n (575 + 6 * p + q)) ∧ n (575 + 6 * p + q) = n (575 + 6 * q + p) ∧ (nn (n 671) ≤ p ∨ nn (n 671) ≤ q → n (575 + 6 * p + q) = 0) := R.2.2.2.2.2.2.2.2.2.2.2.2.2.2.2.2.2.1
theorem RG.sm {n : Nat → Int32} (R : RG n) : ∀ d, d < 60 → rg 1 (n (611 + d)) := R.2.2.2.2.2.2.2.2.2.2.2.2.2.2.2.2.2.2
def nP (n : Nat → Int32) : Nat := nn (n 671)
def nLo (n : Nat → Int32) : Nat := nn (n 672)
def nSg (n : Nat → Int32) : Nat := nn (n 673)
def nTe (n : Nat → Int32) : Nat := nn (n 674)
def tT (n : Nat → Int32) (s i : Nat) : Nat := if i < 120 then nn (n (35 + 121 * s + i)) else 0
theorem tT_i {n : Nat → Int32} {s i : Nat} (h : i < 120) : tT n s i = nn (n (35 + 121 * s + i)) := if_pos h
def tL (n : Nat → Int32) (s : Nat) : Nat := nn (n (34 + 121 * s))
def sto (n : Nat → Int32) (s : Nat) : Option Nat × Nat × Nat × (Nat → Nat) := story (tT n s) (tL n s) (nP n)
def fd (n : Nat → Int32) (p y : Nat) : Nat := nn (n p) * nn (n (6 + y)) / 5
def ppl (n : Nat → Int32) (l : Nat) : Nat := nn (n (16 + l))
def MS (g : Hs) (n : Nat → Int32) : Prop := ∀ k, k < 675 → gi g 1 k = n k
theorem lX_text : ∀ s, s < 4 → lX (16 + s) = 120 ∧ lX (59 + 3 * s + 2) = 6 := by decide +kernel
theorem fd_eq {n : Nat → Int32} {p y : Nat} {a b : Int32} (R : RG n) (hp : p < 6) (hy : y < 10) (ea : a = n p) (eb : b = n (6 + y)) : a * b / 5 = nI (fd n p y) ∧ fd n p y ≤ 360 := by
  have r1 := R.fe p hp
  have r2 := R.ra y hy
  have h2 := Nat.mul_le_mul r1.2 r2.2
  have h3 : fd n p y ≤ 360 := by
    unfold fd
    omega
  refine ⟨?_, h3⟩
  rw [ea, eb, r1.1, r2.1, nI_mul]
  exact pk_div (d := 5) (by omega) (by omega) (by omega)
theorem XS.tx {h : Hs} {n : Nat → Int32} (X : XS h 3 n) (R : RG n) {s : Nat} (hs : s < 4) : gi h 14 s = nI (tL n s) ∧ TX h (16 + s) (tT n s) (tL n s) := by
  have hl := R.ln s hs
  have e : gi h 14 s = n (34 + 121 * s) := X.rd (by omega) (c_leng s hs)
  refine ⟨e.trans hl.1, hl.2, (lX_text s hs).1, fun i hi => ?_⟩
  have hi2 : i < 120 := Nat.lt_of_lt_of_le hi hl.2
  have ht := R.tx s hs i hi2
  have e2 : gi h (16 + s) i = n (35 + 121 * s + i) := by
    have := X.rd (by omega) (c_text s hs i hi2)
    rw [show 3 + (13 + s) = 16 + s by omega] at this
    exact this
  rw [tT_i hi2]
  exact ⟨e2.trans ht.1, by have h1 := ht.2; omega⟩
theorem XS.pl {h : Hs} {n : Nat → Int32} (X : XS h 3 n) (R : RG n) : gi h 3 0 = nI (nP n) ∧ nP n ≤ 6 := ⟨(X.rd (k := 671) (by omega) (c_many 0 (by omega))).trans R.pl.1, R.pl.2⟩
theorem XS.lo {h : Hs} {n : Nat → Int32} (X : XS h 3 n) (R : RG n) : gi h 3 1 = nI (nLo n) ∧ nLo n ≤ 4 := ⟨(X.rd (k := 672) (by omega) (c_many 1 (by omega))).trans R.lo.1, R.lo.2⟩
theorem XS.sg {h : Hs} {n : Nat → Int32} (X : XS h 3 n) (R : RG n) : gi h 3 2 = nI (nSg n) ∧ nSg n ≤ 6 := ⟨(X.rd (k := 673) (by omega) (c_many 2 (by omega))).trans R.sg.1, R.sg.2⟩
theorem XS.te {h : Hs} {n : Nat → Int32} (X : XS h 3 n) (R : RG n) : gi h 3 3 = nI (nTe n) ∧ nTe n ≤ 6 := ⟨(X.rd (k := 674) (by omega) (c_many 3 (by omega))).trans R.te.1, R.te.2⟩
def QU (h : Hs) (m : Nat) : Prop := ¬ m % 12 = 0 ∧ ∀ s, s < 4 → gi h (60 + 3 * s) m = gi h (60 + 3 * s) (m - 1)
def TUR (h : Hs) : Prop := ∃ (c : Nat) (tu : Nat → Nat), c ≤ 120 ∧ gi h 2 5 = nI c ∧ tu 0 = 0 ∧ tu c = 120 ∧ (∀ i, i < c → gi h 49 i = nI (tu i) ∧ tu i < 120) ∧ (∀ i, i < c → tu i < tu (i + 1) ∧ ∀ m, tu i < m → m < tu (i + 1) → QU h m)
theorem s_moves {k : Nat} {a1 : Int32} {h : Hs} {Q : Int32 → Prop} (e : a1 = nI k) (hk : k < 120) (h1 : Q 1) (h0 : (∀ s, s < 4 → 0 < k → gi h (60 + 3 * s) k = gi h (60 + 3 * s) (k - 1)) → Q 0) : p_Lives_someoneMoves a1 h Q := by
  subst e
  unfold p_Lives_someoneMoves
  intro P hP
  refine lq1 (fun j => ∀ s, s < j → 0 < k → gi h (60 + 3 * s) k = gi h (60 + 3 * s) (k - 1)) 4 (fun s hs => by omega) (fun hI => hP _ (bY (nI_le (a := 4) (b := 4) (by omega) (by omega)) (h0 hI))) (fun j hj hI nx => hP _ (bN (nI_ge (b := 4) hj (by omega)) ⟨vp_in_nI hj (by omega), fun P34 h34 => ?_⟩))
  have go : (0 < k → gi h (60 + 3 * j) k = gi h (60 + 3 * j) (k - 1)) → P34 := fun hh => h34 (fun a2 ea => by
    subst ea
    rw [nI_1]
    exact nx (fun s hs => by
      by_cases e : s = j
      · subst e
        exact hh
      · exact hI s (by omega)))
  rw [nI_clamp (show j < 2 ^ 31 by omega), nI_clamp (show k < 2 ^ 31 by omega), show 59 + 3 * j + 1 = 60 + 3 * j by omega]
  refine ble (b := 0) rfl nI_lit0 (by omega) (by omega) (fun z => go (by omega)) (fun z => ⟨vp_in_nI hk (by omega), ?_⟩)
  rw [show nI k - 1 = nI (k - 1) from pk_sub (b := 1) (by omega), nI_clamp (show k - 1 < 2 ^ 31 by omega)]
  exact ⟨vp_in_nI (by omega) (by omega), fun e => go (fun _ => e), fun _ => h1⟩
def tuS : Nat → Prop := fun c => c = 2 ∨ c = 49
theorem rem12 {k : Nat} (h : k < 2 ^ 31) : nI k - nI k / 12 * 12 = nI (k % 12) := pk_rem (d := 12) h (by omega) (by omega)
def TI (h : Hs) (k : Nat) (g : Hs) : Prop := (∃ (c : Nat) (tu : Nat → Nat), c ≤ k ∧ gi g 2 5 = nI c ∧ (0 < k → 0 < c) ∧ tu 0 = 0 ∧ tu c = k ∧ (∀ i, i < c → gi g 49 i = nI (tu i) ∧ tu i < 120) ∧ (∀ i, i < c → tu i < tu (i + 1) ∧ ∀ m, tu i < m → m < tu (i + 1) → QU h m)) ∧ frm tuS h g ∧ (∀ j, j ≠ 5 → gi g 2 j = gi h 2 j)
theorem s_findTurns {h : Hs} {Q : Hs → Prop} (hQ : ∀ h', TUR h' → frm tuS h h' → (∀ j, j ≠ 5 → gi h' 2 j = gi h 2 j) → Q h') : p_Lives_findTurns h Q := by
  unfold p_Lives_findTurns
  intro h2 e2 P hP
  have t2 : tuS 2 := Or.inl rfl
  have t49 : tuS 49 := Or.inr rfl
  refine lpH (TI h) 120 ?_ ?_ ?_
  · refine ⟨⟨0, fun _ => 0, Nat.le_refl _, ?_, fun q => q, rfl, rfl, fun i hi => by omega, fun i hi => by omega⟩, e2 ▸ frm.si t2, fun j hj => by rw [e2, gi_k hj]⟩
    rw [e2, gi_s]
    rfl
  · intro g hI
    refine hP _ _ (bY (nI_le (a := 120) (b := 120) (by omega) (by omega)) ?_)
    obtain ⟨⟨c, tu, u1, u2, u3, u4, u5, u6, u7⟩, f, u8⟩ := hI
    refine hQ g ⟨c, tu, u1, u2, u4, u5, u6, fun i hi => ⟨(u7 i hi).1, fun m m1 m2 => ?_⟩⟩ f u8
    obtain ⟨q1, q2⟩ := (u7 i hi).2 m m1 m2
    refine ⟨q1, fun s hs => ?_⟩
    rw [f.1 _ (by unfold tuS; omega), f.1 _ (by unfold tuS; omega)]
    exact q2 s hs
  · intro k g hk hI nx
    obtain ⟨⟨c, tu, u1, u2, u3, u4, u5, u6, u7⟩, f, u8⟩ := hI
    refine hP _ _ (bN (nI_ge (b := 120) hk (by omega)) (fun P48 h48 P28 h28 => ?_))
    have go48 : ∀ g', TI h (k + 1) g' → P48 g' := fun g' hh => h48 g' (fun a1 ea => by
      subst ea
      rw [nI_1]
      exact nx g' hh)
    have yes : P28 := by
      apply h28
      rw [u2]
      refine ⟨vp_in_nI (by omega) (by omega), fun h37 e37 h45 e45 => go48 h45 ⟨⟨c + 1, fun i => if i = c + 1 then k + 1 else tu i, by omega, ?_, fun _ => by omega, ?_, if_pos rfl, fun i hi => ?_, fun i hi => ?_⟩, ?_, fun j hj => ?_⟩⟩
      · rw [e45, gi_s, e37, gi_c (by omega), u2, nI_1]
      · show (if 0 = c + 1 then k + 1 else tu 0) = 0
        rw [if_neg (by omega)]
        exact u4
      · show gi h45 49 i = nI (if i = c + 1 then k + 1 else tu i) ∧ (if i = c + 1 then k + 1 else tu i) < 120
        rw [if_neg (by omega), e45, gi_c (by omega), e37, nI_clamp (by omega)]
        by_cases e : i = c
        · subst e
          rw [gi_s, u5]
          exact ⟨rfl, hk⟩
        · rw [gi_k e]
          exact u6 i (by omega)
      · show (if i = c + 1 then k + 1 else tu i) < (if i + 1 = c + 1 then k + 1 else tu (i + 1)) ∧ ∀ m, (if i = c + 1 then k + 1 else tu i) < m → m < (if i + 1 = c + 1 then k + 1 else tu (i + 1)) → QU h m
        rw [if_neg (by omega)]
        by_cases e : i = c
        · subst e
          rw [if_pos rfl, u5]
          exact ⟨by omega, fun m m1 m2 => by omega⟩
        · rw [if_neg (by omega)]
          exact u7 i (by omega)
      · exact f.trans ((e37 ▸ frm.si t49 : frm tuS g h37).trans (e45 ▸ frm.si t2))
      · rw [e45, gi_k hj, e37, gi_c (by omega)]
        exact u8 j hj
    have no : QU h k → P48 g := fun q => by
      have k0 : 0 < k := by
        rcases Nat.eq_zero_or_pos k with y | y
        · subst y
          exact absurd rfl q.1
        · exact y
      have c0 := u3 k0
      refine go48 g ⟨⟨c, fun i => if i = c then k + 1 else tu i, by omega, u2, fun _ => c0, ?_, if_pos rfl, fun i hi => ?_, fun i hi => ?_⟩, f, u8⟩
      · show (if 0 = c then k + 1 else tu 0) = 0
        rw [if_neg (by omega)]
        exact u4
      · show gi g 49 i = nI (if i = c then k + 1 else tu i) ∧ (if i = c then k + 1 else tu i) < 120
        rw [if_neg (by omega)]
        exact u6 i hi
      · show (if i = c then k + 1 else tu i) < (if i + 1 = c then k + 1 else tu (i + 1)) ∧ ∀ m, (if i = c then k + 1 else tu i) < m → m < (if i + 1 = c then k + 1 else tu (i + 1)) → QU h m
        rw [if_neg (by omega)]
        obtain ⟨w1, w2⟩ := u7 i hi
        by_cases e : i + 1 = c
        · rw [if_pos e]
          rw [e, u5] at w1 w2
          refine ⟨by omega, fun m m1 m2 => ?_⟩
          by_cases e2 : m = k
          · subst e2
            exact q
          · exact w2 m m1 (by omega)
        · rw [if_neg e]
          exact ⟨w1, w2⟩
    rw [rem12 (by omega)]
    refine beq (b := 0) rfl nI_lit0 (by omega) (by omega) (fun _ => yes) (fun z => ?_)
    refine s_moves rfl hk (bN one0 yes) (fun hh => bY rfl (no ⟨z, fun s hs => ?_⟩))
    have := hh s hs (by omega)
    rw [f.1 _ (by unfold tuS; omega), f.1 _ (by unfold tuS; omega)] at this
    exact this
def LO (h : Hs) (n : Nat → Int32) : Prop := (∀ s, s < 4 → TALE h (59 + 3 * s) (tT n s) (tL n s) (nP n)) ∧ (∀ p, p < nP n → ∀ y, y < 10 → gi h (53 + p) y = nI (fd n p y)) ∧ TUR h
def lvS : Nat → Prop := fun c => c = 2 ∨ (43 ≤ c ∧ c ≤ 70)
theorem lvS_3 {c : Nat} (h1 : 3 ≤ c) (h2 : c < 43) : ¬ lvS c := by unfold lvS; omega
theorem XS.frm {S : Nat → Prop} {h h' : Hs} {o : Nat} {n : Nat → Int32} (x : XS h o n) (f : frm S h h') (hS : ∀ c, o ≤ c → c < o + 40 → ¬ S c) : XS h' o n := x.keep (fun c h1 h2 j => f.1 c (hS c h1 h2) j)
theorem s_Lrefresh {n : Nat → Int32} {h : Hs} {Q : Hs → Prop} (X : XS h 3 n) (R : RG n) (hc : gi h 2 9 = 0 ∨ LO h n) (hQ : ∀ h', LO h' n → gi h' 2 9 ≠ 0 → frm lvS h h' → Q h') : p_Lives_refresh h Q := by
  unfold p_Lives_refresh
  refine ⟨fun _ => ?_, fun z => hQ h (hc.resolve_left z) z frm.refl⟩
  intro h10 e10 P15 h15
  have f10 : frm lvS h h10 := e10 ▸ frm.si (Or.inl rfl)
  have s9 : gi h10 2 9 = 1 := by rw [e10, gi_s]
  have XL : ∀ g, frm lvS h g → XS g 3 n := fun g f => X.frm f (fun c h1 h2 => lvS_3 h1 (by omega))
  refine lpH (fun k g => (∀ s, s < k → TALE g (59 + 3 * s) (tT n s) (tL n s) (nP n)) ∧ gi g 2 9 = 1 ∧ frm lvS h g) 4 ⟨fun s hs => by omega, s9, f10⟩ ?_ ?_
  · intro g hI
    obtain ⟨T0, g9, f⟩ := hI
    refine h15 _ _ (bY (nI_le (a := 4) (b := 4) (by omega) (by omega)) (fun P73 h73 => ?_))
    have p0 := (XL g f).pl R
    refine lpH (fun k g => (∀ s, s < 4 → TALE g (59 + 3 * s) (tT n s) (tL n s) (nP n)) ∧ (∀ p, p < k → ∀ y, y < 10 → gi g (53 + p) y = nI (fd n p y)) ∧ gi g 2 9 = 1 ∧ frm lvS h g) (nP n) ⟨T0, fun p hp => by omega, g9, f⟩ ?_ ?_
    · intro g1 hI1
      obtain ⟨T1, F1, g91, f1⟩ := hI1
      refine h73 _ _ (bY (by rw [((XL g1 f1).pl R).1]; exact nI_le (Nat.le_refl _) (by omega)) ?_)
      refine s_findTurns (fun h' tu ft t9 => hQ h' ⟨fun s hs => (T1 s hs).frm ft (by unfold tuS; omega) (by unfold tuS; omega) (by unfold tuS; omega), fun p hp y hy => ?_, tu⟩ ?_ (f1.trans (ft.mono (fun c hc => by unfold tuS at hc; unfold lvS; omega))))
      · rw [ft.1 _ (by unfold tuS; omega)]
        exact F1 p hp y hy
      · rw [t9 9 (by omega), g91]
        exact one0
    · intro k g1 hk hI1 nx1
      obtain ⟨T1, F1, g91, f1⟩ := hI1
      refine h73 _ _ (bN (by rw [((XL g1 f1).pl R).1]; exact nI_ge hk (by omega)) (fun P86 h86 => ?_))
      refine lpH (fun j g => (∀ s, s < 4 → TALE g (59 + 3 * s) (tT n s) (tL n s) (nP n)) ∧ (∀ p, p < k → ∀ y, y < 10 → gi g (53 + p) y = nI (fd n p y)) ∧ (∀ y, y < j → gi g (53 + k) y = nI (fd n k y)) ∧ gi g 2 9 = 1 ∧ frm lvS h g) 10 ⟨T1, F1, fun y hy => by omega, g91, f1⟩ ?_ ?_
      · intro g2 hI2
        obtain ⟨T2, F2, G2, g92, f2⟩ := hI2
        refine h86 _ _ (bY (nI_le (a := 10) (b := 10) (by omega) (by omega)) (fun a1 ea => ?_))
        subst ea
        rw [nI_1]
        refine nx1 g2 ⟨T2, fun p hp y hy => ?_, g92, f2⟩
        by_cases e : p = k
        · subst e
          exact G2 y hy
        · exact F2 p (by omega) y hy
      · intro j g2 hj hI2 nx2
        obtain ⟨T2, F2, G2, g92, f2⟩ := hI2
        have X2 := XL g2 f2
        refine h86 _ _ (bN (nI_ge (b := 10) hj (by omega)) ⟨vp_in_nI (by omega) (by omega), ?_⟩)
        unfold p_State_feedsIn
        rw [nI_clamp (show k < 2 ^ 31 by omega), nI_clamp (show j < 2 ^ 31 by omega)]
        have hq := fd_eq R (show k < 6 by omega) hj (X2.rd (k := k) (by omega) (c_feed k (by omega))) (X2.rd (k := 6 + j) (by omega) (c_rain j (by omega)))
        refine ⟨vp_in_nI (by omega) (by omega), vp_in_nI hj (by omega), vp_in_nI hj (by omega), fun h108 e108 a2 ea => ?_⟩
        subst ea
        rw [nI_1]
        have e108' : h108 = si g2 (53 + k) j (nI (fd n k j)) := by
          rw [e108, show 52 + 1 + 1 * k = 53 + k by omega]
          congr 1
          exact hq.1
        have f108 : frm (fun c => c = 53 + k) g2 h108 := e108' ▸ frm.si rfl
        refine nx2 h108 ⟨fun s hs => (T2 s hs).frm f108 (by omega) (by omega) (by omega), fun p hp y hy => ?_, fun y hy => ?_, ?_, f2.trans (f108.mono (fun c hc => by unfold lvS; omega))⟩
        · rw [e108', gi_c (by omega)]
          exact F2 p hp y hy
        · rw [e108']
          by_cases e : y = j
          · subst e
            rw [gi_s]
          · rw [gi_k e]
            exact G2 y (by omega)
        · rw [e108', gi_c (by omega)]
          exact g92
  · intro k g hk hI nx
    obtain ⟨T0, g9, f⟩ := hI
    have X0 := XL g f
    have tx := X0.tx R hk
    refine h15 _ _ (bN (nI_ge (b := 4) hk (by omega)) ⟨vp_in_nI hk (by omega), vp_in_nI hk (by omega), ?_⟩)
    rw [nI_clamp (show k < 2 ^ 31 by omega), show 15 + 1 + 1 * k = 16 + k by omega]
    refine s_tokread tx.1 tx.2 (by unfold tkS; omega) (fun h42 c K42 f42 => ⟨vp_in_nI hk (by omega), ?_⟩)
    have f42' : frm lvS g h42 := f42.mono (fun c hc => by unfold tkS at hc; unfold lvS; omega)
    have X42 := XL h42 (f.trans f42')
    refine s_tread (X42.pl R).1 (X42.pl R).2 (by omega) tx.2.1 K42 (lX_text k hk).2 (fun h62 t62 f62 a1 ea => ?_)
    subst ea
    rw [nI_1]
    refine nx h62 ⟨fun s hs => ?_, ?_, (f.trans f42').trans (f62.mono (fun c hc => by unfold tS3 at hc; unfold lvS; omega))⟩
    · by_cases e : s = k
      · subst e
        exact t62
      · refine ((T0 s (by omega)).frm f42 (by unfold tkS; omega) (by unfold tkS; omega) (by unfold tkS; omega)).frm f62 ?_ ?_ ?_ <;> (unfold tS3; omega)
    · rw [f62.1 2 (by unfold tS3; omega), f42.1 2 (by unfold tkS; omega)]
      exact g9
