/-! ===== days of a ship; no machine ===== -/
def fre (n : Nat → Int32) (d : Nat) : Bool := decide (60 ≤ d ∨ n (611 + d) = 0)
def db (n : Nat → Int32) : Nat → Nat → Nat → Nat
  | 0, d, _ => d
  | f + 1, d, k => if k = 0 then d else db n f (d + 1) (if fre n d = true then k - 1 else k)
def dyB (n : Nat → Int32) (d k : Nat) : Nat := db n ((60 - d) + k) d k
theorem db_fuel (n : Nat → Int32) : ∀ f d k, (60 - d) + k ≤ f → db n f d k = db n ((60 - d) + k) d k
  | 0, d, k, h => by rw [show (60 - d) + k = 0 by omega]
  | f + 1, d, k, h => by
    by_cases k0 : k = 0
    · subst k0
      show (if (0 : Nat) = 0 then d else _) = _
      rw [if_pos rfl]
      cases hq : 60 - d + 0 with
      | zero => rfl
      | succ q =>
        show d = (if (0 : Nat) = 0 then d else _)
        rw [if_pos rfl]
    · obtain ⟨j, hj⟩ : ∃ j, (60 - d) + k = j + 1 := ⟨(60 - d) + k - 1, by omega⟩
      rw [hj]
      show (if k = 0 then d else db n f (d + 1) (if fre n d = true then k - 1 else k)) = (if k = 0 then d else db n j (d + 1) (if fre n d = true then k - 1 else k))
      rw [if_neg k0, if_neg k0]
      have hm : (60 - (d + 1)) + (if fre n d = true then k - 1 else k) ≤ j := by
        by_cases c : fre n d = true
        · rw [if_pos c]
          omega
        · rw [if_neg c]
          have : ¬ 60 ≤ d := fun z => c (decide_eq_true (Or.inl z))
          omega
      rw [db_fuel n f (d + 1) _ (by omega)]
      by_cases e : j ≤ f
      · rcases Nat.lt_or_ge j (f + 1) with y | y
        · rw [db_fuel n j (d + 1) _ hm]
        · omega
      · omega
theorem dyB_0 {n : Nat → Int32} {d : Nat} : dyB n d 0 = d := by
  unfold dyB
  cases 60 - d + 0 with
  | zero => rfl
  | succ q =>
    show (if (0 : Nat) = 0 then d else _) = d
    rw [if_pos rfl]
theorem dyB_s {n : Nat → Int32} {d k : Nat} : dyB n d (k + 1) = dyB n (d + 1) (if fre n d = true then k else k + 1) := by
  unfold dyB
  show (if k + 1 = 0 then d else db n ((60 - d) + k) (d + 1) (if fre n d = true then k + 1 - 1 else k + 1)) = _
  rw [if_neg (by omega), Nat.add_sub_cancel]
  refine db_fuel n _ _ _ ?_
  by_cases c : fre n d = true
  · rw [if_pos c]
    omega
  · rw [if_neg c]
    have : ¬ 60 ≤ d := fun z => c (decide_eq_true (Or.inl z))
    omega
theorem dyB_60 {n : Nat → Int32} : ∀ {k d : Nat}, 60 ≤ d → dyB n d k = d + k
  | 0, d, _ => dyB_0
  | k + 1, d, h => by
    rw [dyB_s, if_pos (show fre n d = true from decide_eq_true (Or.inl h)), dyB_60 (by omega)]
    omega
theorem dyB_ind {n : Nat → Int32} : ∀ (f d k : Nat), (60 - d) + k ≤ f → d + k ≤ dyB n d k ∧ dyB n d k ≤ (if d ≤ 60 then 60 else d) + k ∧ dyB n d k ≤ dyB n d (k + 1)
  | f, d, 0, _ => by
    rw [dyB_0]
    refine ⟨Nat.le_refl _, by split <;> omega, ?_⟩
    by_cases c : fre n d = true
    · rw [dyB_s, if_pos c, dyB_0]
      omega
    · have h60 : ¬ 60 ≤ d := fun z => c (decide_eq_true (Or.inl z))
      -- a storm: go on to a later day
      have key : ∀ m e, 60 - e = m → e ≤ dyB n e 1 := by
        intro m
        induction m with
        | zero =>
          intro e he
          rw [dyB_60 (by omega)]
          omega
        | succ m ih =>
          intro e he
          rw [dyB_s]
          split
          · rw [dyB_0]
            omega
          · have := ih (e + 1) (by omega)
            show e ≤ dyB n (e + 1) (0 + 1)
            rw [Nat.zero_add]
            omega
      exact key _ d rfl
  | 0, d, k + 1, h => by omega
  | f + 1, d, k + 1, h => by
    by_cases c : fre n d = true
    · rw [dyB_s (k := k), dyB_s (k := k + 1), if_pos c, if_pos c]
      obtain ⟨a, b, e⟩ := dyB_ind f (d + 1) k (by omega)
      refine ⟨by omega, ?_, e⟩
      by_cases z : d ≤ 60
      · rw [if_pos z]
        by_cases z2 : d + 1 ≤ 60
        · rw [if_pos z2] at b
          omega
        · rw [if_neg z2] at b
          omega
      · rw [if_neg z]
        rw [if_neg (by omega)] at b
        omega
    · have h60 : ¬ 60 ≤ d := fun z => c (decide_eq_true (Or.inl z))
      rw [dyB_s (k := k), dyB_s (k := k + 1), if_neg c, if_neg c]
      obtain ⟨a, b, e⟩ := dyB_ind f (d + 1) (k + 1) (by omega)
      refine ⟨by omega, ?_, e⟩
      rw [if_pos (by omega)]
      rw [if_pos (by omega)] at b
      exact b
theorem dyB_ge {n : Nat → Int32} {d k : Nat} : d + k ≤ dyB n d k := (dyB_ind _ d k (Nat.le_refl _)).1
theorem dyB_le {n : Nat → Int32} {d k : Nat} : dyB n d k ≤ (if d ≤ 60 then 60 else d) + k := (dyB_ind _ d k (Nat.le_refl _)).2.1
theorem dyB_m1 {n : Nat → Int32} {d k : Nat} : dyB n d k ≤ dyB n (d + 1) k := by
  cases k with
  | zero =>
    rw [dyB_0, dyB_0]
    omega
  | succ k =>
    rw [dyB_s]
    split
    · exact (dyB_ind _ (d + 1) k (Nat.le_refl _)).2.2
    · exact Nat.le_refl _
theorem dyB_mono {n : Nat → Int32} {d k : Nat} : ∀ {e : Nat}, dyB n d k ≤ dyB n (d + e) k
  | 0 => Nat.le_refl _
  | e + 1 => Nat.le_trans dyB_mono dyB_m1
def wy (n : Nat → Int32) (p q : Nat) : Nat := nn (n (575 + 6 * p + q))
/-- the day at q, when one is at p on a day (both one more than the day; 0: never) -/
def eE (n : Nat → Int32) (x p q : Nat) : Nat := dyB n (x - 1) (wy n p q) + 1
theorem eE_mono {n : Nat → Int32} {x y p q : Nat} (h : x ≤ y) : eE n x p q ≤ eE n y p q := by
  unfold eE
  obtain ⟨e, he⟩ : ∃ e, y - 1 = (x - 1) + e := ⟨(y - 1) - (x - 1), by omega⟩
  rw [he]
  have := dyB_mono (n := n) (d := x - 1) (k := wy n p q) (e := e)
  omega
theorem eE_gt {n : Nat → Int32} {x p q : Nat} (hx : x ≠ 0) (hw : 0 < wy n p q) : x < eE n x p q := by
  have := dyB_ge (n := n) (d := x - 1) (k := wy n p q)
  unfold eE
  omega
theorem eE_le {n : Nat → Int32} {x p q B : Nat} (hB : 61 ≤ B) (hx : x ≤ B) (hw : wy n p q ≤ 20) : eE n x p q ≤ B + 20 := by
  have := dyB_le (n := n) (d := x - 1) (k := wy n p q)
  unfold eE
  split at this <;> omega
/-- what a ship's first days are -/
def SHP (n : Nat → Int32) (a day : Nat) (f ρ : Nat → Nat) : Prop := f a = day + 1 ∧ (∀ q, f q ≠ 0 → q < nP n ∧ f q ≤ 2000 ∧ ρ q < 6) ∧ (∀ p q, f p ≠ 0 → q < nP n → 0 < wy n p q → f q ≠ 0 ∧ f q ≤ eE n (f p) p q) ∧ (∀ q, f q ≠ 0 → q ≠ a → ∃ p, f p ≠ 0 ∧ ρ p < ρ q ∧ 0 < wy n p q ∧ f q = eE n (f p) p q)
theorem SHP.back {n : Nat → Int32} {a b day day2 : Nat} {f ρ f2 ρ2 : Nat → Nat} (R : RG n) (S : SHP n a day f ρ) (S2 : SHP n b day2 f2 ρ2) (h : f b ≠ 0) : f2 a ≠ 0 := by
  have hp := R.pl.2
  have key : ∀ r q, ρ q = r → f q ≠ 0 → f2 q ≠ 0 → f2 a ≠ 0 := by
    intro r
    induction r using Nat.strongRecOn with
    | _ r ih =>
      intro q hr hq h2
      by_cases e : q = a
      · rw [← e]
        exact h2
      · obtain ⟨p, p1, p2, p3, p4⟩ := S.2.2.2 q hq e
        have pp := (S.2.1 p p1).1
        have qp := (S.2.1 q hq).1
        have sy : wy n q p = wy n p q := by
          unfold wy
          rw [(R.da q (by unfold nP at qp; omega) p (by unfold nP at pp; omega)).2.1]
        exact ih (ρ p) (by omega) p rfl p1 (S2.2.2.1 q p h2 pp (by rw [sy]; exact p3)).1
  exact key _ b rfl h (by rw [S2.1]; omega)
theorem sumN_all {s : Nat → Nat} : ∀ {k : Nat}, (∀ i, i < k → s i ≤ 1) → sumN s k = k → ∀ i, i < k → s i = 1
  | k + 1, h, hs, i, hi => by
    have h1 : sumN s k ≤ k * 1 := sumN_le (fun j hj => h j (by omega))
    rw [sumN_s] at hs
    have h2 := h k (by omega)
    by_cases e : i = k
    · subst e
      omega
    · exact sumN_all (k := k) (fun j hj => h j (by omega)) (by omega) i (by omega)
/-- the state of the search -/
def DI (n : Nat → Int32) (a day i : Nat) (f s ρ : Nat → Nat) : Prop :=
  f a = day + 1 ∧ (∀ p, s p ≤ 1) ∧ (∀ p, s p = 1 → p < nP n ∧ f p ≠ 0 ∧ ρ p < i) ∧ (∀ q, f q ≠ 0 → q < nP n ∧ f q ≤ 1101 + 20 * i) ∧
  (∀ p q, s p = 1 → q < nP n → 0 < wy n p q → f q ≠ 0 ∧ f q ≤ eE n (f p) p q) ∧
  (∀ p q, s p = 1 → s q = 0 → f q ≠ 0 → f p ≤ f q) ∧
  (∀ q, f q ≠ 0 → q ≠ a → ∃ p, s p = 1 ∧ (s q = 1 → ρ p < ρ q) ∧ 0 < wy n p q ∧ f q = eE n (f p) p q) ∧
  (sumN s 6 = i ∨ ∀ q, f q ≠ 0 → s q = 1)
def rlx (n : Nat → Int32) (f s : Nat → Nat) (b k q : Nat) : Nat := if q < k ∧ 0 < wy n b q ∧ s q = 0 ∧ (f q = 0 ∨ eE n (f b) b q < f q) then eE n (f b) b q else f q
def st1 (s : Nat → Nat) (b q : Nat) : Nat := if q = b then 1 else s q
theorem rlx_le {n : Nat → Int32} {f s : Nat → Nat} {b k q : Nat} (h : f q ≠ 0) : rlx n f s b k q ≠ 0 ∧ rlx n f s b k q ≤ f q := by
  unfold rlx
  split
  · rename_i c
    unfold eE at c ⊢
    omega
  · exact ⟨h, Nat.le_refl _⟩
theorem rlx_set {n : Nat → Int32} {f s : Nat → Nat} {b k q : Nat} (h : s q = 1) : rlx n f s b k q = f q := if_neg (by omega)
theorem sum_st1 {s : Nat → Nat} {b : Nat} (hb : s b = 0) : ∀ {k : Nat}, b < k → sumN (st1 s b) k = sumN s k + 1
  | k + 1, h => by
    rw [sumN_s, sumN_s]
    by_cases e : b = k
    · subst e
      have : sumN (st1 s b) b = sumN s b := sumN_congr (fun i hi => if_neg (by omega))
      rw [this, show st1 s b b = 1 from if_pos rfl, hb]
    · rw [sum_st1 hb (by omega), show st1 s b k = s k from if_neg (fun z => e z.symm)]
      omega
theorem DI.step {n : Nat → Int32} {a day i b : Nat} {f s ρ : Nat → Nat} (R : RG n) (D : DI n a day i f s ρ) (hb : s b = 0) (fb : f b ≠ 0) (hmin : ∀ q, s q = 0 → f q ≠ 0 → f b ≤ f q) : DI n a day (i + 1) (rlx n f (st1 s b) b (nP n)) (st1 s b) (fun q => if q = b then i else ρ q) := by
  obtain ⟨d0, d1, d2, d3, d4, d5, d6, d7⟩ := D
  have hp6 := R.pl.2
  have bp := (d3 b fb).1
  have b6 : b < 6 := by unfold nP at bp; omega
  have wl : ∀ p q, p < nP n → q < nP n → wy n p q ≤ 20 := fun p q h1 h2 => (R.da p (by unfold nP at h1; omega) q (by unfold nP at h2; omega)).1.2
  have sb : st1 s b b = 1 := if_pos rfl
  have so : ∀ q, q ≠ b → st1 s b q = s q := fun q hq => if_neg hq
  have fs : ∀ q, st1 s b q = 1 → rlx n f (st1 s b) b (nP n) q = f q := fun q hq => rlx_set hq
  -- a relaxed one
  have rel : ∀ q, rlx n f (st1 s b) b (nP n) q ≠ f q → q < nP n ∧ 0 < wy n b q ∧ st1 s b q = 0 ∧ rlx n f (st1 s b) b (nP n) q = eE n (f b) b q := by
    intro q hq
    by_cases c : q < nP n ∧ 0 < wy n b q ∧ st1 s b q = 0 ∧ (f q = 0 ∨ eE n (f b) b q < f q)
    · exact ⟨c.1, c.2.1, c.2.2.1, if_pos c⟩
    · exact absurd (if_neg c) hq
  have sa : st1 s b a = 1 ∨ st1 s b a = 0 := by
    have : st1 s b a ≤ 1 := by unfold st1; split; omega; exact d1 a
    omega
  refine ⟨?_, fun p => by unfold st1; split; omega; exact d1 p, fun p hp => ?_, fun q hq => ?_, fun p q hp hq hw => ?_, fun p q hp hq hf => ?_, fun q hq hqa => ?_, ?_⟩
  · -- the start is never bettered
    by_cases c : rlx n f (st1 s b) b (nP n) a = f a
    · rw [c, d0]
    · obtain ⟨r1, r2, r3, r4⟩ := rel a c
      have ab : a ≠ b := fun e => by rw [e, sb] at r3; omega
      have sa0 : s a = 0 := by rw [← so a ab]; exact r3
      have hle := rlx_le (n := n) (f := f) (s := st1 s b) (b := b) (k := nP n) (q := a) (by rw [d0]; omega)
      have h1 := hmin a sa0 (by rw [d0]; omega)
      have h2 := eE_gt fb r2
      rw [r4] at hle
      -- f b is no earlier than the start
      have key : ∀ r q, ρ q = r → s q = 1 → f a ≤ f q := by
        intro r
        induction r using Nat.strongRecOn with
        | _ r ih =>
          intro q hr hq
          by_cases e : q = a
          · rw [e]
            exact Nat.le_refl _
          · obtain ⟨p, p1, p2, p3, p4⟩ := d6 q (d2 q hq).2.1 e
            have := ih (ρ p) (by have := p2 hq; omega) p rfl p1
            have := eE_gt (d2 p p1).2.1 p3
            omega
      have fab : f a ≤ f b := by
        obtain ⟨p, p1, p2, p3, p4⟩ := d6 b fb (fun e => ab e.symm)
        have := key _ p rfl p1
        have := eE_gt (d2 p p1).2.1 p3
        omega
      omega
  · by_cases e : p = b
    · subst e
      rw [fs p hp]
      refine ⟨bp, fb, ?_⟩
      show (if p = p then i else ρ p) < i + 1
      rw [if_pos rfl]
      omega
    · rw [fs p hp]
      rw [so p e] at hp
      refine ⟨(d2 p hp).1, (d2 p hp).2.1, ?_⟩
      show (if p = b then i else ρ p) < i + 1
      rw [if_neg e]
      have := (d2 p hp).2.2
      omega
  · by_cases c : rlx n f (st1 s b) b (nP n) q = f q
    · rw [c] at hq ⊢
      have := d3 q hq
      exact ⟨this.1, by omega⟩
    · obtain ⟨r1, r2, r3, r4⟩ := rel q c
      rw [r4]
      have h1 := eE_le (n := n) (x := f b) (p := b) (q := q) (B := 1101 + 20 * i) (by omega) (d3 b fb).2 (wl b q bp r1)
      exact ⟨r1, by omega⟩
  · rw [fs p hp]
    by_cases e : p = b
    · subst e
      by_cases sq : st1 s p q = 1
      · rw [fs q sq]
        by_cases e2 : q = p
        · subst e2
          exact ⟨fb, Nat.le_of_lt (eE_gt fb hw)⟩
        · rw [so q e2] at sq
          have h1 := d5 q p sq hb fb
          have h2 := eE_gt fb hw
          exact ⟨(d2 q sq).2.1, by omega⟩
      · have sq0 : st1 s p q = 0 := by
          have : st1 s p q ≤ 1 := by unfold st1; split; omega; exact d1 q
          omega
        unfold rlx
        by_cases c : f q = 0 ∨ eE n (f p) p q < f q
        · rw [if_pos ⟨hq, hw, sq0, c⟩]
          exact ⟨by unfold eE; omega, Nat.le_refl _⟩
        · rw [if_neg (fun z => c z.2.2.2)]
          exact ⟨by omega, by omega⟩
    · rw [so p e] at hp
      obtain ⟨h1, h2⟩ := d4 p q hp hq hw
      have h3 := rlx_le (n := n) (s := st1 s b) (b := b) (k := nP n) h1
      exact ⟨h3.1, by omega⟩
  · rw [fs p hp]
    have qb : q ≠ b := fun e => by rw [e, sb] at hq; omega
    rw [so q qb] at hq
    have fpb : f p ≤ f b := by
      by_cases e : p = b
      · rw [e]
        exact Nat.le_refl _
      · rw [so p e] at hp
        exact d5 p b hp hb fb
    by_cases c : rlx n f (st1 s b) b (nP n) q = f q
    · rw [c] at hf ⊢
      have := hmin q hq hf
      omega
    · obtain ⟨r1, r2, r3, r4⟩ := rel q c
      rw [r4]
      have := eE_gt fb r2
      omega
  · by_cases c : rlx n f (st1 s b) b (nP n) q = f q
    · rw [c] at hq
      obtain ⟨p, p1, p2, p3, p4⟩ := d6 q hq hqa
      have pb : p ≠ b := fun e => by rw [e, hb] at p1; omega
      refine ⟨p, by rw [so p pb]; exact p1, fun z => ?_, p3, by rw [c, fs p (by rw [so p pb]; exact p1)]; exact p4⟩
      show (if p = b then i else ρ p) < (if q = b then i else ρ q)
      rw [if_neg pb]
      by_cases e : q = b
      · rw [if_pos e]
        exact (d2 p p1).2.2
      · rw [if_neg e]
        rw [so q e] at z
        exact p2 z
    · obtain ⟨r1, r2, r3, r4⟩ := rel q c
      refine ⟨b, sb, fun z => by omega, r2, by rw [r4, fs b sb]⟩
  · rcases d7 with y | y
    · left
      rw [sum_st1 hb b6, y]
    · have := y b fb
      omega
theorem DI.stay {n : Nat → Int32} {a day i : Nat} {f s ρ : Nat → Nat} (D : DI n a day i f s ρ) (h : ∀ q, s q = 0 → f q = 0) : DI n a day (i + 1) f s ρ := by
  obtain ⟨d0, d1, d2, d3, d4, d5, d6, d7⟩ := D
  refine ⟨d0, d1, fun p hp => ?_, fun q hq => ?_, d4, d5, d6, Or.inr (fun q hq => ?_)⟩
  · have := d2 p hp
    exact ⟨this.1, this.2.1, by omega⟩
  · have := d3 q hq
    exact ⟨this.1, by omega⟩
  · have := d1 q
    rcases (show s q = 0 ∨ s q = 1 by omega) with e | e
    · exact absurd (h q e) hq
    · exact e
theorem DI.end {n : Nat → Int32} {a day : Nat} {f s ρ : Nat → Nat} (R : RG n) (D : DI n a day (nP n) f s ρ) : SHP n a day f ρ := by
  have hp6 := R.pl.2
  obtain ⟨d0, d1, d2, d3, d4, d5, d6, d7⟩ := D
  have all : ∀ q, f q ≠ 0 → s q = 1 := by
    rcases d7 with y | y
    · intro q hq
      have hz : ∀ j, nP n ≤ j → j < nP n + (6 - nP n) → s j = 0 := fun j h1 _ => by
        have := d1 j
        rcases (show s j = 0 ∨ s j = 1 by omega) with e | e
        · exact e
        · have := (d2 j e).1
          omega
      have h2 := sumN_zero (f := s) (k := nP n) (6 - nP n) hz
      rw [show nP n + (6 - nP n) = 6 by unfold nP; omega, y] at h2
      exact sumN_all (fun i _ => d1 i) h2.symm q (d3 q hq).1
    · exact y
  refine ⟨d0, fun q hq => ⟨(d3 q hq).1, by have := (d3 q hq).2; unfold nP at this; omega, by have := (d2 q (all q hq)).2.2; unfold nP at this; omega⟩, fun p q hp hq hw => d4 p q (all p hp) hq hw, fun q hq hqa => ?_⟩
  obtain ⟨p, p1, p2, p3, p4⟩ := d6 q hq hqa
  exact ⟨p, (d2 p p1).2.1, p2 (all q hq), p3, p4⟩
