/-! ===== sums, products, years; no machine ===== -/
def sumN (f : Nat → Nat) : Nat → Nat
  | 0 => 0
  | k + 1 => sumN f k + f k
def prdN (f : Nat → Nat) : Nat → Nat
  | 0 => 1
  | k + 1 => prdN f k * f k
theorem sumN_s (f : Nat → Nat) (k : Nat) : sumN f (k + 1) = sumN f k + f k := rfl
theorem prdN_s (f : Nat → Nat) (k : Nat) : prdN f (k + 1) = prdN f k * f k := rfl
theorem sumN_congr {f g : Nat → Nat} : ∀ {k : Nat}, (∀ i, i < k → f i = g i) → sumN f k = sumN g k
  | 0, _ => rfl
  | k + 1, h => by rw [sumN_s, sumN_s, sumN_congr (fun i hi => h i (by omega)), h k (by omega)]
theorem prdN_congr {f g : Nat → Nat} : ∀ {k : Nat}, (∀ i, i < k → f i = g i) → prdN f k = prdN g k
  | 0, _ => rfl
  | k + 1, h => by rw [prdN_s, prdN_s, prdN_congr (fun i hi => h i (by omega)), h k (by omega)]
theorem sumN_le {f : Nat → Nat} {b : Nat} : ∀ {k : Nat}, (∀ i, i < k → f i ≤ b) → sumN f k ≤ k * b
  | 0, _ => by rw [Nat.zero_mul]; exact Nat.le_refl _
  | k + 1, h => by
    rw [sumN_s, Nat.succ_mul]
    exact Nat.add_le_add (sumN_le (fun i hi => h i (by omega))) (h k (by omega))
theorem sumN_mono {f g : Nat → Nat} : ∀ {k : Nat}, (∀ i, i < k → f i ≤ g i) → sumN f k ≤ sumN g k
  | 0, _ => Nat.le_refl _
  | k + 1, h => by
    rw [sumN_s, sumN_s]
    exact Nat.add_le_add (sumN_mono (fun i hi => h i (by omega))) (h k (by omega))
theorem sumN_add {f g : Nat → Nat} : ∀ {k : Nat}, sumN (fun i => f i + g i) k = sumN f k + sumN g k
  | 0 => rfl
  | k + 1 => by
    rw [sumN_s, sumN_s, sumN_s, sumN_add]
    omega
theorem sumN_mulr {f : Nat → Nat} {c : Nat} : ∀ {k : Nat}, sumN (fun i => f i * c) k = sumN f k * c
  | 0 => by rw [show sumN f 0 = 0 from rfl, Nat.zero_mul]; rfl
  | k + 1 => by rw [sumN_s, sumN_s, sumN_mulr, Nat.add_mul]
theorem sumN_ext {f : Nat → Nat} {k : Nat} : ∀ d, sumN f k ≤ sumN f (k + d)
  | 0 => Nat.le_refl _
  | d + 1 => by
    rw [← Nat.add_assoc, sumN_s]
    exact Nat.le_trans (sumN_ext d) (Nat.le_add_right _ _)
theorem sumN_upto {f : Nat → Nat} {k m : Nat} (h : k ≤ m) : sumN f k ≤ sumN f m := by
  have := sumN_ext (f := f) (k := k) (m - k)
  rw [show k + (m - k) = m by omega] at this
  exact this
theorem sumN_cnt {W : Nat → Nat} {p c : Nat} : ∀ k, sumN (fun m => if W m = p then c else 0) k = c * cnt W p k
  | 0 => rfl
  | k + 1 => by
    rw [sumN_s, sumN_cnt k]
    show c * cnt W p k + _ = c * (cnt W p k + _)
    rw [Nat.mul_add]
    congr 1
    split
    · rw [Nat.mul_one]
    · rw [Nat.mul_zero]
/-- some of k months from a on -/
def anyF (H : Nat → Bool) (a : Nat) : Nat → Bool
  | 0 => false
  | k + 1 => anyF H a k || H (a + k)
def b2 (b : Bool) : Nat := if b = true then 1 else 0
theorem b2_le {b : Bool} : b2 b ≤ 1 := by unfold b2; split <;> omega
def yc (H : Nat → Bool) (Y : Nat) : Nat := sumN (fun y => b2 (anyF H (12 * y) 12)) Y
def cM (H : Nat → Bool) (M : Nat) : Nat := yc H (M / 12) + b2 (anyF H (12 * (M / 12)) (M % 12))
def g2 (H : Nat → Bool) (m : Nat) : Bool := anyF H (12 * (m / 12)) (m % 12 + 1)
def g1 (H : Nat → Bool) (m : Nat) : Nat := yc H (m / 12) + b2 (g2 H m)
theorem g2_eq (H : Nat → Bool) (m : Nat) : g2 H m = (anyF H (12 * (m / 12)) (m % 12) || H m) := by
  show (anyF H (12 * (m / 12)) (m % 12) || H (12 * (m / 12) + m % 12)) = _
  rw [show 12 * (m / 12) + m % 12 = m by omega]
theorem quiet1 {H : Nat → Bool} {m : Nat} (h1 : ¬ (m + 1) % 12 = 0) (h2 : H (m + 1) = H m) : g2 H (m + 1) = g2 H m ∧ g1 H (m + 1) = g1 H m := by
  have e1 : (m + 1) / 12 = m / 12 := by omega
  have e2 : (m + 1) % 12 = m % 12 + 1 := by omega
  have e : g2 H (m + 1) = g2 H m := by
    rw [g2_eq H (m + 1), e1, e2, h2]
    show (g2 H m || H m) = g2 H m
    rw [g2_eq]
    cases anyF H (12 * (m / 12)) (m % 12) <;> cases H m <;> rfl
  refine ⟨e, ?_⟩
  unfold g1
  rw [e, e1]
theorem quietN {H : Nat → Bool} {M : Nat} : ∀ d, (∀ m, M < m → m ≤ M + d → ¬ m % 12 = 0 ∧ H m = H (m - 1)) → g2 H (M + d) = g2 H M ∧ g1 H (M + d) = g1 H M
  | 0, _ => ⟨rfl, rfl⟩
  | d + 1, h => by
    have h1 := quietN d (fun m a b => h m a (by omega))
    have h2 := h (M + d + 1) (by omega) (by omega)
    have h3 := quiet1 h2.1 h2.2
    rw [← Nat.add_assoc]
    exact ⟨h3.1.trans h1.1, h3.2.trans h1.2⟩
theorem cM_succ {H : Nat → Bool} {m : Nat} : cM H (m + 1) = g1 H m ∧ (¬ (m + 1) % 12 = 0 → anyF H (12 * ((m + 1) / 12)) ((m + 1) % 12) = g2 H m) := by
  by_cases h : (m + 1) % 12 = 0
  · refine ⟨?_, fun x => absurd h x⟩
    unfold cM g1 g2
    rw [h, show (m + 1) / 12 = m / 12 + 1 by omega, show m % 12 + 1 = 12 by omega]
    show yc H (m / 12) + b2 (anyF H (12 * (m / 12)) 12) + 0 = _
    rw [Nat.add_zero]
  · have e1 : (m + 1) / 12 = m / 12 := by omega
    have e2 : (m + 1) % 12 = m % 12 + 1 := by omega
    unfold cM g1 g2
    rw [e1, e2]
    exact ⟨rfl, fun _ => rfl⟩
theorem cM_next {H : Nat → Bool} {M M' : Nat} (hM : M < M') (h : ∀ m, M < m → m < M' → ¬ m % 12 = 0 ∧ H m = H (m - 1)) : cM H M' = g1 H M ∧ (¬ M' % 12 = 0 → anyF H (12 * (M' / 12)) (M' % 12) = g2 H M) := by
  have h1 := quietN (H := H) (M := M) (M' - M - 1) (fun m a b => h m a (by omega))
  have h2 := cM_succ (H := H) (m := M' - 1)
  rw [show M' - 1 + 1 = M' by omega] at h2
  rw [show M + (M' - M - 1) = M' - 1 by omega] at h1
  rw [h1.1, h1.2] at h2
  exact h2
theorem g1_cM {H : Nat → Bool} {M : Nat} : g1 H M = cM H M + b2 (! anyF H (12 * (M / 12)) (M % 12) && H M) := by
  unfold g1 cM
  rw [g2_eq]
  cases anyF H (12 * (M / 12)) (M % 12) <;> cases H M <;> rfl
theorem cM_120 {H : Nat → Bool} : cM H 120 = yc H 10 := by
  unfold cM
  rw [show 120 / 12 = 10 from rfl, show 120 % 12 = 0 from rfl, show b2 (anyF H (12 * 10) 0) = 0 from rfl, Nat.add_zero]
theorem cM_0 {H : Nat → Bool} : cM H 0 = 0 := by
  unfold cM
  rw [show 0 / 12 = 0 from rfl, show 0 % 12 = 0 from rfl]
  rfl
theorem anyF_iff {H : Nat → Bool} {a : Nat} : ∀ {k : Nat}, anyF H a k = true → ∃ m, a ≤ m ∧ m < a + k ∧ H m = true
  | 0, h => absurd (show false = true from h) (by decide)
  | k + 1, h => by
    have h2 : (anyF H a k || H (a + k)) = true := h
    rw [Bool.or_eq_true] at h2
    rcases h2 with h2 | h2
    · obtain ⟨m, m1, m2, m3⟩ := anyF_iff h2
      exact ⟨m, m1, by omega, m3⟩
    · exact ⟨a + k, by omega, by omega, h2⟩
/-- what the worlds are made of -/
def Wh (n : Nat → Int32) (s m : Nat) : Nat := (sto n s).2.2.2 m
def snd (n : Nat → Int32) (s : Nat) : Prop := (sto n s).1 = none
def hd (n : Nat → Int32) (ch : Nat → Nat) (p m : Nat) : Nat := sumN (fun l => if Wh n (ch l) m = p then ppl n l else 0) (nLo n)
def hH (n : Nat → Int32) (ch : Nat → Nat) (p m : Nat) : Bool := decide (fd n p (m / 12) < hd n ch p m)
def hun (n : Nat → Int32) (ch : Nat → Nat) : Nat := sumN (fun p => yc (hH n ch p) 10) (nP n)
def mon (n : Nat → Int32) (ch : Nat → Nat) (p : Nat) : Nat := sumN (fun l => ppl n l * cnt (Wh n (ch l)) p 120) (nLo n)
def min20 (x : Nat) : Nat := if 20 < x then 20 else x
def lf (n : Nat → Int32) (ch : Nat → Nat) (p k : Nat) : Nat := min20 (mon n ch p / nn (n (22 + k)))
theorem min20_le {x : Nat} : min20 x ≤ 20 := by unfold min20; split <;> omega
def evr (n : Nat → Int32) : Nat := sumN (ppl n) (nLo n)
def most (n : Nat → Int32) : Nat := sumN (fun p => sumN (fun y => b2 (decide (fd n p y < evr n))) 10) (nP n)
theorem par_le {K V : Nat → Nat} {pl : Nat} (hp : pl ≤ 6) : ∀ (f i la hr wd cr : Nat) (W : Nat → Nat), (∀ m, W m ≤ 7) → hr ≤ 7 → wd ≤ 6 → cr ≤ 1 → (∀ m, (par K V pl f i la hr wd cr W).2.2.2 m ≤ 7) ∧ (par K V pl f i la hr wd cr W).2.1 ≤ 6 ∧ (par K V pl f i la hr wd cr W).2.2.1 ≤ 1 := by
  intro f
  induction f with
  | zero => intro i la hr wd cr W hW h1 h2 h3; exact ⟨hW, h2, h3⟩
  | succ f ih =>
    intro i la hr wd cr W hW h1 h2 h3
    show (∀ m, (if K i = 0 then _ else _ : Option Nat × Nat × Nat × (Nat → Nat)).2.2.2 m ≤ 7) ∧ (if K i = 0 then _ else _ : Option Nat × Nat × Nat × (Nat → Nat)).2.1 ≤ 6 ∧ (if K i = 0 then _ else _ : Option Nat × Nat × Nat × (Nat → Nat)).2.2.1 ≤ 1
    by_cases h0 : K i = 0
    · simp only [if_pos h0]
      exact ⟨hW, h2, h3⟩
    · simp only [if_neg h0]
      cases hF : itF K V pl i la hr wd cr with
      | some j => exact ⟨hW, h2, h3⟩
      | none =>
        have hHr : (K i = 4 ∨ K i = 5 ∨ K i = 6) → itHr K V i 0 ≤ 7 := fun hk => by
          unfold itHr
          unfold itF at hF
          rw [if_pos hk] at hF
          by_cases k4 : K i = 4
          · rw [if_pos k4]
            rw [if_pos k4] at hF
            repeat' split at hF
            all_goals first | omega | (simp at hF)
          · rw [if_neg k4]
            repeat' split
            all_goals omega
        refine ih _ _ _ _ _ _ (fun m => ?_) ?_ ?_ ?_
        · unfold itW
          split
          · rename_i hk
            unfold lay
            split
            · exact hHr hk
            · exact hW m
          · exact hW m
        · by_cases hk : K i = 4 ∨ K i = 5 ∨ K i = 6
          · have e : itHr K V i hr = itHr K V i 0 := by
              unfold itHr
              repeat' split
              all_goals first | rfl | omega
            rw [e]
            exact hHr hk
          · unfold itHr
            rw [if_neg (by omega), if_neg (by omega), if_neg (by omega)]
            exact h1
        · unfold itWd
          split
          · rename_i k7
            unfold itF at hF
            rw [if_neg (by omega)] at hF
            repeat' split at hF
            all_goals first | omega | (simp at hF)
          · exact h2
        · unfold itCr
          split <;> omega
theorem Wh_le {n : Nat → Int32} (R : RG n) (s m : Nat) : Wh n s m ≤ 7 := (par_le R.pl.2 _ _ _ _ _ _ _ (fun _ => Nat.zero_le _) (Nat.zero_le _) (Nat.zero_le _) (Nat.zero_le _)).1 m
theorem wd_le {n : Nat → Int32} (R : RG n) (s : Nat) : (sto n s).2.1 ≤ 6 ∧ (sto n s).2.2.1 ≤ 1 := (par_le R.pl.2 _ _ _ _ _ _ _ (fun _ => Nat.zero_le _) (Nat.zero_le _) (Nat.zero_le _) (Nat.zero_le _)).2
theorem ppl_le {n : Nat → Int32} (R : RG n) {l : Nat} (h : l < 4) : ppl n l ≤ 60 := (R.pe l h).2
theorem hd_le {n : Nat → Int32} {ch : Nat → Nat} {p m : Nat} : hd n ch p m ≤ evr n := sumN_mono (fun i _ => by show (if Wh n (ch i) m = p then ppl n i else 0) ≤ ppl n i; split <;> omega)
theorem evr_le {n : Nat → Int32} (R : RG n) : evr n ≤ 240 := by
  have h1 := R.lo.2
  have h2 : evr n ≤ nLo n * 60 := sumN_le (fun i hi => ppl_le R (by unfold nLo at hi; omega))
  unfold nLo at h2
  omega
theorem mon_le {n : Nat → Int32} (R : RG n) {ch : Nat → Nat} {p j : Nat} (hj : j ≤ 4) : sumN (fun l => ppl n l * cnt (Wh n (ch l)) p 120) j ≤ 28800 := by
  have h2 : sumN (fun l => ppl n l * cnt (Wh n (ch l)) p 120) j ≤ j * 7200 := sumN_le (fun i hi => by
    have := Nat.mul_le_mul (ppl_le R (show i < 4 by omega)) (cnt_le (W := Wh n (ch i)) (p := p) 120)
    omega)
  omega
theorem yc_le {H : Nat → Bool} {Y : Nat} : yc H Y ≤ Y := by
  have := sumN_le (f := fun y => b2 (anyF H (12 * y) 12)) (b := 1) (k := Y) (fun _ _ => b2_le)
  unfold yc
  omega
theorem hun_most {n : Nat → Int32} {ch : Nat → Nat} : hun n ch ≤ most n := sumN_mono (fun p _ => sumN_mono (fun y hy => by
  show b2 (anyF (hH n ch p) (12 * y) 12) ≤ b2 (decide (fd n p y < evr n))
  by_cases h : anyF (hH n ch p) (12 * y) 12 = true
  · obtain ⟨m, m1, m2, m3⟩ := anyF_iff h
    have h4 := of_decide_eq_true m3
    have h5 := hd_le (n := n) (ch := ch) (p := p) (m := m)
    rw [show m / 12 = y by omega] at h4
    have h6 : decide (fd n p y < evr n) = true := decide_eq_true (by omega)
    rw [h6]
    exact b2_le
  · unfold b2
    rw [if_neg h]
    exact Nat.zero_le _))
theorem most_le {n : Nat → Int32} (R : RG n) : most n ≤ 60 := by
  have h1 := R.pl.2
  have h2 : most n ≤ nP n * 10 := sumN_le (fun i hi => by
    have := sumN_le (f := fun y => b2 (decide (fd n i y < evr n))) (b := 1) (k := 10) (fun _ _ => b2_le)
    omega)
  unfold nP at h2
  omega
