/-! ===== weights as such; no machine ===== -/
def bc : Nat → Nat → Nat
  | _, 0 => 1
  | 0, _ + 1 => 0
  | x + 1, j + 1 => bc x j + bc x (j + 1)
theorem bc_0 (x : Nat) : bc x 0 = 1 := by cases x <;> rfl
theorem bc_ss (x j : Nat) : bc (x + 1) (j + 1) = bc x j + bc x (j + 1) := rfl
theorem bc_big : ∀ {x j : Nat}, x < j → bc x j = 0
  | 0, j + 1, _ => rfl
  | x + 1, j + 1, h => by rw [bc_ss, bc_big (x := x) (j := j) (by omega), bc_big (x := x) (j := j + 1) (by omega)]
theorem bc_step : ∀ {x j : Nat}, bc x (j + 1) * (j + 1) = bc x j * (x - j)
  | 0, 0 => rfl
  | 0, j + 1 => by
    show 0 * _ = 0 * _
    rw [Nat.zero_mul, Nat.zero_mul]
  | x + 1, 0 => by
    have h := bc_step (x := x) (j := 0)
    rw [bc_ss, bc_0, bc_0]
    rw [bc_0] at h
    omega
  | x + 1, j + 1 => by
    have h1 := bc_step (x := x) (j := j)
    have h2 := bc_step (x := x) (j := j + 1)
    rw [bc_ss, bc_ss]
    rcases Nat.lt_or_ge x (j + 1) with h | h
    · rw [bc_big (x := x) (j := j + 1 + 1) (by omega), bc_big (x := x) (j := j + 1) h]
      have hz : x + 1 - (j + 1) = 0 ∨ bc x j = 0 := by
        rcases Nat.lt_or_ge x j with h3 | h3
        · exact Or.inr (bc_big h3)
        · left
          omega
      rcases hz with e | e
      · rw [e]
        simp
      · rw [e]
        simp
    · have e1 : x + 1 - (j + 1) = x - j := by omega
      have e2 : x - (j + 1) + 1 = x - j := by omega
      rw [e1]
      have h3 : bc x (j + 1) * (x - j) = bc x (j + 1) * (x - (j + 1)) + bc x (j + 1) := by rw [← e2, Nat.mul_add, Nat.mul_one]
      rw [Nat.add_mul, Nat.add_mul, h3, ← h2, ← h1]
      rw [Nat.mul_add (bc x (j + 1)) (j + 1) 1, Nat.mul_one]
      omega
theorem bc_le : ∀ {x j : Nat}, bc x j ≤ 2 ^ x
  | _, 0 => by rw [bc_0]; exact Nat.one_le_two_pow
  | 0, _ + 1 => Nat.zero_le _
  | x + 1, j + 1 => by
    rw [bc_ss, Nat.pow_succ]
    have := bc_le (x := x) (j := j)
    have := bc_le (x := x) (j := j + 1)
    omega
theorem sumN_front {f : Nat → Nat} : ∀ {k : Nat}, sumN f (k + 1) = f 0 + sumN (fun i => f (i + 1)) k
  | 0 => by
    show 0 + f 0 = f 0 + 0
    omega
  | k + 1 => by
    rw [sumN_s, sumN_front, sumN_s, Nat.add_assoc]
/-- c found of x left: the class's way -/
def bf (d a : Nat) : Nat → Nat → Nat
  | 0, c => a ^ c
  | x + 1, 0 => bf d a x 0 * (10 - d)
  | x + 1, c + 1 => bf d a x (c + 1) * (10 - d) + bf d a x c * (10 * d)
def bt (d a x c j : Nat) : Nat := bc x j * (10 * d) ^ j * (10 - d) ^ (x - j) * a ^ (c - j)
theorem bf_0 (d a : Nat) : ∀ x, bf d a x 0 = (10 - d) ^ x
  | 0 => rfl
  | x + 1 => by
    show bf d a x 0 * (10 - d) = _
    rw [bf_0 d a x, Nat.pow_succ]
theorem bf_sum (d a : Nat) : ∀ x c, bf d a x c = sumN (bt d a x c) (c + 1)
  | 0, c => by
    rw [sumN_front]
    have h0 : sumN (fun i => bt d a 0 c (i + 1)) c ≤ c * 0 := sumN_le (fun i _ => by
      show bc 0 (i + 1) * _ * _ * _ ≤ 0
      rw [bc_big (by omega), Nat.zero_mul, Nat.zero_mul, Nat.zero_mul]
      exact Nat.le_refl _)
    have h1 : bt d a 0 c 0 = a ^ c := by
      unfold bt
      rw [bc_0]
      simp
    rw [h1]
    show a ^ c = _
    omega
  | x + 1, 0 => by
    rw [bf_0]
    show _ = 0 + bt d a (x + 1) 0 0
    unfold bt
    rw [bc_0]
    simp
  | x + 1, c + 1 => by
    show bf d a x (c + 1) * (10 - d) + bf d a x c * (10 * d) = _
    rw [bf_sum d a x (c + 1), bf_sum d a x c, sumN_front, sumN_front (f := bt d a (x + 1) (c + 1)), Nat.add_mul, ← sumN_mulr, ← sumN_mulr, Nat.add_assoc, ← sumN_add]
    congr 1
    · unfold bt
      rw [bc_0, bc_0]
      simp only [Nat.sub_zero, Nat.pow_zero, Nat.one_mul]
      rw [Nat.pow_succ (10 - d) x]
      simp only [Nat.mul_comm, Nat.mul_left_comm, Nat.mul_assoc]
    · refine sumN_congr (fun i hi => ?_)
      unfold bt
      rw [bc_ss, show c + 1 - (i + 1) = c - i by omega, show x + 1 - (i + 1) = x - i by omega, Nat.pow_succ (10 * d) i]
      rcases Nat.lt_or_ge x (i + 1) with h | h
      · rw [bc_big h]
        simp only [Nat.zero_mul, Nat.zero_add, Nat.add_zero]
        simp only [Nat.mul_comm, Nat.mul_left_comm, Nat.mul_assoc]
      · have e : (10 - d) ^ (x - i) = (10 - d) ^ (x - (i + 1)) * (10 - d) := by
          rw [← Nat.pow_succ]
          congr 1
          omega
        rw [e]
        generalize bc x i = A
        generalize bc x (i + 1) = B
        generalize (10 * d) ^ i = D
        generalize (10 - d) ^ (x - (i + 1)) = E
        generalize a ^ (c - i) = F
        generalize 10 - d = G
        generalize 10 * d = J
        grind
theorem bf_le {d a : Nat} (hd : d ≤ 10) (ha : a ≤ 10) : ∀ x c, bf d a x c ≤ 10 ^ (x + c)
  | 0, c => by
    rw [Nat.zero_add]
    exact Nat.pow_le_pow_left ha c
  | x + 1, 0 => by
    show bf d a x 0 * (10 - d) ≤ _
    have := Nat.mul_le_mul (bf_le hd ha x 0) (show 10 - d ≤ 10 by omega)
    rw [show x + 1 + 0 = (x + 0) + 1 by omega, Nat.pow_succ]
    exact this
  | x + 1, c + 1 => by
    show bf d a x (c + 1) * (10 - d) + bf d a x c * (10 * d) ≤ _
    have h1 := Nat.mul_le_mul (bf_le hd ha x (c + 1)) (Nat.le_refl (10 - d))
    have h2 := Nat.mul_le_mul (bf_le hd ha x c) (Nat.le_refl (10 * d))
    have e1 : 10 ^ (x + (c + 1)) = 10 ^ (x + c) * 10 := by rw [← Nat.add_assoc, Nat.pow_succ]
    have e2 : 10 ^ (x + 1 + (c + 1)) = 10 ^ (x + c) * 100 := by rw [show x + 1 + (c + 1) = x + c + 1 + 1 by omega, Nat.pow_succ, Nat.pow_succ, Nat.mul_assoc]
    rw [e2]
    rw [e1] at h1
    have h3 : 10 ^ (x + c) * 10 * (10 - d) + 10 ^ (x + c) * (10 * d) = 10 ^ (x + c) * 100 := by
      rw [Nat.mul_assoc, ← Nat.mul_add]
      congr 1
      omega
    omega
def chc (d a c x : Nat) : Nat := bf d a x c * 10 ^ (20 - x)
theorem chc_le {d a c x : Nat} (hd : d ≤ 10) (ha : a ≤ 10) (hx : x ≤ 20) : chc d a c x ≤ 10 ^ (20 + c) := by
  unfold chc
  have := Nat.mul_le_mul (bf_le hd ha x c) (Nat.le_refl (10 ^ (20 - x)))
  rw [← Nat.pow_add, show x + c + (20 - x) = 20 + c by omega] at this
  exact this
/-- the reference's term and sum -/
def rt (d a x c j : Nat) : Nat := bc x j * d ^ j * (10 - d) ^ (x - j) * a ^ (c - j) * (10 - a) * 10 ^ j
def mn (c x : Nat) : Nat := if c ≤ x then c else x
def sgr (d a c x : Nat) : Nat := sumN (rt d a x c) (mn c x + 1) * 10 ^ (29 - x - c)
theorem rt_bt {d a x c j : Nat} : rt d a x c j = bt d a x c j * (10 - a) := by
  unfold rt bt
  rw [Nat.mul_pow]
  simp only [Nat.mul_comm, Nat.mul_left_comm, Nat.mul_assoc]
theorem sumN_zero {f : Nat → Nat} {k : Nat} : ∀ d, (∀ i, k ≤ i → i < k + d → f i = 0) → sumN f (k + d) = sumN f k
  | 0, _ => rfl
  | d + 1, h => by
    rw [← Nat.add_assoc, sumN_s, sumN_zero d (fun i a b => h i a (by omega)), h (k + d) (by omega) (by omega), Nat.add_zero]
theorem sgr_chc {d a c x : Nat} (hx : x ≤ 20) (hc : c ≤ 9) : sgr d a c x = chc d a c x * ((10 - a) * 10 ^ (9 - c)) := by
  unfold sgr chc
  have e0 : sumN (rt d a x c) (mn c x + 1) = sumN (rt d a x c) (c + 1) := by
    unfold mn
    split
    · rfl
    · have := sumN_zero (f := rt d a x c) (k := x + 1) (c - x) (fun i h1 h2 => by
        unfold rt
        rw [bc_big (by omega)]
        simp only [Nat.zero_mul])
      rw [show x + 1 + (c - x) = c + 1 by omega] at this
      exact this.symm
  have e1 : sumN (rt d a x c) (c + 1) = sumN (bt d a x c) (c + 1) * (10 - a) := by
    rw [← sumN_mulr]
    exact sumN_congr (fun i _ => rt_bt)
  rw [e0, e1, ← bf_sum, show 29 - x - c = (20 - x) + (9 - c) by omega, Nat.pow_add]
  simp only [Nat.mul_comm, Nat.mul_left_comm, Nat.mul_assoc]
noncomputable def iv (P : Prop) : Nat := @ite Nat P (Classical.propDecidable P) 1 0
theorem iv_t {P : Prop} (h : P) : iv P = 1 := if_pos h
theorem iv_f {P : Prop} (h : ¬ P) : iv P = 0 := if_neg h
theorem iv_le {P : Prop} : iv P ≤ 1 := by
  by_cases h : P
  · rw [iv_t h]; exact Nat.le_refl _
  · rw [iv_f h]; exact Nat.zero_le _
theorem iv_congr {P P' : Prop} (h : P ↔ P') : iv P = iv P' := by rw [propext h]
theorem prdN_mul {f g : Nat → Nat} : ∀ {k : Nat}, prdN (fun i => f i * g i) k = prdN f k * prdN g k
  | 0 => rfl
  | k + 1 => by
    rw [prdN_s, prdN_s, prdN_s, prdN_mul]
    simp only [Nat.mul_comm, Nat.mul_left_comm, Nat.mul_assoc]
theorem prdN_one {f : Nat → Nat} : ∀ {k : Nat}, (∀ i, i < k → f i = 1) → prdN f k = 1
  | 0, _ => rfl
  | k + 1, h => by rw [prdN_s, prdN_one (fun i hi => h i (by omega)), h k (by omega)]
theorem prdN_le {f : Nat → Nat} {b : Nat} : ∀ {k : Nat}, (∀ i, i < k → f i ≤ b) → prdN f k ≤ b ^ k
  | 0, _ => Nat.le_refl _
  | k + 1, h => by
    rw [prdN_s, Nat.pow_succ]
    exact Nat.mul_le_mul (prdN_le (fun i hi => h i (by omega))) (h k (by omega))
theorem prdN_pos {f : Nat → Nat} : ∀ {k : Nat}, (∀ i, i < k → 0 < f i) → 0 < prdN f k
  | 0, _ => Nat.one_pos
  | k + 1, h => by
    rw [prdN_s]
    exact Nat.mul_pos (prdN_pos (fun i hi => h i (by omega))) (h k (by omega))
/-- one factor at one place -/
theorem prdN_at {b v : Nat} : ∀ {k : Nat}, b < k → prdN (fun l => if b = l then v else 1) k = v
  | k + 1, h => by
    rw [prdN_s]
    by_cases e : b = k
    · rw [if_pos e, prdN_one (fun i hi => if_neg (by omega)), Nat.one_mul]
    · rw [if_neg e, prdN_at (by omega), Nat.mul_one]
/-- factors by tellers, sorted by lots -/
theorem prdN_sort {f lot : Nat → Nat} {L : Nat} : ∀ {k : Nat}, (∀ t, t < k → lot t < L) → prdN (fun l => prdN (fun t => if lot t = l then f t else 1) k) L = prdN f k
  | 0, _ => prdN_one (fun _ _ => rfl)
  | k + 1, h => by
    have ih := prdN_sort (f := f) (lot := lot) (L := L) (k := k) (fun t ht => h t (by omega))
    have ia := prdN_at (v := f k) (h k (by omega))
    rw [prdN_s, ← ih, ← ia, ← prdN_mul]
    rfl
