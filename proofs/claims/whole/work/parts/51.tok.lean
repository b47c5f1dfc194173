/-! ===== tokens, as such ===== -/
def run (p : Nat → Bool) (T : Nat → Nat) : Nat → Nat → Nat
  | 0, i => i
  | f + 1, i => if p (T i) = true then run p T f (i + 1) else i
def ru (p : Nat → Bool) (T : Nat → Nat) (L i : Nat) : Nat := run p T (L - i) i
theorem ru_end {p : Nat → Bool} {T : Nat → Nat} {L i : Nat} (h : L ≤ i) : ru p T L i = i := by
  unfold ru
  rw [Nat.sub_eq_zero_of_le h]
  rfl
theorem ru_yes {p : Nat → Bool} {T : Nat → Nat} {L i : Nat} (h : i < L) (hp : p (T i) = true) : ru p T L i = ru p T L (i + 1) := by
  unfold ru
  obtain ⟨f, hf⟩ : ∃ f, L - i = f + 1 := ⟨L - i - 1, by omega⟩
  rw [hf, show L - (i + 1) = f by omega]
  exact if_pos hp
theorem ru_no {p : Nat → Bool} {T : Nat → Nat} {L i : Nat} (hp : ¬ p (T i) = true) : ru p T L i = i := by
  unfold ru
  cases L - i with
  | zero => rfl
  | succ f => exact if_neg hp
theorem ru_ind {p : Nat → Bool} {T : Nat → Nat} {L : Nat} : ∀ (k i : Nat), L - i = k → i ≤ ru p T L i ∧ (i ≤ L → ru p T L i ≤ L) ∧ (∀ j, i ≤ j → j < ru p T L i → p (T j) = true) ∧ (ru p T L i < L → ¬ p (T (ru p T L i)) = true) := by
  intro k
  induction k with
  | zero =>
    intro i h
    rw [ru_end (by omega)]
    exact ⟨Nat.le_refl _, fun h => h, fun j h1 h2 => by omega, fun h => by omega⟩
  | succ k ih =>
    intro i h
    by_cases hp : p (T i) = true
    · rw [ru_yes (by omega) hp]
      obtain ⟨y1, y2, y3, y4⟩ := ih (i + 1) (by omega)
      refine ⟨by omega, fun _ => y2 (by omega), fun j h1 h2 => ?_, y4⟩
      by_cases e : j = i
      · subst e
        exact hp
      · exact y3 j (by omega) h2
    · rw [ru_no hp]
      exact ⟨Nat.le_refl _, fun h => h, fun j h1 h2 => by omega, fun _ => hp⟩
theorem ru_ge {p : Nat → Bool} {T : Nat → Nat} {L i : Nat} : i ≤ ru p T L i := (ru_ind _ i rfl).1
theorem ru_le {p : Nat → Bool} {T : Nat → Nat} {L i : Nat} (h : i ≤ L) : ru p T L i ≤ L := (ru_ind _ i rfl).2.1 h
theorem ru_all {p : Nat → Bool} {T : Nat → Nat} {L i j : Nat} (h1 : i ≤ j) (h2 : j < ru p T L i) : p (T j) = true := (ru_ind _ i rfl).2.2.1 j h1 h2
theorem ru_stop {p : Nat → Bool} {T : Nat → Nat} {L i : Nat} (h : ru p T L i < L) : ¬ p (T (ru p T L i)) = true := (ru_ind _ i rfl).2.2.2 h
def spB (c : Nat) : Bool := decide (c = 32)
def smB (c : Nat) : Bool := decide (97 ≤ c ∧ c ≤ 122)
def fgB (c : Nat) : Bool := decide (48 ≤ c ∧ c ≤ 57)
theorem spB_iff {c : Nat} : spB c = true ↔ c = 32 := decide_eq_true_iff
theorem smB_iff {c : Nat} : smB c = true ↔ 97 ≤ c ∧ c ≤ 122 := decide_eq_true_iff
theorem fgB_iff {c : Nat} : fgB c = true ↔ 48 ≤ c ∧ c ≤ 57 := decide_eq_true_iff
def tkE (T : Nat → Nat) (L a : Nat) : Nat := if L ≤ a then a else if smB (T a) = true then ru smB T L (a + 1) else if fgB (T a) = true then ru fgB T L (a + 1) else a + 1
def wk (T : Nat → Nat) (a n : Nat) : Nat := if n = 2 ∧ T a = 103 ∧ T (a + 1) = 111 then 4 else if n = 4 ∧ T a = 106 ∧ T (a + 1) = 111 ∧ T (a + 2) = 105 ∧ T (a + 3) = 110 then 5 else if n = 3 ∧ T a = 100 ∧ T (a + 1) = 105 ∧ T (a + 2) = 101 then 6 else if n = 4 ∧ T a = 119 ∧ T (a + 1) = 111 ∧ T (a + 2) = 114 ∧ T (a + 3) = 100 then 7 else if n = 5 ∧ T a = 99 ∧ T (a + 1) = 114 ∧ T (a + 2) = 111 ∧ T (a + 3) = 115 ∧ T (a + 4) = 115 then 8 else 3
def dgv (T : Nat → Nat) (a : Nat) : Nat → Nat
  | 0 => 0
  | n + 1 => 10 * dgv T a n + (T (a + n) - 48)
def tkK (T : Nat → Nat) (L a : Nat) : Nat := if L ≤ a then 0 else if smB (T a) = true then wk T a (tkE T L a - a) else if fgB (T a) = true then (if tkE T L a - a ≤ 3 then 1 else 3) else if T a = 59 then 2 else 3
def tkV (T : Nat → Nat) (L a : Nat) : Nat := if L ≤ a then 0 else if smB (T a) = true then 0 else if fgB (T a) = true then dgv T a (if tkE T L a - a ≤ 3 then tkE T L a - a else 3) else 0
def ps (T : Nat → Nat) (L : Nat) : Nat → Nat
  | 0 => ru spB T L 0
  | i + 1 => ru spB T L (tkE T L (ps T L i))
theorem tkE_gt {T : Nat → Nat} {L a : Nat} (h : a < L) : a < tkE T L a ∧ tkE T L a ≤ L := by
  unfold tkE
  rw [if_neg (by omega)]
  split
  · exact ⟨ru_ge, ru_le (by omega)⟩
  · split
    · exact ⟨ru_ge, ru_le (by omega)⟩
    · omega
theorem tkE_end {T : Nat → Nat} {L a : Nat} (h : L ≤ a) : tkE T L a = a := if_pos h
theorem ps_le {T : Nat → Nat} {L : Nat} : ∀ i, ps T L i ≤ L
  | 0 => ru_le (Nat.zero_le _)
  | i + 1 => by
    show ru spB T L (tkE T L (ps T L i)) ≤ L
    refine ru_le ?_
    rcases Nat.lt_or_ge (ps T L i) L with h | h
    · exact (tkE_gt h).2
    · rw [tkE_end h]
      exact ps_le i
theorem ps_lt {T : Nat → Nat} {L i : Nat} (h : ps T L i < L) : ps T L i < ps T L (i + 1) := Nat.lt_of_lt_of_le (tkE_gt h).1 ru_ge
theorem ps_ge {T : Nat → Nat} {L : Nat} : ∀ c, (∀ i, i < c → ps T L i < L) → c ≤ ps T L c
  | 0, _ => Nat.zero_le _
  | c + 1, h => by
    have h1 := ps_ge c (fun i hi => h i (by omega))
    have h2 := ps_lt (h c (by omega))
    omega
theorem dgv_lt {T : Nat → Nat} {a : Nat} : ∀ n, (∀ j, j < n → 48 ≤ T (a + j) ∧ T (a + j) ≤ 57) → dgv T a n < 10 ^ n
  | 0, _ => by show 0 < 1; decide
  | n + 1, h => by
    show 10 * dgv T a n + (T (a + n) - 48) < 10 ^ (n + 1)
    have h1 := dgv_lt n (fun j hj => h j (by omega))
    have h2 := h n (by omega)
    rw [Nat.pow_succ]
    omega
/-! ===== letters as one long ===== -/
def lv (T : Nat → Nat) (a : Nat) : Nat → Nat
  | 0 => 0
  | n + 1 => lv T a n * 256 + T (a + n)
theorem lN_or8 {X b : Nat} (hb : b < 256) : (lN X <<< ((8 : Int32).toInt64 &&& 63)) ||| lN b = lN (X * 256 + b) := by
  have e : ((8 : Int32).toInt64 &&& 63) = (8 : Int64) := by decide
  rw [e]
  have h1 : ((lN X <<< (8 : Int64)) ||| lN b).toBitVec = ((BitVec.ofNat 64 X) <<< 8) ||| BitVec.ofNat 64 b := by
    show ((BitVec.ofNat 64 X) <<< ((8 : Int64).toBitVec.smod 64)) ||| _ = _
    rfl
  apply Int64.toBitVec_inj.mp
  rw [h1]
  show _ = BitVec.ofNat 64 (X * 256 + b)
  apply BitVec.eq_of_toNat_eq
  rw [BitVec.toNat_or, BitVec.toNat_shiftLeft, BitVec.toNat_ofNat, BitVec.toNat_ofNat, BitVec.toNat_ofNat, Nat.shiftLeft_eq]
  have h2 : X % 2 ^ 64 * 2 ^ 8 % 2 ^ 64 = 2 ^ 8 * (X % 2 ^ 56) := by omega
  have h3 : b % 2 ^ 64 = b := Nat.mod_eq_of_lt (by omega)
  rw [h2, h3, ← Nat.two_pow_add_eq_or_of_lt (i := 8) (by omega)]
  omega
theorem lN_mod {X C : Nat} (hC : C < 2 ^ 63) : lN X = lN C ↔ X % 2 ^ 64 = C := by
  constructor
  · intro h
    have h1 : (lN X).toBitVec.toNat = (lN C).toBitVec.toNat := by rw [h]
    have h2 : (BitVec.ofNat 64 X).toNat = (BitVec.ofNat 64 C).toNat := h1
    rw [BitVec.toNat_ofNat, BitVec.toNat_ofNat] at h2
    omega
  · intro h
    apply Int64.toBitVec_inj.mp
    show BitVec.ofNat 64 X = BitVec.ofNat 64 C
    apply BitVec.eq_of_toNat_eq
    rw [BitVec.toNat_ofNat, BitVec.toNat_ofNat]
    omega
theorem lv_add {T : Nat → Nat} {a m : Nat} : ∀ k, lv T a (m + k) = lv T a m * 256 ^ k + lv T (a + m) k
  | 0 => by
    show lv T a m = lv T a m * 1 + 0
    omega
  | k + 1 => by
    show lv T a (m + k) * 256 + T (a + (m + k)) = _
    rw [lv_add k, Nat.pow_succ]
    show _ = lv T a m * (256 ^ k * 256) + (lv T (a + m) k * 256 + T (a + m + k))
    rw [Nat.add_assoc a m k]
    generalize 256 ^ k = z
    grind
theorem lvlt {T : Nat → Nat} {a : Nat} : ∀ n, (∀ j, j < n → T (a + j) ≤ 122) → lv T a n < 256 ^ n
  | 0, _ => by show 0 < 1; decide
  | n + 1, h => by
    show lv T a n * 256 + T (a + n) < 256 ^ (n + 1)
    have h1 := lvlt n (fun j hj => h j (by omega))
    have h2 := h n (by omega)
    rw [Nat.pow_succ]
    omega
theorem lv_ge {T : Nat → Nat} {a n : Nat} (h : 97 ≤ T a) : 97 * 256 ^ n ≤ lv T a (n + 1) := by
  have e := lv_add (T := T) (a := a) (m := 1) n
  rw [Nat.add_comm 1 n] at e
  rw [e]
  show _ ≤ (0 * 256 + T (a + 0)) * 256 ^ n + _
  have : 97 * 256 ^ n ≤ (0 * 256 + T (a + 0)) * 256 ^ n := Nat.mul_le_mul_right _ (by rw [Nat.add_zero]; omega)
  omega
/-- a row of letters that spells a short number is as short -/
theorem lv_len {T : Nat → Nat} {a n k C : Nat} (hT : ∀ j, j < n → 97 ≤ T (a + j) ∧ T (a + j) ≤ 122) (hn : 1 ≤ n) (hk : k ≤ 4) (h1 : 97 * 256 ^ k ≤ C) (h2 : C < 97 * 256 ^ (k + 1)) : lv T a n % 2 ^ 64 = C ↔ n = k + 1 ∧ lv T a n = C := by
  have hC5 : C < 97 * 256 ^ 5 := Nat.lt_of_lt_of_le h2 (Nat.mul_le_mul_left _ (Nat.pow_le_pow_right (by decide) (by omega)))
  have e5 : 97 * 256 ^ 5 = 106652627894272 := by decide +kernel
  have e8 : (256 : Nat) ^ 8 = 2 ^ 64 := by decide +kernel
  by_cases h8 : n ≤ 8
  · have hlt := lvlt n (fun j hj => (hT j hj).2)
    have hle : 256 ^ n ≤ 256 ^ 8 := Nat.pow_le_pow_right (by decide) h8
    rw [Nat.mod_eq_of_lt (by omega)]
    refine ⟨fun h => ⟨?_, h⟩, fun h => h.2⟩
    obtain ⟨m, rfl⟩ : ∃ m, n = m + 1 := ⟨n - 1, by omega⟩
    have hge := lv_ge (T := T) (a := a) (n := m) (by have := (hT 0 (by omega)).1; rw [Nat.add_zero] at this; exact this)
    rcases Nat.lt_trichotomy m k with x | x | x
    · exfalso
      have h3 : 256 ^ (m + 1) ≤ 256 ^ k := Nat.pow_le_pow_right (by decide) x
      have h4 : 1 * 256 ^ k ≤ 97 * 256 ^ k := Nat.mul_le_mul_right _ (by decide)
      omega
    · omega
    · exfalso
      have h3 : 97 * 256 ^ (k + 1) ≤ 97 * 256 ^ m := Nat.mul_le_mul_left _ (Nat.pow_le_pow_right (by decide) x)
      omega
  · refine ⟨fun h => ?_, fun h => by omega⟩
    exfalso
    obtain ⟨m, rfl⟩ : ∃ m, n = m + 8 := ⟨n - 8, by omega⟩
    rw [lv_add, e8, Nat.mul_add_mod_self_right] at h
    have hlt := lvlt (T := T) (a := a + m) 8 (fun j hj => by rw [Nat.add_assoc]; exact (hT (m + j) (by omega)).2)
    rw [e8] at hlt
    rw [Nat.mod_eq_of_lt hlt] at h
    have hge : 97 * 256 ^ 7 ≤ lv T (a + m) 8 := lv_ge (T := T) (a := a + m) (n := 7) (hT m (by omega)).1
    have e7 : 97 * 256 ^ 7 = 6989586621679009792 := by decide +kernel
    omega
