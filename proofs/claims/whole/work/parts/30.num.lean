/-! ===== digits to the base 2^30 ===== -/
abbrev BB : Nat := 1073741824
def nv (F : Nat → Nat) : Nat → Nat
  | 0 => 0
  | n + 1 => nv F n + F n * BB ^ n
theorem BB_pos (n : Nat) : 0 < BB ^ n := Nat.pow_pos (by decide)
theorem BB_succ (n : Nat) : BB ^ (n + 1) = BB ^ n * BB := Nat.pow_succ _ _
theorem nv_congr {F G : Nat → Nat} : ∀ {n : Nat}, (∀ i, i < n → F i = G i) → nv F n = nv G n
  | 0, _ => rfl
  | n + 1, h => by
    show nv F n + F n * BB ^ n = nv G n + G n * BB ^ n
    rw [nv_congr (fun i hi => h i (by omega)), h n (by omega)]
theorem nv_lt {F : Nat → Nat} : ∀ {n : Nat}, (∀ i, i < n → F i < BB) → nv F n < BB ^ n
  | 0, _ => by show 0 < 1; decide
  | n + 1, h => by
    show nv F n + F n * BB ^ n < BB ^ (n + 1)
    have h1 := nv_lt (F := F) (n := n) (fun i hi => h i (by omega))
    have h2 := h n (by omega)
    have h3 : (F n + 1) * BB ^ n ≤ BB * BB ^ n := Nat.mul_le_mul_right _ h2
    rw [BB_succ, Nat.mul_comm (BB ^ n) BB]
    rw [Nat.add_mul, Nat.one_mul] at h3
    omega
theorem nv_ge {F : Nat → Nat} {n : Nat} (h : F n ≠ 0) : BB ^ n ≤ nv F (n + 1) := by
  show BB ^ n ≤ nv F n + F n * BB ^ n
  have : 1 * BB ^ n ≤ F n * BB ^ n := Nat.mul_le_mul_right _ (by omega)
  omega
theorem nv_zero {F : Nat → Nat} {n : Nat} (h : ∀ i, i < n → F i = 0) : nv F n = 0 := by
  induction n with
  | zero => rfl
  | succ n ih =>
    show nv F n + F n * BB ^ n = 0
    rw [ih (fun i hi => h i (by omega)), h n (by omega)]
    omega
/-- digits are unique -/
theorem nv_dig {F : Nat → Nat} : ∀ {n : Nat}, (∀ i, i < n → F i < BB) → ∀ i, i < n → nv F n / BB ^ i % BB = F i
  | 0, _, _, hi => absurd hi (Nat.not_lt_zero _)
  | n + 1, h, i, hi => by
    show (nv F n + F n * BB ^ n) / BB ^ i % BB = F i
    by_cases e : i = n
    · subst e
      have h1 := nv_lt (F := F) (n := i) (fun j hj => h j (by omega))
      rw [Nat.add_mul_div_right _ _ (BB_pos i), Nat.div_eq_of_lt h1, Nat.zero_add, Nat.mod_eq_of_lt (h i (by omega))]
    · have hlt : i < n := by omega
      have h2 := nv_dig (F := F) (n := n) (fun j hj => h j (by omega)) i hlt
      have e2 : F n * BB ^ n = (F n * BB ^ (n - i - 1) * BB) * BB ^ i := by
        rw [Nat.mul_assoc, Nat.mul_assoc, ← Nat.pow_succ', ← Nat.pow_add]
        congr 2
        omega
      rw [e2, Nat.add_mul_div_right _ _ (BB_pos i), Nat.add_mul_mod_self_right]
      exact h2
theorem nv_uniq {F G : Nat → Nat} {n m : Nat} (hF : ∀ i, i < n → F i < BB) (hG : ∀ i, i < m → G i < BB) (tF : n = 0 ∨ F (n - 1) ≠ 0) (tG : m = 0 ∨ G (m - 1) ≠ 0) (e : nv F n = nv G m) : n = m ∧ ∀ i, i < n → F i = G i := by
  have hnm : n = m := by
    rcases Nat.lt_trichotomy n m with h | h | h
    · exfalso
      have h1 := nv_lt hF
      rcases tG with h2 | h2
      · omega
      · obtain ⟨k, rfl⟩ : ∃ k, m = k + 1 := ⟨m - 1, by omega⟩
        have h3 := nv_ge (F := G) (n := k) h2
        have h4 : BB ^ n ≤ BB ^ k := Nat.pow_le_pow_right (by decide) (by omega)
        omega
    · exact h
    · exfalso
      have h1 := nv_lt hG
      rcases tF with h2 | h2
      · omega
      · obtain ⟨k, rfl⟩ : ∃ k, n = k + 1 := ⟨n - 1, by omega⟩
        have h3 := nv_ge (F := F) (n := k) h2
        have h4 : BB ^ m ≤ BB ^ k := Nat.pow_le_pow_right (by decide) (by omega)
        omega
  subst hnm
  refine ⟨rfl, fun i hi => ?_⟩
  rw [← nv_dig hF i hi, ← nv_dig hG i hi, e]
theorem nv_eq0 {F : Nat → Nat} {n : Nat} (tF : n = 0 ∨ F (n - 1) ≠ 0) : nv F n = 0 ↔ n = 0 := by
  constructor
  · intro h
    rcases tF with h1 | h1
    · exact h1
    · cases n with
      | zero => rfl
      | succ n =>
        have := nv_ge (F := F) (n := n) h1
        have := BB_pos n
        omega
  · intro h
    subst h
    rfl
theorem nv_size {F : Nat → Nat} {n k : Nat} (tF : n = 0 ∨ F (n - 1) ≠ 0) (h : nv F n < BB ^ k) : n ≤ k := by
  rcases tF with h1 | h1
  · omega
  · rcases Nat.lt_or_ge k n with h2 | h2
    · exfalso
      obtain ⟨j, rfl⟩ : ∃ j, n = j + 1 := ⟨n - 1, by omega⟩
      have h3 := nv_ge (F := F) (n := j) h1
      have h4 : BB ^ k ≤ BB ^ j := Nat.pow_le_pow_right (by decide) (by omega)
      omega
    · exact h2
/-- one row changed at a place that isn't counted -/
def fu (F : Nat → Nat) (k v : Nat) : Nat → Nat := fun i => if i = k then v else F i
theorem fu_s {F : Nat → Nat} {k v : Nat} : fu F k v k = v := if_pos rfl
theorem fu_n {F : Nat → Nat} {k v i : Nat} (h : i ≠ k) : fu F k v i = F i := if_neg h
theorem nv_step {a b c d e x : Nat} (h : a + c * x = b * e) (hd : ∀ y, y = c + d * e → True) : a + (c + d * e) * x = (b + d * x) * e := by
  grind
/-! ===== ints and longs ===== -/
theorem nI_lit0 : (0 : Int32) = nI 0 := rfl
theorem nI_lit1 : (1 : Int32) = nI 1 := rfl
theorem lN_lit0 : (0 : Int64) = lN 0 := rfl
theorem cmp_le0 {x y : Int64} : lg_cmp x y ≤ 0 ↔ x ≤ y := by
  unfold lg_cmp
  split
  · rename_i h
    have : ¬ x ≤ y := by
      intro g
      have := Int64.lt_iff_toInt_lt.mp h
      have := Int64.le_iff_toInt_le.mp g
      omega
    exact ⟨fun g => absurd g (by decide), fun g => absurd g this⟩
  · rename_i h
    have h2 : x ≤ y := by
      apply Int64.le_iff_toInt_le.mpr
      have : ¬ y.toInt < x.toInt := fun g => h (Int64.lt_iff_toInt_lt.mpr g)
      omega
    split
    · exact ⟨fun _ => h2, fun _ => by decide⟩
    · exact ⟨fun _ => h2, fun _ => by decide⟩
theorem cmp_lt0 {x y : Int64} : lg_cmp x y < 0 ↔ x < y := by
  unfold lg_cmp
  split
  · rename_i h
    refine ⟨fun g => absurd g (by decide), fun g => ?_⟩
    have := Int64.lt_iff_toInt_lt.mp h
    have := Int64.lt_iff_toInt_lt.mp g
    omega
  · rename_i h
    split
    · rename_i e
      subst e
      exact ⟨fun g => absurd g (by decide), fun g => by have := Int64.lt_iff_toInt_lt.mp g; omega⟩
    · rename_i e
      refine ⟨fun _ => ?_, fun _ => by decide⟩
      apply Int64.lt_iff_toInt_lt.mpr
      have h1 : ¬ y.toInt < x.toInt := fun g => h (Int64.lt_iff_toInt_lt.mpr g)
      have h2 : ¬ x.toInt = y.toInt := fun g => e (Int64.toInt_inj.mp g)
      omega
theorem cmp_gt0 {x y : Int64} : 0 < lg_cmp x y ↔ y < x := by
  unfold lg_cmp
  split
  · rename_i h
    exact ⟨fun _ => h, fun _ => by decide⟩
  · rename_i h
    split
    · exact ⟨fun g => absurd g (by decide), fun g => absurd g h⟩
    · exact ⟨fun g => absurd g (by decide), fun g => absurd g h⟩
theorem cmp_eq0 {x y : Int64} : lg_cmp x y = 0 ↔ x = y := by
  unfold lg_cmp
  split
  · rename_i h
    refine ⟨fun g => absurd g (by decide), fun g => ?_⟩
    subst g
    have := Int64.lt_iff_toInt_lt.mp h
    omega
  · split
    · rename_i e
      exact ⟨fun _ => e, fun _ => rfl⟩
    · rename_i e
      exact ⟨fun g => absurd g (by decide), fun g => absurd g e⟩
/-! ===== reads over writes ===== -/
theorem gi_s {h : Hs} {o k : Nat} {v : Int32} : gi (si h o k v) o k = v := by
  show rowU h.1 o _ o k = v
  rw [rowU_s]
  exact if_pos rfl
theorem gi_c {h : Hs} {o k c j : Nat} {v : Int32} (hc : c ≠ o) : gi (si h o k v) c j = gi h c j := by
  show rowU h.1 o _ c j = h.1 c j
  rw [rowU_n hc]
theorem gi_k {h : Hs} {o k c j : Nat} {v : Int32} (hk : j ≠ k) : gi (si h o k v) c j = gi h c j := by
  by_cases hc : c = o
  · subst hc
    show rowU h.1 c _ c j = h.1 c j
    rw [rowU_s]
    exact if_neg hk
  · exact gi_c hc
theorem gi_if {h : Hs} {o k c j : Nat} {v : Int32} : gi (si h o k v) c j = if c = o ∧ j = k then v else gi h c j := by
  by_cases hc : c = o
  · subst hc
    by_cases hk : j = k
    · subst hk
      rw [gi_s, if_pos ⟨rfl, rfl⟩]
    · rw [gi_k hk, if_neg (fun g => hk g.2)]
  · rw [gi_c hc, if_neg (fun g => hc g.1)]
theorem gl_si {h : Hs} {o k c j : Nat} {v : Int32} : gl (si h o k v) c j = gl h c j := rfl
theorem gr_si {h : Hs} {o k c j : Nat} {v : Int32} : gr (si h o k v) c j = gr h c j := rfl
theorem gi_sl {h : Hs} {o k c j : Nat} {v : Int64} : gi (sl h o k v) c j = gi h c j := rfl
theorem gr_sl {h : Hs} {o k c j : Nat} {v : Int64} : gr (sl h o k v) c j = gr h c j := rfl
theorem gi_sr {h : Hs} {o k c j v : Nat} : gi (sr h o k v) c j = gi h c j := rfl
theorem gl_sr {h : Hs} {o k c j v : Nat} : gl (sr h o k v) c j = gl h c j := rfl
theorem gl_if {h : Hs} {o k c j : Nat} {v : Int64} : gl (sl h o k v) c j = if c = o ∧ j = k then v else gl h c j := by
  show rowU h.2.1 o _ c j = _
  by_cases hc : c = o
  · subst hc
    rw [rowU_s]
    by_cases hk : j = k
    · subst hk
      rw [if_pos ⟨rfl, rfl⟩]
      exact if_pos rfl
    · rw [if_neg (fun g => hk g.2)]
      exact if_neg hk
  · rw [rowU_n hc, if_neg (fun g => hc g.1)]
    rfl
theorem gr_if {h : Hs} {o k c j v : Nat} : gr (sr h o k v) c j = if c = o ∧ j = k then v else gr h c j := by
  show rowU h.2.2 o _ c j = _
  by_cases hc : c = o
  · subst hc
    rw [rowU_s]
    by_cases hk : j = k
    · subst hk
      rw [if_pos ⟨rfl, rfl⟩]
      exact if_pos rfl
    · rw [if_neg (fun g => hk g.2)]
      exact if_neg hk
  · rw [rowU_n hc, if_neg (fun g => hc g.1)]
    rfl
theorem gi_sa {h : Hs} {o c j : Nat} {r : Nat → Int32} : gi (sa h o r) c j = if c = o then r j else gi h c j := by
  show rowU h.1 o r c j = _
  by_cases hc : c = o
  · subst hc
    rw [rowU_s, if_pos rfl]
  · rw [rowU_n hc, if_neg hc]
    rfl
theorem gr_sa {h : Hs} {o c j : Nat} {r : Nat → Int32} : gr (sa h o r) c j = gr h c j := rfl
theorem gl_sa {h : Hs} {o c j : Nat} {r : Nat → Int32} : gl (sa h o r) c j = gl h c j := rfl
