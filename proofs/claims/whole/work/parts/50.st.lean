/-! ===== the state that both sides hold: one row of 675 numbers ===== -/
def ce (k : Nat) : Nat := if k < 6 then 1 else if k < 16 then 2 else if k < 20 then 3 else if k < 22 then 4 else if k < 26 then 6 + (k - 22) else if k < 30 then 6 + (k - 26) else if k < 34 then 10 else if k < 518 then (if (k - 34) % 121 = 0 then 11 else 13 + (k - 34) / 121) else if k < 542 then 18 + (k - 518) / 4 else if k < 545 then 24 else if k < 575 then 26 + (k - 545) / 5 else if k < 611 then 33 + (k - 575) / 6 else if k < 671 then 39 else 0
def sk (k : Nat) : Nat := if k < 6 then k else if k < 16 then k - 6 else if k < 20 then k - 16 else if k < 22 then k - 20 else if k < 26 then 0 else if k < 30 then 1 else if k < 34 then k - 30 else if k < 518 then (if (k - 34) % 121 = 0 then (k - 34) / 121 else (k - 34) % 121 - 1) else if k < 542 then (k - 518) % 4 else if k < 545 then k - 542 else if k < 575 then (k - 545) % 5 else if k < 611 then (k - 575) % 6 else if k < 671 then k - 611 else k - 671
/-- back from a cell and a place in it -/
def po (c i : Nat) : Nat := if c = 0 then 671 + i else if c = 1 then i else if c = 2 then 6 + i else if c = 3 then 16 + i else if c = 4 then 20 + i else if c < 10 then (if i = 0 then 22 + (c - 6) else 26 + (c - 6)) else if c = 10 then 30 + i else if c = 11 then 34 + 121 * i else if c < 17 then 35 + 121 * (c - 13) + i else if c < 24 then 518 + 4 * (c - 18) + i else if c = 24 then 542 + i else if c < 32 then 545 + 5 * (c - 26) + i else if c < 39 then 575 + 6 * (c - 33) + i else 611 + i
theorem po_ce : ∀ k, k < 675 → po (ce k) (sk k) = k := by decide +kernel
theorem ce_lt : ∀ k, k < 675 → ce k < 40 := by decide +kernel
theorem ce_inj {k j : Nat} (hk : k < 675) (hj : j < 675) (h1 : ce k = ce j) (h2 : sk k = sk j) : k = j := by rw [← po_ce k hk, ← po_ce j hj, h1, h2]
def XS (h : Hs) (o : Nat) (n : Nat → Int32) : Prop := ∀ k, k < 675 → gi h (o + ce k) (sk k) = n k
def un (n : Nat → Int32) (k : Nat) (v : Int32) : Nat → Int32 := fun j => if j = k then v else n j
theorem un_s {n : Nat → Int32} {k : Nat} {v : Int32} : un n k v k = v := if_pos rfl
theorem un_n {n : Nat → Int32} {k j : Nat} {v : Int32} (h : j ≠ k) : un n k v j = n j := if_neg h
theorem XS.up {h : Hs} {o k : Nat} {n : Nat → Int32} {v : Int32} (x : XS h o n) (hk : k < 675) : XS (si h (o + ce k) (sk k) v) o (un n k v) := fun j hj => by
  by_cases e : j = k
  · subst e
    rw [gi_s, un_s]
  · rw [gi_if, if_neg (fun g : o + ce j = o + ce k ∧ sk j = sk k => e (ce_inj hj hk (by omega) g.2)), un_n e]
    exact x j hj
theorem XS.up2 {h : Hs} {o c i k : Nat} {n : Nat → Int32} {v : Int32} (x : XS h o n) (hk : k < 675) (e1 : o + ce k = c) (e2 : sk k = i) : XS (si h c i v) o (un n k v) := by
  subst e1 e2
  exact x.up hk
theorem XS.keep {h h' : Hs} {o : Nat} {n : Nat → Int32} (x : XS h o n) (f : ∀ c, o ≤ c → c < o + 40 → ∀ j, gi h' c j = gi h c j) : XS h' o n := fun k hk => by
  have := ce_lt k hk
  rw [f _ (by omega) (by omega)]
  exact x k hk
theorem XS.congr {h : Hs} {o : Nat} {n m : Nat → Int32} (x : XS h o n) (e : ∀ k, k < 675 → m k = n k) : XS h o m := fun k hk => (x k hk).trans (e k hk).symm
theorem c_feed : ∀ i, i < 6 → ce i = 1 ∧ sk i = i := by decide +kernel
theorem c_rain : ∀ i, i < 10 → ce (6 + i) = 2 ∧ sk (6 + i) = i := by decide +kernel
theorem c_peop : ∀ i, i < 4 → ce (16 + i) = 3 ∧ sk (16 + i) = i := by decide +kernel
theorem c_puts : ∀ i, i < 2 → ce (20 + i) = 4 ∧ sk (20 + i) = i := by decide +kernel
theorem c_each : ∀ i, i < 4 → ce (22 + i) = 6 + i ∧ sk (22 + i) = 0 := by decide +kernel
theorem c_carr : ∀ i, i < 4 → ce (26 + i) = 6 + i ∧ sk (26 + i) = 1 := by decide +kernel
theorem c_prio : ∀ i, i < 4 → ce (30 + i) = 10 ∧ sk (30 + i) = i := by decide +kernel
theorem c_leng : ∀ i, i < 4 → ce (34 + 121 * i) = 11 ∧ sk (34 + 121 * i) = i := by decide +kernel
theorem c_text : ∀ s, s < 4 → ∀ i, i < 120 → ce (35 + 121 * s + i) = 13 + s ∧ sk (35 + 121 * s + i) = i := by decide +kernel
theorem c_sign : ∀ s, s < 6 → ∀ i, i < 4 → ce (518 + 4 * s + i) = 18 + s ∧ sk (518 + 4 * s + i) = i := by decide +kernel
theorem c_post : ∀ i, i < 3 → ce (542 + i) = 24 ∧ sk (542 + i) = i := by decide +kernel
theorem c_tell : ∀ s, s < 6 → ∀ i, i < 5 → ce (545 + 5 * s + i) = 26 + s ∧ sk (545 + 5 * s + i) = i := by decide +kernel
theorem c_days : ∀ s, s < 6 → ∀ i, i < 6 → ce (575 + 6 * s + i) = 33 + s ∧ sk (575 + 6 * s + i) = i := by decide +kernel
theorem c_stor : ∀ i, i < 60 → ce (611 + i) = 39 ∧ sk (611 + i) = i := by decide +kernel
theorem c_many : ∀ i, i < 4 → ce (671 + i) = 0 ∧ sk (671 + i) = i := by decide +kernel
theorem XS.rd {h : Hs} {o k c i : Nat} {n : Nat → Int32} (x : XS h o n) (hk : k < 675) (e : ce k = c ∧ sk k = i) : gi h (o + c) i = n k := by
  rw [← e.1, ← e.2]
  exact x k hk
/-! ===== ranges ===== -/
def nn (x : Int32) : Nat := x.toNatClampNeg
def rg (hi : Nat) (x : Int32) : Prop := x = nI (nn x) ∧ nn x ≤ hi
theorem rg.of {hi m : Nat} (h : m ≤ hi) (hh : hi < 2 ^ 31) : rg hi (nI m) := by
  have e : nn (nI m) = m := nI_clamp (by omega)
  unfold rg
  rw [e]
  exact ⟨rfl, h⟩
theorem rg.mono {a b : Nat} {x : Int32} (h : rg a x) (hab : a ≤ b) : rg b x := ⟨h.1, Nat.le_trans h.2 hab⟩
def ir (a lo hi : Int) : Prop := lo ≤ a ∧ a ≤ hi
theorem ir_nat {a : Int32} {lo hi : Int} (h : ir a.toInt lo hi) (h0 : 0 ≤ lo) : a = nI (nn a) ∧ lo ≤ (nn a : Int) ∧ (nn a : Int) ≤ hi ∧ a.toInt = (nn a : Int) := by
  have h2 : 0 ≤ a.toInt := by have := h.1; omega
  have h3 : a.toInt < 2 ^ 31 := Int32.toInt_lt a
  have e : (nn a : Int) = a.toInt := by
    show (a.toInt.toNat : Int) = a.toInt
    omega
  refine ⟨?_, by rw [e]; exact h.1, by rw [e]; exact h.2, e.symm⟩
  apply Int32.toInt_inj.mp
  rw [nI_toInt (by omega)]
  exact e.symm
theorem nI_toInt' {m : Nat} (h : m < 2 ^ 31) : (nI m).toInt = (m : Int) := nI_toInt h
theorem nI_m1i {p : Nat} (h : p < 2 ^ 30) : (nI p - 1).toInt = (p : Int) - 1 := pk_sub_toInt (b := 1) h (by omega)
theorem x_out {a0 a1 a2 : Int32} {lo hi : Int} {h : Hs} {Q : Int32 → Prop} (e1 : a1.toInt = lo) (e2 : a2.toInt = hi) (h0 : ir a0.toInt lo hi → Q 0) (h1 : ¬ ir a0.toInt lo hi → Q 1) : p_X_outside a0 a1 a2 h Q := by
  subst e1 e2
  unfold p_X_outside
  intro P15 h15 P10 h10
  refine ⟨fun c => h10 (h15 _ ⟨zb1, h1 (fun x => ?_)⟩), fun c => ⟨fun c2 => h15 _ ⟨zb0, h0 ⟨?_, Int32.le_iff_toInt_le.mp c2⟩⟩, fun c2 => h10 (h15 _ ⟨zb1, h1 (fun x => c2 (Int32.le_iff_toInt_le.mpr x.2))⟩)⟩⟩
  · have := Int32.lt_iff_toInt_lt.mp c
    have := x.1
    omega
  · have : ¬ a0.toInt < a1.toInt := fun x => c (Int32.lt_iff_toInt_lt.mpr x)
    omega
theorem m_in {a0 a2 a4 : Int64} {a lo hi : Int} {h : Hs} {Q : Int32 → Prop} (e0 : a0.toInt = a) (e1 : a2.toInt = lo) (e2 : a4.toInt = hi) (h0 : ir a lo hi → Q 1) (h1 : ¬ ir a lo hi → Q 0) : p_M_in a0 a2 a4 h Q := by
  subst e0 e1 e2
  unfold p_M_in
  rw [cmp_lt0, cmp_gt0]
  intro P18 h18 P17 h17
  refine ⟨fun c => h17 (h18 _ ⟨zb0, h1 (fun x => ?_)⟩), fun c => ⟨fun c2 => h17 (h18 _ ⟨zb0, h1 (fun x => ?_)⟩), fun c2 => h18 _ ⟨zb1, h0 ⟨?_, ?_⟩⟩⟩⟩
  · have := Int64.lt_iff_toInt_lt.mp c
    have := x.1
    omega
  · have := Int64.lt_iff_toInt_lt.mp c2
    have := x.2
    omega
  · have : ¬ a0.toInt < a2.toInt := fun x => c (Int64.lt_iff_toInt_lt.mpr x)
    omega
  · have : ¬ a4.toInt < a0.toInt := fun x => c2 (Int64.lt_iff_toInt_lt.mpr x)
    omega
theorem i64 (x : Int32) : x.toInt64.toInt = x.toInt := Int32.toInt_toInt64 x
/-- what each number of the row may be -/
def RG (n : Nat → Int32) : Prop :=
  rg 6 (n 671) ∧ rg 4 (n 672) ∧ rg 6 (n 673) ∧ rg 6 (n 674) ∧
  (∀ i, i < 6 → rg 200 (n i)) ∧ (∀ i, i < 10 → rg 9 (n (6 + i))) ∧ (∀ i, i < 4 → rg 60 (n (16 + i))) ∧ (∀ i, i < 2 → rg 9 (n (20 + i))) ∧
  (∀ i, i < 4 → rg 999 (n (22 + i)) ∧ 1 ≤ nn (n (22 + i))) ∧ (∀ i, i < 4 → rg 9 (n (26 + i))) ∧ (∀ i, i < 4 → rg 9 (n (30 + i))) ∧
  (∀ s, s < 4 → rg 120 (n (34 + 121 * s))) ∧ (∀ s, s < 4 → ∀ i, i < 120 → rg 255 (n (35 + 121 * s + i))) ∧
  (∀ s, s < 6 → rg 5 (n (518 + 4 * s)) ∧ rg 3 (n (518 + 4 * s + 1)) ∧ rg 9 (n (518 + 4 * s + 2)) ∧ rg 10 (n (518 + 4 * s + 3))) ∧
  (rg 1 (n 542) ∧ (n 543 = -1 ∨ rg 5 (n 543)) ∧ rg 1 (n 544)) ∧
  (∀ t, t < 6 → rg 5 (n (545 + 5 * t)) ∧ rg 3 (n (545 + 5 * t + 1)) ∧ rg 119 (n (545 + 5 * t + 2)) ∧ rg 7 (n (545 + 5 * t + 3)) ∧ rg 9 (n (545 + 5 * t + 4))) ∧
  (∀ t, t < nn (n 674) → nn (n (545 + 5 * t + 1)) < nn (n 672)) ∧
  (∀ p, p < 6 → ∀ q, q < 6 → rg 20 (n (575 + 6 * p + q)) ∧ n (575 + 6 * p + q) = n (575 + 6 * q + p) ∧ (nn (n 671) ≤ p ∨ nn (n 671) ≤ q → n (575 + 6 * p + q) = 0)) ∧
  (∀ d, d < 60 → rg 1 (n (611 + d)))
