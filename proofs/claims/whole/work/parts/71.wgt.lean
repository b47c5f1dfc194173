/-! ===== the weight of a world: the class's and the reference's ===== -/
def hrd (n : Nat → Int32) : Nat := nn (n 20)
def tru (n : Nat → Int32) : Nat := nn (n 21)
def pri (n : Nat → Int32) (s : Nat) : Nat := nn (n (30 + s))
def sPl (n : Nat → Int32) (s : Nat) : Nat := nn (n (518 + 4 * s))
def sKi (n : Nat → Int32) (s : Nat) : Nat := nn (n (518 + 4 * s + 1))
def sFo (n : Nat → Int32) (s : Nat) : Nat := nn (n (518 + 4 * s + 2))
def sDu (n : Nat → Int32) (s : Nat) : Nat := nn (n (518 + 4 * s + 3))
def sCa (n : Nat → Int32) (s : Nat) : Nat := nn (n (26 + sKi n s))
def tLo (n : Nat → Int32) (t : Nat) : Nat := nn (n (545 + 5 * t + 1))
def tMo (n : Nat → Int32) (t : Nat) : Nat := nn (n (545 + 5 * t + 2))
def tWh (n : Nat → Int32) (t : Nat) : Nat := nn (n (545 + 5 * t + 3))
def tWo (n : Nat → Int32) (t : Nat) : Nat := nn (n (545 + 5 * t + 4))
def hrt (n : Nat → Int32) (t : Nat) : Bool := ! anyF (fun i => decide (n (545 + 5 * i) = n (545 + 5 * t))) 0 t
def ot (b : Bool) (w : Nat) : Nat := if b = true then w else 10 - w
theorem ot_le {b : Bool} {w : Nat} (h1 : 1 ≤ w) (h9 : w ≤ 9) : 1 ≤ ot b w ∧ ot b w ≤ 9 := by unfold ot; split <;> omega
theorem ot_le10 {b : Bool} {w : Nat} (h9 : w ≤ 10) : ot b w ≤ 10 := by unfold ot; split <;> omega
/-- said so in a story -/
def tso (n : Nat → Int32) (s t : Nat) : Bool := decide (Wh n s (tMo n t) = tWh n t)
def tf (n : Nat → Int32) (s t : Nat) : Nat := if hrt n t = true then ot (tso n s t) (tWo n t) else 1
def pf (n : Nat → Int32) (s : Nat) : Nat := if n 542 = 1 then ot (decide (wv (sto n s).2.1 = n 543)) (tru n) * ot (decide (nI (sto n s).2.2.1 = n 544)) (tru n) else 1
def tsh (n : Nat → Int32) (l s : Nat) : Nat := prdN (fun t => if tLo n t = l then tf n s t else 1) (nTe n)
def shr (n : Nat → Int32) (l s : Nat) : Nat := if l = 0 then pri n s * tsh n l s * pf n s else pri n s * tsh n l s
def mq (n : Nat → Int32) : Nat := if hrd n < 9 then most n else 0
def chs (n : Nat → Int32) (ch : Nat → Nat) (s : Nat) : Nat := chc (sDu n s) (sCa n s) (sFo n s) (lf n ch (sPl n s) (sKi n s))
def hfc (n : Nat → Int32) (ch : Nat → Nat) : Nat := if mq n = 0 then 1 else hrd n ^ hun n ch * 9 ^ (mq n - hun n ch)
def Wc (n : Nat → Int32) (ch : Nat → Nat) : Nat := prdN (fun l => shr n l (ch l)) (nLo n) * prdN (chs n ch) (nSg n) * hfc n ch
def srs (n : Nat → Int32) (ch : Nat → Nat) (s : Nat) : Nat := sgr (sDu n s) (sCa n s) (sFo n s) (lf n ch (sPl n s) (sKi n s))
def pr0 (n : Nat → Int32) (ch : Nat → Nat) : Nat := if 0 < nLo n then pf n (ch 0) else 1
def Wr0 (n : Nat → Int32) (ch : Nat → Nat) : Nat := prdN (fun l => pri n (ch l)) (nLo n) * hrd n ^ hun n ch * 9 ^ (60 - hun n ch) * pr0 n ch * prdN (fun t => tf n (ch (tLo n t)) t) (nTe n)
def Wr (n : Nat → Int32) (ch : Nat → Nat) : Nat := Wr0 n ch * prdN (srs n ch) (nSg n)
def KK (n : Nat → Int32) : Nat := 9 ^ (60 - mq n) * prdN (fun s => (10 - sCa n s) * 10 ^ (9 - sFo n s)) (nSg n)
theorem RG.sgn {n : Nat → Int32} (R : RG n) {s : Nat} (hs : s < 6) : n (518 + 4 * s) = nI (sPl n s) ∧ sPl n s ≤ 5 ∧ n (518 + 4 * s + 1) = nI (sKi n s) ∧ sKi n s ≤ 3 ∧ n (518 + 4 * s + 2) = nI (sFo n s) ∧ sFo n s ≤ 9 ∧ n (518 + 4 * s + 3) = nI (sDu n s) ∧ sDu n s ≤ 10 ∧ n (26 + sKi n s) = nI (sCa n s) ∧ sCa n s ≤ 9 := by
  obtain ⟨a, b, c, d⟩ := R.si s hs
  have k4 : sKi n s < 4 := by have := b.2; show nn (n (518 + 4 * s + 1)) < 4; omega
  have e := R.ca (sKi n s) k4
  exact ⟨a.1, a.2, b.1, b.2, c.1, c.2, d.1, d.2, e.1, e.2⟩
theorem RG.tel {n : Nat → Int32} (R : RG n) {t : Nat} (ht : t < 6) : n (545 + 5 * t + 1) = nI (tLo n t) ∧ tLo n t ≤ 3 ∧ n (545 + 5 * t + 2) = nI (tMo n t) ∧ tMo n t ≤ 119 ∧ n (545 + 5 * t + 3) = nI (tWh n t) ∧ tWh n t ≤ 7 ∧ n (545 + 5 * t + 4) = nI (tWo n t) ∧ tWo n t ≤ 9 := by
  obtain ⟨a, b, c, d, e⟩ := R.tl t ht
  exact ⟨b.1, b.2, c.1, c.2, d.1, d.2, e.1, e.2⟩
theorem tf_le {n : Nat → Int32} (R : RG n) {s t : Nat} (ht : t < 6) : tf n s t ≤ 10 := by
  unfold tf
  split
  · exact ot_le10 (by have := (R.tel ht).2.2.2.2.2.2.2; omega)
  · omega
theorem pf_le {n : Nat → Int32} (R : RG n) {s : Nat} : pf n s ≤ 100 := by
  unfold pf
  have h9 : tru n ≤ 9 := (R.pu 1 (by omega)).2
  split
  · have := Nat.mul_le_mul (ot_le10 (b := decide (wv (sto n s).2.1 = n 543)) (w := tru n) (by omega)) (ot_le10 (b := decide (nI (sto n s).2.2.1 = n 544)) (w := tru n) (by omega))
    omega
  · omega
theorem tsh_le {n : Nat → Int32} (R : RG n) {l s k : Nat} (hk : k ≤ 6) : prdN (fun t => if tLo n t = l then tf n s t else 1) k ≤ 10 ^ k := prdN_le (fun t ht => by
  show (if tLo n t = l then tf n s t else 1) ≤ 10
  split
  · exact tf_le R (by omega)
  · omega)
theorem pri_le {n : Nat → Int32} (R : RG n) {s : Nat} (hs : s < 4) : pri n s ≤ 9 := (R.pr s hs).2
theorem shr_lt {n : Nat → Int32} (R : RG n) {l s : Nat} (hs : s < 4) : pri n s * tsh n l s ≤ 9000000 ∧ shr n l s ≤ 900000000 := by
  have h1 : tsh n l s ≤ 10 ^ nTe n := tsh_le R R.te.2
  have h2 : 10 ^ nTe n ≤ 10 ^ 6 := Nat.pow_le_pow_right (by omega) R.te.2
  have h3 := Nat.mul_le_mul (pri_le R hs) (Nat.le_trans h1 h2)
  have h4 := Nat.mul_le_mul h3 (pf_le R (s := s))
  refine ⟨h3, ?_⟩
  unfold shr
  split
  · exact h4
  · exact Nat.le_trans h3 (by decide)
theorem prd_shr {n : Nat → Int32} (R : RG n) {ch : Nat → Nat} : prdN (fun l => shr n l (ch l)) (nLo n) = prdN (fun l => pri n (ch l)) (nLo n) * prdN (fun t => tf n (ch (tLo n t)) t) (nTe n) * pr0 n ch := by
  have hte : ∀ t, t < nTe n → tLo n t < nLo n := R.tl2
  have h1 : prdN (fun l => shr n l (ch l)) (nLo n) = prdN (fun l => pri n (ch l) * tsh n l (ch l) * (if 0 = l then pf n (ch 0) else 1)) (nLo n) := prdN_congr (fun l _ => by
    unfold shr
    by_cases e : l = 0
    · subst e
      rw [if_pos rfl, if_pos rfl]
    · rw [if_neg e, if_neg (fun x => e x.symm), Nat.mul_one])
  rw [h1, prdN_mul, prdN_mul]
  congr 1
  · congr 1
    rw [← prdN_sort (f := fun t => tf n (ch (tLo n t)) t) (lot := tLo n) hte]
    refine prdN_congr (fun l _ => prdN_congr (fun t _ => ?_))
    by_cases e : tLo n t = l
    · subst e
      rw [if_pos rfl]
    · rw [if_neg e, if_neg e]
  · unfold pr0
    split
    · rename_i h
      exact prdN_at h
    · rename_i h
      rw [show nLo n = 0 by omega]
      rfl
theorem Wr_Wc {n : Nat → Int32} (R : RG n) {ch : Nat → Nat} : Wr n ch = Wc n ch * KK n := by
  have e1 := prd_shr R (ch := ch)
  have e2 : prdN (srs n ch) (nSg n) = prdN (chs n ch) (nSg n) * prdN (fun s => (10 - sCa n s) * 10 ^ (9 - sFo n s)) (nSg n) := by
    rw [← prdN_mul]
    refine prdN_congr (fun s hs => ?_)
    have h6 := R.sg.2
    exact sgr_chc min20_le (R.sgn (show s < 6 by unfold nSg at hs; omega)).2.2.2.2.2.1
  have e3 : hrd n ^ hun n ch * 9 ^ (60 - hun n ch) = hfc n ch * 9 ^ (60 - mq n) := by
    have hm := most_le R
    have hh := hun_most (n := n) (ch := ch)
    have h9 : hrd n ≤ 9 := (R.pu 0 (by omega)).2
    unfold hfc
    by_cases c : hrd n < 9
    · have em : mq n = most n := if_pos c
      rw [em]
      by_cases z : most n = 0
      · rw [if_pos z, z, show hun n ch = 0 by omega]
        rfl
      · rw [if_neg z, Nat.mul_assoc, ← Nat.pow_add, show most n - hun n ch + (60 - most n) = 60 - hun n ch by omega]
    · have em : mq n = 0 := if_neg c
      rw [em, if_pos rfl, show hrd n = 9 by omega, ← Nat.pow_add, show hun n ch + (60 - hun n ch) = 60 - 0 by omega, Nat.one_mul]
  unfold Wr Wr0 Wc KK
  rw [e1, e2, Nat.mul_assoc (prdN (fun l => pri n (ch l)) (nLo n)) (hrd n ^ hun n ch), e3]
  simp only [Nat.mul_comm, Nat.mul_left_comm, Nat.mul_assoc]
theorem KK_pos {n : Nat → Int32} (R : RG n) : 0 < KK n := by
  unfold KK
  refine Nat.mul_pos (Nat.pow_pos (by omega)) (prdN_pos (fun s hs => ?_))
  have h6 := R.sg.2
  have := (R.sgn (show s < 6 by unfold nSg at hs; omega)).2.2.2.2.2.2.2.2.2
  exact Nat.mul_pos (by omega) (Nat.pow_pos (by omega))
/-- all worlds -/
def okw (n : Nat → Int32) (w : Nat) : Prop := ∀ l, l < nLo n → snd n (cw w l)
noncomputable def wt (n : Nat → Int32) (w : Nat) : Nat := iv (okw n w) * Wc n (cw w)
noncomputable def swt (n : Nat → Int32) (H : Nat → Prop) (k : Nat) : Nat := sumN (fun w => wt n w * iv (H w)) k
noncomputable def tot (n : Nat → Int32) (k : Nat) : Nat := sumN (wt n) k
noncomputable def liv (n : Nat → Int32) (l s : Nat) (k : Nat) : Nat := swt n (fun w => cw w l = s) k
def isA (n : Nat → Int32) (s w : Nat) : Prop := (∀ l, l < nLo n → cw w l = s) ∧ snd n s
noncomputable def alw (n : Nat → Int32) (s : Nat) (k : Nat) : Nat := swt n (isA n s) k
theorem swt_le {n : Nat → Int32} {H : Nat → Prop} {k : Nat} : swt n H k ≤ tot n k := sumN_mono (fun w _ => by
  have := Nat.mul_le_mul (Nat.le_refl (wt n w)) (iv_le (P := H w))
  omega)
/-- bounds -/
theorem shr_p_le {n : Nat → Int32} (R : RG n) {ch : Nat → Nat} (hch : ∀ l, l < nLo n → ch l < 4) : prdN (fun l => shr n l (ch l)) (nLo n) ≤ 2 ^ 40 := by
  rw [prd_shr R]
  have h1 : prdN (fun l => pri n (ch l)) (nLo n) ≤ 9 ^ nLo n := prdN_le (fun l hl => pri_le R (hch l hl))
  have h2 : prdN (fun t => tf n (ch (tLo n t)) t) (nTe n) ≤ 10 ^ nTe n := prdN_le (fun t ht => tf_le R (by have := R.te.2; unfold nTe at ht; omega))
  have h3 : pr0 n ch ≤ 100 := by
    unfold pr0
    split
    · exact pf_le R
    · omega
  have h4 := Nat.mul_le_mul (Nat.mul_le_mul (Nat.le_trans h1 (Nat.pow_le_pow_right (by decide) R.lo.2)) (Nat.le_trans h2 (Nat.pow_le_pow_right (by decide) R.te.2))) h3
  exact Nat.le_trans h4 (by decide)
theorem chs_le {n : Nat → Int32} (R : RG n) {ch : Nat → Nat} {s : Nat} (hs : s < 6) : chs n ch s ≤ 2 ^ 97 := by
  obtain ⟨_, _, _, _, _, h6, _, h8, _, h10⟩ := R.sgn hs
  have h := chc_le (c := sFo n s) h8 (show sCa n s ≤ 10 by omega) (min20_le (x := mon n ch (sPl n s) / nn (n (22 + sKi n s))))
  exact Nat.le_trans h (Nat.le_trans (Nat.pow_le_pow_right (by decide) (show 20 + sFo n s ≤ 29 by omega)) (by decide +kernel))
theorem chs_p_le {n : Nat → Int32} (R : RG n) {ch : Nat → Nat} {k : Nat} (hk : k ≤ 6) : prdN (chs n ch) k ≤ 2 ^ 582 := by
  have h1 : prdN (chs n ch) k ≤ (2 ^ 97) ^ k := prdN_le (fun s hs => chs_le R (by omega))
  rw [← Nat.pow_mul] at h1
  exact Nat.le_trans h1 (Nat.pow_le_pow_right (by decide) (by omega))
theorem hfc_le {n : Nat → Int32} (R : RG n) {a b : Nat} (h : a + b ≤ 60) : hrd n ^ a * 9 ^ b ≤ 2 ^ 200 := by
  have h9 : hrd n ≤ 9 := (R.pu 0 (by omega)).2
  have h1 : hrd n ^ a ≤ 10 ^ a := Nat.pow_le_pow_left (by omega) _
  have h2 : 9 ^ b ≤ 10 ^ b := Nat.pow_le_pow_left (by omega) _
  have h3 := Nat.mul_le_mul h1 h2
  rw [← Nat.pow_add] at h3
  exact Nat.le_trans h3 (Nat.le_trans (Nat.pow_le_pow_right (by decide) h) (by decide +kernel))
theorem mq_le {n : Nat → Int32} (R : RG n) : mq n ≤ 60 := by
  have := most_le R
  unfold mq
  split <;> omega
theorem hun_mq {n : Nat → Int32} {ch : Nat → Nat} (h : ¬ mq n = 0) : hun n ch ≤ mq n := by
  have hh := hun_most (n := n) (ch := ch)
  unfold mq at h ⊢
  split
  · exact hh
  · rename_i h2
    rw [if_neg h2] at h
    exact absurd rfl h
theorem Wc_le {n : Nat → Int32} (R : RG n) {ch : Nat → Nat} (hch : ∀ l, l < nLo n → ch l < 4) : Wc n ch ≤ 2 ^ 822 := by
  have h3 : hfc n ch ≤ 2 ^ 200 := by
    unfold hfc
    split
    · exact Nat.one_le_two_pow
    · rename_i h
      have h1 := hun_mq (ch := ch) h
      have h2 := mq_le R
      exact hfc_le R (by omega)
  have h6 := Nat.mul_le_mul (Nat.mul_le_mul (shr_p_le R hch) (chs_p_le R (ch := ch) R.sg.2)) h3
  rw [← Nat.pow_add, ← Nat.pow_add] at h6
  exact h6
theorem wt_le {n : Nat → Int32} (R : RG n) {w : Nat} : wt n w ≤ 2 ^ 822 := by
  have h1 := Wc_le R (ch := cw w) (fun _ _ => cw_lt)
  have h2 := Nat.mul_le_mul (iv_le (P := okw n w)) h1
  rw [Nat.one_mul] at h2
  exact h2
theorem tot_le {n : Nat → Int32} (R : RG n) {k : Nat} (hk : k ≤ 256) : tot n k ≤ 2 ^ 830 := by
  have h1 : tot n k ≤ k * 2 ^ 822 := sumN_le (fun w _ => wt_le R)
  have h2 := Nat.mul_le_mul hk (Nat.le_refl (2 ^ 822))
  rw [show 256 = 2 ^ 8 from rfl, ← Nat.pow_add] at h2
  exact Nat.le_trans h1 h2
theorem swt_lt {n : Nat → Int32} (R : RG n) {H : Nat → Prop} {k : Nat} (hk : k ≤ 256) : swt n H k ≤ 2 ^ 830 := Nat.le_trans swt_le (tot_le R hk)
