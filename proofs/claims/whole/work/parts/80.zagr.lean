/-! ===== days and storms do not touch stories and worlds ===== -/
def AG (n m : Nat → Int32) : Prop := ∀ k, k < 575 ∨ (671 ≤ k ∧ k < 675) → n k = m k
theorem AG.c {n m : Nat → Int32} (A : AG n m) : nP n = nP m ∧ nLo n = nLo m ∧ nSg n = nSg m ∧ nTe n = nTe m := by
  unfold nP nLo nSg nTe
  rw [A 671 (by omega), A 672 (by omega), A 673 (by omega), A 674 (by omega)]
  exact ⟨rfl, rfl, rfl, rfl⟩
theorem AG.eSto {n m : Nat → Int32} (A : AG n m) {s : Nat} (hs : s < 4) : tT n s = tT m s ∧ tL n s = tL m s ∧ sto n s = sto m s := by
  have e1 : tT n s = tT m s := funext (fun i => by
    by_cases h : i < 120
    · rw [tT_i h, tT_i h, A _ (by omega)]
    · unfold tT
      rw [if_neg h, if_neg h])
  have e2 : tL n s = tL m s := by
    unfold tL
    rw [A _ (by omega)]
  refine ⟨e1, e2, ?_⟩
  unfold sto
  rw [e1, e2, A.c.1]
theorem AG.eSnd {n m : Nat → Int32} (A : AG n m) {s : Nat} (hs : s < 4) : snd n s = snd m s := by
  unfold snd
  rw [(A.eSto hs).2.2]
theorem AG.eWh {n m : Nat → Int32} (A : AG n m) {s t : Nat} (hs : s < 4) : Wh n s t = Wh m s t := by
  unfold Wh
  rw [(A.eSto hs).2.2]
theorem AG.eFd {n m : Nat → Int32} (A : AG n m) {p y : Nat} (hp : p < 6) (hy : y < 10) : fd n p y = fd m p y := by
  unfold fd
  rw [A _ (by omega), A _ (by omega)]
theorem AG.ePpl {n m : Nat → Int32} (A : AG n m) {l : Nat} (hl : l < 4) : ppl n l = ppl m l := by
  unfold ppl
  rw [A _ (by omega)]
theorem anyF_c {H H' : Nat → Bool} {a : Nat} : ∀ {k : Nat}, (∀ i, a ≤ i → i < a + k → H i = H' i) → anyF H a k = anyF H' a k
  | 0, _ => rfl
  | k + 1, h => by
    show (anyF H a k || H (a + k)) = (anyF H' a k || H' (a + k))
    rw [anyF_c (fun i h1 h2 => h i h1 (by omega)), h (a + k) (by omega) (by omega)]
theorem AG.eHun {n m : Nat → Int32} (A : AG n m) (R : RG m) {ch : Nat → Nat} (hch : ∀ l, ch l < 4) : hun n ch = hun m ch ∧ most n = most m ∧ mq n = mq m := by
  have h6 := R.pl.2
  have h4 := R.lo.2
  have ehd : ∀ p t, hd n ch p t = hd m ch p t := fun p t => by
    unfold hd
    rw [A.c.2.1]
    exact sumN_congr (fun l hl => by rw [A.eWh (hch l), A.ePpl (show l < 4 by unfold nLo at hl; omega)])
  have eev : evr n = evr m := by
    unfold evr
    rw [A.c.2.1]
    exact sumN_congr (fun l hl => A.ePpl (show l < 4 by unfold nLo at hl; omega))
  have e1 : hun n ch = hun m ch := by
    unfold hun
    rw [A.c.1]
    refine sumN_congr (fun p hp => sumN_congr (fun y hy => ?_))
    show b2 (anyF (hH n ch p) (12 * y) 12) = b2 (anyF (hH m ch p) (12 * y) 12)
    rw [anyF_c (H' := hH m ch p) (fun t h1 h2 => ?_)]
    unfold hH
    rw [A.eFd (show p < 6 by unfold nP at hp; omega) (show t / 12 < 10 by omega), ehd]
  have e2 : most n = most m := by
    unfold most
    rw [A.c.1]
    refine sumN_congr (fun p hp => sumN_congr (fun y hy => ?_))
    show b2 (decide (fd n p y < evr n)) = b2 (decide (fd m p y < evr m))
    rw [A.eFd (show p < 6 by unfold nP at hp; omega) hy, eev]
  refine ⟨e1, e2, ?_⟩
  unfold mq hrd
  rw [A 20 (by omega), e2]
theorem AG.eLf {n m : Nat → Int32} (A : AG n m) (R : RG m) {ch : Nat → Nat} (hch : ∀ l, ch l < 4) {p k : Nat} (hk : k < 4) : lf n ch p k = lf m ch p k := by
  have h4 := R.lo.2
  unfold lf mon
  rw [A.c.2.1, A (22 + k) (by omega)]
  congr 2
  refine sumN_congr (fun l hl => ?_)
  rw [A.ePpl (show l < 4 by unfold nLo at hl; omega)]
  rw [cnt_congr (W := Wh n (ch l)) (W' := Wh m (ch l)) 120 (fun t _ => A.eWh (hch l))]
theorem AG.eTf {n m : Nat → Int32} (A : AG n m) {s t : Nat} (hs : s < 4) (ht : t < 6) : tf n s t = tf m s t := by
  have e1 : hrt n t = hrt m t := by
    unfold hrt
    rw [anyF_c (H' := fun i => decide (m (545 + 5 * i) = m (545 + 5 * t))) (fun i h1 h2 => ?_)]
    show decide (n (545 + 5 * i) = n (545 + 5 * t)) = _
    rw [A (545 + 5 * i) (by omega), A (545 + 5 * t) (by omega)]
  unfold tf tso tMo tWh tWo
  rw [e1, A (545 + 5 * t + 2) (by omega), A (545 + 5 * t + 3) (by omega), A (545 + 5 * t + 4) (by omega), A.eWh hs]
theorem AG.ePf {n m : Nat → Int32} (A : AG n m) {s : Nat} (hs : s < 4) : pf n s = pf m s := by
  unfold pf tru
  rw [A 542 (by omega), A 543 (by omega), A 544 (by omega), A 21 (by omega), (A.eSto hs).2.2]
theorem AG.eShr {n m : Nat → Int32} (A : AG n m) (R : RG m) {l s : Nat} (hs : s < 4) : shr n l s = shr m l s := by
  have h6 := R.te.2
  have e : tsh n l s = tsh m l s := by
    unfold tsh
    rw [A.c.2.2.2]
    refine prdN_congr (fun t ht => ?_)
    have ht6 : t < 6 := by unfold nTe at ht; omega
    have e2 : tLo n t = tLo m t := by unfold tLo; rw [A (545 + 5 * t + 1) (by omega)]
    rw [e2, A.eTf hs ht6]
  unfold shr pri
  rw [e, A.ePf hs, A (30 + s) (by omega)]
theorem AG.eWc {n m : Nat → Int32} (A : AG n m) (R : RG m) {ch : Nat → Nat} (hch : ∀ l, ch l < 4) : Wc n ch = Wc m ch := by
  have h6 := R.sg.2
  obtain ⟨u1, u2, u3⟩ := A.eHun R hch
  have e1 : prdN (fun l => shr n l (ch l)) (nLo n) = prdN (fun l => shr m l (ch l)) (nLo m) := by
    rw [A.c.2.1]
    exact prdN_congr (fun l _ => A.eShr R (hch l))
  have e2 : prdN (chs n ch) (nSg n) = prdN (chs m ch) (nSg m) := by
    rw [A.c.2.2.1]
    refine prdN_congr (fun s hs => ?_)
    have hs6 : s < 6 := by unfold nSg at hs; omega
    have k3 := (R.sgn hs6).2.2.2.1
    have e3 : sKi n s = sKi m s := by unfold sKi; rw [A (518 + 4 * s + 1) (by omega)]
    unfold chs sDu sFo sCa sPl
    rw [e3, A (518 + 4 * s + 3) (by omega), A (518 + 4 * s + 2) (by omega), A (518 + 4 * s) (by omega), A (26 + sKi m s) (by omega), A.eLf R hch (by omega)]
  have e4 : hfc n ch = hfc m ch := by
    unfold hfc hrd
    rw [u1, u3, A 20 (by omega)]
  unfold Wc
  rw [e1, e2, e4]
theorem AG.eWt {n m : Nat → Int32} (A : AG n m) (R : RG m) (w : Nat) : wt n w = wt m w := by
  have e : okw n w = okw m w := by
    unfold okw
    rw [A.c.2.1]
    exact propext ⟨fun y l hl => by rw [← A.eSnd cw_lt]; exact y l hl, fun y l hl => by rw [A.eSnd cw_lt]; exact y l hl⟩
  unfold wt
  rw [e, A.eWc R (fun _ => cw_lt)]
theorem AG.eSwt {n m : Nat → Int32} (A : AG n m) (R : RG m) {H H' : Nat → Prop} {k : Nat} (hH : ∀ w, H w = H' w) : swt n H k = swt m H' k := sumN_congr (fun w _ => by
  show wt n w * iv (H w) = wt m w * iv (H' w)
  rw [A.eWt R w, hH w])
theorem LO.ag {h : Hs} {n m : Nat → Int32} (O : LO h n) (A : AG n m) (R : RG m) : LO h m := by
  have h6 := R.pl.2
  refine ⟨fun s hs => ?_, fun p hp y hy => ?_, O.2.2⟩
  · rw [← (A.eSto hs).1, ← (A.eSto hs).2.1, ← A.c.1]
    exact O.1 s hs
  · rw [← A.eFd (show p < 6 by unfold nP at hp; omega) hy]
    exact O.2.1 p (by rw [A.c.1]; exact hp) y hy
theorem WO.ag {h : Hs} {n m : Nat → Int32} (O : WO h n) (A : AG n m) (R : RG m) : WO h m := by
  obtain ⟨o1, o2, o3⟩ := O
  rw [A.c.2.1] at o1 o2 o3
  refine ⟨?_, fun l hl s hs => ?_, fun s hs => ?_⟩
  · have : tot n (4 ^ nLo m) = tot m (4 ^ nLo m) := sumN_congr (fun w _ => A.eWt R w)
    rw [← this]
    exact o1
  · have : liv n l s (4 ^ nLo m) = liv m l s (4 ^ nLo m) := A.eSwt R (fun _ => rfl)
    rw [← this]
    exact o2 l hl s hs
  · have : alw n s (4 ^ nLo m) = alw m s (4 ^ nLo m) := A.eSwt R (fun w => by
      unfold isA
      rw [A.c.2.1, A.eSnd hs])
    rw [← this]
    exact o3 s hs
theorem AG.eUn {n : Nat → Int32} {k : Nat} {v : Int32} (hk : 575 ≤ k ∧ k < 671) : AG n (un n k v) := fun j hj => (un_n (by omega)).symm
