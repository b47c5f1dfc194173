/-! ===== the reference: a world's weight; the sums of all worlds ===== -/
def wmS : Nat → Prop := fun j => j = 2 ∨ j = 4 ∨ j = 7 ∨ j = 11
theorem ten_le {x a b : Nat} (h : x ≤ 10 ^ a) (hab : a ≤ b) : x ≤ 10 ^ b := Nat.le_trans h (Nat.pow_le_pow_right (by omega) hab)
theorem ten_mul {x y a b : Nat} (h : x ≤ 10 ^ a) (h2 : y ≤ 10 ^ b) : x * y ≤ 10 ^ (a + b) := by
  rw [Nat.pow_add]
  exact Nat.mul_le_mul h h2
theorem r_weigh {n : Nat → Int32} {ch : Nat → Nat} {g : Hs} {Q : Hs → Prop} (M : MS g n) (R : RG n) (A : RA g n) (C : RCH g n ch) (hQ : ∀ g', RV g' 4 (Wr n ch) → mfr wmS g g' → Q g') : p_M_weigh g Q := by
  have hL := M.lo R
  have hT := M.te R
  have hS := M.sg R
  have hBB : BB = 1073741824 := rfl
  have w2 : wmS 2 := Or.inl rfl
  have w4 : wmS 4 := Or.inr (Or.inl rfl)
  have hh := hun_most (n := n) (ch := ch)
  have hm := most_le R
  have h9 : hrd n ≤ 9 := (R.pu 0 (by omega)).2
  have t9 : tru n ≤ 9 := (R.pu 1 (by omega)).2
  have e20 : n 20 = nI (hrd n) := (R.pu 0 (by omega)).1
  have e21 : n 21 = nI (tru n) := (R.pu 1 (by omega)).1
  unfold p_M_weigh p_M_lots p_M_tellers p_M_signs
  refine r_set (s := 4) (x := 1) rfl rfl (by omega) (by decide) (fun h3 b3 f3 => ?_)
  intro P8 h8
  have pb : ∀ j, j ≤ nLo n → prdN (fun l => pri n (ch l)) j ≤ 10 ^ j := fun j hj => prdN_le (fun l hl => Nat.le_trans (pri_le R (C l (by omega)).2.1) (by omega))
  refine lpH (fun j q => RV q 4 (prdN (fun l => pri n (ch l)) j) ∧ mfr wmS g q) (nLo n) ⟨b3, f3.up w4⟩ ?_ ?_
  · intro q hI
    obtain ⟨I1, I2⟩ := hI
    have Mq := M.mfr I2
    have Aq := A.mfr I2
    have Cq := C.mfr I2
    refine h8 _ _ (bY (by rw [(Mq.lo R).1]; exact nI_le (Nat.le_refl _) (by omega)) (m_hungerOf Mq R Aq Cq ?_))
    rw [Mq 20 (by omega), e20, lt64n _ (by omega), show (60 : Int32) - nI (hun n ch) = nI (60 - hun n ch) from pk_sub (a := 60) (by omega)]
    refine r_timesAll (s := 4) (A := 4) rfl rfl rfl (by omega) (by omega) (ten_le (pb _ (Nat.le_refl _)) hL.2) (by omega) I1 (fun h58 b58 k58 f58 => ?_)
    refine r_timesAll (s := 4) (v := 9) rfl rfl rfl (by omega) (by omega) k58 (by omega) b58 (fun h70 b70 k70 f70 => ?_)
    have F70 : mfr wmS g h70 := (I2.trans (f58.up w4)).trans (f70.up w4)
    have M70 := M.mfr F70
    have A70 := A.mfr F70
    have C70 := C.mfr F70
    have K70 : prdN (fun l => pri n (ch l)) (nLo n) * hrd n ^ hun n ch * 9 ^ (60 - hun n ch) ≤ 10 ^ 64 := ten_le k70 (by omega)
    generalize hV : prdN (fun l => pri n (ch l)) (nLo n) * hrd n ^ hun n ch * 9 ^ (60 - hun n ch) = V at *
    have hWr : Wr n ch = V * pr0 n ch * prdN (fun t => tf n (ch (tLo n t)) t) (nTe n) * prdN (srs n ch) (nSg n) := by
      rw [← hV]
      rfl
    have p0 : pr0 n ch ≤ 10 ^ 2 := by
      unfold pr0
      split
      · exact pf_le R
      · decide
    have tb : ∀ j, j ≤ nTe n → prdN (fun t => tf n (ch (tLo n t)) t) j ≤ 10 ^ j := fun j hj => prdN_le (fun t ht => tf_le R (by omega))
    have sb : ∀ j, j ≤ nSg n → prdN (srs n ch) j ≤ 10 ^ (30 * j) := fun j hj => by
      rw [Nat.pow_mul]
      exact prdN_le (fun t ht => srs_le R (by omega))
    intro P183 h183
    have go : ∀ q, RV q 4 (V * pr0 n ch) → mfr wmS g q → P183 q := by
      intro q b Fq
      apply h183
      intro P185 h185
      refine lpH (fun j q => RV q 4 (V * pr0 n ch * prdN (fun t => tf n (ch (tLo n t)) t) j) ∧ mfr wmS g q) (nTe n) ⟨by show RV q 4 (_ * 1); rw [Nat.mul_one]; exact b, Fq⟩ ?_ ?_
      · intro q hJ
        obtain ⟨J1, J2⟩ := hJ
        refine h185 _ _ (bY (by rw [((M.mfr J2).te R).1]; exact nI_le (Nat.le_refl _) (by omega)) (fun P251 h251 => ?_))
        have kt := ten_mul (ten_mul K70 p0) (tb (nTe n) (Nat.le_refl _))
        refine lpH (fun j q => RV q 4 (V * pr0 n ch * prdN (fun t => tf n (ch (tLo n t)) t) (nTe n) * prdN (srs n ch) j) ∧ mfr wmS g q) (nSg n) ⟨by show RV q 4 (_ * 1); rw [Nat.mul_one]; exact J1, J2⟩ ?_ ?_
        · intro q hK
          refine h251 _ _ (bY (by rw [((M.mfr hK.2).sg R).1]; exact nI_le (Nat.le_refl _) (by omega)) (hQ q (by rw [hWr]; exact hK.1) hK.2))
        · intro j q hj hK nx
          obtain ⟨K1, K2⟩ := hK
          have Mq := M.mfr K2
          refine h251 _ _ (bN (by rw [(Mq.sg R).1]; exact nI_ge hj (by omega)) (r_findSign Mq R (A.mfr K2) (C.mfr K2) rfl (by omega) (fun h261 b261 f261 => ?_)))
          have c261 := K1.mfr f261 (fun x => by unfold fsS at x; omega)
          have k1 := ten_mul kt (sb j (by omega))
          have s1 : szR h261 4 ≤ 30 := c261.size_le (Nat.lt_of_le_of_lt (ten_le k1 (show _ ≤ 260 by omega)) (by decide +kernel))
          have s2 : szR h261 11 ≤ 4 := b261.size_le (Nat.lt_of_le_of_lt (srs_le R (show j < 6 by omega)) (by decide +kernel))
          refine r_product (s := 2) (a := 4) (b := 11) rfl rfl rfl (by omega) (by omega) (by omega) (by omega) (by omega) c261 b261 (by omega) (fun h269 b269 f269 => ?_)
          refine r_copy (s := 4) (a := 2) rfl rfl (by omega) (by omega) (by omega) b269 (fun h275 b275 f275 a2 ea => ?_)
          rw [nI_1] at ea
          subst ea
          refine nx h275 ⟨?_, ((K2.trans (f261.mono (fun c hc => by unfold fsS at hc; unfold wmS; omega))).trans (f269.up w2)).trans (f275.up w4)⟩
          rw [prdN_s, ← Nat.mul_assoc]
          exact b275
      · intro t q ht hJ nx
        obtain ⟨J1, J2⟩ := hJ
        have Mq := M.mfr J2
        obtain ⟨q1, q2, q3, q4, q5, q6, q7, q8⟩ := R.tel (show t < 6 by omega)
        have i4 : (545 : Int32) + 5 * nI t + 4 = nI (545 + 5 * t + 4) := by
          rw [show (5 : Int32) = nI 5 from rfl, show (545 : Int32) = nI 545 from rfl, nI_mul, nI_add]
          exact nI_add _ 4
        refine h185 _ _ (bN (by rw [(Mq.te R).1]; exact nI_ge ht (by omega)) ?_)
        rw [i4, nI_clamp (show 545 + 5 * t + 4 < 2 ^ 31 by omega), Mq _ (by omega), q7]
        refine ⟨vp_in_nI (by omega) (by omega), fun a3 e3 => m_isHeard Mq rfl (by omega) (fun P240 h240 => ?_)⟩
        subst e3
        have kt := ten_mul (ten_mul K70 p0) (tb t (by omega))
        have go240 : ∀ (v : Nat) (x : Int64), x = lN v → v = tf n (ch (tLo n t)) t → P240 x := by
          intro v x hx hv
          apply h240
          have vl : v ≤ 10 := by rw [hv]; exact tf_le R (by omega)
          refine r_times (s := 4) rfl hx (by omega) J1 (by omega) (fit62 kt (by omega)) (fun h' b' f' a2 ea => ?_)
          rw [nI_1] at ea
          subst ea
          refine nx h' ⟨?_, J2.trans (f'.up w4)⟩
          rw [prdN_s, ← Nat.mul_assoc, ← hv]
          exact b'
        cases hh : hrt n t with
        | true =>
          refine bNN (by decide) (m_isSaidSo Mq R (A.mfr J2) (C.mfr J2) rfl ht ?_)
          rw [show (10 : Int32) - nI (tWo n t) = nI (10 - tWo n t) from pk_sub (a := 10) (by omega), lt64n _ (by omega), lt64n _ (by omega)]
          cases hs : tso n (ch (tLo n t)) t with
          | true =>
            refine bN (by decide) (go240 _ _ rfl ?_)
            unfold tf
            rw [if_pos hh, hs]
            rfl
          | false =>
            refine bY rfl (go240 _ _ rfl ?_)
            unfold tf
            rw [if_pos hh, hs]
            rfl
        | false =>
          refine bNY rfl (go240 1 _ rfl ?_)
          unfold tf
          rw [if_neg (by rw [hh]; decide)]
    rw [M70 542 (by omega)]
    refine ⟨fun c => go h70 ?_ F70, fun c => ?_⟩
    · have : pr0 n ch = 1 := by
        unfold pr0 pf
        rw [if_neg c]
        split <;> rfl
      rw [this, Nat.mul_one]
      exact b70
    · rw [(M70.lo R).1]
      refine ble (b := 0) rfl nI_lit0 (by omega) (by omega) (fun z => go h70 ?_ F70) (fun z a2 ea => ?_)
      · have : pr0 n ch = 1 := by
          unfold pr0
          rw [if_neg (by omega)]
        rw [this, Nat.mul_one]
        exact b70
      · rw [M70 21 (by omega), e21] at ea
        subst ea
        obtain ⟨c1, c2, c3⟩ := C70 0 z
        obtain ⟨r1, r2, r3, r4⟩ := (A70 (ch 0) c2).1 c3
        rw [c1, nI_clamp (by omega), r2, M70 543 (by omega), show (10 : Int32) - nI (tru n) = nI (10 - tru n) from pk_sub (a := 10) (by omega), lt64n _ (by omega), lt64n _ (by omega)]
        refine ⟨vp_in_nI c2 (by omega), fun P134 h134 => ?_⟩
        have hp0 : pr0 n ch = ot (decide (wv (sto n (ch 0)).2.1 = n 543)) (tru n) * ot (decide (nI (sto n (ch 0)).2.2.1 = n 544)) (tru n) := by
          unfold pr0
          rw [if_pos z]
          unfold pf
          rw [if_pos c]
        have go134 : ∀ (b : Bool) (x : Int64), x = lN (ot b (tru n)) → b = decide (wv (sto n (ch 0)).2.1 = n 543) → P134 x := by
          intro b x hx hb
          apply h134
          have o1 := ot_le10 (b := b) (w := tru n) (by omega)
          refine r_times (s := 4) rfl hx (by omega) b70 (by omega) (fit62 K70 (by omega)) (fun h134' b134 f134 => ?_)
          have F134 := F70.trans (f134.up w4)
          have M134 := M.mfr F134
          rw [f134.1 11 (by omega), c1, nI_clamp (by omega), f134.1 9 (by omega), r3, M134 544 (by omega)]
          refine ⟨vp_in_nI c2 (by omega), fun P167 h167 => ?_⟩
          have go167 : P167 (n 544) := by
            apply h167
            intro P180 h180
            have go180 : ∀ (d : Bool) (y : Int64), y = lN (ot d (tru n)) → d = decide (nI (sto n (ch 0)).2.2.1 = n 544) → P180 y := by
              intro d y hy hd
              apply h180
              have o2 := ot_le10 (b := d) (w := tru n) (by omega)
              have k2 := ten_mul K70 (show ot b (tru n) ≤ 10 ^ 1 from o1)
              refine r_times (s := 4) rfl hy (by omega) b134 (by omega) (fit62 k2 (by omega)) (fun h180' b180 f180 => go h180' ?_ (F134.trans (f180.up w4)))
              rw [hp0, ← hb, ← hd, ← Nat.mul_assoc]
              exact b180
            exact ⟨fun e => go180 false _ rfl (decide_eq_false e).symm, fun e => go180 true _ rfl (decide_eq_true e).symm⟩
          refine ⟨fun e => ?_, fun e => ?_⟩
          · rw [(rg1 R.po.2.2).resolve_right e] at go167
            exact go167
          · rw [e] at go167
            exact go167
        exact ⟨fun e => go134 false _ rfl (decide_eq_false e).symm, fun e => go134 true _ rfl (decide_eq_true e).symm⟩
  · intro l q hl hI nx
    obtain ⟨I1, I2⟩ := hI
    have Mq := M.mfr I2
    obtain ⟨c1, c2, c3⟩ := C.mfr I2 l hl
    refine h8 _ _ (bN (by rw [(Mq.lo R).1]; exact nI_ge hl (by omega)) ⟨vp_in_nI (by omega) (by omega), ?_⟩)
    rw [nI_clamp (show l < 2 ^ 31 by omega), c1, show (30 : Int32) + nI (ch l) = nI (30 + ch l) from nI_add 30 _, nI_clamp (by omega), Mq _ (by omega), (R.pr (ch l) c2).1, lt64n _ (by have := (R.pr (ch l) c2).2; omega)]
    have pl := pri_le R c2
    refine ⟨vp_in_nI (by omega) (by omega), r_times (s := 4) (f := pri n (ch l)) rfl rfl (by omega) I1 (by omega) (fit62 (pb l (by omega)) (by omega)) (fun h33 b33 f33 a1 ea => ?_)⟩
    rw [nI_1] at ea
    subst ea
    exact nx h33 ⟨b33, I2.trans (f33.up w4)⟩
theorem r_worlds {n : Nat → Int32} {g : Hs} {Q : Int32 → Prop} (M : MS g n) (R : RG n) (hQ : Q (nI (4 ^ nLo n))) : p_M_worlds g Q := by
  have hL := M.lo R
  unfold p_M_worlds p_M_lots
  rw [hL.1]
  intro P4 h4
  refine lq2 (fun j => nI (4 ^ j)) (nLo n) rfl (h4 _ _ (bY (nI_le (Nat.le_refl _) (by omega)) hQ)) (fun j hj nx => h4 _ _ (bN (nI_ge hj (by omega)) (fun a1 e1 a2 e2 => ?_)))
  rw [show (4 : Int32) = nI 4 from rfl, nI_mul, ← Nat.pow_succ] at e1
  rw [nI_1] at e2
  subst e1 e2
  exact nx
theorem RA.frm {S : Nat → Prop} {g g' : Hs} {n : Nat → Int32} (A : RA g n) (f : frm S g g') (hS : ∀ c, 7 ≤ c → c ≤ 10 → ¬ S c) : RA g' n := fun s hs => by
  rw [f.1 10 (hS 10 (by omega) (by omega)), f.1 8 (hS 8 (by omega) (by omega)), f.1 9 (hS 9 (by omega) (by omega))]
  refine ⟨fun sn => ?_, (A s hs).2⟩
  obtain ⟨a, b, c, d⟩ := (A s hs).1 sn
  exact ⟨a, b, c, fun m hm => by rw [f.1 7 (hS 7 (by omega) (by omega))]; exact d m hm⟩
theorem MS.frm {S : Nat → Prop} {g g' : Hs} {n : Nat → Int32} (M : MS g n) (f : frm S g g') (hS : ¬ S 1) : MS g' n := fun k hk => by rw [f.1 1 hS]; exact M k hk
theorem r_laysWorld {n : Nat → Int32} {w : Nat} {a1 : Int32} {g : Hs} {Q : Int32 → Hs → Prop} (M : MS g n) (R : RG n) (A : RA g n) (e1 : a1 = nI w) (hw : w < 256) (h1 : okw n w → ∀ g', RCH g' n (cw w) → frm (fun c => c = 11) g g' → Q 1 g') (h0 : ¬ okw n w → ∀ g', frm (fun c => c = 11) g g' → Q 0 g') : p_M_laysWorld a1 g Q := by
  subst e1
  have hL := M.lo R
  unfold p_M_laysWorld p_M_lots
  intro P7 h7
  have key := lpG (fun j (q : Int32 × Hs) => P7 (nI (w / 4 ^ j)) q.1 (nI j) q.2) (fun j q => (∀ l, l < j → gi q.2 11 l = nI (cw w l)) ∧ ((q.1 = 1 ∧ ∀ l, l < j → snd n (cw w l)) ∨ (q.1 = 0 ∧ ¬ ∀ l, l < j → snd n (cw w l))) ∧ frm (fun c => c = 11) g q.2) (nLo n) (s := (1, g)) ⟨fun l hl => by omega, Or.inl ⟨rfl, fun l hl => by omega⟩, frm.refl⟩ ?_ ?_
  · rw [Nat.pow_zero, Nat.div_one, ← nI_lit0] at key
    exact key
  · intro q hI
    obtain ⟨I1, I2, I3⟩ := hI
    refine h7 _ _ _ _ (bY (by rw [I3.1 1 (by omega), hL.1]; exact nI_le (Nat.le_refl _) (by omega)) ?_)
    rcases I2 with ⟨e, al⟩ | ⟨e, al⟩
    · rw [e]
      exact ⟨zb1, h1 al q.2 (fun l hl => ⟨I1 l hl, cw_lt, al l hl⟩) I3⟩
    · rw [e]
      exact ⟨zb0, h0 al q.2 I3⟩
  · intro j q hj hI nx
    obtain ⟨I1, I2, I3⟩ := hI
    have hwj : w / 4 ^ j ≤ w := Nat.div_le_self _ _
    refine h7 _ _ _ _ (bN (by rw [I3.1 1 (by omega), hL.1]; exact nI_ge hj (by omega)) ⟨vp_in_nI (by omega) (by omega), fun h25 e25 a2 e2 P54 h54 P53 h53 => ?_⟩)
    rw [nI_clamp (show j < 2 ^ 31 by omega), show nI (w / 4 ^ j) - nI (w / 4 ^ j) / 4 * 4 = nI (w / 4 ^ j % 4) from pk_rem (d := 4) (by omega) (by omega) (by omega)] at e25
    rw [show nI (w / 4 ^ j) / 4 = nI (w / 4 ^ j / 4) from pk_div (d := 4) (by omega) (by omega) (by omega), Nat.div_div_eq_div_mul, ← Nat.pow_succ] at e2
    have c4 := cw_lt (w := w) (l := j)
    have f25 : frm (fun c => c = 11) g h25 := I3.trans (e25 ▸ frm.si rfl)
    have g11 : gi h25 11 j = nI (cw w j) := by rw [e25, gi_s]; rfl
    have A25 := A.frm f25 (fun c h1 h2 => by omega)
    have go : ∀ x : Int32, ((x = 1 ∧ ∀ l, l < j + 1 → snd n (cw w l)) ∨ (x = 0 ∧ ¬ ∀ l, l < j + 1 → snd n (cw w l))) → P54 x := fun x hx => h54 _ (fun a4 e4 => by
      rw [nI_1] at e4
      subst e2 e4
      refine nx (x, h25) ⟨fun l hl => ?_, hx, f25⟩
      by_cases e : l = j
      · subst e
        exact g11
      · show gi h25 11 l = _
        rw [e25, gi_k e]
        exact I1 l (by omega))
    rcases I2 with ⟨e, al⟩ | ⟨e, al⟩
    · rw [e]
      refine bN one0 ?_
      rw [nI_clamp (show j < 2 ^ 31 by omega), g11, nI_clamp (by omega)]
      refine ⟨vp_in_nI (by omega) (by omega), vp_in_nI c4 (by omega), fun z => h53 (go 0 (Or.inr ⟨rfl, fun y => ?_⟩)), fun z => go 1 (Or.inl ⟨rfl, fun l hl => ?_⟩)⟩
      · have := ((A25 _ c4).1 (y j (by omega))).1
        rw [this] at z
        exact one0 z
      · by_cases el : l = j
        · subst el
          rcases snd_dec n (cw w l) with y | y
          · exact y
          · exact absurd ((A25 _ c4).2 y) z
        · exact al l (by omega)
    · rw [e]
      exact bY rfl (h53 (go 0 (Or.inr ⟨rfl, fun y => al (fun l hl => y l (by omega))⟩)))
