/-! ===== the class weighs a world ===== -/
theorem frr.to {S T : Nat → Prop} {h h' : Hs} (f : frr S T h h') : frm S h (h'.1, h.2) := ⟨f.1, rfl⟩
theorem XS.frr {S T : Nat → Prop} {h h' : Hs} {o : Nat} {n : Nat → Int32} (x : XS h o n) (f : frr S T h h') (hS : ∀ c, o ≤ c → c < o + 40 → ¬ S c) : XS h' o n := x.keep (fun c h1 h2 j => f.1 c (hS c h1 h2) j)
theorem LO.frr {S T : Nat → Prop} {h h' : Hs} {n : Nat → Int32} (O : LO h n) (f : frr S T h h') (hS : ∀ c, c = 2 ∨ c = 49 ∨ (53 ≤ c ∧ c ≤ 70) → ¬ S c) (R : RG n) : LO h' n := by
  have x := O.frm f.to hS R
  exact x
theorem CH.frr {S T : Nat → Prop} {h h' : Hs} {n : Nat → Int32} {ch : Nat → Nat} (C : CH h n ch) (f : frr S T h h') (hS : ¬ S 48) : CH h' n ch := fun l hl => by rw [f.1 48 hS]; exact C l hl
theorem SH.frr {S T : Nat → Prop} {h h' : Hs} {n : Nat → Int32} {k : Nat} (H : SH h n k) (f : frr S T h h') (hk : k ≤ 4) (hS : ∀ c, 350 ≤ c → c ≤ 353 → ¬ S c) : SH h' n k := fun l hl s hs sn => by rw [f.1 _ (hS _ (by omega) (by omega))]; exact H l hl s hs sn
theorem CK.frr {S T : Nat → Prop} {h h' : Hs} {n : Nat → Int32} {k : Nat} (H : CK h n k) (f : frr S T h h') (hk : k ≤ 6) (hS : ∀ c, 77 ≤ c → c ≤ 328 → ¬ S c) : CK h' n k := fun s hs x hx => (H s hs x hx).frr f (hS _ (by omega) (by omega)) (hS _ (by omega) (by omega))
def WF (h : Hs) : Prop := (gr h 1 6 = 357 ∧ gr h 1 7 = 359) ∨ (gr h 1 6 = 359 ∧ gr h 1 7 = 357)
theorem kX_wf : kX 357 = 1 ∧ kX 359 = 1 ∧ lX (357 + 1) = 32 ∧ lX (359 + 1) = 32 := by decide +kernel
theorem WF.k6 {h : Hs} (W : WF h) : kX (gr h 1 6) = 1 ∧ lX (gr h 1 6 + 1) = 32 := by
  rcases W with ⟨a, _⟩ | ⟨a, _⟩ <;> rw [a]
  · exact ⟨kX_wf.1, kX_wf.2.2.1⟩
  · exact ⟨kX_wf.2.1, kX_wf.2.2.2⟩
theorem WF.k7 {h : Hs} (W : WF h) : kX (gr h 1 7) = 1 ∧ lX (gr h 1 7 + 1) = 32 := by
  rcases W with ⟨_, a⟩ | ⟨_, a⟩ <;> rw [a]
  · exact ⟨kX_wf.2.1, kX_wf.2.2.2⟩
  · exact ⟨kX_wf.1, kX_wf.2.2.1⟩
theorem WF.ne {h : Hs} (W : WF h) : gr h 1 7 ≠ gr h 1 6 := by
  rcases W with ⟨a, b⟩ | ⟨a, b⟩ <;> (rw [a, b]; decide)
theorem WF.in6 {h : Hs} (W : WF h) : gr h 1 6 = 357 ∨ gr h 1 6 = 359 := by
  rcases W with ⟨a, _⟩ | ⟨a, _⟩
  · exact Or.inl a
  · exact Or.inr a
theorem WF.in7 {h : Hs} (W : WF h) : gr h 1 7 = 357 ∨ gr h 1 7 = 359 := by
  rcases W with ⟨_, a⟩ | ⟨_, a⟩
  · exact Or.inr a
  · exact Or.inl a
theorem WF.frm {S : Nat → Prop} {h h' : Hs} (W : WF h) (f : frm S h h') : WF h' := by unfold WF; rw [f.gr, f.gr]; exact W
def wgS : Nat → Prop := fun c => c = 50 ∨ c = 51 ∨ (357 ≤ c ∧ c ≤ 360)
def wgT : Nat → Prop := fun c => c = 1
theorem bS_wg {o c : Nat} (ho : o = 357 ∨ o = 359) (h : bS o c) : wgS c := by unfold bS at h; unfold wgS; omega
theorem fit32 {x k : Nat} (h : x ≤ 2 ^ k) (hk : k < 960) : x < BB ^ 32 := by
  rw [BB32]
  exact Nat.lt_of_le_of_lt h (Nat.pow_lt_pow_right (by decide) hk)
/-- the weight that is held -/
def HW (h : Hs) (v : Nat) : Prop := BV h (gr h 1 6) v
theorem HW.frm {S : Nat → Prop} {h h' : Hs} {v : Nat} (b : HW h v) (W : WF h) (f : frm S h h') (hS : ∀ c, 357 ≤ c → c ≤ 360 → ¬ S c) : HW h' v := by
  have w := W.in6
  unfold HW
  rw [f.gr]
  exact BV.frm b f (hS _ (by omega) (by omega)) (hS _ (by omega) (by omega))
theorem prdN_z {f : Nat → Nat} {k : Nat} (h : prdN f k = 0) : ∀ d, prdN f (k + d) = 0
  | 0 => h
  | d + 1 => by rw [← Nat.add_assoc, prdN_s, prdN_z h d, Nat.zero_mul]
theorem s_weigh {n : Nat → Int32} {ch : Nat → Nat} {h : Hs} {Q : Hs → Prop} (X : XS h 3 n) (R : RG n) (O : LO h n) (C : CH h n ch) (H : SH h n (nLo n)) (K : CK h n (nSg n)) (W : WF h) (m8 : gi h 1 8 = nI (mq n)) (hQ : ∀ h', HW h' (Wc n ch) → WF h' → frr wgS wgT h h' → Q h') : p_Worlds_weigh h Q := by
  have hL := X.lo R
  have hS' := X.sg R
  have Xf : ∀ g, frr wgS wgT h g → XS g 3 n := fun g f => X.frr f (fun c a b => by unfold wgS; omega)
  have Of : ∀ g, frr wgS wgT h g → LO g n := fun g f => O.frr f (fun c hc => by unfold wgS; omega) R
  have Cf : ∀ g, frr wgS wgT h g → CH g n ch := fun g f => C.frr f (by unfold wgS; omega)
  have hch : ∀ l, l < nLo n → ch l < 4 := fun l hl => (C l hl).2.1
  have shb := shr_p_le R hch
  have hBB : BB = 1073741824 := rfl
  unfold p_Worlds_weigh
  refine ⟨W.k6.1, ?_⟩
  rw [show (1 : Int64) = lN 1 from rfl]
  refine s_become W.k6.1 (by decide) (fun h5 b5 f5 => ?_)
  have W5 := W.frm f5
  have F5 : frr wgS wgT h h5 := (f5.mono (fun c hc => bS_wg W.in6 hc)).frr
  intro P10 h10
  refine lpH (fun j g => HW g (prdN (fun l => shr n l (ch l)) j) ∧ WF g ∧ frr wgS wgT h g) (nLo n) ⟨by unfold HW; rw [f5.gr]; exact b5, W5, F5⟩ ?_ ?_
  · intro g hI
    obtain ⟨I1, I2, I3⟩ := hI
    refine h10 _ _ (bY (by rw [((Xf g I3).lo R).1]; exact nI_le (Nat.le_refl _) (by omega)) (fun P52 h52 => ?_))
    -- behind the signs
    have fin : ∀ g, HW g (prdN (fun l => shr n l (ch l)) (nLo n) * prdN (chs n ch) (nSg n)) → WF g → frr wgS wgT h g → ∀ P200 : Hs → Prop, (∀ g_200 : Hs, Q g_200 → P200 g_200) → ((gi g 1 8) ≤ 0 → (P200 g)) ∧ (¬ (gi g 1 8) ≤ 0 → (kX (gr g 1 6) = 1 ∧ p_Big_isZero (gr g 1 6) g (fun r_154 => (¬ r_154 = 0 → (P200 g)) ∧ (r_154 = 0 → (p_Lives_hungerYears g (fun r_164 h_164 => kX (gr h_164 1 6) = 1 ∧ p_Big_timesPower (gr h_164 1 6) (gi h_164 7 0) r_164 h_164 (fun h_182 => kX (gr h_182 1 6) = 1 ∧ p_Big_timesPower (gr h_182 1 6) 9 ((gi h_182 1 8) - r_164) h_182 (fun h_197 => P200 h_197)))))))) := by
      intro g b Wg Fg P200 h200
      have e8 : gi g 1 8 = nI (mq n) := by rw [Fg.1 1 (by unfold wgS; omega)]; exact m8
      have mq60 := mq_le R
      rw [e8]
      refine ble (b := 0) rfl nI_lit0 (by omega) (by omega) (fun z => h200 g (hQ g ?_ Wg Fg)) (fun z => ⟨Wg.k6.1, ?_⟩)
      · have : hfc n ch = 1 := if_pos (by omega)
        unfold Wc
        rw [this, Nat.mul_one]
        exact b
      · have mz : ¬ mq n = 0 := by omega
        have hmq := hun_mq (ch := ch) mz
        have hf : hfc n ch = hrd n ^ hun n ch * 9 ^ (mq n - hun n ch) := if_neg mz
        refine s_isZero Wg.k6.1 b (fun e => bNN one0 (h200 g (hQ g ?_ Wg Fg))) (fun e => bNY rfl ?_)
        · unfold Wc
          rw [e, Nat.zero_mul]
          rw [e] at b
          exact b
        · refine s_hungerYears (Xf g Fg) R (Of g Fg) (Cf g Fg) (fun h164 f164 => ?_)
          have W164 := Wg.frm f164
          have b164 : HW h164 _ := HW.frm b Wg f164 (fun c h1 h2 => by unfold hyS; omega)
          have F164 : frr wgS wgT h h164 := Fg.trans (f164.mono (fun c hc => by unfold hyS at hc; unfold wgS; omega)).frr
          have e7 : gi h164 7 0 = nI (hrd n) := ((Xf _ F164).put (i := 0) (by omega)).trans (R.pu 0 (by omega)).1
          have h9 : hrd n ≤ 9 := (R.pu 0 (by omega)).2
          have pb := Nat.mul_le_mul shb (chs_p_le R (ch := ch) hS'.2)
          rw [← Nat.pow_add] at pb
          refine ⟨W164.k6.1, ?_⟩
          rw [e7]
          refine s_timesPower W164.k6.1 b164 (by omega) (by omega) (fun j hj => ?_) (fun h182 b182 f182 => ?_)
          · rw [W164.k6.2]
            have h1 := hfc_le R (a := j) (b := 0) (by omega)
            rw [Nat.pow_zero, Nat.mul_one] at h1
            have h2 := Nat.mul_le_mul pb h1
            rw [← Nat.pow_add] at h2
            exact fit32 h2 (by omega)
          · have W182 := W164.frm f182
            have F182 : frr wgS wgT h h182 := F164.trans (f182.mono (fun c hc => bS_wg W164.in6 hc)).frr
            have e8' : gi h182 1 8 = nI (mq n) := by rw [F182.1 1 (by unfold wgS; omega)]; exact m8
            refine ⟨W182.k6.1, ?_⟩
            rw [e8', pk_sub hmq, show (9 : Int32) = nI 9 from rfl]
            have b182' : HW h182 (prdN (fun l => shr n l (ch l)) (nLo n) * prdN (chs n ch) (nSg n) * hrd n ^ hun n ch) := by unfold HW; rw [f182.gr]; exact b182
            refine s_timesPower W182.k6.1 b182' (by omega) (by omega) (fun j hj => ?_) (fun h197 b197 f197 => h200 _ (hQ h197 ?_ (W182.frm f197) (F182.trans (f197.mono (fun c hc => bS_wg W182.in6 hc)).frr)))
            · rw [W182.k6.2, Nat.mul_assoc]
              have h1 := hfc_le R (a := hun n ch) (b := j) (by omega)
              have h2 := Nat.mul_le_mul pb h1
              rw [← Nat.pow_add] at h2
              exact fit32 h2 (by omega)
            · unfold HW Wc
              rw [f197.gr, hf, ← Nat.mul_assoc]
              exact b197
    refine lpH (fun j g => HW g (prdN (fun l => shr n l (ch l)) (nLo n) * prdN (chs n ch) j) ∧ WF g ∧ frr wgS wgT h g) (nSg n) ⟨by show HW g (_ * 1); rw [Nat.mul_one]; exact I1, I2, I3⟩ ?_ ?_
    · intro g2 hJ
      refine h52 _ _ (fun P143 h143 => bY (by rw [((Xf g2 hJ.2.2).sg R).1]; exact nI_le (Nat.le_refl _) (by omega)) (h143 (fin g2 hJ.1 hJ.2.1 hJ.2.2)))
    · intro j g2 hj hJ nx2
      obtain ⟨J1, J2, J3⟩ := hJ
      obtain ⟨n0, l0, n1, l1, n2, l2, n3, l3, n4, l4⟩ := R.sgn (show j < 6 by omega)
      have Xg := Xf g2 J3
      refine h52 _ _ (fun P143 h143 => bN (by rw [(Xg.sg R).1]; exact nI_ge hj (by omega)) ⟨J2.k6.1, s_isZero J2.k6.1 J1 (fun e => bNN one0 (h143 (fin g2 ?_ J2 J3))) (fun e => bNY rfl ⟨vp_in_nI (by omega) (by omega), ?_⟩)⟩)
      · have hz : prdN (fun l => shr n l (ch l)) (nLo n) * prdN (chs n ch) (nSg n) = 0 := by
          rcases Nat.mul_eq_zero.mp e with y | y
          · rw [y, Nat.zero_mul]
          · have := prdN_z y (nSg n - j)
            rw [show j + (nSg n - j) = nSg n by omega] at this
            rw [this, Nat.mul_zero]
        rw [hz]
        rw [e] at J1
        exact J1
      · rw [nI_clamp (show j < 2 ^ 31 by omega), show 20 + 1 + 1 * j = 21 + j by omega, Xg.sig (i := 0) (show j < 6 by omega) (by omega), Xg.sig (i := 1) (show j < 6 by omega) (by omega)]
        refine s_left Xg R (Of g2 J3) (Cf g2 J3) n0 n1 (by omega) (by omega) ⟨J2.k7.1, J2.k6.1, ?_⟩
        have lf20 : lf n ch (sPl n j) (sKi n j) ≤ 20 := min20_le
        unfold p_Chances_of
        have ei : nI j * 21 + nI (lf n ch (sPl n j) (sKi n j)) = nI (21 * j + lf n ch (sPl n j) (sKi n j)) := by
          rw [show (21 : Int32) = nI 21 from rfl, nI_mul, nI_add, Nat.mul_comm j 21]
        rw [ei, nI_clamp (by omega)]
        have kt := kX_tb (21 * j + lf n ch (sPl n j) (sKi n j)) (by omega)
        have bc' : BV g2 (77 + 2 * (21 * j + lf n ch (sPl n j) (sKi n j))) (chs n ch j) := (K.frr J3 hS'.2 (fun c h1 h2 => by unfold wgS; omega)) j hj _ lf20
        have w6 := J2.in6
        have w7 := J2.in7
        have pb := Nat.mul_le_mul shb (chs_p_le R (ch := ch) (show j ≤ 6 by omega))
        rw [← Nat.pow_add] at pb
        have s1 : szB g2 (gr g2 1 6) ≤ 21 := J1.size_le (Nat.lt_of_le_of_lt pb (by decide +kernel))
        have s2 : szB g2 (77 + 2 * (21 * j + lf n ch (sPl n j) (sKi n j))) ≤ 4 := bc'.size_le (Nat.lt_of_le_of_lt (chs_le R (show j < 6 by omega)) (by decide +kernel))
        refine ⟨vp_in_nI (by omega) (by omega), kt.1, s_product J2.k7.1 J2.k6.1 kt.1 J2.ne (by omega) J1 bc' (by rw [J2.k7.2]; omega) (fun h114 b114 f114 => ?_)⟩
        have W114 := J2.frm f114
        have F114 : frr wgS wgT h h114 := J3.trans (f114.mono (fun c hc => bS_wg w7 hc)).frr
        refine ⟨W114.k7.1, W114.k6.1, fun h128 e128 h134 e134 a1 ea => ?_⟩
        rw [nI_1] at ea
        subst ea
        have g6 : gr h134 1 6 = gr h114 1 7 := by rw [e134, gr_if, if_pos ⟨rfl, rfl⟩]
        have g7 : gr h134 1 7 = gr h114 1 6 := by rw [e134, gr_if, if_neg (by omega), e128, gr_if, if_pos ⟨rfl, rfl⟩]
        have F134 : frr wgS wgT h114 h134 := (e128 ▸ frr.sr rfl : frr wgS wgT h114 h128).trans (e134 ▸ frr.sr rfl)
        refine nx2 h134 ⟨?_, ?_, F114.trans F134⟩
        · unfold HW
          rw [g6, f114.gr, prdN_s, ← Nat.mul_assoc]
          have b134 : BV (sr (sr h114 1 7 (gr h114 1 6)) 1 6 (gr h114 1 7)) (gr g2 1 7) (prdN (fun l => shr n l (ch l)) (nLo n) * prdN (chs n ch) j * chs n ch j) := b114
          rw [e134, e128]
          exact b134
        · unfold WF
          rw [g6, g7]
          rcases W114 with ⟨a, b⟩ | ⟨a, b⟩
          · exact Or.inr ⟨b, a⟩
          · exact Or.inl ⟨b, a⟩
  · intro l g hl hI nx
    obtain ⟨I1, I2, I3⟩ := hI
    have Cg := Cf g I3
    obtain ⟨c1, c2, c3⟩ := Cg l hl
    refine h10 _ _ (bN (by rw [((Xf g I3).lo R).1]; exact nI_ge hl (by omega)) ⟨I2.k6.1, vp_in_nI (by omega) (by omega), vp_in_nI (by omega) (by omega), ?_⟩)
    rw [nI_clamp (show l < 2 ^ 31 by omega), c1, nI_clamp (show ch l < 2 ^ 31 by omega), show 349 + 1 + 1 * l = 350 + l by omega, (H.frr I3 hL.2 (fun c h1 h2 => by unfold wgS; omega)) l hl (ch l) c2 c3]
    have sl := (shr_lt R (l := l) c2).2
    have pl : prdN (fun l => shr n l (ch l)) l ≤ (2 ^ 30) ^ l := prdN_le (fun i hi => Nat.le_trans (shr_lt R (hch i (by omega))).2 (by decide))
    refine ⟨vp_in_nI c2 (by omega), s_times I2.k6.1 I1 (by omega) ?_ (fun h41 b41 f41 a1 ea => ?_)⟩
    · rw [I2.k6.2]
      have h1 := Nat.mul_le_mul pl (Nat.le_trans sl (show 900000000 ≤ 2 ^ 30 by decide))
      rw [← Nat.pow_succ, ← Nat.pow_mul] at h1
      exact fit32 h1 (by omega)
    · rw [nI_1] at ea
      subst ea
      refine nx h41 ⟨?_, I2.frm f41, I3.trans (f41.mono (fun c hc => bS_wg I2.in6 hc)).frr⟩
      unfold HW
      rw [f41.gr, prdN_s]
      exact b41
