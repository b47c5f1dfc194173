/-! ===== the reference: what is asked of all worlds ===== -/
def smf (g g' : Hs) : Prop := (∀ c, c = 1 ∨ c = 2 ∨ c = 3 ∨ c = 4 ∨ c = 12 → ∀ j, gi g' c j = gi g c j) ∧ gi g' 0 6 = gi g 0 6 ∧ (∀ j, j < 2 → gi g' 6 j = gi g 6 j) ∧ (∀ s i, i < 64 → s < 2 → gl g' 5 (64 * s + i) = gl g 5 (64 * s + i))
theorem smf.refl {g : Hs} : smf g g := ⟨fun _ _ _ => rfl, rfl, fun _ _ => rfl, fun _ _ _ _ => rfl⟩
theorem smf.trans {g g1 g2 : Hs} (a : smf g g1) (b : smf g1 g2) : smf g g2 := ⟨fun c hc j => (b.1 c hc j).trans (a.1 c hc j), b.2.1.trans a.2.1, fun j hj => (b.2.2.1 j hj).trans (a.2.2.1 j hj), fun s i hi hs => (b.2.2.2 s i hi hs).trans (a.2.2.2 s i hi hs)⟩
theorem raf.smf {g g' : Hs} (f : raf g g') : smf g g' := ⟨fun c hc j => f.1 c j (by omega) (by omega) (by omega) (by omega) (by omega), f.2.1, fun j _ => f.1 6 j (by omega) (by omega) (by omega) (by omega) (by omega), fun s i _ _ => by unfold gl; rw [f.2.2]⟩
theorem mfr.smf {S : Nat → Prop} {g g' : Hs} (f : mfr S g g') (h0 : ¬ S 0) (h1 : ¬ S 1) : smf g g' := ⟨fun c hc j => f.1 c (by omega) j, f.1 0 (by omega) 6, fun j hj => f.2.1 j (by rcases (show j = 0 ∨ j = 1 by omega) with e | e <;> (rw [e]; assumption)), fun s i hi hs => f.2.2.1 s i hi (by rcases (show s = 0 ∨ s = 1 by omega) with e | e <;> (rw [e]; assumption))⟩
theorem frm.smf {S : Nat → Prop} {g g' : Hs} (f : frm S g g') (hS : ∀ c, S c → c = 11 ∨ c = 13) : smf g g' := ⟨fun c hc j => f.1 c (fun x => by have := hS c x; omega) j, f.1 0 (fun x => by have := hS 0 x; omega) 6, fun j _ => f.1 6 (fun x => by have := hS 6 x; omega) j, fun s i _ _ => f.gl _ _⟩
theorem RV.smf {g g' : Hs} {s v : Nat} (hb : RV g s v) (f : smf g g') (hs : s < 2) : RV g' s v := by
  obtain ⟨b1, b2, b3, b4, b5⟩ := hb
  have e1 : gi g' 6 s = gi g 6 s := f.2.2.1 s hs
  have e2 : ∀ i, i < 64 → gl g' 5 (64 * s + i) = gl g 5 (64 * s + i) := fun i hi => f.2.2.2 s i hi hs
  refine RV.of (e1.trans b1) b2 (fun i hi => ?_) ?_ ?_
  · rw [dl_eq (e2 i (by omega)), e2 i (by omega)]
    exact b3 i hi
  · rcases b4 with x | x
    · exact Or.inl x
    · refine Or.inr ?_
      rw [dl_eq (e2 _ (by omega))]
      exact x
  · rw [← b5]
    exact nv_congr (fun i hi => dl_eq (e2 i (by omega)))
theorem MS.smf {g g' : Hs} {n : Nat → Int32} (M : MS g n) (f : smf g g') : MS g' n := fun k hk => by rw [f.1 1 (by omega)]; exact M k hk
theorem RV.frm {S : Nat → Prop} {g g' : Hs} {s v : Nat} (hb : RV g s v) (f : frm S g g') (h6 : ¬ S 6) : RV g' s v := by
  obtain ⟨b1, b2, b3, b4, b5⟩ := hb
  have e1 : gi g' 6 s = gi g 6 s := f.1 6 h6 s
  have e2 : ∀ i, i < 64 → gl g' 5 (64 * s + i) = gl g 5 (64 * s + i) := fun i hi => f.gl _ _
  refine RV.of (e1.trans b1) b2 (fun i hi => ?_) ?_ ?_
  · rw [dl_eq (e2 i (by omega)), e2 i (by omega)]
    exact b3 i hi
  · rcases b4 with x | x
    · exact Or.inl x
    · refine Or.inr ?_
      rw [dl_eq (e2 _ (by omega))]
      exact x
  · rw [← b5]
    exact nv_congr (fun i hi => dl_eq (e2 i (by omega)))
theorem KK_le {n : Nat → Int32} (R : RG n) : KK n ≤ 10 ^ 120 := by
  unfold KK
  have h1 : 9 ^ (60 - mq n) ≤ 10 ^ 60 := Nat.le_trans (Nat.pow_le_pow_left (by omega) _) (Nat.pow_le_pow_right (by omega) (by omega))
  have h2 : prdN (fun s => (10 - sCa n s) * 10 ^ (9 - sFo n s)) (nSg n) ≤ (10 ^ 10) ^ nSg n := prdN_le (fun s _ => by
    show (10 - sCa n s) * 10 ^ (9 - sFo n s) ≤ 10 ^ 10
    have := Nat.mul_le_mul (show 10 - sCa n s ≤ 10 by omega) (Nat.pow_le_pow_right (show 0 < 10 by omega) (show 9 - sFo n s ≤ 9 by omega))
    exact Nat.le_trans this (by decide))
  rw [← Nat.pow_mul] at h2
  have h3 := R.sg.2
  exact Nat.le_trans (Nat.mul_le_mul h1 (Nat.le_trans h2 (Nat.pow_le_pow_right (by omega) (show 10 * nSg n ≤ 60 by unfold nSg; omega)))) (by rw [← Nat.pow_add]; exact Nat.le_refl _)
theorem fitS {n : Nat → Int32} (R : RG n) {x : Nat} (h : x ≤ 2 ^ 830) : x * KK n < BB ^ 61 := by
  have h1 := Nat.mul_le_mul h (KK_le R)
  exact Nat.lt_of_le_of_lt h1 (by decide +kernel)
theorem up62 {x : Nat} (h : x < BB ^ 61) : x < BB ^ 62 := Nat.lt_of_lt_of_le h (Nat.pow_le_pow_right (by decide) (by decide))
theorem swt_s (n : Nat → Int32) (H : Nat → Prop) (w : Nat) : swt n H (w + 1) = swt n H w + wt n w * iv (H w) := rfl
theorem r_sumsUp {n : Nat → Int32} {H : Nat → Prop} {a1 a2 a3 a4 : Int32} {g : Hs} {Q : Int32 → Hs → Prop} (M : MS g n) (R : RG n) (hold : ∀ (g' : Hs) (w : Nat), MS g' n → RA g' n → RCH g' n (cw w) → ∀ Q' : Int32 → Prop, (H w → Q' 1) → (¬ H w → Q' 0) → p_M_holds a1 a2 a3 a4 g' Q') (h0 : nP n = 0 ∨ tot n (4 ^ nLo n) = 0 → ∀ g', smf g g' → Q 0 g') (h1 : 0 < nP n → tot n (4 ^ nLo n) ≠ 0 → ∀ g', RV g' 5 (tot n (4 ^ nLo n) * KK n) → RV g' 6 (swt n H (4 ^ nLo n) * KK n) → RA g' n → smf g g' → Q 1 g') : p_M_sumsUp a1 a2 a3 a4 g Q := by
  have hL := M.lo R
  have hP' := M.pl R
  have hN := four_le hL.2
  have hN0 : 0 < 4 ^ nLo n := Nat.pow_pos (by omega)
  have Kp := KK_pos R
  unfold p_M_sumsUp
  refine r_readAll M R (fun g1 A1 f1 => ?_)
  refine r_set (s := 5) (x := 0) rfl rfl (by omega) (by decide) (fun g7 b7 f7 => ?_)
  refine r_set (s := 6) (x := 0) rfl rfl (by omega) (by decide) (fun g14 b14 f14 => ?_)
  have S14 : smf g g14 := (f1.smf.trans (f7.smf (neS (by omega)) (neS (by omega)))).trans (f14.smf (neS (by omega)) (neS (by omega)))
  have M14 := M.smf S14
  have A14 := (A1.mfr f7).mfr f14
  have b7' := b7.mfr f14 (neS (by omega))
  intro P20 h20
  -- the end
  have fin : ∀ (q : Hs) (x y : Nat), RV q 5 x → smf g q → (x = 0 → Q 0 q) → (x ≠ 0 → Q 1 q) → ∀ P94 : Int32 → Prop, (∀ t : Int32, zb t ∧ Q t q → P94 t) → ((gi q 6 5) ≤ 0 → (P94 0)) ∧ (¬ (gi q 6 5) ≤ 0 → (P94 1)) := by
    intro q x y bx sq q0 q1 P94 h94
    have hz := szR0 bx
    exact ⟨fun c => h94 _ ⟨zb0, q0 (hz.mp c)⟩, fun c => h94 _ ⟨zb1, q1 (fun e => c (hz.mpr e))⟩⟩
  by_cases hp0 : nP n = 0
  · refine h20 _ _ (r_worlds M14 R (fun P80 h80 => ?_))
    have go : P80 := h80 (fin g14 0 0 b7' S14 (fun _ => h0 (Or.inl hp0) g14 S14) (fun e => absurd rfl e))
    refine ⟨fun _ => go, fun _ => ?_⟩
    unfold p_M_places
    rw [(M14.pl R).1, hp0]
    exact ble (a := 0) (b := 0) rfl nI_lit0 (by omega) (by omega) (fun _ => go) (fun z => by omega)
  · refine lpH (fun w q => RV q 5 (tot n w * KK n) ∧ RV q 6 (swt n H w * KK n) ∧ RA q n ∧ smf g q) (4 ^ nLo n) ⟨by rw [show tot n 0 = 0 from rfl, Nat.zero_mul]; exact b7', by rw [show swt n H 0 = 0 from rfl, Nat.zero_mul]; exact b14, A14, S14⟩ ?_ ?_
    · intro q hI
      obtain ⟨I1, I2, I3, I4⟩ := hI
      refine h20 _ _ (r_worlds (M.smf I4) R (fun P80 h80 => ?_))
      have go : P80 := h80 (fin q _ 0 I1 I4 (fun e => h0 (Or.inr ?_) q I4) (fun e => h1 (by omega) (fun z => e (by rw [z, Nat.zero_mul])) q I1 I2 I3 I4))
      · exact bY (nI_le (Nat.le_refl _) (by omega)) go
      · rcases Nat.mul_eq_zero.mp e with y | y
        · exact y
        · omega
    · intro w q hw hI nx
      obtain ⟨I1, I2, I3, I4⟩ := hI
      have Mq := M.smf I4
      refine h20 _ _ (r_worlds Mq R (fun P80 h80 => bN (nI_ge hw (by omega)) ?_))
      unfold p_M_places
      rw [(Mq.pl R).1]
      refine ble (b := 0) rfl nI_lit0 (by omega) (by omega) (fun z => by omega) (fun _ => ?_)
      refine r_laysWorld Mq R I3 rfl (by omega) (fun ok g39 C39 f39 P74 h74 => bN one0 ?_) (fun nok g39 f39 P74 h74 => bY rfl (h74 _ (fun a5 ea => ?_)))
      · have M39 := Mq.frm f39 (by omega)
        have A39 := I3.frm f39 (fun c a b => by omega)
        have s39 : smf q g39 := f39.smf (fun c hc => Or.inl hc)
        have ew : Wr n (cw w) = wt n w * KK n := by
          rw [Wr_Wc R]
          unfold wt
          rw [iv_t ok, Nat.one_mul]
        refine r_weigh M39 R A39 C39 (fun g46 b46 f46 => ?_)
        have s46 : smf q g46 := s39.trans (f46.smf (by unfold wmS; omega) (by unfold wmS; omega))
        rw [ew] at b46
        have u5 : RV g46 5 (tot n w * KK n) := (I1.frm f39 (by omega)).mfr f46 (by unfold wmS; omega)
        have u6 : RV g46 6 (swt n H w * KK n) := (I2.frm f39 (by omega)).mfr f46 (by unfold wmS; omega)
        refine r_add (s := 5) (a := 4) rfl rfl (by omega) (by omega) (by omega) u5 b46 (up62 (fitS R (tot_le R (by omega)))) (up62 (fitS R (Nat.le_trans (wt_le R) (Nat.pow_le_pow_right (by omega) (by omega))))) (fun g52 b52 f52 => ?_)
        rw [← Nat.add_mul, ← tot_s] at b52
        have s52 : smf q g52 := s46.trans (f52.smf (neS (by omega)) (neS (by omega)))
        have v6 := u6.mfr f52 (neS (show (6 : Nat) ≠ 5 by omega))
        have v4 := b46.mfr f52 (neS (show (4 : Nat) ≠ 5 by omega))
        have A52 := (A39.mfr f46).mfr f52
        refine hold g52 w (Mq.smf s52) A52 ((C39.mfr f46).mfr f52) _ (fun hy => bN one0 ?_) (fun hn => bY rfl (h74 _ (fun a5 ea => ?_)))
        · refine r_add (s := 6) (a := 4) rfl rfl (by omega) (by omega) (by omega) v6 v4 (up62 (fitS R (swt_lt R (by omega)))) (up62 (fitS R (Nat.le_trans (wt_le R) (Nat.pow_le_pow_right (by omega) (by omega))))) (fun g71 b71 f71 => h74 _ (fun a5 ea => ?_))
          rw [nI_1] at ea
          subst ea
          refine nx g71 ⟨b52.mfr f71 (neS (by omega)), ?_, A52.mfr f71, (I4.trans s52).trans (f71.smf (neS (by omega)) (neS (by omega)))⟩
          rw [swt_s, iv_t hy, Nat.mul_one, Nat.add_mul]
          exact b71
        · rw [nI_1] at ea
          subst ea
          refine nx g52 ⟨b52, ?_, A52, I4.trans s52⟩
          rw [swt_s, iv_f hn, Nat.mul_zero, Nat.add_zero]
          exact v6
      · rw [nI_1] at ea
        subst ea
        have hz : wt n w = 0 := by unfold wt; rw [iv_f nok, Nat.zero_mul]
        refine nx g39 ⟨?_, ?_, I3.frm f39 (fun c a b => by omega), I4.trans (f39.smf (fun c hc => Or.inl hc))⟩
        · rw [tot_s, hz, Nat.add_zero]
          exact I1.frm f39 (by omega)
        · rw [swt_s, hz, Nat.zero_mul, Nat.add_zero]
          exact I2.frm f39 (by omega)
/-- the four questions -/
theorem q_lot {n : Nat → Int32} (R : RG n) {l s : Nat} {a2 a3 a4 : Int32} (e2 : a2 = nI l) (e3 : a3 = nI s) (hl : l < nLo n) (hs : s < 4) (g' : Hs) (w : Nat) (_ : MS g' n) (_ : RA g' n) (C : RCH g' n (cw w)) (Q' : Int32 → Prop) (h1 : cw w l = s → Q' 1) (h0 : ¬ cw w l = s → Q' 0) : p_M_holds 0 a2 a3 a4 g' Q' := by
  subst e2 e3
  have h4 := R.lo.2
  unfold p_M_holds
  refine bNY rfl ⟨vp_in_nI (by unfold nLo at hl; omega) (by omega), fun P19 h19 => ?_⟩
  have c4 := cw_lt (w := w) (l := l)
  rw [nI_clamp (by unfold nLo at hl; omega), (C l hl).1]
  exact beqN rfl rfl (by omega) (by omega) (fun z => h19 _ ⟨zb0, h0 z⟩) (fun z => h19 _ ⟨zb1, h1 z⟩)
theorem q_where {n : Nat → Int32} (R : RG n) {l m x : Nat} {a2 a3 a4 : Int32} (e2 : a2 = nI l) (e3 : a3 = nI m) (e4 : a4 = nI x) (hl : l < nLo n) (hm : m < 120) (hx : x < 8) (g' : Hs) (w : Nat) (_ : MS g' n) (A : RA g' n) (C : RCH g' n (cw w)) (Q' : Int32 → Prop) (h1 : Wh n (cw w l) m = x → Q' 1) (h0 : ¬ Wh n (cw w l) m = x → Q' 0) : p_M_holds 2 a2 a3 a4 g' Q' := by
  have hwl := Wh_le R (cw w l) m
  unfold p_M_holds
  refine bNN (by decide) (bNY rfl (m_whereOf A C R e2 e3 hl hm (fun P41 h41 => ?_)))
  exact beqN rfl e4 (by omega) (by omega) (fun z => h41 _ ⟨zb0, h0 z⟩) (fun z => h41 _ ⟨zb1, h1 z⟩)
theorem q_tell {n : Nat → Int32} (R : RG n) {t : Nat} {a2 a3 a4 : Int32} (e2 : a2 = nI t) (ht : t < nTe n) (g' : Hs) (w : Nat) (M : MS g' n) (A : RA g' n) (C : RCH g' n (cw w)) (Q' : Int32 → Prop) (h1 : Wh n (cw w (tLo n t)) (tMo n t) = tWh n t → Q' 1) (h0 : ¬ Wh n (cw w (tLo n t)) (tMo n t) = tWh n t → Q' 0) : p_M_holds 3 a2 a3 a4 g' Q' := by
  unfold p_M_holds
  refine bNN (by decide) (bNN (by decide) (bNY rfl (m_isSaidSo M R A C e2 ht ?_)))
  cases hb : tso n (cw w (tLo n t)) t with
  | true => exact h1 (of_decide_eq_true hb)
  | false => exact h0 (of_decide_eq_false hb)
theorem q_all {n : Nat → Int32} (R : RG n) {s : Nat} {a2 a3 a4 : Int32} (e2 : a2 = nI s) (hs : s < 4) (g' : Hs) (w : Nat) (M : MS g' n) (A : RA g' n) (C : RCH g' n (cw w)) (Q' : Int32 → Prop) (h1 : isA n s w → Q' 1) (h0 : ¬ isA n s w → Q' 0) : p_M_holds 1 a2 a3 a4 g' Q' := by
  subst e2
  have hL := M.lo R
  unfold p_M_holds p_M_lots
  rw [hL.1, nI_clamp (show s < 2 ^ 31 by omega)]
  refine bNN (by decide) (bNN (by decide) (bNN (by decide) ⟨vp_in_nI hs (by omega), fun a5 e5 P64 h64 => ?_⟩))
  have i0 : (a5 = 1 ∧ snd n s) ∨ (a5 = 0 ∧ ¬ snd n s) := by
    rcases snd_dec n s with y | y
    · exact Or.inl ⟨e5.trans ((A s hs).1 y).1, y⟩
    · exact Or.inr ⟨e5.trans ((A s hs).2 y), y⟩
  have key := lpG (fun j (q : Int32) => P64 q (nI j)) (fun j q => (q = 1 ∧ (∀ l, l < j → cw w l = s) ∧ snd n s) ∨ (q = 0 ∧ ¬ ((∀ l, l < j → cw w l = s) ∧ snd n s))) (nLo n) (s := a5) ?_ ?_ ?_
  · exact key
  · rcases i0 with ⟨e, y⟩ | ⟨e, y⟩
    · exact Or.inl ⟨e, fun l hl => by omega, y⟩
    · exact Or.inr ⟨e, fun z => y z.2⟩
  · intro q hI
    refine h64 _ _ (bY (nI_le (Nat.le_refl _) (by omega)) ?_)
    rcases hI with ⟨e, y⟩ | ⟨e, y⟩
    · rw [e]
      exact ⟨zb1, h1 y⟩
    · rw [e]
      exact ⟨zb0, h0 y⟩
  · intro j q hj hI nx
    refine h64 _ _ (bN (nI_ge hj (by omega)) (fun P94 h94 P93 h93 => ?_))
    have go : ∀ x : Int32, ((x = 1 ∧ (∀ l, l < j + 1 → cw w l = s) ∧ snd n s) ∨ (x = 0 ∧ ¬ ((∀ l, l < j + 1 → cw w l = s) ∧ snd n s))) → P94 x := fun x hx => h94 _ (fun a6 ea => by
      rw [nI_1] at ea
      subst ea
      exact nx x hx)
    have c4 := cw_lt (w := w) (l := j)
    rcases hI with ⟨e, y⟩ | ⟨e, y⟩
    · rw [e]
      refine bN one0 ⟨vp_in_nI (by omega) (by omega), ?_⟩
      rw [nI_clamp (show j < 2 ^ 31 by omega), (C j hj).1]
      refine beqN rfl rfl (by omega) (by omega) (fun z => h93 (go 0 (Or.inr ⟨rfl, fun y2 => z (y2.1 j (by omega))⟩))) (fun z => go 1 (Or.inl ⟨rfl, fun l hl => ?_, y.2⟩))
      by_cases el : l = j
      · subst el
        exact z
      · exact y.1 l (by omega)
    · rw [e]
      exact bY rfl (h93 (go 0 (Or.inr ⟨rfl, fun y2 => y ⟨fun l hl => y2.1 l (by omega), y2.2⟩⟩)))
