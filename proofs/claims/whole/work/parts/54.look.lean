/-! ===== the reference looks at a token ===== -/
def mK (T : Nat → Nat) (L a : Nat) : Nat := if L ≤ a then 0 else if smB (T a) = true then 1 else if fgB (T a) = true then (if tkE T L a - a ≤ 3 then 2 else 4) else if T a = 59 then 3 else 4
def MT (g : Hs) (T : Nat → Nat) (L a : Nat) : Prop := gi g 0 8 = nI a ∧ gi g 0 9 = nI (tkE T L a - a) ∧ gi g 0 10 = nI (mK T L a) ∧ (mK T L a = 2 → gi g 0 11 = nI (tkV T L a))
def MX (g : Hs) (s : Nat) (T : Nat → Nat) (L : Nat) : Prop := s < 4 ∧ L ≤ 120 ∧ gi g 0 7 = nI s ∧ gi g 1 (34 + 121 * s) = nI L ∧ ∀ i, i < L → gi g 1 (35 + 121 * s + i) = nI (T i) ∧ T i < 256
def lfr (g g' : Hs) : Prop := (∀ c j, (c ≠ 0 ∨ j < 8 ∨ 11 < j) → gi g' c j = gi g c j) ∧ g'.2 = g.2
theorem lfr.refl {g : Hs} : lfr g g := ⟨fun _ _ _ => rfl, rfl⟩
theorem lfr.trans {g g1 g2 : Hs} (a : lfr g g1) (b : lfr g1 g2) : lfr g g2 := ⟨fun c j h => (b.1 c j h).trans (a.1 c j h), b.2.trans a.2⟩
theorem lfr.si {g : Hs} {k : Nat} {v : Int32} (h1 : 8 ≤ k) (h2 : k ≤ 11) : lfr g (si g 0 k v) := ⟨fun c j h => by rw [gi_if, if_neg (by omega)], rfl⟩
theorem MX.lfr {g g' : Hs} {s L : Nat} {T : Nat → Nat} (x : MX g s T L) (f : lfr g g') : MX g' s T L := ⟨x.1, x.2.1, by rw [f.1 0 7 (by omega)]; exact x.2.2.1, by rw [f.1 1 _ (by omega)]; exact x.2.2.2.1, fun i hi => by rw [f.1 1 _ (by omega)]; exact x.2.2.2.2 i hi⟩
theorem m121 {s : Nat} : (34 : Int32) + (121 : Int32) * nI s = nI (34 + 121 * s) := by
  have e : (121 : Int32) * nI s = nI (121 * s) := pk_mul 121 s
  have e2 : (34 : Int32) + nI (121 * s) = nI (34 + 121 * s) := nI_add 34 _
  rw [e, e2]
theorem m_textLong {s L : Nat} {T : Nat → Nat} {a1 : Int32} {g : Hs} {Q : Int32 → Prop} (x : MX g s T L) (e : a1 = nI s) (hQ : Q (nI L)) : p_M_textLong a1 g Q := by
  subst e
  have h4 := x.1
  unfold p_M_textLong
  rw [m121, nI_clamp (by omega), x.2.2.2.1]
  exact ⟨vp_in_nI (by omega) (by omega), hQ⟩
theorem m_byteAt {s L i : Nat} {T : Nat → Nat} {a1 a2 : Int32} {g : Hs} {Q : Int32 → Prop} (x : MX g s T L) (e : a1 = nI s) (e2 : a2 = nI i) (hi : i < L) (hQ : Q (nI (T i))) : p_M_byteAt a1 a2 g Q := by
  subst e e2
  have h4 := x.1
  have hL := x.2.1
  unfold p_M_byteAt
  rw [m121, nI_1, nI_add, nI_clamp (by omega), show 34 + 121 * s + 1 + i = 35 + 121 * s + i by omega, (x.2.2.2.2 i hi).1]
  exact ⟨vp_in_nI (by omega) (by omega), hQ⟩
theorem m_isSmall {c : Nat} {a0 : Int32} {g : Hs} {Q : Int32 → Prop} (e : a0 = nI c) (hc : c < 256) (h1 : smB c = true → Q 1) (h0 : ¬ smB c = true → Q 0) : p_M_isSmall a0 g Q := by
  subst e
  unfold p_M_isSmall
  have ei : (nI c).toInt64.toInt = (c : Int) := by rw [i64, nI_toInt' (by omega)]
  refine m_in (lo := 97) (hi := 122) ei (by decide) (by decide) (fun x => h1 (smB_iff.mpr ?_)) (fun x => h0 (fun y => x ?_))
  · unfold ir at x
    omega
  · have := smB_iff.mp y
    unfold ir
    omega
theorem m_isFigure {c : Nat} {a0 : Int32} {g : Hs} {Q : Int32 → Prop} (e : a0 = nI c) (hc : c < 256) (h1 : fgB c = true → Q 1) (h0 : ¬ fgB c = true → Q 0) : p_M_isFigure a0 g Q := by
  subst e
  unfold p_M_isFigure
  have ei : (nI c).toInt64.toInt = (c : Int) := by rw [i64, nI_toInt' (by omega)]
  refine m_in (lo := 48) (hi := 57) ei (by decide) (by decide) (fun x => h1 (fgB_iff.mpr ?_)) (fun x => h0 (fun y => x ?_))
  · unfold ir at x
    omega
  · have := fgB_iff.mp y
    unfold ir
    omega
def k0 (T : Nat → Nat) (a : Nat) : Nat := if smB (T a) = true then 1 else if fgB (T a) = true then 2 else if T a = 59 then 3 else 4
def RUK (T : Nat → Nat) (L a m : Nat) : Prop := (k0 T a = 1 → ru smB T L m = tkE T L a) ∧ (k0 T a = 2 → ru fgB T L m = tkE T L a)
theorem k0_b {T : Nat → Nat} {a : Nat} : 1 ≤ k0 T a ∧ k0 T a ≤ 4 := by
  unfold k0
  split
  · omega
  · split
    · omega
    · split <;> omega
theorem r_look {s L i : Nat} {T : Nat → Nat} {a1 : Int32} {g : Hs} {Q : Hs → Prop} (x : MX g s T L) (e1 : a1 = nI i) (hi : i ≤ L) (hQ : ∀ g', MT g' T L (ru spB T L i) → lfr g g' → Q g') : p_M_look a1 g Q := by
  subst e1
  have hL := x.2.1
  unfold p_M_look
  intro h2 e2 P5 h5
  have k5 : ∀ (k j : Nat) (g2 : Hs), L - j = k → j ≤ L → gi g2 0 8 = nI j → ru spB T L j = ru spB T L i → lfr g g2 → P5 g2 := by
    intro k
    -- what is done once the spaces are past
    have past : ∀ (j : Nat) (g2 : Hs), j ≤ L → gi g2 0 8 = nI j → j = ru spB T L i → lfr g g2 → (∀ h_52 : Hs, h_52 = si g2 0 9 0 → ∀ h_57 : Hs, h_57 = si h_52 0 10 0 → ∀ h_62 : Hs, h_62 = si h_57 0 11 0 → p_M_textLong (gi h_62 0 7) h_62 (fun r_74 => (¬ (gi h_62 0 8) = r_74 → (p_M_byteAt (gi h_62 0 7) (gi h_62 0 8) h_62 (fun r_90 => p_M_isSmall r_90 h_62 (fun r_96 => ∀ P_128 : Int32 → Prop, (∀ (t1_128 : Int32), (∀ h_128 : Hs, h_128 = si h_62 0 10 t1_128 → ∀ h_133 : Hs, h_133 = si h_128 0 9 1 → ∀ P_149 : Int32 → Prop, (∀ (t0_149 : Int32), (∀ P_150 : Int32 → Hs → Prop, (∀ (b3_150 : Int32) (g_150 : Hs), (∀ P_236 : Prop, ((∀ P_239 : Int32 → Hs → Prop, (∀ (b4_239 : Int32) (g_239 : Hs), (∀ P_298 : Prop, ((∀ P_323 : Int32 → Prop, (∀ (t1_323 : Int32), (∀ h_323 : Hs, h_323 = si g_239 0 10 t1_323 → Q h_323) → P_323 t1_323) → ∀ P_319 : Prop, ((P_323 (gi g_239 0 10)) → P_319) → (¬ (gi g_239 0 10) = 2 → (P_319)) ∧ ((gi g_239 0 10) = 2 → (((gi g_239 0 9) ≤ 3 → (P_319)) ∧ (¬ (gi g_239 0 9) ≤ 3 → (P_323 4))))) → P_298) → ((gi g_239 0 9) ≤ b4_239 → (P_298)) ∧ (¬ (gi g_239 0 9) ≤ b4_239 → ((3 ≤ b4_239 → (P_298)) ∧ (¬ 3 ≤ b4_239 → ((¬ (gi g_239 0 10) = 2 → (P_298)) ∧ ((gi g_239 0 10) = 2 → (p_M_byteAt (gi g_239 0 7) ((gi g_239 0 8) + b4_239) g_239 (fun r_282 => ∀ h_289 : Hs, h_289 = si g_239 0 11 (((10 * (gi g_239 0 11)) + r_282) - 48) → ∀ a4_292 : Int32, a4_292 = b4_239 + 1 → P_239 a4_292 h_289)))))))) → P_239 b4_239 g_239) → P_239 0 g_150) → P_236) → (b3_150 = 0 → (P_236)) ∧ (¬ b3_150 = 0 → (p_M_textLong (gi g_150 0 7) g_150 (fun r_168 => (r_168 ≤ ((gi g_150 0 8) + (gi g_150 0 9)) → (P_236)) ∧ (¬ r_168 ≤ ((gi g_150 0 8) + (gi g_150 0 9)) → (p_M_byteAt (gi g_150 0 7) ((gi g_150 0 8) + (gi g_150 0 9)) g_150 (fun r_188 => ∀ P_214 : Int32 → Prop, (∀ (t0_214 : Int32), (∀ P_229 : Int32 → Prop, (∀ (t2_229 : Int32), (∀ h_230 : Hs, h_230 = si g_150 0 9 ((gi g_150 0 9) + t2_229) → P_150 t0_214 h_230) → P_229 t2_229) → (t0_214 = 0 → (P_229 0)) ∧ (¬ t0_214 = 0 → (P_229 1))) → P_214 t0_214) → (¬ (gi g_150 0 10) = 1 → (p_M_isFigure r_188 g_150 (fun r_211 => P_214 r_211))) ∧ ((gi g_150 0 10) = 1 → (p_M_isSmall r_188 g_150 (fun r_203 => P_214 r_203)))))))))) → P_150 b3_150 g_150) → P_150 t0_149 h_133) → P_149 t0_149) → (3 ≤ (gi h_133 0 10) → (P_149 0)) ∧ (¬ 3 ≤ (gi h_133 0 10) → (P_149 1))) → P_128 t1_128) → (r_96 = 0 → (p_M_isFigure r_90 h_62 (fun r_107 => (r_107 = 0 → ((¬ r_90 = 59 → (P_128 4)) ∧ (r_90 = 59 → (P_128 3)))) ∧ (¬ r_107 = 0 → (P_128 2))))) ∧ (¬ r_96 = 0 → (P_128 1)))))) ∧ ((gi h_62 0 8) = r_74 → (Q h_62)))) := by
      intro a g2 ha g8 hru gf h52 e52 h57 e57 h62 e62
      have f62 : lfr g h62 := ((gf.trans (e52 ▸ lfr.si (by omega) (by omega))).trans (e57 ▸ lfr.si (by omega) (by omega))).trans (e62 ▸ lfr.si (by omega) (by omega))
      have x62 := x.lfr f62
      have h8 : gi h62 0 8 = nI a := by rw [e62, gi_k (by omega), e57, gi_k (by omega), e52, gi_k (by omega)]; exact g8
      have h9 : gi h62 0 9 = 0 := by rw [e62, gi_k (by omega), e57, gi_k (by omega), e52, gi_s]
      have h10 : gi h62 0 10 = 0 := by rw [e62, gi_k (by omega), e57, gi_s]
      have h11 : gi h62 0 11 = 0 := by rw [e62, gi_s]
      rw [x62.2.2.1, h8]
      refine m_textLong x62 rfl ⟨fun c => ?_, fun c => ?_⟩
      · have haL : a < L := by
          rcases Nat.lt_or_ge a L with y | y
          · exact y
          · exact absurd (by rw [show a = L by omega]) c
        have hle : ¬ L ≤ a := by omega
        have hTa := (x.2.2.2.2 a haL).2
        refine m_byteAt x62 rfl rfl haL ?_
        -- the kind at first sight
        have main : ∀ (P128 : Int32 → Prop), (∀ (t1_128 : Int32), (∀ h_128 : Hs, h_128 = si h62 0 10 t1_128 → ∀ h_133 : Hs, h_133 = si h_128 0 9 1 → ∀ P_149 : Int32 → Prop, (∀ (t0_149 : Int32), (∀ P_150 : Int32 → Hs → Prop, (∀ (b3_150 : Int32) (g_150 : Hs), (∀ P_236 : Prop, ((∀ P_239 : Int32 → Hs → Prop, (∀ (b4_239 : Int32) (g_239 : Hs), (∀ P_298 : Prop, ((∀ P_323 : Int32 → Prop, (∀ (t1_323 : Int32), (∀ h_323 : Hs, h_323 = si g_239 0 10 t1_323 → Q h_323) → P_323 t1_323) → ∀ P_319 : Prop, ((P_323 (gi g_239 0 10)) → P_319) → (¬ (gi g_239 0 10) = 2 → (P_319)) ∧ ((gi g_239 0 10) = 2 → (((gi g_239 0 9) ≤ 3 → (P_319)) ∧ (¬ (gi g_239 0 9) ≤ 3 → (P_323 4))))) → P_298) → ((gi g_239 0 9) ≤ b4_239 → (P_298)) ∧ (¬ (gi g_239 0 9) ≤ b4_239 → ((3 ≤ b4_239 → (P_298)) ∧ (¬ 3 ≤ b4_239 → ((¬ (gi g_239 0 10) = 2 → (P_298)) ∧ ((gi g_239 0 10) = 2 → (p_M_byteAt (gi g_239 0 7) ((gi g_239 0 8) + b4_239) g_239 (fun r_282 => ∀ h_289 : Hs, h_289 = si g_239 0 11 (((10 * (gi g_239 0 11)) + r_282) - 48) → ∀ a4_292 : Int32, a4_292 = b4_239 + 1 → P_239 a4_292 h_289)))))))) → P_239 b4_239 g_239) → P_239 0 g_150) → P_236) → (b3_150 = 0 → (P_236)) ∧ (¬ b3_150 = 0 → (p_M_textLong (gi g_150 0 7) g_150 (fun r_168 => (r_168 ≤ ((gi g_150 0 8) + (gi g_150 0 9)) → (P_236)) ∧ (¬ r_168 ≤ ((gi g_150 0 8) + (gi g_150 0 9)) → (p_M_byteAt (gi g_150 0 7) ((gi g_150 0 8) + (gi g_150 0 9)) g_150 (fun r_188 => ∀ P_214 : Int32 → Prop, (∀ (t0_214 : Int32), (∀ P_229 : Int32 → Prop, (∀ (t2_229 : Int32), (∀ h_230 : Hs, h_230 = si g_150 0 9 ((gi g_150 0 9) + t2_229) → P_150 t0_214 h_230) → P_229 t2_229) → (t0_214 = 0 → (P_229 0)) ∧ (¬ t0_214 = 0 → (P_229 1))) → P_214 t0_214) → (¬ (gi g_150 0 10) = 1 → (p_M_isFigure r_188 g_150 (fun r_211 => P_214 r_211))) ∧ ((gi g_150 0 10) = 1 → (p_M_isSmall r_188 g_150 (fun r_203 => P_214 r_203)))))))))) → P_150 b3_150 g_150) → P_150 t0_149 h_133) → P_149 t0_149) → (3 ≤ (gi h_133 0 10) → (P_149 0)) ∧ (¬ 3 ≤ (gi h_133 0 10) → (P_149 1))) → P128 t1_128) → P128 (nI (k0 T a)) := by
          intro P128 h128
          apply h128
          intro hh1 ee1 hh2 ee2 P149 h149
          have hk4 : k0 T a ≤ 4 := k0_b.2
          have f2 : lfr g hh2 := (f62.trans (ee1 ▸ lfr.si (by omega) (by omega))).trans (ee2 ▸ lfr.si (by omega) (by omega))
          have w8 : gi hh2 0 8 = nI a := by rw [ee2, gi_k (by omega), ee1, gi_k (by omega)]; exact h8
          have w9 : gi hh2 0 9 = nI 1 := by rw [ee2, gi_s]; rfl
          have w10 : gi hh2 0 10 = nI (k0 T a) := by rw [ee2, gi_k (by omega), ee1, gi_s]
          have w11 : gi hh2 0 11 = nI 0 := by rw [ee2, gi_k (by omega), ee1, gi_k (by omega), h11, nI_0]
          -- the last part: the number, the kind at last
          have last : ∀ (n : Nat) (g3 : Hs), a + n = tkE T L a → gi g3 0 8 = nI a → gi g3 0 9 = nI n → gi g3 0 10 = nI (k0 T a) → gi g3 0 11 = nI 0 → lfr g g3 → ∀ P_239 : Int32 → Hs → Prop, (∀ (b4_239 : Int32) (g_239 : Hs), (∀ P_298 : Prop, ((∀ P_323 : Int32 → Prop, (∀ (t1_323 : Int32), (∀ h_323 : Hs, h_323 = si g_239 0 10 t1_323 → Q h_323) → P_323 t1_323) → ∀ P_319 : Prop, ((P_323 (gi g_239 0 10)) → P_319) → (¬ (gi g_239 0 10) = 2 → (P_319)) ∧ ((gi g_239 0 10) = 2 → (((gi g_239 0 9) ≤ 3 → (P_319)) ∧ (¬ (gi g_239 0 9) ≤ 3 → (P_323 4))))) → P_298) → ((gi g_239 0 9) ≤ b4_239 → (P_298)) ∧ (¬ (gi g_239 0 9) ≤ b4_239 → ((3 ≤ b4_239 → (P_298)) ∧ (¬ 3 ≤ b4_239 → ((¬ (gi g_239 0 10) = 2 → (P_298)) ∧ ((gi g_239 0 10) = 2 → (p_M_byteAt (gi g_239 0 7) ((gi g_239 0 8) + b4_239) g_239 (fun r_282 => ∀ h_289 : Hs, h_289 = si g_239 0 11 (((10 * (gi g_239 0 11)) + r_282) - 48) → ∀ a4_292 : Int32, a4_292 = b4_239 + 1 → P_239 a4_292 h_289)))))))) → P_239 b4_239 g_239) → P_239 0 g3 := by
            intro n g3 hn v8 v9 v10 v11 vf P239 h239
            have hEE := tkE_gt (T := T) haL
            have hfin : ∀ (m : Nat) (g4 : Hs), gi g4 0 8 = nI a → gi g4 0 9 = nI n → gi g4 0 10 = nI (k0 T a) → (k0 T a = 2 → n ≤ 3 → gi g4 0 11 = nI (dgv T a n)) → lfr g g4 → (∀ P_323 : Int32 → Prop, (∀ (t1_323 : Int32), (∀ h_323 : Hs, h_323 = si g4 0 10 t1_323 → Q h_323) → P_323 t1_323) → ∀ P_319 : Prop, ((P_323 (gi g4 0 10)) → P_319) → (¬ (gi g4 0 10) = 2 → (P_319)) ∧ ((gi g4 0 10) = 2 → (((gi g4 0 9) ≤ 3 → (P_319)) ∧ (¬ (gi g4 0 9) ≤ 3 → (P_323 4))))) := by
              intro m g4 u8 u9 u10 u11 uf P323 h323 P319 h319
              have fin : ∀ z : Nat, mK T L a = z → (z = 2 → k0 T a = 2 ∧ n ≤ 3) → P323 (nI z) := fun z hz hz2 => by
                apply h323
                intro h' e'
                rw [← hru] at hQ
                refine hQ h' ⟨?_, ?_, ?_, ?_⟩ (uf.trans (e' ▸ lfr.si (by omega) (by omega)))
                · rw [e', gi_k (by omega)]
                  exact u8
                · rw [e', gi_k (by omega), u9, ← hn, Nat.add_sub_cancel_left]
                · rw [e', gi_s, hz]
                · intro h2
                  have h3 := hz2 (by rw [← hz]; exact h2)
                  rw [e', gi_k (by omega), u11 h3.1 h3.2]
                  have hks : ¬ smB (T a) = true := fun y => by
                    have := h3.1
                    unfold k0 at this
                    rw [if_pos y] at this
                    omega
                  have hkf : fgB (T a) = true := by
                    have := h3.1
                    unfold k0 at this
                    rw [if_neg hks] at this
                    by_cases y : fgB (T a) = true
                    · exact y
                    · rw [if_neg y] at this
                      split at this <;> omega
                  unfold tkV
                  rw [if_neg hle, if_neg hks, if_pos hkf, ← hn, Nat.add_sub_cancel_left, if_pos h3.2]
              rw [u10] at h319
              rw [u10, u9]
              have hmk : mK T L a = if k0 T a = 2 ∧ ¬ n ≤ 3 then 4 else k0 T a := by
                unfold mK k0
                rw [if_neg hle, ← hn, Nat.add_sub_cancel_left]
                by_cases y1 : smB (T a) = true
                · rw [if_pos y1, if_pos y1]
                  rfl
                · rw [if_neg y1, if_neg y1]
                  by_cases y2 : fgB (T a) = true
                  · rw [if_pos y2, if_pos y2]
                    by_cases y3 : n ≤ 3
                    · rw [if_pos y3, if_neg (fun y => y.2 y3)]
                    · rw [if_neg y3, if_pos ⟨rfl, y3⟩]
                  · rw [if_neg y2, if_neg y2]
                    split <;> rfl
              refine ⟨fun c => h319 ?_, fun c => ?_⟩
              · have hk2 : k0 T a ≠ 2 := fun e => c (by rw [e]; rfl)
                exact fin _ (by rw [hmk, if_neg (fun y => hk2 y.1)]) (fun e => absurd e hk2)
              · have hk2 : k0 T a = 2 := (nI_eq (b := 2) (by omega) (by omega)).mp c
                refine ⟨fun c2 => h319 ?_, fun c2 => ?_⟩
                · have h3 : n ≤ 3 := (nI_leI (b := 3) (by omega) (by omega)).mp c2
                  exact fin _ (by rw [hmk, if_neg (fun y => y.2 h3)]) (fun _ => ⟨hk2, h3⟩)
                · have h3 : ¬ n ≤ 3 := fun y => c2 ((nI_leI (b := 3) (by omega) (by omega)).mpr y)
                  exact fin 4 (by rw [hmk, if_pos ⟨hk2, h3⟩]) (fun e => by omega)
            have k239 : ∀ (d m : Nat) (g4 : Hs), 3 - m = d → m ≤ 3 → m ≤ n → (k0 T a ≠ 2 → m = 0) → gi g4 0 8 = nI a → gi g4 0 9 = nI n → gi g4 0 10 = nI (k0 T a) → gi g4 0 11 = nI (dgv T a m) → lfr g g4 → P239 (nI m) g4 := by
              intro d
              induction d with
              | zero =>
                intro m g4 hd hm hmn hk2 u8 u9 u10 u11 uf
                have hm3 : m = 3 := by omega
                apply h239
                intro P298 h298
                have F := h298 (hfin m g4 u8 u9 u10 (fun _ hn3 => by rw [u11, show m = n by omega]) uf)
                refine ⟨fun _ => F, fun _ => ⟨fun _ => F, fun c => absurd (nI_le (a := 3) (by omega) (by omega)) c⟩⟩
              | succ d ih =>
                intro m g4 hd hm hmn hk2 u8 u9 u10 u11 uf
                apply h239
                intro P298 h298
                rw [u9, u10]
                have hF : (k0 T a = 2 → n ≤ 3 → m = n) → P298 := fun y => h298 (hfin m g4 u8 u9 u10 (fun z1 z2 => by rw [u11, y z1 z2]) uf)
                refine ⟨fun c => hF (fun _ _ => ?_), fun c => ⟨fun c2 => absurd ((nI_leI (a := 3) (by omega) (by omega)).mp c2) (by omega), fun _ => ⟨fun c2 => hF (fun y => absurd (by rw [y]; rfl) c2), fun c2 => ?_⟩⟩⟩
                · have := (nI_leI (by omega) (by omega)).mp c
                  omega
                · have hk : k0 T a = 2 := (nI_eq (b := 2) (by omega) (by omega)).mp c2
                  have hmn2 : m < n := by
                    rcases Nat.lt_or_ge m n with y | y
                    · exact y
                    · exact absurd (nI_le y (by omega)) c
                  have x4 := x.lfr uf
                  rw [x4.2.2.1, u8, nI_add]
                  refine m_byteAt x4 rfl rfl (by omega) ?_
                  intro h289 e289 m' em'
                  rw [nI_1] at em'
                  subst em'
                  have hfig : fgB (T (a + m)) = true := by
                    have hks : ¬ smB (T a) = true := fun y => by
                      unfold k0 at hk
                      rw [if_pos y] at hk
                      omega
                    have hkf : fgB (T a) = true := by
                      unfold k0 at hk
                      rw [if_neg hks] at hk
                      by_cases y : fgB (T a) = true
                      · exact y
                      · rw [if_neg y] at hk
                        split at hk <;> omega
                    by_cases y : m = 0
                    · subst y
                      exact hkf
                    · refine ru_all (p := fgB) (T := T) (L := L) (i := a + 1) (by omega) ?_
                      have hE : tkE T L a = ru fgB T L (a + 1) := by
                        unfold tkE
                        rw [if_neg hle, if_neg hks, if_pos hkf]
                      rw [← hE]
                      omega
                  rw [u11, nI_sub48 (fgB_iff.mp hfig).1] at e289
                  refine ih (m + 1) h289 (by omega) (by omega) (by omega) (fun y => absurd hk y) ?_ ?_ ?_ ?_ (uf.trans (e289 ▸ lfr.si (by omega) (by omega)))
                  · rw [e289, gi_k (by omega)]
                    exact u8
                  · rw [e289, gi_k (by omega)]
                    exact u9
                  · rw [e289, gi_k (by omega)]
                    exact u10
                  · rw [e289, gi_s]
                    rfl
            rw [nI_lit0]
            exact k239 _ 0 g3 rfl (by omega) (by omega) (fun _ => rfl) v8 v9 v10 v11 vf
          have more : ∀ (b : Int32), (b = 0 → tkE T L a = a + 1) → (b ≠ 0 → k0 T a ≤ 2) → P149 b := by
            intro b hb0 hb1
            apply h149
            intro P150 h150
            have stop : ∀ (n : Nat) (g3 : Hs), a + n = tkE T L a → gi g3 0 8 = nI a → gi g3 0 9 = nI n → gi g3 0 10 = nI (k0 T a) → gi g3 0 11 = nI 0 → lfr g g3 → P150 0 g3 := by
              intro n g3 y u8 u9 u10 u11 uf
              apply h150
              intro P236 h236
              exact ⟨fun _ => h236 (last n g3 y u8 u9 u10 u11 uf), fun c => absurd rfl c⟩
            have k150 : ∀ (d n : Nat) (b : Int32) (g3 : Hs), L - (a + n) = d → 1 ≤ n → a + n ≤ L → (b = 0 → a + n = tkE T L a) → (b ≠ 0 → k0 T a ≤ 2 ∧ RUK T L a (a + n)) → gi g3 0 8 = nI a → gi g3 0 9 = nI n → gi g3 0 10 = nI (k0 T a) → gi g3 0 11 = nI 0 → lfr g g3 → P150 b g3 := by
              intro d
              induction d with
              | zero =>
                intro n b g3 hd hn1 hnL hb0 hb1 u8 u9 u10 u11 uf
                have haL2 : a + n = L := by omega
                have hE : a + n = tkE T L a := by
                  by_cases hb : b = 0
                  · exact hb0 hb
                  · obtain ⟨z1, Z⟩ := hb1 hb
                    have hk1 : 1 ≤ k0 T a := k0_b.1
                    have : k0 T a = 1 ∨ k0 T a = 2 := by omega
                    rcases this with y | y
                    · rw [← Z.1 y, ru_end (by omega)]
                    · rw [← Z.2 y, ru_end (by omega)]
                apply h150
                intro P236 h236
                have F := h236 (last n g3 hE u8 u9 u10 u11 uf)
                refine ⟨fun _ => F, fun _ => ?_⟩
                have x3 := x.lfr uf
                rw [x3.2.2.1, u8, u9, nI_add]
                exact m_textLong x3 rfl ⟨fun _ => F, fun c => absurd (nI_le (by omega) (by omega)) c⟩
              | succ d ih =>
                intro n b g3 hd hn1 hnL hb0 hb1 u8 u9 u10 u11 uf
                have hlt : a + n < L := by omega
                have hd2 : L - (a + (n + 1)) = d := by omega
                have hnL2 : a + (n + 1) ≤ L := by omega
                clear hd
                apply h150
                intro P236 h236
                refine ⟨fun hb => h236 (last n g3 (hb0 hb) u8 u9 u10 u11 uf), fun hb => ?_⟩
                obtain ⟨z1, Z⟩ := hb1 hb
                have x3 := x.lfr uf
                rw [x3.2.2.1, u8, u9, u10, nI_add]
                clear hb0 hb1 hb
                refine m_textLong x3 rfl ⟨fun c => absurd ((nI_leI (by omega) (by omega)).mp c) (by omega), fun _ => ?_⟩
                refine m_byteAt x3 rfl rfl (by omega) ?_
                have hTn := (x.2.2.2.2 (a + n) (by omega)).2
                intro P214 h214
                have yes : (k0 T a = 1 → smB (T (a + n)) = true) → (k0 T a = 2 → fgB (T (a + n)) = true) → P214 1 := fun y1 y2 => by
                  apply h214
                  intro P229 h229
                  refine ⟨fun c => absurd c (by decide), fun _ => h229 _ ?_⟩
                  intro h230 e230
                  rw [nI_1] at e230
                  refine ih (n + 1) 1 h230 hd2 (by omega) hnL2 (fun c => absurd c (by decide)) (fun _ => ⟨z1, fun q => ?_, fun q => ?_⟩) ?_ ?_ ?_ ?_ (uf.trans (e230 ▸ lfr.si (by omega) (by omega)))
                  · rw [← Z.1 q, ru_yes (by omega) (y1 q)]
                    rfl
                  · rw [← Z.2 q, ru_yes (by omega) (y2 q)]
                    rfl
                  · rw [e230, gi_k (by omega)]
                    exact u8
                  · rw [e230, gi_s]
                  · rw [e230, gi_k (by omega)]
                    exact u10
                  · rw [e230, gi_k (by omega)]
                    exact u11
                have no : a + n = tkE T L a → P214 0 := fun y => by
                  apply h214
                  intro P229 h229
                  refine ⟨fun _ => h229 _ ?_, fun c => absurd rfl c⟩
                  intro h230 e230
                  have e230' : h230 = si g3 0 9 (nI n) := by rw [e230, nI_lit0, nI_add]; rfl
                  refine stop n h230 y ?_ ?_ ?_ ?_ (uf.trans (e230 ▸ lfr.si (by omega) (by omega)))
                  · rw [e230', gi_k (by omega)]
                    exact u8
                  · rw [e230', gi_s]
                  · rw [e230', gi_k (by omega)]
                    exact u10
                  · rw [e230', gi_k (by omega)]
                    exact u11
                refine ⟨fun c => ?_, fun c => ?_⟩
                · have hk2 : k0 T a = 2 := by
                    have hk1 : 1 ≤ k0 T a := k0_b.1
                    have : k0 T a ≠ 1 := fun e => c (by rw [e]; rfl)
                    omega
                  exact m_isFigure rfl hTn (fun y => yes (fun q => by omega) (fun _ => y)) (fun y => no (by rw [← Z.2 hk2, ru_no y]))
                · have hk1 : k0 T a = 1 := (nI_eq (b := 1) (by omega) (by omega)).mp c
                  exact m_isSmall rfl hTn (fun y => yes (fun _ => y) (fun q => by omega)) (fun y => no (by rw [← Z.1 hk1, ru_no y]))
            refine k150 _ 1 b hh2 rfl (Nat.le_refl _) (by omega) (fun y => (hb0 y).symm) (fun y => ⟨hb1 y, fun q => ?_, fun q => ?_⟩) w8 w9 w10 w11 f2
            · unfold tkE
              have hks : smB (T a) = true := by
                unfold k0 at q
                by_cases y : smB (T a) = true
                · exact y
                · rw [if_neg y] at q
                  repeat' split at q
                  all_goals omega
              rw [if_neg hle, if_pos hks]
            · unfold tkE
              have hks : ¬ smB (T a) = true := fun y => by
                unfold k0 at q
                rw [if_pos y] at q
                omega
              have hkf : fgB (T a) = true := by
                unfold k0 at q
                rw [if_neg hks] at q
                by_cases y : fgB (T a) = true
                · exact y
                · rw [if_neg y] at q
                  split at q <;> omega
              rw [if_neg hle, if_neg hks, if_pos hkf]
          rw [w10]
          refine ⟨fun c => more 0 (fun _ => ?_) (fun y => absurd rfl y), fun c => more 1 (fun y => absurd y (by decide)) (fun _ => ?_)⟩
          · have := (nI_leI (a := 3) (by omega) (by omega)).mp c
            unfold tkE
            unfold k0 at this
            by_cases y1 : smB (T a) = true
            · rw [if_pos y1] at this
              omega
            · rw [if_neg y1] at this
              by_cases y2 : fgB (T a) = true
              · rw [if_pos y2] at this
                omega
              · rw [if_neg hle, if_neg y1, if_neg y2]
          · have : ¬ 3 ≤ k0 T a := fun y => c ((nI_leI (a := 3) (by omega) (by omega)).mpr y)
            omega
        refine m_isSmall rfl hTa (fun y1 => ?_) (fun y1 => ?_)
        · intro P128 h128
          refine ⟨fun c => absurd c (by decide), fun _ => ?_⟩
          have := main P128 h128
          rw [show k0 T a = 1 from if_pos y1] at this
          exact this
        · intro P128 h128
          refine ⟨fun _ => ?_, fun c => absurd rfl c⟩
          have M := main P128 h128
          unfold k0 at M
          rw [if_neg y1] at M
          refine m_isFigure rfl hTa (fun y2 => ⟨fun c => absurd c (by decide), fun _ => ?_⟩) (fun y2 => ⟨fun _ => ⟨fun c => ?_, fun c => ?_⟩, fun c => absurd rfl c⟩)
          · rw [if_pos y2] at M
            exact M
          · rw [if_neg y2, if_neg (fun e => c (by rw [e]; rfl))] at M
            exact M
          · rw [if_neg y2, if_pos ((nI_eq (b := 59) (by omega) (by omega)).mp c)] at M
            exact M
      · have haL : a = L := (nI_eq (by omega) (by omega)).mp c
        rw [← hru] at hQ
        have hle : L ≤ a := by omega
        refine hQ h62 ⟨h8, ?_, ?_, ?_⟩ f62
        · rw [h9, tkE_end hle, Nat.sub_self, nI_0]
        · rw [h10, show mK T L a = 0 from if_pos hle, nI_0]
        · intro h2
          rw [show mK T L a = 0 from if_pos hle] at h2
          omega
    induction k with
    | zero =>
      intro j g2 hk hj g8 hru gf
      have hjL : j = L := by omega
      subst hjL
      rw [ru_end (Nat.le_refl _)] at hru
      have F := past j g2 (Nat.le_refl _) g8 hru gf
      apply h5
      have x2 := x.lfr gf
      rw [x2.2.2.1, g8]
      refine m_textLong x2 rfl ?_
      intro P50 h50
      exact ⟨fun _ => h50 F, fun c => absurd (nI_le (Nat.le_refl _) (by omega)) c⟩
    | succ k ih =>
      intro j g2 hk hj g8 hru gf
      have x2 := x.lfr gf
      have hTj := (x.2.2.2.2 j (by omega)).2
      apply h5
      rw [x2.2.2.1, g8]
      refine m_textLong x2 rfl ?_
      intro P50 h50
      refine ⟨fun c => absurd ((nI_leI (by omega) (by omega)).mp c) (by omega), fun _ => ?_⟩
      refine m_byteAt x2 rfl rfl (by omega) ⟨fun c => h50 ?_, fun c => ?_⟩
      · have h32 : ¬ spB (T j) = true := fun e => c (by rw [spB_iff.mp e]; rfl)
        rw [ru_no h32] at hru
        exact past j g2 hj g8 hru gf
      · have h32 : T j = 32 := (nI_eq (b := 32) (by omega) (by omega)).mp c
        intro h44 e44
        rw [nI_1] at e44
        refine ih (j + 1) h44 (by omega) (by omega) (by rw [e44, gi_s]) ?_ (gf.trans (e44 ▸ lfr.si (by omega) (by omega)))
        rw [← ru_yes (by omega) (spB_iff.mpr h32)]
        exact hru
  exact k5 _ i h2 rfl hi (by rw [e2, gi_s]) rfl (e2 ▸ lfr.si (by omega) (by omega))
