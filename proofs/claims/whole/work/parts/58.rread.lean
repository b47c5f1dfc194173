/-! ===== the reference's readItem ===== -/
theorem r_readItem {s L pl i la hr wd cr : Nat} {T W : Nat → Nat} {g : Hs} {Q : Int32 → Hs → Prop} (M : MI g s T L pl i la hr wd cr W) (h0 : ∀ j, itF (Kt T L) (Vt T L) pl i la hr wd cr = some j → ∀ g', gi g' 0 8 = nI (ps T L j) → pfr s g g' → Q 0 g') (h1 : itF (Kt T L) (Vt T L) pl i la hr wd cr = none → ∀ g', MI g' s T L pl (itN (Kt T L) i) (itLa (Kt T L) (Vt T L) i la) (itHr (Kt T L) (Vt T L) i hr) (itWd (Kt T L) (Vt T L) i wd) (itCr (Kt T L) i cr) (itW (Kt T L) (Vt T L) i W) → pfr s g g' → Q 1 g') : p_M_readItem g Q := by
  obtain ⟨x, m, m16, m17, m8, m9, m7, mp, hp6, hla, hcr, hwd⟩ := M
  have hle := ps_le (T := T) (L := L) i
  have hs4 := x.1
  have leg : ∀ (r8 r22 : Int32), (r8 = 0 ↔ ¬ Kt T L i = 4) → (r22 = 0 ↔ ¬ Kt T L i = 5) → (Kt T L i = 4 ∨ Kt T L i = 5 ∨ Kt T L i = 6) → (((gi g 0 17) = 0 → (p_M_goOn g (fun h_59 => p_M_takesMonth h_59 (fun r_63 h_63 => (¬ r_63 = 0 → (∀ P_82 : Int32 → Prop, (∀ (t0_82 : Int32), (∀ P_117 : Int32 → Hs → Prop, (∀ (b3_117 : Int32) (g_117 : Hs), (p_M_stops g_117 (fun r_118 h_118 => (¬ r_118 = 0 → (∀ P_136 : Int32 → Prop, (∀ (t1_136 : Int32), (zb t1_136 ∧ ∀ h_136 : Hs, h_136 = si h_118 0 17 t1_136 → p_M_layFrom (gi h_136 0 16) b3_117 h_136 (fun h_145 => Q 1 h_145)) → P_136 t1_136) → (¬ r8 = 0 → (P_136 0)) ∧ (r8 = 0 → (P_136 1)))) ∧ (r_118 = 0 → (Q 0 h_118)))) → P_117 b3_117 g_117) → (r8 = 0 → (P_117 t0_82 h_63)) ∧ (¬ r8 = 0 → (∀ P_106 : Prop, ((Q 0 h_63) → P_106) → (¬ (gi h_63 0 10) = 2 → (P_106)) ∧ ((gi h_63 0 10) = 2 → (p_M_isPlace (gi h_63 0 11) h_63 (fun r_100 => (¬ r_100 = 0 → (∀ a3_112 : Int32, a3_112 = gi h_63 0 11 → p_M_goOn h_63 (fun h_114 => P_117 a3_112 h_114))) ∧ (r_100 = 0 → (P_106)))))))) → P_82 t0_82) → (r22 = 0 → (P_82 7)) ∧ (¬ r22 = 0 → (P_82 6)))) ∧ (r_63 = 0 → (Q 0 h_63)))))) ∧ (¬ (gi g 0 17) = 0 → (Q 0 g))) := by
    intro r8 r22 hr8 hr22 hk
    have hF : itF (Kt T L) (Vt T L) pl i la hr wd cr = (if 6 ≤ hr then some i else if ¬ (Kt T L (i + 1) = 1 ∧ la ≤ Vt T L (i + 1) ∧ Vt T L (i + 1) < 120) then some (i + 1) else if Kt T L i = 4 then (if ¬ (Kt T L (i + 2) = 1 ∧ Vt T L (i + 2) < pl) then some (i + 2) else if Kt T L (i + 3) = 2 then none else some (i + 3)) else if Kt T L (i + 2) = 2 then none else some (i + 2)) := if_pos hk
    rw [hF] at h0 h1
    rw [m17]
    refine ⟨fun c => ?_, fun c => ?_⟩
    · have hov : ¬ 6 ≤ hr := fun y => by
        rw [if_pos y] at c
        exact absurd c (by decide)
      rw [if_neg hov] at h0 h1 m17
      refine r_goOn x m (fun g1 t1 f1 => ?_)
      have x1 := x.lfr f1
      refine r_takesMonth (la := la) x1 t1 (by rw [f1.1 0 16 (by omega)]; exact m16) (by omega) (fun hm g2 t2 f2 q16 => ⟨fun _ => ?_, fun c => absurd c (by decide)⟩) (fun hm => ⟨fun c => absurd rfl c, fun _ => ?_⟩)
      · have hm' : Kt T L (i + 1) = 1 ∧ la ≤ Vt T L (i + 1) ∧ Vt T L (i + 1) < 120 := hm
        rw [if_neg (fun y => y hm')] at h0 h1
        have G2 : qfr g g2 := f1.q.trans f2
        have F2 : pfr s g g2 := G2.p
        have x2 : MX g2 s T L := x.qfr G2
        have hp2 : gi g2 1 671 = nI pl := by rw [F2.1 1 671 (by omega) (by omega) (by omega)]; exact mp
        -- the stop, and what is laid
        have fin : ∀ (n w : Nat) (g3 : Hs), MX g3 s T L → MT g3 T L (ps T L n) → pfr s g g3 → gi g3 0 16 = nI (Vt T L (i + 1)) → (∀ m, m < 120 → gi g3 7 (120 * s + m) = gi g 7 (120 * s + m)) → gi g3 8 s = gi g 8 s → gi g3 9 s = gi g 9 s → itN (Kt T L) i = n + 1 → itHr (Kt T L) (Vt T L) i hr = w → (6 ≤ w ↔ ¬ Kt T L i = 4) → (Kt T L n = 2 → itF (Kt T L) (Vt T L) pl i la hr wd cr = none) → (¬ Kt T L n = 2 → itF (Kt T L) (Vt T L) pl i la hr wd cr = some n) → (p_M_stops g3 (fun r_118 h_118 => (¬ r_118 = 0 → (∀ P_136 : Int32 → Prop, (∀ (t1_136 : Int32), (zb t1_136 ∧ ∀ h_136 : Hs, h_136 = si h_118 0 17 t1_136 → p_M_layFrom (gi h_136 0 16) (nI w) h_136 (fun h_145 => Q 1 h_145)) → P_136 t1_136) → (¬ r8 = 0 → (P_136 0)) ∧ (r8 = 0 → (P_136 1)))) ∧ (r_118 = 0 → (Q 0 h_118)))) := by
          intro n w g3 x3 t3 F3 v16 v7 v8 v9 hN hH hw hyes hno
          rw [hF, if_neg hov, if_neg (fun y => y hm')] at hyes hno
          refine r_stops x3 t3 (fun hk2 g4 t4 f4 => ⟨fun _ => ?_, fun c => absurd c (by decide)⟩) (fun hk2 => ⟨fun c => absurd rfl c, fun _ => h0 n (hno hk2) g3 t3.1 F3⟩)
          have F4 : pfr s g g4 := F3.trans f4.p
          have x4 := x3.lfr f4
          intro P136 h136
          have go : ∀ z : Int32, zb z → z = (if 6 ≤ w then 1 else 0) → P136 z := fun z hz hz2 => by
            apply h136
            refine ⟨hz, ?_⟩
            intro h' e'
            have e16 : gi h' 0 16 = nI (Vt T L (i + 1)) := by rw [e', gi_k (by omega), f4.1 0 16 (by omega)]; exact v16
            have e7 : gi h' 0 7 = nI s := by rw [e', gi_k (by omega)]; exact x4.2.2.1
            rw [e16]
            have F5 : pfr s g h' := F4.trans (e' ▸ pfr.si0 (by omega))
            refine r_layFrom rfl rfl hs4 e7 (by omega) (fun g6 y1 y2 y3 => ?_)
            have F6 : pfr s g g6 := F5.trans ⟨fun c j _ hc2 _ => y2 c j hc2, y3⟩
            refine h1 (hyes hk2) g6 ⟨?_, ?_, ?_, ?_, ?_, ?_, ?_, ?_, hp6, ?_, ?_, ?_⟩ F6
            · exact x.pfr F6 (by rw [y2 0 7 (by omega)]; exact e7)
            · rw [hN]
              exact lfr.mt t4 (fun j j1 j2 => by rw [y2 0 j (by omega), e', gi_k (by omega)])
            · rw [y2 0 16 (by omega), e16]
              unfold itLa
              rw [if_pos hk]
            · rw [y2 0 17 (by omega), e', gi_s, hz2, hH]
            · rw [y2 8 s (by omega), e', gi_c (by omega), f4.1 8 s (by omega), v8, m8]
              unfold itWd
              rw [if_neg (by omega)]
            · rw [y2 9 s (by omega), e', gi_c (by omega), f4.1 9 s (by omega), v9, m9]
              unfold itCr
              rw [if_neg (by omega)]
            · intro k hk3
              rw [y1 k hk3, e', gi_c (by omega), f4.1 7 _ (by omega), v7 k hk3, m7 k hk3]
              unfold itW lay
              rw [if_pos hk]
              have e9 : itHr (Kt T L) (Vt T L) i 0 = w := by
                rw [← hH]
                unfold itHr
                by_cases k4 : Kt T L i = 4
                · rw [if_pos k4, if_pos k4]
                · rw [if_neg k4, if_neg k4]
                  by_cases k5 : Kt T L i = 5
                  · rw [if_pos k5, if_pos k5]
                  · rw [if_neg k5, if_neg k5, if_pos (by omega), if_pos (by omega)]
              rw [e9]
              by_cases y : Vt T L (i + 1) ≤ k
              · rw [if_pos y, if_pos y]
              · rw [if_neg y, if_neg y]
            · rw [y2 1 671 (by omega), e', gi_c (by omega), f4.1 1 671 (by omega), F3.1 1 671 (by omega) (by omega) (by omega)]
              exact mp
            · unfold itLa
              rw [if_pos hk]
              exact hm'.2.2
            · unfold itCr
              rw [if_neg (by omega)]
              exact hcr
            · unfold itWd
              rw [if_neg (by omega)]
              exact hwd
          refine ⟨fun c => go 0 zb0 ?_, fun c => go 1 zb1 ?_⟩
          · rw [if_neg (fun y => c (hr8.mpr (hw.mp y)))]
          · rw [if_pos (hw.mpr (hr8.mp c))]
        intro P82 h82
        have go82 : ∀ w0 : Nat, (¬ Kt T L i = 4 → itHr (Kt T L) (Vt T L) i hr = w0 ∧ 6 ≤ w0) → P82 (nI w0) := by
          intro w0 hw0
          apply h82
          intro P117 h117
          refine ⟨fun c => ?_, fun c => ?_⟩
          · have k4 := hr8.mp c
            have hw1 := hw0 k4
            apply h117
            refine fin (i + 2) w0 g2 x2 t2 F2 q16 (fun k _ => G2.1 7 _ (by omega)) (G2.1 8 s (by omega)) (G2.1 9 s (by omega)) ?_ hw1.1 ⟨fun _ => k4, fun _ => hw1.2⟩ (fun y => ?_) (fun y => ?_)
            · unfold itN
              rw [if_neg k4, if_neg (by omega)]
            · rw [hF, if_neg hov, if_neg (fun z => z hm'), if_neg k4, if_pos y]
            · rw [hF, if_neg hov, if_neg (fun z => z hm'), if_neg k4, if_neg y]
          · have k4 : Kt T L i = 4 := Classical.byContradiction (fun y => c (hr8.mpr y))
            rw [if_pos k4] at h0 h1
            intro P106 h106
            have hk10 := mK_le (T := T) (L := L) (a := ps T L (i + 2))
            have hvv := tkV_lt (T := T) (L := L) (a := ps T L (i + 2))
            rw [t2.2.2.1]
            refine ⟨fun c2 => h106 (h0 (i + 2) ?_ g2 t2.1 F2), fun c2 => ?_⟩
            · have : ¬ (Kt T L (i + 2) = 1 ∧ Vt T L (i + 2) < pl) := fun y => c2 (by rw [mK2.mpr y.1]; rfl)
              rw [if_pos this]
            · have k2 : mK T L (ps T L (i + 2)) = 2 := (nI_eq (b := 2) (by omega) (by omega)).mp c2
              rw [t2.2.2.2 k2]
              refine m_isPlace rfl hvv hp2 hp6 (fun hlt => ⟨fun _ => ?_, fun c => absurd c (by decide)⟩) (fun hlt => ⟨fun c => absurd rfl c, fun _ => h106 (h0 (i + 2) ?_ g2 t2.1 F2)⟩)
              · intro a3 ea3
                subst ea3
                refine r_goOn x2 t2 (fun g3 t3 f3 => ?_)
                apply h117
                have hc2 : Kt T L (i + 2) = 1 ∧ Vt T L (i + 2) < pl := ⟨mK2.mp k2, hlt⟩
                refine fin (i + 3) (Vt T L (i + 2)) g3 (x2.lfr f3) t3 (F2.trans f3.p) (by rw [f3.1 0 16 (by omega)]; exact q16) (fun k _ => by rw [f3.1 7 _ (by omega)]; exact G2.1 7 _ (by omega)) (by rw [f3.1 8 _ (by omega)]; exact G2.1 8 s (by omega)) (by rw [f3.1 9 _ (by omega)]; exact G2.1 9 s (by omega)) ?_ ?_ ⟨fun y => by have := hc2.2; omega, fun y => absurd k4 y⟩ (fun y => ?_) (fun y => ?_)
                · unfold itN
                  rw [if_pos k4]
                · unfold itHr
                  rw [if_pos k4]
                · rw [hF, if_neg hov, if_neg (fun z => z hm'), if_pos k4, if_neg (fun z => z hc2), if_pos y]
                · rw [hF, if_neg hov, if_neg (fun z => z hm'), if_pos k4, if_neg (fun z => z hc2), if_neg y]
              · have : ¬ (Kt T L (i + 2) = 1 ∧ Vt T L (i + 2) < pl) := fun y => hlt y.2
                rw [if_pos this]
        refine ⟨fun c => go82 7 (fun k4 => ⟨?_, by omega⟩), fun c => go82 6 (fun k4 => ⟨?_, by omega⟩)⟩
        · have k5 := hr22.mp c
          unfold itHr
          rw [if_neg k4, if_neg k5, if_pos (by omega)]
        · have k5 : Kt T L i = 5 := Classical.byContradiction (fun y => c (hr22.mpr y))
          unfold itHr
          rw [if_neg k4, if_pos k5]
      · refine h0 (i + 1) ?_ g1 t1.1 f1.p
        have : ¬ (Kt T L (i + 1) = 1 ∧ la ≤ Vt T L (i + 1) ∧ Vt T L (i + 1) < 120) := hm
        rw [if_pos this]
    · have hov : 6 ≤ hr := Classical.byContradiction (fun y => c (by rw [if_neg y]))
      rw [if_pos hov] at h0
      exact h0 i rfl g m.1 pfr.refl
  have hK8 : Kt T L i ≤ 8 := by
    unfold Kt tkK
    repeat' split
    all_goals (first | omega | exact wk_lt)
  have hwv : wv wd = -1 ↔ wd = 0 := by
    constructor
    · intro h
      have all : ∀ w, w ≤ 6 → wv w = -1 → w = 0 := by decide +kernel
      exact all wd hwd h
    · intro h
      rw [h]
      rfl
  have e7 := x.2.2.1
  have ecl : (nI s).toNatClampNeg = s := nI_clamp (by omega)
  have crossP : ¬ (Kt T L i = 4 ∨ Kt T L i = 5 ∨ Kt T L i = 6) → ¬ (Kt T L i = 7 ∧ wd = 0) → p_M_isWord 99 114 111 115 115 g (fun r_237 => ∀ P_274 : Prop, ((Q 0 g) → P_274) → (r_237 = 0 → (P_274)) ∧ (¬ r_237 = 0 → (vp_in (gi g 0 7) 4 ∧ (¬ (gi g 9 ((gi g 0 7).toNatClampNeg)) = 0 → (P_274)) ∧ ((gi g 9 ((gi g 0 7).toNatClampNeg)) = 0 → (vp_in (gi g 0 7) 4 ∧ ∀ h_264 : Hs, h_264 = si g 9 ((gi g 0 7).toNatClampNeg) (zn 1) → p_M_goOn h_264 (fun h_266 => p_M_stops h_266 (fun r_270 h_270 => Q r_270 h_270))))))) := by
    intro nl nw
    have hF : itF (Kt T L) (Vt T L) pl i la hr wd cr = (if Kt T L i = 8 ∧ cr = 0 then (if Kt T L (i + 1) = 2 then none else some (i + 1)) else some i) := by
      unfold itF
      rw [if_neg nl, if_neg nw]
    rw [hF] at h0 h1
    refine r_isWord (n := 5) (c0 := 99) (c1 := 114) (c2 := 111) (c3 := 115) (c4 := 115) x m hle (by decide) rfl (fun y => ?_) (fun y => ?_)
    · have k8 : Kt T L i = 8 := w_cross.mp y
      intro P274 h274
      refine ⟨fun c => absurd c (by decide), fun _ => ?_⟩
      rw [e7, ecl, m9]
      refine ⟨vp_in_nI hs4 (by omega), fun c => h274 ?_, fun c => ⟨vp_in_nI hs4 (by omega), ?_⟩⟩
      · have hc0 : ¬ (Kt T L i = 8 ∧ cr = 0) := fun z => c (by rw [z.2]; rfl)
        rw [if_neg hc0] at h0
        exact h0 i rfl g m.1 pfr.refl
      · have hc0 : cr = 0 := by
          rw [nI_lit0] at c
          exact (nI_eq (by omega) (by omega)).mp c
        rw [if_pos ⟨k8, hc0⟩] at h0 h1
        intro h264 e264
        have f264 : pfr s g h264 := e264 ▸ pfr.si9
        have x264 : MX h264 s T L := x.pfr f264 (by rw [e264, gi_c (by omega)]; exact e7)
        refine r_goOn x264 (lfr.mt m (fun j _ _ => by rw [e264, gi_c (by omega)])) (fun g1 t1 f1 => ?_)
        refine r_stops (x264.lfr f1) t1 (fun hk g2 t2 f2 => ?_) (fun hk => ?_)
        · have f12 := f1.trans f2
          refine h1 (by have hk' : Kt T L (i + 1) = 2 := hk; rw [if_pos hk']) g2 ⟨(x264.lfr f1).lfr f2, ?_, ?_, ?_, ?_, ?_, ?_, ?_, hp6, ?_, ?_, ?_⟩ (f264.trans f12.p)
          · rw [show itN (Kt T L) i = i + 2 by unfold itN; rw [if_neg (by omega), if_pos k8]]
            exact t2
          · rw [f12.1 0 16 (by omega), e264, gi_c (by omega), m16]
            unfold itLa
            rw [if_neg nl]
          · rw [f12.1 0 17 (by omega), e264, gi_c (by omega), m17, show itHr (Kt T L) (Vt T L) i hr = hr by unfold itHr; rw [if_neg (by omega), if_neg (by omega), if_neg (by omega)]]
          · rw [f12.1 8 s (by omega), e264, gi_c (by omega), m8]
            unfold itWd
            rw [if_neg (by omega)]
          · rw [f12.1 9 s (by omega), e264, gi_s]
            unfold itCr
            rw [if_pos k8]
            rfl
          · intro k hk3
            rw [f12.1 7 _ (by omega), e264, gi_c (by omega), m7 k hk3]
            unfold itW
            rw [if_neg nl]
          · rw [f12.1 1 671 (by omega), e264, gi_c (by omega)]
            exact mp
          · unfold itLa
            rw [if_neg nl]
            exact hla
          · unfold itCr
            rw [if_pos k8]
            omega
          · unfold itWd
            rw [if_neg (by omega)]
            exact hwd
        · exact h0 (i + 1) (by have hk' : ¬ Kt T L (i + 1) = 2 := hk; rw [if_neg hk']) g1 t1.1 (f264.trans f1.p)
    · intro P274 h274
      refine ⟨fun _ => h274 ?_, fun c => absurd rfl c⟩
      have hc0 : ¬ (Kt T L i = 8 ∧ cr = 0) := fun z => y (w_cross.mpr z.1)
      rw [if_neg hc0] at h0
      exact h0 i rfl g m.1 pfr.refl
  have wordP : ¬ (Kt T L i = 4 ∨ Kt T L i = 5 ∨ Kt T L i = 6) → p_M_isWord 119 111 114 100 0 g (fun r_160 => ∀ P_226 : Prop, ((p_M_isWord 99 114 111 115 115 g (fun r_237 => ∀ P_274 : Prop, ((Q 0 g) → P_274) → (r_237 = 0 → (P_274)) ∧ (¬ r_237 = 0 → (vp_in (gi g 0 7) 4 ∧ (¬ (gi g 9 ((gi g 0 7).toNatClampNeg)) = 0 → (P_274)) ∧ ((gi g 9 ((gi g 0 7).toNatClampNeg)) = 0 → (vp_in (gi g 0 7) 4 ∧ ∀ h_264 : Hs, h_264 = si g 9 ((gi g 0 7).toNatClampNeg) (zn 1) → p_M_goOn h_264 (fun h_266 => p_M_stops h_266 (fun r_270 h_270 => Q r_270 h_270)))))))) → P_226) → (r_160 = 0 → (P_226)) ∧ (¬ r_160 = 0 → (vp_in (gi g 0 7) 4 ∧ (¬ (gi g 8 ((gi g 0 7).toNatClampNeg)) = (-1) → (P_226)) ∧ ((gi g 8 ((gi g 0 7).toNatClampNeg)) = (-1) → (p_M_goOn g (fun h_180 => ∀ P_202 : Prop, ((Q 0 h_180) → P_202) → (¬ (gi h_180 0 10) = 2 → (P_202)) ∧ ((gi h_180 0 10) = 2 → (p_M_isPlace (gi h_180 0 11) h_180 (fun r_196 => (¬ r_196 = 0 → (vp_in (gi h_180 0 7) 4 ∧ ∀ h_216 : Hs, h_216 = si h_180 8 ((gi h_180 0 7).toNatClampNeg) (gi h_180 0 11) → p_M_goOn h_216 (fun h_218 => p_M_stops h_218 (fun r_222 h_222 => Q r_222 h_222)))) ∧ (r_196 = 0 → (P_202))))))))))) := by
    intro nl
    refine r_isWord (n := 4) (c0 := 119) (c1 := 111) (c2 := 114) (c3 := 100) (c4 := 0) x m hle (by decide) rfl (fun y => ?_) (fun y => ?_)
    · have k7 : Kt T L i = 7 := w_word.mp y
      intro P226 h226
      refine ⟨fun c => absurd c (by decide), fun _ => ?_⟩
      rw [e7, ecl, m8, hwv]
      refine ⟨vp_in_nI hs4 (by omega), fun c => h226 (crossP nl (fun z => c z.2)), fun c => ?_⟩
      have hF : itF (Kt T L) (Vt T L) pl i la hr wd cr = (if ¬ (Kt T L (i + 1) = 1 ∧ Vt T L (i + 1) < pl) then some (i + 1) else if Kt T L (i + 2) = 2 then none else some (i + 2)) := by
        unfold itF
        rw [if_neg nl, if_pos ⟨k7, c⟩]
      rw [hF] at h0 h1
      refine r_goOn x m (fun g1 t1 f1 => ?_)
      have x1 := x.lfr f1
      have hk10 := mK_le (T := T) (L := L) (a := ps T L (i + 1))
      have hvv := tkV_lt (T := T) (L := L) (a := ps T L (i + 1))
      intro P202 h202
      rw [t1.2.2.1]
      refine ⟨fun c2 => h202 (h0 (i + 1) ?_ g1 t1.1 f1.p), fun c2 => ?_⟩
      · have : ¬ (Kt T L (i + 1) = 1 ∧ Vt T L (i + 1) < pl) := fun y => c2 (by rw [mK2.mpr y.1]; rfl)
        rw [if_pos this]
      · have k2 : mK T L (ps T L (i + 1)) = 2 := (nI_eq (b := 2) (by omega) (by omega)).mp c2
        rw [t1.2.2.2 k2]
        refine m_isPlace rfl hvv (by rw [f1.1 1 671 (by omega)]; exact mp) hp6 (fun hlt => ⟨fun _ => ?_, fun c => absurd c (by decide)⟩) (fun hlt => ⟨fun c => absurd rfl c, fun _ => h202 (h0 (i + 1) ?_ g1 t1.1 f1.p)⟩)
        · have hc2 : Kt T L (i + 1) = 1 ∧ Vt T L (i + 1) < pl := ⟨mK2.mp k2, hlt⟩
          rw [if_neg (fun z => z hc2)] at h0 h1
          rw [x1.2.2.1, ecl]
          refine ⟨vp_in_nI hs4 (by omega), ?_⟩
          intro h216 e216
          have f216 : pfr s g h216 := f1.p.trans (e216 ▸ pfr.si8)
          have x216 : MX h216 s T L := x.pfr f216 (by rw [e216, gi_c (by omega)]; exact x1.2.2.1)
          refine r_goOn x216 (lfr.mt t1 (fun j _ _ => by rw [e216, gi_c (by omega)])) (fun g2 t2 f2 => ?_)
          refine r_stops (x216.lfr f2) t2 (fun hk g3 t3 f3 => ?_) (fun hk => ?_)
          · have f23 := f2.trans f3
            refine h1 (by have hk' : Kt T L (i + 2) = 2 := hk; rw [if_pos hk']) g3 ⟨(x216.lfr f2).lfr f3, ?_, ?_, ?_, ?_, ?_, ?_, ?_, hp6, ?_, ?_, ?_⟩ (f216.trans f23.p)
            · rw [show itN (Kt T L) i = i + 3 by unfold itN; rw [if_neg (by omega), if_neg (by omega)]]
              exact t3
            · rw [f23.1 0 16 (by omega), e216, gi_c (by omega), f1.1 0 16 (by omega), m16]
              unfold itLa
              rw [if_neg nl]
            · rw [f23.1 0 17 (by omega), e216, gi_c (by omega), f1.1 0 17 (by omega), m17, show itHr (Kt T L) (Vt T L) i hr = hr by unfold itHr; rw [if_neg (by omega), if_neg (by omega), if_neg (by omega)]]
            · rw [f23.1 8 s (by omega), e216, gi_s]
              unfold itWd wv
              rw [if_pos k7, if_neg (by omega)]
              rfl
            · rw [f23.1 9 s (by omega), e216, gi_c (by omega), f1.1 9 s (by omega), m9]
              unfold itCr
              rw [if_neg (by omega)]
            · intro k hk3
              rw [f23.1 7 _ (by omega), e216, gi_c (by omega), f1.1 7 _ (by omega), m7 k hk3]
              unfold itW
              rw [if_neg nl]
            · rw [f23.1 1 671 (by omega), e216, gi_c (by omega), f1.1 1 671 (by omega)]
              exact mp
            · unfold itLa
              rw [if_neg nl]
              exact hla
            · unfold itCr
              rw [if_neg (by omega)]
              exact hcr
            · unfold itWd
              rw [if_pos k7]
              have := hc2.2
              omega
          · exact h0 (i + 2) (by have hk' : ¬ Kt T L (i + 2) = 2 := hk; rw [if_neg hk']) g2 t2.1 (f216.trans f2.p)
        · have : ¬ (Kt T L (i + 1) = 1 ∧ Vt T L (i + 1) < pl) := fun y => hlt y.2
          rw [if_pos this]
    · intro P226 h226
      exact ⟨fun _ => h226 (crossP nl (fun z => y (w_word.mpr z.1))), fun c => absurd rfl c⟩
  have restP : ∀ r8 : Int32, (r8 = 0 ↔ ¬ Kt T L i = 4) → p_M_isWord 106 111 105 110 0 g (fun r_22 => ∀ P_49 : Prop, ((((gi g 0 17) = 0 → (p_M_goOn g (fun h_59 => p_M_takesMonth h_59 (fun r_63 h_63 => (¬ r_63 = 0 → (∀ P_82 : Int32 → Prop, (∀ (t0_82 : Int32), (∀ P_117 : Int32 → Hs → Prop, (∀ (b3_117 : Int32) (g_117 : Hs), (p_M_stops g_117 (fun r_118 h_118 => (¬ r_118 = 0 → (∀ P_136 : Int32 → Prop, (∀ (t1_136 : Int32), (zb t1_136 ∧ ∀ h_136 : Hs, h_136 = si h_118 0 17 t1_136 → p_M_layFrom (gi h_136 0 16) b3_117 h_136 (fun h_145 => Q 1 h_145)) → P_136 t1_136) → (¬ r8 = 0 → (P_136 0)) ∧ (r8 = 0 → (P_136 1)))) ∧ (r_118 = 0 → (Q 0 h_118)))) → P_117 b3_117 g_117) → (r8 = 0 → (P_117 t0_82 h_63)) ∧ (¬ r8 = 0 → (∀ P_106 : Prop, ((Q 0 h_63) → P_106) → (¬ (gi h_63 0 10) = 2 → (P_106)) ∧ ((gi h_63 0 10) = 2 → (p_M_isPlace (gi h_63 0 11) h_63 (fun r_100 => (¬ r_100 = 0 → (∀ a3_112 : Int32, a3_112 = gi h_63 0 11 → p_M_goOn h_63 (fun h_114 => P_117 a3_112 h_114))) ∧ (r_100 = 0 → (P_106)))))))) → P_82 t0_82) → (r_22 = 0 → (P_82 7)) ∧ (¬ r_22 = 0 → (P_82 6)))) ∧ (r_63 = 0 → (Q 0 h_63)))))) ∧ (¬ (gi g 0 17) = 0 → (Q 0 g))) → P_49) → (¬ r8 = 0 → (P_49)) ∧ (r8 = 0 → ((¬ r_22 = 0 → (P_49)) ∧ (r_22 = 0 → (p_M_isWord 100 105 101 0 0 g (fun r_43 => (r_43 = 0 → (p_M_isWord 119 111 114 100 0 g (fun r_160 => ∀ P_226 : Prop, ((p_M_isWord 99 114 111 115 115 g (fun r_237 => ∀ P_274 : Prop, ((Q 0 g) → P_274) → (r_237 = 0 → (P_274)) ∧ (¬ r_237 = 0 → (vp_in (gi g 0 7) 4 ∧ (¬ (gi g 9 ((gi g 0 7).toNatClampNeg)) = 0 → (P_274)) ∧ ((gi g 9 ((gi g 0 7).toNatClampNeg)) = 0 → (vp_in (gi g 0 7) 4 ∧ ∀ h_264 : Hs, h_264 = si g 9 ((gi g 0 7).toNatClampNeg) (zn 1) → p_M_goOn h_264 (fun h_266 => p_M_stops h_266 (fun r_270 h_270 => Q r_270 h_270)))))))) → P_226) → (r_160 = 0 → (P_226)) ∧ (¬ r_160 = 0 → (vp_in (gi g 0 7) 4 ∧ (¬ (gi g 8 ((gi g 0 7).toNatClampNeg)) = (-1) → (P_226)) ∧ ((gi g 8 ((gi g 0 7).toNatClampNeg)) = (-1) → (p_M_goOn g (fun h_180 => ∀ P_202 : Prop, ((Q 0 h_180) → P_202) → (¬ (gi h_180 0 10) = 2 → (P_202)) ∧ ((gi h_180 0 10) = 2 → (p_M_isPlace (gi h_180 0 11) h_180 (fun r_196 => (¬ r_196 = 0 → (vp_in (gi h_180 0 7) 4 ∧ ∀ h_216 : Hs, h_216 = si h_180 8 ((gi h_180 0 7).toNatClampNeg) (gi h_180 0 11) → p_M_goOn h_216 (fun h_218 => p_M_stops h_218 (fun r_222 h_222 => Q r_222 h_222)))) ∧ (r_196 = 0 → (P_202))))))))))))) ∧ (¬ r_43 = 0 → (P_49)))))))) := by
    intro r8 hr8
    have tailP : ∀ r22 : Int32, (r22 = 0 ↔ ¬ Kt T L i = 5) → ∀ P_49 : Prop, ((((gi g 0 17) = 0 → (p_M_goOn g (fun h_59 => p_M_takesMonth h_59 (fun r_63 h_63 => (¬ r_63 = 0 → (∀ P_82 : Int32 → Prop, (∀ (t0_82 : Int32), (∀ P_117 : Int32 → Hs → Prop, (∀ (b3_117 : Int32) (g_117 : Hs), (p_M_stops g_117 (fun r_118 h_118 => (¬ r_118 = 0 → (∀ P_136 : Int32 → Prop, (∀ (t1_136 : Int32), (zb t1_136 ∧ ∀ h_136 : Hs, h_136 = si h_118 0 17 t1_136 → p_M_layFrom (gi h_136 0 16) b3_117 h_136 (fun h_145 => Q 1 h_145)) → P_136 t1_136) → (¬ r8 = 0 → (P_136 0)) ∧ (r8 = 0 → (P_136 1)))) ∧ (r_118 = 0 → (Q 0 h_118)))) → P_117 b3_117 g_117) → (r8 = 0 → (P_117 t0_82 h_63)) ∧ (¬ r8 = 0 → (∀ P_106 : Prop, ((Q 0 h_63) → P_106) → (¬ (gi h_63 0 10) = 2 → (P_106)) ∧ ((gi h_63 0 10) = 2 → (p_M_isPlace (gi h_63 0 11) h_63 (fun r_100 => (¬ r_100 = 0 → (∀ a3_112 : Int32, a3_112 = gi h_63 0 11 → p_M_goOn h_63 (fun h_114 => P_117 a3_112 h_114))) ∧ (r_100 = 0 → (P_106)))))))) → P_82 t0_82) → (r22 = 0 → (P_82 7)) ∧ (¬ r22 = 0 → (P_82 6)))) ∧ (r_63 = 0 → (Q 0 h_63)))))) ∧ (¬ (gi g 0 17) = 0 → (Q 0 g))) → P_49) → (¬ r8 = 0 → (P_49)) ∧ (r8 = 0 → ((¬ r22 = 0 → (P_49)) ∧ (r22 = 0 → (p_M_isWord 100 105 101 0 0 g (fun r_43 => (r_43 = 0 → (p_M_isWord 119 111 114 100 0 g (fun r_160 => ∀ P_226 : Prop, ((p_M_isWord 99 114 111 115 115 g (fun r_237 => ∀ P_274 : Prop, ((Q 0 g) → P_274) → (r_237 = 0 → (P_274)) ∧ (¬ r_237 = 0 → (vp_in (gi g 0 7) 4 ∧ (¬ (gi g 9 ((gi g 0 7).toNatClampNeg)) = 0 → (P_274)) ∧ ((gi g 9 ((gi g 0 7).toNatClampNeg)) = 0 → (vp_in (gi g 0 7) 4 ∧ ∀ h_264 : Hs, h_264 = si g 9 ((gi g 0 7).toNatClampNeg) (zn 1) → p_M_goOn h_264 (fun h_266 => p_M_stops h_266 (fun r_270 h_270 => Q r_270 h_270)))))))) → P_226) → (r_160 = 0 → (P_226)) ∧ (¬ r_160 = 0 → (vp_in (gi g 0 7) 4 ∧ (¬ (gi g 8 ((gi g 0 7).toNatClampNeg)) = (-1) → (P_226)) ∧ ((gi g 8 ((gi g 0 7).toNatClampNeg)) = (-1) → (p_M_goOn g (fun h_180 => ∀ P_202 : Prop, ((Q 0 h_180) → P_202) → (¬ (gi h_180 0 10) = 2 → (P_202)) ∧ ((gi h_180 0 10) = 2 → (p_M_isPlace (gi h_180 0 11) h_180 (fun r_196 => (¬ r_196 = 0 → (vp_in (gi h_180 0 7) 4 ∧ ∀ h_216 : Hs, h_216 = si h_180 8 ((gi h_180 0 7).toNatClampNeg) (gi h_180 0 11) → p_M_goOn h_216 (fun h_218 => p_M_stops h_218 (fun r_222 h_222 => Q r_222 h_222)))) ∧ (r_196 = 0 → (P_202))))))))))))) ∧ (¬ r_43 = 0 → (P_49))))))) := by
      intro r22 hr22 P49 h49
      refine ⟨fun c => h49 (leg r8 r22 hr8 hr22 (Or.inl (Classical.byContradiction (fun y => c (hr8.mpr y))))), fun c8 => ⟨fun c => h49 (leg r8 r22 hr8 hr22 (Or.inr (Or.inl (Classical.byContradiction (fun y => c (hr22.mpr y)))))), fun c22 => ?_⟩⟩
      refine r_isWord (n := 3) (c0 := 100) (c1 := 105) (c2 := 101) (c3 := 0) (c4 := 0) x m hle (by decide) rfl (fun y => ⟨fun c => absurd c (by decide), fun _ => h49 (leg r8 r22 hr8 hr22 (Or.inr (Or.inr (w_die.mp y))))⟩) (fun y => ⟨fun _ => wordP (fun z => ?_), fun c => absurd rfl c⟩)
      rcases z with z | z | z
      · exact hr8.mp c8 z
      · exact hr22.mp c22 z
      · exact y (w_die.mpr z)
    exact r_isWord (n := 4) (c0 := 106) (c1 := 111) (c2 := 105) (c3 := 110) (c4 := 0) x m hle (by decide) rfl (fun y => tailP 1 ⟨fun c => absurd c (by decide), fun c => absurd (w_join.mp y) c⟩) (fun y => tailP 0 ⟨fun _ z => y (w_join.mpr z), fun _ => rfl⟩)
  unfold p_M_readItem
  exact r_isWord (n := 2) (c0 := 103) (c1 := 111) (c2 := 0) (c3 := 0) (c4 := 0) x m hle (by decide) rfl (fun y => restP 1 ⟨fun c => absurd c (by decide), fun c => absurd (w_go.mp y) c⟩) (fun y => restP 0 ⟨fun _ z => y (w_go.mpr z), fun _ => rfl⟩)
