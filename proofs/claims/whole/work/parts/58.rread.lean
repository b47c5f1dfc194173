/-! ===== the reference's readItem ===== -/
theorem r_readItem {s L pl i la hr wd cr : Nat} {T W : Nat → Nat} {g : Hs} {Q : Int32 → Hs → Prop} (M : MI g s T L pl i la hr wd cr W) (h0 : ∀ j, itF (Kt T L) (Vt T L) pl i la hr wd cr = some j → ∀ g', gi g' 0 8 = nI (ps T L j) → pfr s g g' → Q 0 g') (h1 : itF (Kt T L) (Vt T L) pl i la hr wd cr = none → ∀ g', MI g' s T L pl (itN (Kt T L) i) (itLa (Kt T L) (Vt T L) i la) (itHr (Kt T L) (Vt T L) i hr) (itWd (Kt T L) (Vt T L) i wd) (itCr (Kt T L) i cr) (itW (Kt T L) (Vt T L) i W) → pfr s g g' → Q 1 g') : p_M_readItem g Q := by
  obtain ⟨x, m, m16, m17, m8, m9, m7, mp, hp6, hla, hcr, hwd⟩ := M
  have hle := ps_le (T := T) (L := L) i
  have hs4 := x.1
  have leg : ∀ (r8 r22 : Int32), (r8 = 0 ↔ ¬ Kt T L i = 4) → (r22 = 0 ↔ ¬ Kt T L i = 5) → (Kt T L i = 4 ∨ Kt T L i = 5 ∨ Kt T L i = 6) → (((gi g 0 17) = 0 → (p_M_goOn g (fun h_59 => p_M_takesMonth h_59 (fun r_63 h_63 => (¬ r_63 = 0 → (∀ P_82 : Int32 → Prop, (∀ (t0_82 : Int32), (∀ P_117 : Int32 → Hs → Prop, (∀ (b3_117 : Int32) (g_117 : Hs), (p_M_stops g_117 (fun r_118 h_118 => (¬ r_118 = 0 → (∀ P_136 : Int32 → Prop, (∀ (t1_136 : Int32), (zb t1_136 ∧ ∀ h_136 : Hs, h_136 = si h_118 0 17 t1_136 → p_M_layFrom (gi h_136 0 16) b3_117 h_136 (fun h_145 => Q 1 h_145)) → P_136 t1_136) → (¬ r8 = 0 → (P_136 0)) ∧ (r8 = 0 → (P_136 1)))) ∧ (r_118 = 0 → (Q 0 h_118)))) → P_117 b3_117 g_117) → (r8 = 0 → (P_117 t0_82 h_63)) ∧ (¬ r8 = 0 → (∀ P_106 : Prop, ((Q 0 h_63) → P_106) → (¬ (gi h_63 0 10) = 2 → (P_106)) ∧ ((gi h_63 0 10) = 2 → (p_M_isPlace (gi h_63 0 11) h_63 (fun r_100 => (¬ r_100 = 0 → (∀ a3_112 : Int32, a3_112 = gi h_63 0 11 → p_M_goOn h_63 (fun h_114 => P_117 a3_112 h_114))) ∧ (r_100 = 0 → (P_106)))))))) → P_82 t0_82) → (r22 = 0 → (P_82 7)) ∧ (¬ r22 = 0 → (P_82 6)))) ∧ (r_63 = 0 → (Q 0 h_63)))))) ∧ (¬ (gi g 0 17) = 0 → (Q 0 g))) := by
    intro r8 r22 hr8 hr22 hk
    have hF : itF (Kt T L) (Vt T L) pl i la hr wd cr = (if 6 ≤ hr then some i else if ¬ (Kt T L (i + 1) = 1 ∧ la ≤ Vt T L (i + 1) ∧ Vt T L (i + 1) < 120) then some (i + 1) else if Kt T L i = 4 then (if ¬ (Kt T L (i + 2) = 1 ∧ Vt T L (i + 2) < pl) then some (i + 2) else if Kt T L (i + 3) = 2 then none else some (i + 3)) else if Kt T L (i + 2) = 2 then none else some (i + 2)) := if_pos hk
    rw [hF] at h0 h1
    rw [m17]
    refine ⟨fun c => ?_, fun c => ?_⟩
    · have hov : ¬ 6 ≤ hr := fun y => by
        rw [if_pos y] at c
        exact absurd c (by decide)
      rw [if_neg hov] at h0 h1 m17
      refine r_goOn x m (fun g1 t1 f1 => ?_)
      have x1 := x.lfr f1
      refine r_takesMonth (la := la) x1 t1 (by rw [f1.1 0 16 (by omega)]; exact m16) (by omega) (fun hm g2 t2 f2 q16 => ⟨fun _ => ?_, fun c => absurd c (by decide)⟩) (fun hm => ⟨fun c => absurd rfl c, fun _ => ?_⟩)
      · have hm' : Kt T L (i + 1) = 1 ∧ la ≤ Vt T L (i + 1) ∧ Vt T L (i + 1) < 120 := hm
        rw [if_neg (fun y => y hm')] at h0 h1
        have G2 : qfr g g2 := f1.q.trans f2
        have F2 : pfr s g g2 := G2.p
        have x2 : MX g2 s T L := x.qfr G2
        have hp2 : gi g2 1 671 = nI pl := by rw [F2.1 1 671 (by omega) (by omega) (by omega)]; exact mp
        -- the stop, and what is laid
        have fin : ∀ (n w : Nat) (g3 : Hs), MX g3 s T L → MT g3 T L (ps T L n) → pfr s g g3 → gi g3 0 16 = nI (Vt T L (i + 1)) → (∀ m, m < 120 → gi g3 7 (120 * s + m) = gi g 7 (120 * s + m)) → gi g3 8 s = gi g 8 s → gi g3 9 s = gi g 9 s → itN (Kt T L) i = n + 1 → itHr (Kt T L) (Vt T L) i hr = w → (6 ≤ w ↔ ¬ Kt T L i = 4) → (Kt T L n = 2 → itF (Kt T L) (Vt T L) pl i la hr wd cr = none) → (¬ Kt T L n = 2 → itF (Kt T L) (Vt T L) pl i la hr wd cr = some n) → (p_M_stops g3 (fun r_118 h_118 => (¬ r_118 = 0 → (∀ P_136 : Int32 → Prop, (∀ (t1_136 : Int32), (zb t1_136 ∧ ∀ h_136 : Hs, h_136 = si h_118 0 17 t1_136 → p_M_layFrom (gi h_136 0 16) (nI w) h_136 (fun h_145 => Q 1 h_145)) → P_136 t1_136) → (¬ r8 = 0 → (P_136 0)) ∧ (r8 = 0 → (P_136 1)))) ∧ (r_118 = 0 → (Q 0 h_118)))) := by
          intro n w g3 x3 t3 F3 v16 v7 v8 v9 hN hH hw hyes hno
          rw [hF, if_neg hov, if_neg (fun y => y hm')] at hyes hno
          refine r_stops x3 t3 (fun hk2 g4 t4 f4 => ⟨fun _ => ?_, fun c => absurd c (by decide)⟩) (fun hk2 => ⟨fun c => absurd rfl c, fun _ => h0 n (hno hk2) g3 t3.1 F3⟩)
          have F4 : pfr s g g4 := F3.trans f4.p
          have x4 := x3.lfr f4
          intro P136 h136
          have go : ∀ z : Int32, zb z → z = (if 6 ≤ w then 1 else 0) → P136 z := fun z hz hz2 => by
            apply h136
            refine ⟨hz, ?_⟩
            intro h' e'
            have e16 : gi h' 0 16 = nI (Vt T L (i + 1)) := by rw [e', gi_k (by omega), f4.1 0 16 (by omega)]; exact v16
            have e7 : gi h' 0 7 = nI s := by rw [e', gi_k (by omega)]; exact x4.2.2.1
            rw [e16]
            have F5 : pfr s g h' := F4.trans (e' ▸ pfr.si0 (by omega))
            refine r_layFrom rfl rfl hs4 e7 (by omega) (fun g6 y1 y2 y3 => ?_)
            have F6 : pfr s g g6 := F5.trans ⟨fun c j _ hc2 _ => y2 c j hc2, y3⟩
            refine h1 (hyes hk2) g6 ⟨?_, ?_, ?_, ?_, ?_, ?_, ?_, ?_, hp6, ?_, ?_, ?_⟩ F6
            · exact x.pfr F6 (by rw [y2 0 7 (by omega)]; exact e7)
            · rw [hN]
              exact lfr.mt t4 (fun j j1 j2 => by rw [y2 0 j (by omega), e', gi_k (by omega)])
            · rw [y2 0 16 (by omega), e16]
              unfold itLa
              rw [if_pos hk]
            · rw [y2 0 17 (by omega), e', gi_s, hz2, hH]
            · rw [y2 8 s (by omega), e', gi_c (by omega), f4.1 8 s (by omega), v8, m8]
              unfold itWd
              rw [if_neg (by omega)]
            · rw [y2 9 s (by omega), e', gi_c (by omega), f4.1 9 s (by omega), v9, m9]
              unfold itCr
              rw [if_neg (by omega)]
            · intro k hk3
              rw [y1 k hk3, e', gi_c (by omega), f4.1 7 _ (by omega), v7 k hk3, m7 k hk3]
              unfold itW lay
              rw [if_pos hk]
              have e9 : itHr (Kt T L) (Vt T L) i 0 = w := by
                rw [← hH]
                unfold itHr
                by_cases k4 : Kt T L i = 4
                · rw [if_pos k4, if_pos k4]
                · rw [if_neg k4, if_neg k4]
                  by_cases k5 : Kt T L i = 5
                  · rw [if_pos k5, if_pos k5]
                  · rw [if_neg k5, if_neg k5, if_pos (by omega), if_pos (by omega)]
              rw [e9]
              by_cases y : Vt T L (i + 1) ≤ k
              · rw [if_pos y, if_pos y]
              · rw [if_neg y, if_neg y]
            · rw [y2 1 671 (by omega), e', gi_c (by omega), f4.1 1 671 (by omega), F3.1 1 671 (by omega) (by omega) (by omega)]
              exact mp
            · unfold itLa
              rw [if_pos hk]
              exact hm'.2.2
            · unfold itCr
              rw [if_neg (by omega)]
              exact hcr
            · unfold itWd
              rw [if_neg (by omega)]
              exact hwd
          refine ⟨fun c => go 0 zb0 ?_, fun c => go 1 zb1 ?_⟩
          · rw [if_neg (fun y => c (hr8.mpr (hw.mp y)))]
          · rw [if_pos (hw.mpr (hr8.mp c))]
        intro P82 h82
        have go82 : ∀ w0 : Nat, (¬ Kt T L i = 4 → itHr (Kt T L) (Vt T L) i hr = w0 ∧ 6 ≤ w0) → P82 (nI w0) := by
          intro w0 hw0
          apply h82
          intro P117 h117
          refine ⟨fun c => ?_, fun c => ?_⟩
          · have k4 := hr8.mp c
            have hw1 := hw0 k4
            apply h117
            refine fin (i + 2) w0 g2 x2 t2 F2 q16 (fun k _ => G2.1 7 _ (by omega)) (G2.1 8 s (by omega)) (G2.1 9 s (by omega)) ?_ hw1.1 ⟨fun _ => k4, fun _ => hw1.2⟩ (fun y => ?_) (fun y => ?_)
            · unfold itN
              rw [if_neg k4, if_neg (by omega)]
            · rw [hF, if_neg hov, if_neg (fun z => z hm'), if_neg k4, if_pos y]
            · rw [hF, if_neg hov, if_neg (fun z => z hm'), if_neg k4, if_neg y]
          · have k4 : Kt T L i = 4 := Classical.byContradiction (fun y => c (hr8.mpr y))
            rw [if_pos k4] at h0 h1
            intro P106 h106
            have hk10 := mK_le (T := T) (L := L) (a := ps T L (i + 2))
            have hvv := tkV_lt (T := T) (L := L) (a := ps T L (i + 2))
            rw [t2.2.2.1]
            refine ⟨fun c2 => h106 (h0 (i + 2) ?_ g2 t2.1 F2), fun c2 => ?_⟩
            · have : ¬ (Kt T L (i + 2) = 1 ∧ Vt T L (i + 2) < pl) := fun y => c2 (by rw [mK2.mpr y.1]; rfl)
              rw [if_pos this]
            · have k2 : mK T L (ps T L (i + 2)) = 2 := (nI_eq (b := 2) (by omega) (by omega)).mp c2
              rw [t2.2.2.2 k2]
              refine m_isPlace rfl hvv hp2 hp6 (fun hlt => ⟨fun _ => ?_, fun c => absurd c (by decide)⟩) (fun hlt => ⟨fun c => absurd rfl c, fun _ => h106 (h0 (i + 2) ?_ g2 t2.1 F2)⟩)
              · intro a3 ea3
                subst ea3
                refine r_goOn x2 t2 (fun g3 t3 f3 => ?_)
                apply h117
                have hc2 : Kt T L (i + 2) = 1 ∧ Vt T L (i + 2) < pl := ⟨mK2.mp k2, hlt⟩
                refine fin (i + 3) (Vt T L (i + 2)) g3 (x2.lfr f3) t3 (F2.trans f3.p) (by rw [f3.1 0 16 (by omega)]; exact q16) (fun k _ => by rw [f3.1 7 _ (by omega)]; exact G2.1 7 _ (by omega)) (by rw [f3.1 8 _ (by omega)]; exact G2.1 8 s (by omega)) (by rw [f3.1 9 _ (by omega)]; exact G2.1 9 s (by omega)) ?_ ?_ ⟨fun y => by have := hc2.2; omega, fun y => absurd k4 y⟩ (fun y => ?_) (fun y => ?_)
                · unfold itN
                  rw [if_pos k4]
                · unfold itHr
                  rw [if_pos k4]
                · rw [hF, if_neg hov, if_neg (fun z => z hm'), if_pos k4, if_neg (fun z => z hc2), if_pos y]
                · rw [hF, if_neg hov, if_neg (fun z => z hm'), if_pos k4, if_neg (fun z => z hc2), if_neg y]
              · have : ¬ (Kt T L (i + 2) = 1 ∧ Vt T L (i + 2) < pl) := fun y => hlt y.2
                rw [if_pos this]
        refine ⟨fun c => go82 7 (fun k4 => ⟨?_, by omega⟩), fun c => go82 6 (fun k4 => ⟨?_, by omega⟩)⟩
        · have k5 := hr22.mp c
          unfold itHr
          rw [if_neg k4, if_neg k5, if_pos (by omega)]
        · have k5 : Kt T L i = 5 := Classical.byContradiction (fun y => c (hr22.mpr y))
          unfold itHr
          rw [if_neg k4, if_pos k5]
      · refine h0 (i + 1) ?_ g1 t1.1 f1.p
        have : ¬ (Kt T L (i + 1) = 1 ∧ la ≤ Vt T L (i + 1) ∧ Vt T L (i + 1) < 120) := hm
        rw [if_pos this]
    · have hov : 6 ≤ hr := Classical.byContradiction (fun y => c (by rw [if_neg y]))
      rw [if_pos hov] at h0
      exact h0 i rfl g m.1 pfr.refl
  unfold p_M_readItem
  have e0 : (0 : Int32) = nI 0 := rfl
  sorry
