/-! ===== the class reads a text's tokens ===== -/
/-- all tokens are there, the end last -/
def TKd (h : Hs) (T : Nat → Nat) (L c : Nat) : Prop := c ≤ L ∧ gi h 43 3 = nI (c + 1) ∧ TKs h T L (c + 1) ∧ ps T L c = L ∧ ∀ i, i < c → ps T L i < L
theorem s_tokread {r L : Nat} {T : Nat → Nat} {a2 : Int32} {h : Hs} {Q : Hs → Prop} (e2 : a2 = nI L) (x : TX h r T L) (hr : ¬ tkS r) (hQ : ∀ h' c, TKd h' T L c → frm tkS h h' → Q h') : p_Tokens_read r a2 h Q := by
  subst e2
  have hL := x.1
  unfold p_Tokens_read
  intro h2 e2 h7 e7 P10 h10
  have f7 : frm tkS h h7 := (e2 ▸ frm.si tk43 : frm tkS h h2).trans (e7 ▸ frm.si tk43)
  -- ahead at j, c tokens kept
  have key : ∀ (k j c : Nat) (g : Hs), L - j = k → j ≤ L → gi g 43 4 = nI j → gi g 43 3 = nI c → TKs g T L c → ru spB T L j = ps T L c → (∀ i, i < c → ps T L i < L) → frm tkS h g → P10 g := by
    intro k
    induction k using Nat.strongRecOn with
    | _ k ih =>
      intro j c g hk hj g1 g2 g3 g4 g5 g6
      have hc : c ≤ L := Nat.le_trans (ps_ge c g5) (ps_le c)
      apply h10
      intro P113 h113
      rw [g1, x.2.1]
      by_cases hjL : j = L
      · subst hjL
        refine ⟨fun _ => h113 ?_, fun c2 => absurd (nI_le (Nat.le_refl _) (by omega)) c2⟩
        rw [ru_end (Nat.le_refl _)] at g4
        refine s_keep g2 (by omega) (fun h' y1 y2 y3 y4 y5 y6 y7 => hQ h' c ⟨hc, y1, fun i hi => ?_, g4.symm, g5⟩ (g6.trans y7))
        by_cases ei : i = c
        · subst ei
          rw [y3, y4, y5, ← g4]
          refine ⟨rfl, ?_, ?_⟩
          · rw [show tkK T j j = 0 from if_pos (Nat.le_refl _), nI_0]
          · rw [show tkV T j j = 0 from if_pos (Nat.le_refl _), nI_0]
        · obtain ⟨z1, z2, z3⟩ := y6 i ei
          rw [z1, z2, z3]
          exact g3 i (by omega)
      · refine ⟨fun c2 => absurd ((nI_leI (by omega) (by omega)).mp c2) (by omega), fun _ => ⟨fun c2 => absurd ((nI_leI (a := 120) (by omega) (by omega)).mp c2) (by omega), fun _ => ⟨vp_in_nI (by omega) (by omega), ?_⟩⟩⟩
        have hjl : j < L := by omega
        have xg := x.frm g6 hr
        have hb := xg.2.2 j hjl
        intro x3 ex3 x4 ex4 h47 e47
        rw [nI_clamp (show j < 2 ^ 31 by omega), hb.1] at ex3
        subst ex3 ex4
        rw [nI_1] at e47
        have f47 : frm tkS h h47 := g6.trans (e47 ▸ frm.si tk43)
        have x47 := x.frm f47 hr
        have a47 : gi h47 43 4 = nI (j + 1) := by rw [e47, gi_s]
        have c47 : gi h47 43 3 = nI c := by rw [e47, gi_k (by omega)]; exact g2
        have t47 : TKs h47 T L c := fun i hi => by
          rw [e47, gi_c (by omega), gi_c (by omega), gi_c (by omega)]
          exact g3 i hi
        -- a token that begins at j and ends at E
        have step : ∀ (g' : Hs) (E : Nat), ps T L c = j → tkE T L j = E → gi g' 43 3 = nI (c + 1) → gi g' 43 4 = nI E → gi g' 44 c = nI j → gi g' 45 c = nI (tkK T L j) → gi g' 46 c = nI (tkV T L j) → (∀ i, i ≠ c → gi g' 44 i = gi h47 44 i ∧ gi g' 45 i = gi h47 45 i ∧ gi g' 46 i = gi h47 46 i) → frm tkS h47 g' → P10 g' := by
          intro g' E hp hE y1 y2 y3 y4 y5 y6 y7
          have hEE := tkE_gt (T := T) hjl
          rw [hE] at hEE
          refine ih (L - E) (by omega) E (c + 1) g' rfl hEE.2 y2 y1 (fun i hi => ?_) ?_ (fun i hi => ?_) (f47.trans y7)
          · by_cases ei : i = c
            · subst ei
              rw [y3, y4, y5, hp]
              exact ⟨rfl, rfl, rfl⟩
            · obtain ⟨z1, z2, z3⟩ := y6 i ei
              rw [z1, z2, z3]
              exact t47 i (by omega)
          · show _ = ru spB T L (tkE T L (ps T L c))
            rw [hp, hE]
          · by_cases ei : i = c
            · subst ei
              rw [hp]
              exact hjl
            · exact g5 i (by omega)
        have hle : ¬ L ≤ j := by omega
        have hpos : ¬ T j = 32 → ps T L c = j := fun hn => by rw [← g4, ru_no (fun e => hn (spB_iff.mp e))]
        refine s_isLetter rfl hb.2 (fun hs => ?_) (fun hs => ?_)
        · intro P110 h110
          refine ⟨fun c2 => absurd c2 (by decide), fun _ => ?_⟩
          have hs' := smB_iff.mp hs
          have hE : tkE T L j = ru smB T L (j + 1) := by
            unfold tkE
            rw [if_neg hle, if_pos hs]
          refine s_readLetters rfl rfl x47 hr hjl hs a47 c47 (by omega) (fun h' y1 y2 y3 y4 y5 y6 y7 => h110 _ (step h' _ (hpos (by omega)) hE y1 y2 y3 ?_ ?_ y6 y7))
          · rw [y4]
            unfold tkK
            rw [if_neg hle, if_pos hs, hE]
          · rw [y5]
            unfold tkV
            rw [if_neg hle, if_pos hs]
        · intro P110 h110
          refine ⟨fun _ => ?_, fun c2 => absurd rfl c2⟩
          refine s_isFigure rfl hb.2 (fun hf => ⟨fun c2 => absurd c2 (by decide), fun _ => ?_⟩) (fun hf => ⟨fun _ => ?_, fun c2 => absurd rfl c2⟩)
          · have hf' := fgB_iff.mp hf
            have hE : tkE T L j = ru fgB T L (j + 1) := by
              unfold tkE
              rw [if_neg hle, if_neg hs, if_pos hf]
            refine s_readFigures rfl rfl x47 hr hjl hf a47 c47 (by omega) (fun h' y1 y2 y3 y4 y5 y6 y7 => h110 _ (step h' _ (hpos (by omega)) hE y1 y2 y3 ?_ ?_ y6 y7))
            · rw [y4]
              unfold tkK
              rw [if_neg hle, if_neg hs, if_pos hf, hE]
            · rw [y5]
              unfold tkV
              rw [if_neg hle, if_neg hs, if_pos hf, hE]
          · have hb2 := hb.2
            have hE : tkE T L j = j + 1 := by
              unfold tkE
              rw [if_neg hle, if_neg hs, if_neg hf]
            refine ⟨fun c2 => h110 _ ?_, fun c2 => ?_⟩
            · have e32 : T j = 32 := (nI_eq (b := 32) (by omega) (by omega)).mp c2
              refine ih (L - (j + 1)) (by omega) (j + 1) c h47 rfl (by omega) a47 c47 t47 ?_ g5 f47
              rw [← ru_yes hjl (spB_iff.mpr e32)]
              exact g4
            · have e32 : ¬ T j = 32 := fun e => c2 (by rw [e]; rfl)
              intro P106 h106
              have go : ∀ z : Nat, tkK T L j = z → P106 (nI z) := fun z hz => by
                apply h106
                refine s_keep c47 (by omega) (fun h' y1 y2 y3 y4 y5 y6 y7 => h110 _ (step h' (j + 1) (hpos e32) hE y1 (by rw [y2, a47]) y3 (by rw [y4, hz]) ?_ y6 y7))
                rw [y5]
                unfold tkV
                rw [if_neg hle, if_neg hs, if_neg hf, nI_0]
              refine ⟨fun c3 => go 3 ?_, fun c3 => go 2 ?_⟩
              · unfold tkK
                rw [if_neg hle, if_neg hs, if_neg hf, if_neg (fun e => c3 (by rw [e]; rfl))]
              · unfold tkK
                rw [if_neg hle, if_neg hs, if_neg hf, if_pos ((nI_eq (b := 59) (by omega) (by omega)).mp c3)]
  refine key L 0 0 h7 rfl (Nat.zero_le _) ?_ ?_ (fun i hi => absurd hi (by omega)) rfl (fun i hi => absurd hi (by omega)) f7
  · rw [e7, gi_s, nI_0]
  · rw [e7, gi_k (by omega), e2, gi_s, nI_0]
