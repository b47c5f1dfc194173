/-! ===== the class's readItem ===== -/
def XI (h : Hs) (o : Nat) (T : Nat → Nat) (L c i la hr wd cr : Nat) (W : Nat → Nat) : Prop := TKd h T L c ∧ i ≤ c ∧ gi h o 7 = nI i ∧ gi h o 6 = nI la ∧ gi h o 5 = nI hr ∧ gi h o 3 = wv wd ∧ gi h o 4 = nI cr ∧ gi h o 2 = -1 ∧ (∀ m, m < la → gi h (o + 1) m = nI (W m)) ∧ (∀ p, p < 6 → gi h (o + 2) p = nI (cnt W p la)) ∧ (∀ m, la ≤ m → W m = hr) ∧ la < 120 ∧ hr ≤ 7 ∧ cr ≤ 1 ∧ wd ≤ 6
def sfr (o : Nat) (h h' : Hs) : Prop := (∀ c j, (c ≠ o ∨ j ≠ 7) → gi h' c j = gi h c j) ∧ h'.2 = h.2
theorem sfr.refl {o : Nat} {h : Hs} : sfr o h h := ⟨fun _ _ _ => rfl, rfl⟩
theorem sfr.si {o : Nat} {h h1 : Hs} {v : Int32} (f : sfr o h h1) : sfr o h (si h1 o 7 v) := ⟨fun c j hc => by rw [gi_if, if_neg (by omega)]; exact f.1 c j hc, f.2⟩
theorem sfr.frm {o : Nat} {h h1 : Hs} (f : sfr o h h1) : frm (tS3 o) h h1 := ⟨fun c hc j => f.1 c j (by unfold tS3 at hc; omega), f.2⟩
theorem TKd.sfr {o : Nat} {h h' : Hs} {T : Nat → Nat} {L c : Nat} (K : TKd h T L c) (ho : 59 ≤ o) (f : sfr o h h') : TKd h' T L c := K.frm f.frm (fun q hq => by unfold tkS at hq; unfold tS3; omega)
theorem Kt_le {T : Nat → Nat} {L i : Nat} : Kt T L i ≤ 8 := by
  unfold Kt tkK
  repeat' split
  all_goals (first | omega | exact wk_lt)
theorem s_titem {o L c pl i la hr wd cr : Nat} {T W : Nat → Nat} {a2 : Int32} {h : Hs} {Q : Int32 → Hs → Prop} (e2 : a2 = nI pl) (hp6 : pl ≤ 6) (ho : 59 ≤ o) (hL : L ≤ 120) (X : XI h o T L c i la hr wd cr W) (hk0 : ¬ Kt T L i = 0) (h0 : ∀ j, itF (Kt T L) (Vt T L) pl i la hr wd cr = some j → ∀ h', gi h' o 7 = nI j → j ≤ c → sfr o h h' → Q 0 h') (h1 : itF (Kt T L) (Vt T L) pl i la hr wd cr = none → ∀ h', XI h' o T L c (itN (Kt T L) i) (itLa (Kt T L) (Vt T L) i la) (itHr (Kt T L) (Vt T L) i hr) (itWd (Kt T L) (Vt T L) i wd) (itCr (Kt T L) i cr) (itW (Kt T L) (Vt T L) i W) → frm (tS3 o) h h' → Q 1 h') : p_Tale_readItem o a2 h Q := by
  subst e2
  obtain ⟨K, hi, x7, x6, x5, x3, x4, x2, xr, xs, xW, hla, hhr, hcr, hwd⟩ := X
  have hcL := K.1
  have hK8 := Kt_le (T := T) (L := L) (i := i)
  have hic := Kt_lt K hi hk0
  unfold p_Tale_readItem
  rw [x7, x6]
  refine s_tokenAt K hL rfl hi ?_
  intro x4' ex4
  subst ex4
  refine s_mayBegin rfl hK8 x5 hhr x3 hwd x4 hcr (fun may => ⟨fun _ => ?_, fun c => absurd c (by decide)⟩) (fun may => ⟨fun c => absurd rfl c, fun _ => h0 i ?_ h x7 hi sfr.refl⟩)
  · intro h35 e35
    rw [nI_1] at e35
    have f35 : sfr o h h35 := e35 ▸ sfr.refl.si
    have K35 := K.sfr ho f35
    have s35 : gi h35 o 7 = nI (i + 1) := by rw [e35, gi_s]
    -- the stop and the take
    have fin : ∀ (n mo plc : Nat) (g : Hs), n ≤ c → gi g o 7 = nI n → sfr o h g → itN (Kt T L) i = n + 1 → (¬ Kt T L n = 2 → itF (Kt T L) (Vt T L) pl i la hr wd cr = some n) → (Kt T L n = 2 → itF (Kt T L) (Vt T L) pl i la hr wd cr = none) → (Kt T L i = 4 ∨ Kt T L i = 5 ∨ Kt T L i = 6 → mo = Vt T L (i + 1) ∧ la ≤ mo ∧ mo < 120) → (Kt T L i = 4 → plc = Vt T L (i + 2) ∧ plc < pl) → (Kt T L i = 7 → plc = Vt T L (i + 1) ∧ plc < pl) → p_Tokens_tokenAt (gi g o 7) g (fun r_151 => (r_151 = 2 → (∀ h_167 : Hs, h_167 = si g o 7 ((gi g o 7) + 1) → p_Tale_take o (nI (Kt T L i)) (nI mo) (nI plc) h_167 (fun h_176 => Q 1 h_176))) ∧ (¬ r_151 = 2 → (Q 0 g))) := by
      intro n mo plc g hn g7 gf hN hno hyes hleg hgo hword
      have Kg := K.sfr ho gf
      have hKn := Kt_le (T := T) (L := L) (i := n)
      rw [g7]
      refine s_tokenAt Kg hL rfl hn ⟨fun c2 => ?_, fun c2 => h0 n (hno (fun e => c2 (by rw [e]; rfl))) g g7 hn gf⟩
      have k2 : Kt T L n = 2 := (nI_eq (b := 2) (by omega) (by omega)).mp c2
      have hn1 : n + 1 ≤ c := by
        have := Kt_lt Kg hn (by omega)
        omega
      intro h167 e167
      rw [nI_1] at e167
      have f167 : sfr o h h167 := e167 ▸ gf.si
      have s7 : gi h167 o 7 = nI (n + 1) := by rw [e167, gi_s]
      have so : ∀ j, j ≠ 7 → gi h167 o j = gi h o j := fun j hj => f167.1 o j (Or.inr hj)
      have sr1 : ∀ j, gi h167 (o + 1) j = gi h (o + 1) j := fun j => f167.1 _ j (Or.inl (by omega))
      have sr2 : ∀ j, gi h167 (o + 2) j = gi h (o + 2) j := fun j => f167.1 _ j (Or.inl (by omega))
      have K167 := K.sfr ho f167
      have z : ∀ q, q < 9 → (nI (Kt T L i) = nI q ↔ Kt T L i = q) := fun q h => nI_eq (by omega) (by omega)
      have z7 : nI (Kt T L i) = 7 ↔ Kt T L i = 7 := z 7 (by omega)
      have z8 : nI (Kt T L i) = 8 ↔ Kt T L i = 8 := z 8 (by omega)
      have z4 : nI (Kt T L i) = 4 ↔ Kt T L i = 4 := z 4 (by omega)
      have z5 : nI (Kt T L i) = 5 ↔ Kt T L i = 5 := z 5 (by omega)
      unfold p_Tale_take
      rw [z7, z8, z4, z5]
      intro P58 h58
      refine ⟨fun n7 => ⟨fun n8 => ?_, fun k8 => ?_⟩, fun k7 => ?_⟩
      · have hl : Kt T L i = 4 ∨ Kt T L i = 5 ∨ Kt T L i = 6 := by omega
        obtain ⟨m1, m2, m3⟩ := hleg hl
        refine s_stayUntil (W := W) (la := la) (hr := hr) rfl m2 (by omega) (by rw [so 6 (by omega)]; exact x6) (by rw [so 5 (by omega)]; exact x5) hhr (fun m hm => by rw [sr1]; exact xr m hm) (fun p hp => by rw [sr2]; exact xs p hp) xW (fun h30 y1 y2 y3 y4 y5 => ?_)
        intro P55 h55
        have go : ∀ w : Nat, itHr (Kt T L) (Vt T L) i hr = w → itHr (Kt T L) (Vt T L) i 0 = w → w ≤ 7 → P55 (nI w) := by
          intro w hw hw0 hw7
          apply h55
          intro h55' e55
          apply h58
          have F : frm (tS3 o) h h55' := (f167.frm.trans y5).trans (e55 ▸ frm.si (show tS3 o o by unfold tS3; omega))
          have eW : itW (Kt T L) (Vt T L) i W = lay W mo w := by
            unfold itW
            rw [if_pos hl, ← m1, hw0]
          have eLa : itLa (Kt T L) (Vt T L) i la = mo := by
            unfold itLa
            rw [if_pos hl, m1]
          have eWd : itWd (Kt T L) (Vt T L) i wd = wd := by
            unfold itWd
            rw [if_neg n7]
          have eCr : itCr (Kt T L) i cr = cr := by
            unfold itCr
            rw [if_neg n8]
          refine h1 (hyes k2) h55' ?_ F
          rw [hN, eLa, hw, eWd, eCr, eW]
          refine ⟨K.frm F (fun q hq => by unfold tkS at hq; unfold tS3; omega), hn1, ?_, ?_, ?_, ?_, ?_, ?_, fun m hm => ?_, fun p hp => ?_, fun m hm => ?_, m3, hw7, hcr, hwd⟩
          · rw [e55, gi_k (by omega), y4 7 (by omega)]
            exact s7
          · rw [e55, gi_k (by omega)]
            exact y3
          · rw [e55, gi_s]
          · rw [e55, gi_k (by omega), y4 3 (by omega), so 3 (by omega)]
            exact x3
          · rw [e55, gi_k (by omega), y4 4 (by omega), so 4 (by omega)]
            exact x4
          · rw [e55, gi_k (by omega), y4 2 (by omega), so 2 (by omega)]
            exact x2
          · rw [e55, gi_c (by omega), y1 m hm]
            unfold lay
            rw [if_neg (by omega)]
          · rw [e55, gi_c (by omega), y2 p hp]
            congr 1
            refine cnt_congr mo (fun m hm => ?_)
            unfold lay
            rw [if_neg (by omega)]
          · unfold lay
            rw [if_pos hm]
        refine ⟨fun n4 => ⟨fun n5 => ?_, fun k5 => ?_⟩, fun k4 => ?_⟩
        · refine go 7 ?_ ?_ (by omega)
          all_goals
            unfold itHr
            rw [if_neg n4, if_neg n5, if_pos (by omega)]
        · refine go 6 ?_ ?_ (by omega)
          all_goals
            unfold itHr
            rw [if_neg n4, if_pos k5]
        · have hg := hgo k4
          refine go plc ?_ ?_ (by omega)
          all_goals
            unfold itHr
            rw [if_pos k4, hg.1]
      · intro h22 e22
        apply h58
        have nl : ¬ (Kt T L i = 4 ∨ Kt T L i = 5 ∨ Kt T L i = 6) := by omega
        have F : frm (tS3 o) h h22 := f167.frm.trans (e22 ▸ frm.si (show tS3 o o by unfold tS3; omega))
        refine h1 (hyes k2) h22 ?_ F
        rw [hN, show itLa (Kt T L) (Vt T L) i la = la by unfold itLa; rw [if_neg nl], show itHr (Kt T L) (Vt T L) i hr = hr by unfold itHr; rw [if_neg (by omega), if_neg (by omega), if_neg (by omega)], show itWd (Kt T L) (Vt T L) i wd = wd by unfold itWd; rw [if_neg n7], show itCr (Kt T L) i cr = 1 by unfold itCr; rw [if_pos k8], show itW (Kt T L) (Vt T L) i W = W by unfold itW; rw [if_neg nl]]
        refine ⟨K.frm F (fun q hq => by unfold tkS at hq; unfold tS3; omega), hn1, ?_, ?_, ?_, ?_, ?_, ?_, fun m hm => ?_, fun p hp => ?_, xW, hla, hhr, by omega, hwd⟩
        · rw [e22, gi_k (by omega)]
          exact s7
        · rw [e22, gi_k (by omega), so 6 (by omega)]
          exact x6
        · rw [e22, gi_k (by omega), so 5 (by omega)]
          exact x5
        · rw [e22, gi_k (by omega), so 3 (by omega)]
          exact x3
        · rw [e22, gi_s]
          rfl
        · rw [e22, gi_k (by omega), so 2 (by omega)]
          exact x2
        · rw [e22, gi_c (by omega), sr1]
          exact xr m hm
        · rw [e22, gi_c (by omega), sr2]
          exact xs p hp
      · intro h8 e8
        apply h58
        have hg := hword k7
        have nl : ¬ (Kt T L i = 4 ∨ Kt T L i = 5 ∨ Kt T L i = 6) := by omega
        have F : frm (tS3 o) h h8 := f167.frm.trans (e8 ▸ frm.si (show tS3 o o by unfold tS3; omega))
        refine h1 (hyes k2) h8 ?_ F
        rw [hN, show itLa (Kt T L) (Vt T L) i la = la by unfold itLa; rw [if_neg nl], show itHr (Kt T L) (Vt T L) i hr = hr by unfold itHr; rw [if_neg (by omega), if_neg (by omega), if_neg (by omega)], show itWd (Kt T L) (Vt T L) i wd = plc + 1 by unfold itWd; rw [if_pos k7, hg.1], show itCr (Kt T L) i cr = cr by unfold itCr; rw [if_neg (by omega)], show itW (Kt T L) (Vt T L) i W = W by unfold itW; rw [if_neg nl]]
        refine ⟨K.frm F (fun q hq => by unfold tkS at hq; unfold tS3; omega), hn1, ?_, ?_, ?_, ?_, ?_, ?_, fun m hm => ?_, fun p hp => ?_, xW, hla, hhr, hcr, by omega⟩
        · rw [e8, gi_k (by omega)]
          exact s7
        · rw [e8, gi_k (by omega), so 6 (by omega)]
          exact x6
        · rw [e8, gi_k (by omega), so 5 (by omega)]
          exact x5
        · rw [e8, gi_s]
          unfold wv
          rw [if_neg (by omega), Nat.add_sub_cancel]
        · rw [e8, gi_k (by omega), so 4 (by omega)]
          exact x4
        · rw [e8, gi_k (by omega), so 2 (by omega)]
          exact x2
        · rw [e8, gi_c (by omega), sr1]
          exact xr m hm
        · rw [e8, gi_c (by omega), sr2]
          exact xs p hp
    sorry
  · unfold itF
    by_cases hl : Kt T L i = 4 ∨ Kt T L i = 5 ∨ Kt T L i = 6
    · rw [if_pos hl, if_pos (by omega)]
    · rw [if_neg hl, if_neg (by omega), if_neg (by omega)]
