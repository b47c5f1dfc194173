/-! ===== the class's readItem ===== -/
def XI (h : Hs) (o : Nat) (T : Nat → Nat) (L c i la hr wd cr : Nat) (W : Nat → Nat) : Prop := TKd h T L c ∧ i ≤ c ∧ gi h o 7 = nI i ∧ gi h o 6 = nI la ∧ gi h o 5 = nI hr ∧ gi h o 3 = wv wd ∧ gi h o 4 = nI cr ∧ gi h o 2 = -1 ∧ (∀ m, m < la → gi h (o + 1) m = nI (W m)) ∧ (∀ p, p < 6 → gi h (o + 2) p = nI (cnt W p la)) ∧ (∀ m, la ≤ m → W m = hr) ∧ la < 120 ∧ hr ≤ 7 ∧ cr ≤ 1 ∧ wd ≤ 6
def sfr (o : Nat) (h h' : Hs) : Prop := (∀ c j, (c ≠ o ∨ j ≠ 7) → gi h' c j = gi h c j) ∧ h'.2 = h.2
theorem sfr.refl {o : Nat} {h : Hs} : sfr o h h := ⟨fun _ _ _ => rfl, rfl⟩
theorem sfr.si {o : Nat} {h h1 : Hs} {v : Int32} (f : sfr o h h1) : sfr o h (si h1 o 7 v) := ⟨fun c j hc => by rw [gi_if, if_neg (by omega)]; exact f.1 c j hc, f.2⟩
theorem sfr.frm {o : Nat} {h h1 : Hs} (f : sfr o h h1) : frm (tS3 o) h h1 := ⟨fun c hc j => f.1 c j (by unfold tS3 at hc; omega), f.2⟩
theorem TKd.sfr {o : Nat} {h h' : Hs} {T : Nat → Nat} {L c : Nat} (K : TKd h T L c) (ho : 59 ≤ o) (f : sfr o h h') : TKd h' T L c := K.frm f.frm (fun q hq => by unfold tkS at hq; unfold tS3; omega)
theorem Kt_le {T : Nat → Nat} {L i : Nat} : Kt T L i ≤ 8 := by
  unfold Kt tkK
  repeat' split
  all_goals (first | omega | exact wk_lt)
theorem s_titem {o L c pl i la hr wd cr : Nat} {T W : Nat → Nat} {a2 : Int32} {h : Hs} {Q : Int32 → Hs → Prop} (e2 : a2 = nI pl) (hp6 : pl ≤ 6) (ho : 59 ≤ o) (hL : L ≤ 120) (X : XI h o T L c i la hr wd cr W) (hk0 : ¬ Kt T L i = 0) (h0 : ∀ j, itF (Kt T L) (Vt T L) pl i la hr wd cr = some j → ∀ h', gi h' o 7 = nI j → j ≤ c → sfr o h h' → Q 0 h') (h1 : itF (Kt T L) (Vt T L) pl i la hr wd cr = none → ∀ h', XI h' o T L c (itN (Kt T L) i) (itLa (Kt T L) (Vt T L) i la) (itHr (Kt T L) (Vt T L) i hr) (itWd (Kt T L) (Vt T L) i wd) (itCr (Kt T L) i cr) (itW (Kt T L) (Vt T L) i W) → frm (tS3 o) h h' → Q 1 h') : p_Tale_readItem o a2 h Q := by
  subst e2
  obtain ⟨K, hi, x7, x6, x5, x3, x4, x2, xr, xs, xW, hla, hhr, hcr, hwd⟩ := X
  have hcL := K.1
  have hK8 := Kt_le (T := T) (L := L) (i := i)
  have hic := Kt_lt K hi hk0
  unfold p_Tale_readItem
  rw [x7, x6]
  refine s_tokenAt K hL rfl hi ?_
  intro x4' ex4
  subst ex4
  refine s_mayBegin rfl hK8 x5 hhr x3 hwd x4 hcr (fun may => ⟨fun _ => ?_, fun c => absurd c (by decide)⟩) (fun may => ⟨fun c => absurd rfl c, fun _ => h0 i ?_ h x7 hi sfr.refl⟩)
  · intro h35 e35
    rw [nI_1] at e35
    have f35 : sfr o h h35 := e35 ▸ sfr.refl.si
    have K35 := K.sfr ho f35
    have s35 : gi h35 o 7 = nI (i + 1) := by rw [e35, gi_s]
    -- the stop and the take
    have fin : ∀ (n mo plc : Nat) (g : Hs), n ≤ c → gi g o 7 = nI n → sfr o h g → itN (Kt T L) i = n + 1 → (¬ Kt T L n = 2 → itF (Kt T L) (Vt T L) pl i la hr wd cr = some n) → (Kt T L n = 2 → itF (Kt T L) (Vt T L) pl i la hr wd cr = none) → (Kt T L i = 4 ∨ Kt T L i = 5 ∨ Kt T L i = 6 → mo = Vt T L (i + 1) ∧ la ≤ mo ∧ mo < 120) → (Kt T L i = 4 → plc = Vt T L (i + 2) ∧ plc < pl) → (Kt T L i = 7 → plc = Vt T L (i + 1) ∧ plc < pl) → p_Tokens_tokenAt (gi g o 7) g (fun r_151 => (r_151 = 2 → (∀ h_167 : Hs, h_167 = si g o 7 ((gi g o 7) + 1) → p_Tale_take o (nI (Kt T L i)) (nI mo) (nI plc) h_167 (fun h_176 => Q 1 h_176))) ∧ (¬ r_151 = 2 → (Q 0 g))) := by
      intro n mo plc g hn g7 gf hN hno hyes hleg hgo hword
      have Kg := K.sfr ho gf
      have hKn := Kt_le (T := T) (L := L) (i := n)
      rw [g7]
      refine s_tokenAt Kg hL rfl hn ⟨fun c2 => ?_, fun c2 => h0 n (hno (fun e => c2 (by rw [e]; rfl))) g g7 hn gf⟩
      have k2 : Kt T L n = 2 := (nI_eq (b := 2) (by omega) (by omega)).mp c2
      have hn1 : n + 1 ≤ c := by
        have := Kt_lt Kg hn (by omega)
        omega
      intro h167 e167
      rw [nI_1] at e167
      have f167 : sfr o h h167 := e167 ▸ gf.si
      have s7 : gi h167 o 7 = nI (n + 1) := by rw [e167, gi_s]
      have so : ∀ j, j ≠ 7 → gi h167 o j = gi h o j := fun j hj => f167.1 o j (Or.inr hj)
      have sr1 : ∀ j, gi h167 (o + 1) j = gi h (o + 1) j := fun j => f167.1 _ j (Or.inl (by omega))
      have sr2 : ∀ j, gi h167 (o + 2) j = gi h (o + 2) j := fun j => f167.1 _ j (Or.inl (by omega))
      have K167 := K.sfr ho f167
      have z : ∀ q, q < 9 → (nI (Kt T L i) = nI q ↔ Kt T L i = q) := fun q h => nI_eq (by omega) (by omega)
      have z7 : nI (Kt T L i) = 7 ↔ Kt T L i = 7 := z 7 (by omega)
      have z8 : nI (Kt T L i) = 8 ↔ Kt T L i = 8 := z 8 (by omega)
      have z4 : nI (Kt T L i) = 4 ↔ Kt T L i = 4 := z 4 (by omega)
      have z5 : nI (Kt T L i) = 5 ↔ Kt T L i = 5 := z 5 (by omega)
      unfold p_Tale_take
      rw [z7, z8, z4, z5]
      intro P58 h58
      refine ⟨fun n7 => ⟨fun n8 => ?_, fun k8 => ?_⟩, fun k7 => ?_⟩
      · have hl : Kt T L i = 4 ∨ Kt T L i = 5 ∨ Kt T L i = 6 := by omega
        obtain ⟨m1, m2, m3⟩ := hleg hl
        refine s_stayUntil (W := W) (la := la) (hr := hr) rfl m2 (by omega) (by rw [so 6 (by omega)]; exact x6) (by rw [so 5 (by omega)]; exact x5) hhr (fun m hm => by rw [sr1]; exact xr m hm) (fun p hp => by rw [sr2]; exact xs p hp) xW (fun h30 y1 y2 y3 y4 y5 => ?_)
        intro P55 h55
        have go : ∀ w : Nat, itHr (Kt T L) (Vt T L) i hr = w → itHr (Kt T L) (Vt T L) i 0 = w → w ≤ 7 → P55 (nI w) := by
          intro w hw hw0 hw7
          apply h55
          intro h55' e55
          apply h58
          have F : frm (tS3 o) h h55' := (f167.frm.trans y5).trans (e55 ▸ frm.si (show tS3 o o by unfold tS3; omega))
          have eW : itW (Kt T L) (Vt T L) i W = lay W mo w := by
            unfold itW
            rw [if_pos hl, ← m1, hw0]
          have eLa : itLa (Kt T L) (Vt T L) i la = mo := by
            unfold itLa
            rw [if_pos hl, m1]
          have eWd : itWd (Kt T L) (Vt T L) i wd = wd := by
            unfold itWd
            rw [if_neg n7]
          have eCr : itCr (Kt T L) i cr = cr := by
            unfold itCr
            rw [if_neg n8]
          refine h1 (hyes k2) h55' ?_ F
          rw [hN, eLa, hw, eWd, eCr, eW]
          refine ⟨K.frm F (fun q hq => by unfold tkS at hq; unfold tS3; omega), hn1, ?_, ?_, ?_, ?_, ?_, ?_, fun m hm => ?_, fun p hp => ?_, fun m hm => ?_, m3, hw7, hcr, hwd⟩
          · rw [e55, gi_k (by omega), y4 7 (by omega)]
            exact s7
          · rw [e55, gi_k (by omega)]
            exact y3
          · rw [e55, gi_s]
          · rw [e55, gi_k (by omega), y4 3 (by omega), so 3 (by omega)]
            exact x3
          · rw [e55, gi_k (by omega), y4 4 (by omega), so 4 (by omega)]
            exact x4
          · rw [e55, gi_k (by omega), y4 2 (by omega), so 2 (by omega)]
            exact x2
          · rw [e55, gi_c (by omega), y1 m hm]
            unfold lay
            rw [if_neg (by omega)]
          · rw [e55, gi_c (by omega), y2 p hp]
            congr 1
            refine cnt_congr mo (fun m hm => ?_)
            unfold lay
            rw [if_neg (by omega)]
          · unfold lay
            rw [if_pos hm]
        refine ⟨fun n4 => ⟨fun n5 => ?_, fun k5 => ?_⟩, fun k4 => ?_⟩
        · refine go 7 ?_ ?_ (by omega)
          all_goals
            unfold itHr
            rw [if_neg n4, if_neg n5, if_pos (by omega)]
        · refine go 6 ?_ ?_ (by omega)
          all_goals
            unfold itHr
            rw [if_neg n4, if_pos k5]
        · have hg := hgo k4
          refine go plc ?_ ?_ (by omega)
          all_goals
            unfold itHr
            rw [if_pos k4, hg.1]
      · intro h22 e22
        apply h58
        have nl : ¬ (Kt T L i = 4 ∨ Kt T L i = 5 ∨ Kt T L i = 6) := by omega
        have F : frm (tS3 o) h h22 := f167.frm.trans (e22 ▸ frm.si (show tS3 o o by unfold tS3; omega))
        refine h1 (hyes k2) h22 ?_ F
        rw [hN, show itLa (Kt T L) (Vt T L) i la = la by unfold itLa; rw [if_neg nl], show itHr (Kt T L) (Vt T L) i hr = hr by unfold itHr; rw [if_neg (by omega), if_neg (by omega), if_neg (by omega)], show itWd (Kt T L) (Vt T L) i wd = wd by unfold itWd; rw [if_neg n7], show itCr (Kt T L) i cr = 1 by unfold itCr; rw [if_pos k8], show itW (Kt T L) (Vt T L) i W = W by unfold itW; rw [if_neg nl]]
        refine ⟨K.frm F (fun q hq => by unfold tkS at hq; unfold tS3; omega), hn1, ?_, ?_, ?_, ?_, ?_, ?_, fun m hm => ?_, fun p hp => ?_, xW, hla, hhr, by omega, hwd⟩
        · rw [e22, gi_k (by omega)]
          exact s7
        · rw [e22, gi_k (by omega), so 6 (by omega)]
          exact x6
        · rw [e22, gi_k (by omega), so 5 (by omega)]
          exact x5
        · rw [e22, gi_k (by omega), so 3 (by omega)]
          exact x3
        · rw [e22, gi_s]
          rfl
        · rw [e22, gi_k (by omega), so 2 (by omega)]
          exact x2
        · rw [e22, gi_c (by omega), sr1]
          exact xr m hm
        · rw [e22, gi_c (by omega), sr2]
          exact xs p hp
      · intro h8 e8
        apply h58
        have hg := hword k7
        have nl : ¬ (Kt T L i = 4 ∨ Kt T L i = 5 ∨ Kt T L i = 6) := by omega
        have F : frm (tS3 o) h h8 := f167.frm.trans (e8 ▸ frm.si (show tS3 o o by unfold tS3; omega))
        refine h1 (hyes k2) h8 ?_ F
        rw [hN, show itLa (Kt T L) (Vt T L) i la = la by unfold itLa; rw [if_neg nl], show itHr (Kt T L) (Vt T L) i hr = hr by unfold itHr; rw [if_neg (by omega), if_neg (by omega), if_neg (by omega)], show itWd (Kt T L) (Vt T L) i wd = plc + 1 by unfold itWd; rw [if_pos k7, hg.1], show itCr (Kt T L) i cr = cr by unfold itCr; rw [if_neg (by omega)], show itW (Kt T L) (Vt T L) i W = W by unfold itW; rw [if_neg nl]]
        refine ⟨K.frm F (fun q hq => by unfold tkS at hq; unfold tS3; omega), hn1, ?_, ?_, ?_, ?_, ?_, ?_, fun m hm => ?_, fun p hp => ?_, xW, hla, hhr, hcr, by omega⟩
        · rw [e8, gi_k (by omega)]
          exact s7
        · rw [e8, gi_k (by omega), so 6 (by omega)]
          exact x6
        · rw [e8, gi_k (by omega), so 5 (by omega)]
          exact x5
        · rw [e8, gi_s]
          unfold wv
          rw [if_neg (by omega), Nat.add_sub_cancel]
        · rw [e8, gi_k (by omega), so 4 (by omega)]
          exact x4
        · rw [e8, gi_k (by omega), so 2 (by omega)]
          exact x2
        · rw [e8, gi_c (by omega), sr1]
          exact xr m hm
        · rw [e8, gi_c (by omega), sr2]
          exact xs p hp
    -- the place, where one is wanted
    have place : ∀ (n mo : Nat) (g : Hs), n ≤ c → gi g o 7 = nI n → sfr o h g → (Kt T L i = 4 ∨ Kt T L i = 5 ∨ Kt T L i = 6 → n = i + 2 ∧ Kt T L (i + 1) = 1 ∧ mo = Vt T L (i + 1) ∧ la ≤ mo ∧ mo < 120) → (¬ (Kt T L i = 4 ∨ Kt T L i = 5 ∨ Kt T L i = 6) → n = i + 1) → (∀ P_146 : Int32 → Hs → Prop, (∀ (b5_146 : Int32) (g_146 : Hs), (p_Tokens_tokenAt (gi g_146 o 7) g_146 (fun r_151 => (r_151 = 2 → (∀ h_167 : Hs, h_167 = si g_146 o 7 ((gi g_146 o 7) + 1) → p_Tale_take o (nI (Kt T L i)) (nI mo) b5_146 h_167 (fun h_176 => Q 1 h_176))) ∧ (¬ r_151 = 2 → (Q 0 g_146)))) → P_146 b5_146 g_146) → ∀ P_106 : Prop, ((p_Tokens_valueAt (gi g o 7) g (fun r_111 => p_Tokens_tokenAt (gi g o 7) g (fun r_121 => ∀ P_134 : Prop, ((Q 0 g) → P_134) → (¬ r_121 = 1 → (P_134)) ∧ (r_121 = 1 → ((r_111 < nI pl → (∀ h_143 : Hs, h_143 = si g o 7 ((gi g o 7) + 1) → P_146 r_111 h_143)) ∧ (¬ r_111 < nI pl → (P_134))))))) → P_106) → (nI (Kt T L i) = 4 → (P_106)) ∧ (¬ nI (Kt T L i) = 4 → ((¬ nI (Kt T L i) = 7 → (P_146 0 g)) ∧ (nI (Kt T L i) = 7 → (P_106))))) := by
      intro n mo g hn g7 gf hleg hnl P146 h146 P106 h106
      have z7 : nI (Kt T L i) = 7 ↔ Kt T L i = 7 := nI_eq (b := 7) (by omega) (by omega)
      have z4 : nI (Kt T L i) = 4 ↔ Kt T L i = 4 := nI_eq (b := 4) (by omega) (by omega)
      have Kg := K.sfr ho gf
      have hvv := tkV_lt (T := T) (L := L) (a := ps T L n)
      have hKn := Kt_le (T := T) (L := L) (i := n)
      rw [z4, z7]
      have wanted : Kt T L i = 4 ∨ Kt T L i = 7 → P106 := by
        intro h47
        apply h106
        rw [g7]
        refine s_valueAt Kg hL rfl hn (s_tokenAt Kg hL rfl hn ?_)
        intro P134 h134
        have bad : ¬ (Kt T L n = 1 ∧ Vt T L n < pl) → P134 := fun nb => by
          apply h134
          refine h0 n ?_ g g7 hn gf
          unfold itF
          rcases h47 with k4 | k7
          · obtain ⟨l1, l2, l3, l4, l5⟩ := hleg (Or.inl k4)
            rw [if_pos (Or.inl k4), if_neg (by omega), if_neg (fun z => z ⟨l2, by omega, by omega⟩), if_pos k4]
            rw [l1] at nb
            rw [if_pos nb, l1]
          · have l1 := hnl (by omega)
            rw [if_neg (by omega), if_pos ⟨k7, by omega⟩]
            rw [l1] at nb
            rw [if_pos nb, l1]
        refine ⟨fun c1 => bad (fun y => c1 (by rw [y.1]; rfl)), fun c1 => ?_⟩
        have k1 : Kt T L n = 1 := (nI_eq (b := 1) (by omega) (by omega)).mp c1
        refine ⟨fun c2 => ?_, fun c2 => bad (fun y => c2 ((nI_ltI (by omega) (by omega)).mpr y.2))⟩
        have hlt : Vt T L n < pl := (nI_ltI (by have : Vt T L n < 1000 := hvv; omega) (by omega)).mp c2
        intro h143 e143
        rw [nI_1] at e143
        apply h146
        have hn1 : n + 1 ≤ c := by
          have := Kt_lt Kg hn (by omega)
          omega
        refine fin (n + 1) mo (Vt T L n) h143 hn1 (by rw [e143, gi_s]) (e143 ▸ gf.si) ?_ (fun y => ?_) (fun y => ?_) (fun y => (hleg y).2.2) (fun y => ?_) (fun y => ?_)
        · unfold itN
          rcases h47 with k4 | k7
          · rw [if_pos k4, (hleg (Or.inl k4)).1]
          · rw [if_neg (by omega), if_neg (by omega), hnl (by omega)]
        · unfold itF
          rcases h47 with k4 | k7
          · obtain ⟨l1, l2, l3, l4, l5⟩ := hleg (Or.inl k4)
            subst l1
            rw [if_pos (Or.inl k4), if_neg (by omega), if_neg (fun z => z ⟨l2, by omega, by omega⟩), if_pos k4, if_neg (fun z => z ⟨k1, hlt⟩), if_neg y]
          · have l1 := hnl (by omega)
            subst l1
            rw [if_neg (by omega), if_pos ⟨k7, by omega⟩, if_neg (fun z => z ⟨k1, hlt⟩), if_neg y]
        · unfold itF
          rcases h47 with k4 | k7
          · obtain ⟨l1, l2, l3, l4, l5⟩ := hleg (Or.inl k4)
            subst l1
            rw [if_pos (Or.inl k4), if_neg (by omega), if_neg (fun z => z ⟨l2, by omega, by omega⟩), if_pos k4, if_neg (fun z => z ⟨k1, hlt⟩), if_pos y]
          · have l1 := hnl (by omega)
            subst l1
            rw [if_neg (by omega), if_pos ⟨k7, by omega⟩, if_neg (fun z => z ⟨k1, hlt⟩), if_pos y]
        · rw [(hleg (Or.inl y)).1] at hlt ⊢
          exact ⟨rfl, hlt⟩
        · have l1 := hnl (by omega)
          rw [l1] at hlt ⊢
          exact ⟨rfl, hlt⟩
      refine ⟨fun k4 => wanted (Or.inl k4), fun n4 => ⟨fun n7 => ?_, fun k7 => wanted (Or.inr k7)⟩⟩
      rw [nI_lit0]
      apply h146
      refine fin n mo 0 g hn g7 gf ?_ (fun y => ?_) (fun y => ?_) (fun y => (hleg y).2.2) (fun y => absurd y n4) (fun y => absurd y n7)
      · unfold itN
        rw [if_neg n4]
        by_cases k8 : Kt T L i = 8
        · rw [if_pos k8, hnl (by omega)]
        · rw [if_neg k8, (hleg (by omega)).1]
      · unfold itF
        by_cases k8 : Kt T L i = 8
        · have l1 := hnl (by omega)
          subst l1
          rw [if_neg (by omega), if_neg (by omega), if_pos ⟨k8, by omega⟩, if_neg y]
        · have hl : Kt T L i = 4 ∨ Kt T L i = 5 ∨ Kt T L i = 6 := by omega
          obtain ⟨l1, l2, l3, l4, l5⟩ := hleg hl
          subst l1
          rw [if_pos hl, if_neg (by omega), if_neg (fun z => z ⟨l2, by omega, by omega⟩), if_neg n4, if_neg y]
      · unfold itF
        by_cases k8 : Kt T L i = 8
        · have l1 := hnl (by omega)
          subst l1
          rw [if_neg (by omega), if_neg (by omega), if_pos ⟨k8, by omega⟩, if_pos y]
        · have hl : Kt T L i = 4 ∨ Kt T L i = 5 ∨ Kt T L i = 6 := by omega
          obtain ⟨l1, l2, l3, l4, l5⟩ := hleg hl
          subst l1
          rw [if_pos hl, if_neg (by omega), if_neg (fun z => z ⟨l2, by omega, by omega⟩), if_neg n4, if_pos y]
    have hn1 : i + 1 ≤ c := hic
    refine s_isLeg rfl hK8 (fun hl => ?_) (fun hl => ?_)
    · intro P95 h95
      refine ⟨fun c => absurd c (by decide), fun _ => ?_⟩
      rw [s35]
      have hvv := tkV_lt (T := T) (L := L) (a := ps T L (i + 1))
      have hKn := Kt_le (T := T) (L := L) (i := i + 1)
      refine s_valueAt K35 hL rfl hn1 (s_tokenAt K35 hL rfl hn1 ?_)
      intro P83 h83
      have bad : ¬ (Kt T L (i + 1) = 1 ∧ la ≤ Vt T L (i + 1) ∧ Vt T L (i + 1) < 120) → P83 := fun nb => by
        apply h83
        refine h0 (i + 1) ?_ h35 s35 hn1 f35
        unfold itF
        rw [if_pos hl, if_neg (by omega), if_pos nb]
      have e6 : gi h35 o 6 = nI la := by rw [f35.1 o 6 (Or.inr (by omega))]; exact x6
      have hvv' : Vt T L (i + 1) < 1000 := hvv
      rw [e6]
      refine ⟨fun c1 => bad (fun y => c1 (by rw [y.1]; rfl)), fun c1 => ⟨fun c2 => bad (fun y => ?_), fun c2 => ⟨fun c3 => ?_, fun c3 => bad (fun y => c3 (nI_le y.2.1 (by omega)))⟩⟩⟩
      · have := (nI_leI (a := 120) (by omega) (by omega)).mp c2
        omega
      · have k1 : Kt T L (i + 1) = 1 := (nI_eq (b := 1) (by omega) (by omega)).mp c1
        have v1 : la ≤ Vt T L (i + 1) := (nI_leI (by omega) (by omega)).mp c3
        have v2 : Vt T L (i + 1) < 120 := by
          rcases Nat.lt_or_ge (Vt T L (i + 1)) 120 with y | y
          · exact y
          · exact absurd (nI_le (a := 120) y (by omega)) c2
        intro h92 e92
        rw [nI_1] at e92
        apply h95
        have hn2 : i + 1 + 1 ≤ c := by
          have := Kt_lt K35 hn1 (by omega)
          omega
        exact place (i + 2) (Vt T L (i + 1)) h92 hn2 (by rw [e92, gi_s]) (e92 ▸ f35.si) (fun _ => ⟨rfl, k1, rfl, v1, v2⟩) (fun y => absurd hl y)
    · intro P95 h95
      refine ⟨fun _ => ?_, fun c => absurd rfl c⟩
      apply h95
      exact place (i + 1) la h35 hn1 s35 f35 (fun y => absurd y hl) (fun _ => rfl)
  · unfold itF
    by_cases hl : Kt T L i = 4 ∨ Kt T L i = 5 ∨ Kt T L i = 6
    · rw [if_pos hl, if_pos (by omega)]
    · rw [if_neg hl, if_neg (by omega), if_neg (by omega)]
