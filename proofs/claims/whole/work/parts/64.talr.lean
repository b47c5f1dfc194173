/-! ===== the class reads a whole story ===== -/
def TALE (h : Hs) (o : Nat) (T : Nat → Nat) (L pl : Nat) : Prop :=
  (∀ j, (story T L pl).1 = some j → gi h o 2 = nI (ps T L j)) ∧
  ((story T L pl).1 = none → gi h o 2 = -1 ∧ gi h o 3 = wv (story T L pl).2.1 ∧ gi h o 4 = nI (story T L pl).2.2.1 ∧ (∀ m, m < 120 → gi h (o + 1) m = nI ((story T L pl).2.2.2 m)) ∧ (∀ p, p < 6 → gi h (o + 2) p = nI (cnt (story T L pl).2.2.2 p 120)))
theorem TALE.frm {S : Nat → Prop} {h h' : Hs} {o L pl : Nat} {T : Nat → Nat} (t : TALE h o T L pl) (f : frm S h h') (n0 : ¬ S o) (n1 : ¬ S (o + 1)) (n2 : ¬ S (o + 2)) : TALE h' o T L pl := by
  refine ⟨fun j hj => by rw [f.1 o n0]; exact t.1 j hj, fun hn => ?_⟩
  obtain ⟨t1, t2, t3, t4, t5⟩ := t.2 hn
  refine ⟨by rw [f.1 o n0]; exact t1, by rw [f.1 o n0]; exact t2, by rw [f.1 o n0]; exact t3, fun m hm => by rw [f.1 _ n1]; exact t4 m hm, fun p hp => by rw [f.1 _ n2]; exact t5 p hp⟩
theorem itN_2 {K : Nat → Nat} {i : Nat} : i + 2 ≤ itN K i := by
  unfold itN
  repeat' split
  all_goals omega
theorem s_tread {o L c pl : Nat} {T : Nat → Nat} {a2 : Int32} {h : Hs} {Q : Hs → Prop} (e2 : a2 = nI pl) (hp6 : pl ≤ 6) (ho : 59 ≤ o) (hL : L ≤ 120) (K : TKd h T L c) (hlx : lX (o + 2) = 6) (hQ : ∀ h', TALE h' o T L pl → frm (tS3 o) h h' → Q h') : p_Tale_read o a2 h Q := by
  unfold p_Tale_read
  intro h2 e2' h7 e7 h12 e12 h17 e17 h22 e22 h27 e27
  have so : tS3 o o := by unfold tS3; omega
  have f27 : frm (tS3 o) h h27 := (((((e2' ▸ frm.si so : frm (tS3 o) h h2).trans (e7 ▸ frm.si so)).trans (e12 ▸ frm.si so)).trans (e17 ▸ frm.si so)).trans (e22 ▸ frm.si so)).trans (e27 ▸ frm.si so)
  refine s_fill hlx (by omega) (fun h35 y1 _ y3 => ?_)
  have f35 : frm (tS3 o) h h35 := f27.trans (y3.mono (fun c e => by unfold tS3; omega))
  have hne : ¬ o = o + 2 := by omega
  intro P40 h40
  have hcL := K.1
  -- the end: all that is left is to stay until the last month
  have fin : ∀ (la hr : Nat) (W : Nat → Nat) (g : Hs), la ≤ 120 → hr ≤ 7 → gi g o 6 = nI la → gi g o 5 = nI hr → (∀ m, m < la → gi g (o + 1) m = nI (W m)) → (∀ p, p < 6 → gi g (o + 2) p = nI (cnt W p la)) → (∀ m, la ≤ m → W m = hr) → frm (tS3 o) h g → (∀ j, (story T L pl).1 = some j → gi g o 2 = nI (ps T L j)) → ((story T L pl).1 = none → gi g o 2 = -1 ∧ gi g o 3 = wv (story T L pl).2.1 ∧ gi g o 4 = nI (story T L pl).2.2.1 ∧ (story T L pl).2.2.2 = W) → p_Tale_stayUntil o 120 g (fun h_95 => Q h_95) := by
    intro la hr W g hla hhr g6 g5 gr gs gW gf hs1 hs2
    refine s_stayUntil (W := W) (la := la) (hr := hr) (mo := 120) rfl hla (by omega) g6 g5 hhr gr gs gW (fun h' y1 y2 y3 y4 y5 => hQ h' ⟨fun j hj => ?_, fun hn => ?_⟩ (gf.trans y5))
    · rw [y4 2 (by omega)]
      exact hs1 j hj
    · obtain ⟨t1, t2, t3, t4⟩ := hs2 hn
      rw [t4]
      exact ⟨by rw [y4 2 (by omega)]; exact t1, by rw [y4 3 (by omega)]; exact t2, by rw [y4 4 (by omega)]; exact t3, y1, y2⟩
  have key : ∀ (f i la hr wd cr k : Nat) (W : Nat → Nat) (g : Hs), L - ps T L i < f → 2 * k ≤ i → XI g o T L c i la hr wd cr W → frm (tS3 o) h g → par (Kt T L) (Vt T L) pl f i la hr wd cr W = story T L pl → P40 (nI k) g := by
    intro f
    induction f with
    | zero => intro i la hr wd cr k W g hf; omega
    | succ f ih =>
      intro i la hr wd cr k W g hf hk X gf he
      have X' := X
      obtain ⟨Kg, hi, x7, x6, x5, x3, x4, x2, xr, xs, xW, hla, hhr, hcr, hwd⟩ := X'
      have hK8 := Kt_le (T := T) (L := L) (i := i)
      apply h40
      intro P92 h92
      refine bN (nI_ge (b := 120) (by omega) (by omega)) (bNY x2 ?_)
      rw [x7]
      refine s_tokenAt Kg hL rfl hi (beq (b := 0) rfl nI_lit0 (by omega) (by omega) (fun z => h92 ?_) (fun z => ?_))
      · have he2 : story T L pl = (none, wd, cr, W) := by
          rw [← he]
          show (if Kt T L i = 0 then _ else _) = _
          rw [if_pos z]
        refine fin la hr W g (by omega) hhr x6 x5 xr xs xW gf (fun j hj => ?_) (fun _ => ?_)
        · rw [he2] at hj
          exact absurd hj (by simp)
        · rw [he2]
          exact ⟨x2, x3, x4, rfl⟩
      · have he2 : story T L pl = (match itF (Kt T L) (Vt T L) pl i la hr wd cr with
            | some j => (some j, wd, cr, W)
            | none => par (Kt T L) (Vt T L) pl f (itN (Kt T L) i) (itLa (Kt T L) (Vt T L) i la) (itHr (Kt T L) (Vt T L) i hr) (itWd (Kt T L) (Vt T L) i wd) (itCr (Kt T L) i cr) (itW (Kt T L) (Vt T L) i W)) := by
          rw [← he]
          show (if Kt T L i = 0 then _ else _) = _
          rw [if_neg z]
          rfl
        refine s_titem e2 hp6 ho hL X z (fun j hj h68 q7 hjc sf => ?_) (fun hn h68 X68 f68 => ?_)
        · intro P86 h86
          refine bNY rfl ?_
          have K68 := Kg.sfr ho sf
          rw [q7]
          refine s_startAt K68 hL rfl hjc (fun h83 e83 => h86 _ (fun a3 e3 => ?_))
          subst e3
          apply h40
          intro P92 h92
          have f83 : frm (tS3 o) h h83 := (gf.trans sf.frm).trans (e83 ▸ frm.si so)
          have hps := ps_le (T := T) (L := L) j
          have s83 : ∀ q, q ≠ 2 → q ≠ 7 → gi h83 o q = gi g o q := fun q q2 q7 => by rw [e83, gi_k q2, sf.1 o q (Or.inr q7)]
          have r83 : ∀ d q, d ≠ 0 → gi h83 (o + d) q = gi g (o + d) q := fun d q hd => by rw [e83, gi_c (by omega), sf.1 _ q (Or.inl (by omega))]
          have go : P92 := by
            apply h92
            refine fin la hr W h83 (by omega) hhr (by rw [s83 6 (by omega) (by omega)]; exact x6) (by rw [s83 5 (by omega) (by omega)]; exact x5) (fun m hm => by rw [r83 1 m (by omega)]; exact xr m hm) (fun p hp => by rw [r83 2 p (by omega)]; exact xs p hp) xW f83 (fun j2 hj2 => ?_) (fun hno => ?_)
            · rw [he2, hj] at hj2
              have : j = j2 := Option.some.inj hj2
              subst this
              rw [e83, gi_s]
            · rw [he2, hj] at hno
              exact absurd hno (by simp)
          refine ⟨fun _ => go, fun _ => ⟨fun _ => go, fun z2 => ?_⟩⟩
          rw [e83, gi_s] at z2
          have := congrArg Int32.toInt z2
          rw [nI_toInt (by omega)] at this
          have h3 : (-1 : Int32).toInt = -1 := by decide
          rw [h3] at this
          omega
        · intro P86 h86
          refine bNN one0 (h86 _ (fun a3 e3 => ?_))
          rw [nI_1] at e3
          subst e3
          refine ih _ _ _ _ _ (k + 1) _ h68 ?_ ?_ X68 (gf.trans f68) ?_
          · have := itN_lt z
            have := ps_le (T := T) (L := L) (itN (Kt T L) i)
            omega
          · have := itN_2 (K := Kt T L) (i := i)
            omega
          · rw [he2, hn]
  rw [nI_lit0]
  have q35 : ∀ j, gi h35 o j = gi h27 o j := fun j => y3.1 o hne j
  refine key (L + 1) 0 0 0 0 0 0 (fun _ => 0) h35 (by omega) (by omega) ⟨K.frm f35 (fun q hq => by unfold tkS at hq; unfold tS3; omega), Nat.zero_le _, ?_, ?_, ?_, ?_, ?_, ?_, fun m hm => by omega, fun p hp => ?_, fun _ _ => rfl, by omega, by omega, by omega, by omega⟩ f35 rfl
  · rw [q35, e27, gi_s]; rfl
  · rw [q35, e27, gi_k (by omega), e22, gi_s]; rfl
  · rw [q35, e27, gi_k (by omega), e22, gi_k (by omega), e17, gi_s]; rfl
  · rw [q35, e27, gi_k (by omega), e22, gi_k (by omega), e17, gi_k (by omega), e12, gi_k (by omega), e7, gi_s]; rfl
  · rw [q35, e27, gi_k (by omega), e22, gi_k (by omega), e17, gi_k (by omega), e12, gi_s]; rfl
  · rw [q35, e27, gi_k (by omega), e22, gi_k (by omega), e17, gi_k (by omega), e12, gi_k (by omega), e7, gi_k (by omega), e2', gi_s]
  · rw [y1 p hp]; rfl
