/-! ===== the class's numbers (Big): what a cell pair holds, what is left alone ===== -/
theorem lt31 {d : Nat} (h : d < BB) : d < 2 ^ 31 := Nat.lt_of_lt_of_le h (Nat.le_of_ble_eq_true rfl)
theorem nv_succ (F : Nat → Nat) (n : Nat) : nv F (n + 1) = nv F n + F n * BB ^ n := rfl
theorem nv_succ0 {F : Nat → Nat} {n : Nat} (h : F n = 0) : nv F (n + 1) = nv F n := by rw [nv_succ, h, Nat.zero_mul]; rfl
def dg (h : Hs) (c i : Nat) : Nat := (gi h c i).toNatClampNeg
def szB (h : Hs) (o : Nat) : Nat := (gi h o 1).toNatClampNeg
def DR (h : Hs) (c n : Nat) : Prop := ∀ i, i < n → gi h c i = nI (dg h c i) ∧ dg h c i < BB
def BV (h : Hs) (o v : Nat) : Prop := gi h o 1 = nI (szB h o) ∧ szB h o ≤ lX (o + 1) ∧ DR h (o + 1) (szB h o) ∧ (szB h o = 0 ∨ dg h (o + 1) (szB h o - 1) ≠ 0) ∧ nv (dg h (o + 1)) (szB h o) = v
def frm (S : Nat → Prop) (h h' : Hs) : Prop := (∀ c, ¬ S c → ∀ j, gi h' c j = gi h c j) ∧ h'.2 = h.2
def bS (o : Nat) : Nat → Prop := fun c => c = o ∨ c = o + 1
theorem frm.refl {S : Nat → Prop} {h : Hs} : frm S h h := ⟨fun _ _ _ => rfl, rfl⟩
theorem frm.trans {S : Nat → Prop} {h h1 h2 : Hs} (a : frm S h h1) (b : frm S h1 h2) : frm S h h2 := ⟨fun c hc j => (b.1 c hc j).trans (a.1 c hc j), b.2.trans a.2⟩
theorem frm.mono {S T : Nat → Prop} {h h1 : Hs} (a : frm S h h1) (st : ∀ c, S c → T c) : frm T h h1 := ⟨fun c hc j => a.1 c (fun x => hc (st c x)) j, a.2⟩
theorem frm.si {S : Nat → Prop} {h : Hs} {o k : Nat} {v : Int32} (ho : S o) : frm S h (si h o k v) := ⟨fun c hc j => gi_c (fun e => hc (e ▸ ho)), rfl⟩
theorem frm.sa {S : Nat → Prop} {h : Hs} {o : Nat} {r : Nat → Int32} (ho : S o) : frm S h (sa h o r) := ⟨fun c hc j => by rw [gi_sa, if_neg (fun e : c = o => hc (e ▸ ho))], rfl⟩
theorem frm.gl {S : Nat → Prop} {h h' : Hs} (a : frm S h h') (c j : Nat) : gl h' c j = gl h c j := by unfold _root_.Jvm.Pilot.@@N@@.gl; rw [a.2]
theorem frm.gr {S : Nat → Prop} {h h' : Hs} (a : frm S h h') (c j : Nat) : gr h' c j = gr h c j := by unfold _root_.Jvm.Pilot.@@N@@.gr; rw [a.2]
theorem bS1 {o : Nat} : bS o o := Or.inl rfl
theorem bS2 {o : Nat} : bS o (o + 1) := Or.inr rfl
theorem roomX : ∀ o, o < 504 → kX o = 1 → 5 ≤ lX (o + 1) ∧ lX (o + 1) ≤ 32 := by decide +kernel
theorem room_le {o : Nat} (hk : kX o = 1) : 5 ≤ lX (o + 1) ∧ lX (o + 1) ≤ 32 := roomX o (kX_lt hk) hk
theorem dg_of {h : Hs} {c i d : Nat} (e : gi h c i = nI d) (hd : d < 2 ^ 31) : dg h c i = d := by
  unfold dg
  rw [e, nI_clamp hd]
theorem dg_eq {h h' : Hs} {c i : Nat} (e : gi h' c i = gi h c i) : dg h' c i = dg h c i := by unfold dg; rw [e]
theorem szB_of {h : Hs} {o n : Nat} (e : gi h o 1 = nI n) (hd : n < 2 ^ 31) : szB h o = n := by
  unfold szB
  rw [e, nI_clamp hd]
theorem BV.of {h : Hs} {o n v : Nat} (hk : kX o = 1) (e : gi h o 1 = nI n) (hr : n ≤ lX (o + 1)) (hd : DR h (o + 1) n) (ht : n = 0 ∨ dg h (o + 1) (n - 1) ≠ 0) (hv : nv (dg h (o + 1)) n = v) : BV h o v := by
  have hs : szB h o = n := szB_of e (by have := (room_le hk).2; omega)
  unfold BV
  rw [hs]
  exact ⟨e, hr, hd, ht, hv⟩
theorem BV.keep {h h' : Hs} {o v : Nat} (hb : BV h o v) (e1 : gi h' o 1 = gi h o 1) (e2 : ∀ j, gi h' (o + 1) j = gi h (o + 1) j) : BV h' o v := by
  have hs : szB h' o = szB h o := by unfold szB; rw [e1]
  have hd : ∀ j, dg h' (o + 1) j = dg h (o + 1) j := fun j => dg_eq (e2 j)
  obtain ⟨b1, b2, b3, b4, b5⟩ := hb
  unfold BV
  rw [hs]
  refine ⟨by rw [e1]; exact b1, b2, fun i hi => ?_, by rw [hd]; exact b4, ?_⟩
  · rw [e2, hd]
    exact b3 i hi
  · rw [← b5]
    exact nv_congr (fun i _ => hd i)
theorem BV.frm {S : Nat → Prop} {h h' : Hs} {o v : Nat} (hb : BV h o v) (f : frm S h h') (n1 : ¬ S o) (n2 : ¬ S (o + 1)) : BV h' o v := hb.keep (f.1 o n1 1) (f.1 (o + 1) n2)
theorem BV.lt {h : Hs} {o v : Nat} (hb : BV h o v) : v < BB ^ szB h o := by
  obtain ⟨b1, b2, b3, b4, b5⟩ := hb
  rw [← b5]
  exact nv_lt (fun i hi => (b3 i hi).2)
theorem BV.size_le {h : Hs} {o v k : Nat} (hb : BV h o v) (hv : v < BB ^ k) : szB h o ≤ k := by
  obtain ⟨b1, b2, b3, b4, b5⟩ := hb
  rw [← b5] at hv
  exact nv_size b4 hv
theorem BV.zero {h : Hs} {o v : Nat} (hb : BV h o v) : szB h o = 0 ↔ v = 0 := by
  obtain ⟨b1, b2, b3, b4, b5⟩ := hb
  rw [← b5]
  exact (nv_eq0 b4).symm
theorem BV.det {h : Hs} {o v w : Nat} (hb : BV h o v) (hc : BV h o w) : v = w := hb.2.2.2.2.symm.trans hc.2.2.2.2
/-! growTo, trim -/
theorem s_growTo {o m n : Nat} {h : Hs} {Q : Hs → Prop} (hk : kX o = 1) (hn : gi h o 1 = nI n) (hr : n ≤ lX (o + 1)) (hm : m < 2 ^ 31) (hQ : ∀ (h' : Hs) (n' : Nat), gi h' o 1 = nI n' → n ≤ n' → n' ≤ lX (o + 1) → (m ≤ n' ∨ n' = lX (o + 1)) → (n' = n ∨ n' ≤ m) → (∀ i, i < n → gi h' (o + 1) i = gi h (o + 1) i) → (∀ i, n ≤ i → i < n' → gi h' (o + 1) i = nI 0) → frm (bS o) h h' → Q h') : p_Big_growTo o (nI m) h Q := by
  have hR := room_le hk
  unfold p_Big_growTo
  intro P hP
  have key : ∀ (k n' : Nat) (g : Hs), lX (o + 1) - n' = k → gi g o 1 = nI n' → n ≤ n' → n' ≤ lX (o + 1) → (n' = n ∨ n' ≤ m) → (∀ i, i < n → gi g (o + 1) i = gi h (o + 1) i) → (∀ i, n ≤ i → i < n' → gi g (o + 1) i = nI 0) → frm (bS o) h g → P g := by
    intro k
    induction k with
    | zero =>
      intro n' g hkk e1 h1 h2 h3 h4 h5 h6
      apply hP
      intro P43 h43
      rw [e1]
      refine ⟨fun _ => h43 (hQ g n' e1 h1 h2 (by omega) h3 h4 h5 h6), fun _ => ⟨fun _ => h43 (hQ g n' e1 h1 h2 (by omega) h3 h4 h5 h6), fun c => ?_⟩⟩
      exact absurd (nI_le (show lX (o + 1) ≤ n' by omega) (by omega)) c
    | succ k ih =>
      intro n' g hkk e1 h1 h2 h3 h4 h5 h6
      apply hP
      intro P43 h43
      rw [e1]
      refine ⟨fun c => h43 (hQ g n' e1 h1 h2 (Or.inl ((nI_leI hm (by omega)).mp c)) h3 h4 h5 h6), fun c => ⟨fun _ => ?_, fun _ => ⟨vp_in_nI (by omega) (by omega), ?_⟩⟩⟩
      · rename_i c2
        have := (nI_leI (by omega) (by omega)).mp c2
        omega
      · intro h29 e29 h37 e37
        have hlt : n' < m := by
          rcases Nat.lt_or_ge n' m with x | x
          · exact x
          · exact absurd (nI_le x (by omega)) c
        have es : gi h29 o 1 = nI n' := by rw [e29, gi_c (by omega)]; exact e1
        refine ih (n' + 1) h37 (by omega) ?_ (by omega) (by omega) (by omega) (fun i hi => ?_) (fun i h7 h8 => ?_) ((h6.trans (e29 ▸ frm.si bS2)).trans (e37 ▸ frm.si bS1))
        · rw [e37, gi_s, es, nI_1]
        · rw [e37, gi_c (by omega), e29, gi_k (by rw [nI_clamp (by omega)]; omega)]
          exact h4 i hi
        · rw [e37, gi_c (by omega), e29]
          by_cases e : i = n'
          · subst e
            rw [nI_clamp (by omega), gi_s]
            rfl
          · rw [gi_k (by rw [nI_clamp (by omega)]; omega)]
            exact h5 i h7 (by omega)
  exact key _ n h rfl hn (Nat.le_refl _) hr (Or.inl rfl) (fun _ _ => rfl) (fun i h1 h2 => absurd h1 (by omega)) frm.refl
theorem s_trim {o n : Nat} {h : Hs} {Q : Hs → Prop} (hk : kX o = 1) (hn : gi h o 1 = nI n) (hr : n ≤ lX (o + 1)) (hd : DR h (o + 1) n) (hQ : ∀ h', BV h' o (nv (dg h (o + 1)) n) → frm (bS o) h h' → Q h') : p_Big_trim o h Q := by
  have hR := room_le hk
  unfold p_Big_trim
  intro P hP
  have key : ∀ (m : Nat) (g : Hs), gi g o 1 = nI m → m ≤ n → (∀ j, gi g (o + 1) j = gi h (o + 1) j) → frm (bS o) h g → nv (dg h (o + 1)) m = nv (dg h (o + 1)) n → P g := by
    intro m
    induction m with
    | zero =>
      intro g e1 h1 h2 h3 h4
      apply hP
      intro P34 h34
      rw [e1]
      refine ⟨fun _ => h34 (hQ g (BV.of hk e1 (by omega) (fun i hi => absurd hi (by omega)) (Or.inl rfl) ?_) h3), fun c => absurd (by rw [nI_0]; exact Int32.le_refl 0) c⟩
      exact (nv_congr (fun i hi => absurd hi (by omega))).trans h4
    | succ m ih =>
      intro g e1 h1 h2 h3 h4
      apply hP
      intro P34 h34
      rw [e1, nI_pred, nI_clamp (by omega), h2]
      have hdm := hd m (by omega)
      refine ⟨fun c => absurd c (nI_nle (by omega) (by omega)), fun _ => ⟨vp_in_nI (by omega) (by omega), fun c => ?_, fun c h28 e28 => ?_⟩⟩
      · refine h34 (hQ g (BV.of hk e1 (by omega) (fun i hi => ?_) (Or.inr ?_) ?_) h3)
        · rw [h2, dg_eq (h2 i)]
          exact hd i (by omega)
        · rw [Nat.add_sub_cancel, dg_eq (h2 m)]
          intro e
          rw [hdm.1, e] at c
          exact c nI_0
        · rw [← h4]
          exact nv_congr (fun i _ => dg_eq (h2 i))
      · have hz : dg h (o + 1) m = 0 := by
          rw [hdm.1] at c
          exact (nI_eq (lt31 hdm.2) (by omega)).mp (c.trans nI_0.symm)
        refine ih h28 (by rw [e28, gi_s]) (by omega) (fun j => by rw [e28, gi_c (by omega)]; exact h2 j) (h3.trans (e28 ▸ frm.si bS1)) ?_
        rw [← h4, nv_succ0 hz]
  exact key n h hn (Nat.le_refl _) (fun _ => rfl) frm.refl rfl
