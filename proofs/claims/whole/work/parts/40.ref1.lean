/-! ===== the reference's numbers: what a slot holds, what is left alone ===== -/
def dl (g : Hs) (s i : Nat) : Nat := (gl g 5 (64 * s + i)).toInt.toNat
def szR (g : Hs) (s : Nat) : Nat := (gi g 6 s).toNatClampNeg
def DL (g : Hs) (s n : Nat) : Prop := ∀ i, i < n → gl g 5 (64 * s + i) = lN (dl g s i) ∧ dl g s i < BB
def RV (g : Hs) (s v : Nat) : Prop := gi g 6 s = nI (szR g s) ∧ szR g s ≤ 63 ∧ DL g s (szR g s) ∧ (szR g s = 0 ∨ dl g s (szR g s - 1) ≠ 0) ∧ nv (dl g s) (szR g s) = v
def mfr (S : Nat → Prop) (g g' : Hs) : Prop := (∀ c, c ≠ 6 → ∀ j, gi g' c j = gi g c j) ∧ (∀ j, ¬ S j → gi g' 6 j = gi g 6 j) ∧ (∀ s i, i < 64 → ¬ S s → gl g' 5 (64 * s + i) = gl g 5 (64 * s + i)) ∧ g'.2.2 = g.2.2
def eS (s : Nat) : Nat → Prop := fun j => j = s
theorem eS1 {s : Nat} : eS s s := rfl
theorem mfr.refl {S : Nat → Prop} {h : Hs} : mfr S h h := ⟨fun _ _ _ => rfl, fun _ _ => rfl, fun _ _ _ _ => rfl, rfl⟩
theorem mfr.trans {S : Nat → Prop} {h h1 h2 : Hs} (a : mfr S h h1) (b : mfr S h1 h2) : mfr S h h2 := ⟨fun c hc j => (b.1 c hc j).trans (a.1 c hc j), fun j hj => (b.2.1 j hj).trans (a.2.1 j hj), fun s i hi hs => (b.2.2.1 s i hi hs).trans (a.2.2.1 s i hi hs), b.2.2.2.trans a.2.2.2⟩
theorem mfr.mono {S T : Nat → Prop} {h h1 : Hs} (a : mfr S h h1) (st : ∀ c, S c → T c) : mfr T h h1 := ⟨a.1, fun j hj => a.2.1 j (fun x => hj (st j x)), fun s i hi hs => a.2.2.1 s i hi (fun x => hs (st s x)), a.2.2.2⟩
theorem mfr.si {S : Nat → Prop} {h : Hs} {s : Nat} {v : Int32} (hs : S s) : mfr S h (si h 6 s v) := ⟨fun c hc j => gi_c hc, fun j hj => gi_k (fun e : j = s => hj (e ▸ hs)), fun _ _ _ _ => rfl, rfl⟩
theorem mfr.sl {S : Nat → Prop} {h : Hs} {s i : Nat} {v : Int64} (hi : i < 64) (hs : S s) : mfr S h (sl h 5 (64 * s + i) v) := ⟨fun c hc j => rfl, fun j hj => rfl, fun t j hj ht => by
  rw [gl_if, if_neg]
  intro e
  have e2 : t = s := by omega
  exact ht (e2 ▸ hs), rfl⟩
theorem gl_s {h : Hs} {k : Nat} {v : Int64} : gl (sl h 5 k v) 5 k = v := by rw [gl_if, if_pos ⟨rfl, rfl⟩]
theorem gl_n {h : Hs} {j k : Nat} {v : Int64} (hn : j ≠ k) : gl (sl h 5 k v) 5 j = gl h 5 j := by rw [gl_if, if_neg (fun e : (5 : Nat) = 5 ∧ j = k => hn e.2)]
theorem lN_toNat {n : Nat} (h : n < 2 ^ 63) : (lN n).toInt.toNat = n := by rw [pk_lT h]; rfl
theorem lt63 {d : Nat} (h : d < BB) : d < 2 ^ 63 := Nat.lt_of_lt_of_le h (Nat.le_of_ble_eq_true rfl)
theorem dl_of {g : Hs} {s i d : Nat} (e : gl g 5 (64 * s + i) = lN d) (hd : d < BB) : dl g s i = d := by
  unfold dl
  rw [e, lN_toNat (lt63 hd)]
theorem dl_eq {g g' : Hs} {s t i j : Nat} (e : gl g' 5 (64 * s + i) = gl g 5 (64 * t + j)) : dl g' s i = dl g t j := by unfold dl; rw [e]
theorem szR_of {g : Hs} {s n : Nat} (e : gi g 6 s = nI n) (hn : n < 2 ^ 31) : szR g s = n := by
  unfold szR
  rw [e, nI_clamp hn]
theorem RV.of {g : Hs} {s n v : Nat} (e : gi g 6 s = nI n) (hr : n ≤ 63) (hd : DL g s n) (ht : n = 0 ∨ dl g s (n - 1) ≠ 0) (hv : nv (dl g s) n = v) : RV g s v := by
  have hs : szR g s = n := szR_of e (by omega)
  unfold RV
  rw [hs]
  exact ⟨e, hr, hd, ht, hv⟩
theorem RV.mfr {S : Nat → Prop} {g g' : Hs} {s v : Nat} (hb : RV g s v) (f : mfr S g g') (n1 : ¬ S s) : RV g' s v := by
  obtain ⟨b1, b2, b3, b4, b5⟩ := hb
  have e1 : gi g' 6 s = gi g 6 s := f.2.1 s n1
  have e2 : ∀ i, i < 64 → gl g' 5 (64 * s + i) = gl g 5 (64 * s + i) := fun i hi => f.2.2.1 s i hi n1
  refine RV.of (e1.trans b1) b2 (fun i hi => ?_) ?_ ?_
  · rw [dl_eq (e2 i (by omega)), e2 i (by omega)]
    exact b3 i hi
  · rcases b4 with x | x
    · exact Or.inl x
    · refine Or.inr ?_
      rw [dl_eq (e2 _ (by omega))]
      exact x
  · rw [← b5]
    exact nv_congr (fun i hi => dl_eq (e2 i (by omega)))
theorem RV.lt {h : Hs} {o v : Nat} (hb : RV h o v) : v < BB ^ szR h o := by
  obtain ⟨b1, b2, b3, b4, b5⟩ := hb
  rw [← b5]
  exact nv_lt (fun i hi => (b3 i hi).2)
theorem RV.size_le {h : Hs} {o v k : Nat} (hb : RV h o v) (hv : v < BB ^ k) : szR h o ≤ k := by
  obtain ⟨b1, b2, b3, b4, b5⟩ := hb
  rw [← b5] at hv
  exact nv_size b4 hv
theorem RV.zero {h : Hs} {o v : Nat} (hb : RV h o v) : szR h o = 0 ↔ v = 0 := by
  obtain ⟨b1, b2, b3, b4, b5⟩ := hb
  rw [← b5]
  exact (nv_eq0 b4).symm
theorem RV.ge {h : Hs} {o v : Nat} (hb : RV h o v) (hn : szR h o ≠ 0) : BB ^ (szR h o - 1) ≤ v := by
  rw [← hb.2.2.2.2]
  rcases hb.2.2.2.1 with z | z
  · exact absurd z hn
  · have := nv_ge (F := dl h o) (n := szR h o - 1) z
    rw [Nat.sub_add_cancel (by omega)] at this
    exact this
theorem m64 {s n : Nat} : (64 : Int32) * nI s + nI n = nI (64 * s + n) := by
  have e : (64 : Int32) * nI s = nI (64 * s) := pk_mul 64 s
  rw [e, nI_add]
theorem lR_div {a : Nat} (h : a < 2 ^ 63) : lN a / 1073741824 = lN (a / BB) := pk_lDiv (b := BB) h (by decide) (by decide)
theorem lR_rem {a : Nat} (h : a < 2 ^ 63) : lN a - lN a / 1073741824 * 1073741824 = lN (a % BB) := pk_lRem (b := BB) h (by decide) (by decide)
theorem cmpz_le {n : Nat} (h : n < 2 ^ 63) : lg_cmp (lN n) 0 ≤ 0 ↔ n = 0 := by
  rw [cmp_le0, lN_lit0, pk_lLE h (by omega)]
  omega
theorem cmpz_eq {n : Nat} (h : n < 2 ^ 63) : lg_cmp (lN n) 0 = 0 ↔ n = 0 := by
  rw [cmp_eq0, lN_lit0, pk_lEQ h (by omega)]
/-- a written digit -/
theorem dl_w {g g' : Hs} {s k d : Nat} (e : g' = sl g 5 (64 * s + k) (lN d)) (hd : d < BB) : dl g' s k = d ∧ (∀ i, i ≠ k → gl g' 5 (64 * s + i) = gl g 5 (64 * s + i)) ∧ (∀ i, i ≠ k → dl g' s i = dl g s i) := by
  have h1 : ∀ i, i ≠ k → gl g' 5 (64 * s + i) = gl g 5 (64 * s + i) := fun i hi => by rw [e, gl_n (by omega)]
  exact ⟨dl_of (by rw [e, gl_s]) hd, h1, fun i hi => dl_eq (h1 i hi)⟩
theorem DL.w {g g' : Hs} {s k d n : Nat} (e : g' = sl g 5 (64 * s + k) (lN d)) (hd : d < BB) (h : DL g s n) : DL g' s n := fun i hi => by
  have hw := dl_w e hd
  by_cases ei : i = k
  · subst ei
    rw [hw.1]
    exact ⟨by rw [e, gl_s], hd⟩
  · rw [hw.2.1 i ei, hw.2.2 i ei]
    exact h i hi
theorem DL.w1 {g g' : Hs} {s d n : Nat} (e : g' = sl g 5 (64 * s + n) (lN d)) (hd : d < BB) (h : DL g s n) : DL g' s (n + 1) := fun i hi => by
  have hw := dl_w e hd
  by_cases ei : i = n
  · subst ei
    rw [hw.1]
    exact ⟨by rw [e, gl_s], hd⟩
  · rw [hw.2.1 i ei, hw.2.2 i ei]
    exact h i (by omega)
theorem DL.si {g : Hs} {s n t : Nat} {v : Int32} (h : DL g s n) : DL (si g 6 t v) s n := h
theorem r_set {s x : Nat} {a1 : Int32} {a2 : Int64} {h : Hs} {Q : Hs → Prop} (e1 : a1 = nI s) (e2 : a2 = lN x) (hs : s < 12) (hx : x < 2 ^ 63) (hQ : ∀ h', RV h' s x → mfr (eS s) h h' → Q h') : p_M_set a1 a2 h Q := by
  subst e1 e2
  unfold p_M_set
  rw [nI_clamp (by omega)]
  refine ⟨vp_in_nI hs (by omega), ?_⟩
  intro h9 e9 P hP
  have key : ∀ (k n r : Nat) (g : Hs), r ≤ k → gi g 6 s = nI n → DL g s n → n ≤ 5 → nv (dl g s) n + r * BB ^ n = x → (r = 0 → n = 0 ∨ dl g s (n - 1) ≠ 0) → mfr (eS s) h g → P (lN r) g := by
    intro k
    induction k with
    | zero =>
      intro n r g hr e1 h3 h1 h4 h5 h6
      have hr0 : r = 0 := by omega
      subst hr0
      apply hP
      rw [Nat.zero_mul] at h4
      exact ⟨fun _ => hQ g (RV.of e1 (by omega) h3 (h5 rfl) h4) h6, fun c => absurd ((cmpz_le (by omega)).mpr rfl) c⟩
    | succ k ih =>
      intro n r g hr e1 h3 h1 h4 h5 h6
      have hrx : r ≤ x := by
        have := Nat.le_mul_of_pos_right r (BB_pos n)
        omega
      by_cases hr0 : r = 0
      · exact ih n r g (by omega) e1 h3 h1 h4 h5 h6
      · apply hP
        have hn5 : n < 5 := BB5 (x := x) (by have := Nat.le_mul_of_pos_left (BB ^ n) (show 0 < r by omega); omega) hx
        rw [e1, m64, nI_clamp (by omega)]
        refine ⟨fun c => absurd ((cmpz_le (by omega)).mp c) hr0, fun _ => ⟨vp_in_nI hs (by omega), vp_in_nI (by omega) (by omega), ?_⟩⟩
        intro h38 e38 r' er'
        refine ⟨vp_in_nI hs (by omega), vp_in_nI hs (by omega), ?_⟩
        intro h56 e56
        have hm : r % BB < BB := Nat.mod_lt _ (by decide)
        rw [lR_rem (by omega)] at e38
        rw [lR_div (by omega)] at er'
        subst er'
        have es : gi h38 6 s = nI n := by rw [e38]; exact e1
        have hw := dl_w e38 hm
        have hdiv : r / BB < r := Nat.div_lt_self (by omega) (by decide)
        have hdl : ∀ i, dl h56 s i = dl h38 s i := fun i => by rw [e56]; rfl
        refine ih (n + 1) (r / BB) h56 (by omega) (by rw [e56, gi_s, es, nI_1]) (by rw [e56]; exact (DL.w1 e38 hm h3).si) (by omega) ?_ (fun hz => Or.inr ?_) ((h6.trans (e38 ▸ mfr.sl (by omega) eS1)).trans (e56 ▸ mfr.si eS1))
        · rw [nv_succ, hdl, hw.1, nv_congr (fun i hi => (hdl i).trans (hw.2.2 i (by omega))), BB_succ, ← h4]
          have hdm := Nat.div_add_mod r BB
          generalize r / BB = a at *
          generalize r % BB = b at *
          generalize BB ^ n = z at *
          subst hdm
          grind
        · rw [Nat.add_sub_cancel, hdl, hw.1]
          intro hz2
          have hdm := Nat.div_add_mod r BB
          rw [hz, hz2] at hdm
          omega
  refine key x 0 x h9 (Nat.le_refl _) (by rw [e9, gi_s, nI_0]) (fun i hi => absurd hi (by omega)) (by omega) ?_ (fun _ => Or.inl rfl) (e9 ▸ mfr.si eS1)
  show 0 + x * 1 = x
  omega
theorem r_copy {s a v : Nat} {a1 a2 : Int32} {h : Hs} {Q : Hs → Prop} (e1 : a1 = nI s) (e2 : a2 = nI a) (hs : s < 12) (ha : a < 12) (hne : s ≠ a) (hb : RV h a v) (hQ : ∀ h', RV h' s v → mfr (eS s) h h' → Q h') : p_M_copy a1 a2 h Q := by
  subst e1 e2
  have hsz := hb.2.1
  unfold p_M_copy
  rw [nI_clamp (show a < 2 ^ 31 by omega), nI_clamp (show s < 2 ^ 31 by omega)]
  intro P hP
  have nota : ¬ eS s a := fun x => hne x.symm
  have key : ∀ (k n : Nat) (g : Hs), szR h a - n = k → n ≤ szR h a → (∀ i, i < n → gl g 5 (64 * s + i) = gl h 5 (64 * a + i)) → mfr (eS s) h g → P (nI n) g := by
    intro k
    induction k with
    | zero =>
      intro n g hk hn h3 h6
      have : n = szR h a := by omega
      subst this
      apply hP
      rw [h6.2.1 a nota, hb.1]
      refine ⟨vp_in_nI ha (by omega), fun _ => ⟨vp_in_nI ha (by omega), vp_in_nI hs (by omega), ?_⟩, fun c => absurd (nI_le (Nat.le_refl _) (by omega)) c⟩
      intro h51 e51
      have hg : ∀ i, i < szR h a → gl h51 5 (64 * s + i) = gl h 5 (64 * a + i) := fun i hi => by rw [e51]; exact h3 i hi
      obtain ⟨b1, b2, b3, b4, b5⟩ := hb
      refine hQ h51 (RV.of (n := szR h a) (by rw [e51, gi_s]) hsz (fun i hi => ?_) ?_ ?_) (h6.trans (e51 ▸ mfr.si eS1))
      · rw [hg i hi, dl_eq (hg i hi)]
        exact b3 i hi
      · by_cases hz : szR h a = 0
        · exact Or.inl hz
        · refine Or.inr ?_
          rw [dl_eq (hg _ (by omega))]
          rcases b4 with x | x
          · exact absurd x hz
          · exact x
      · rw [← b5]
        exact nv_congr (fun i hi => dl_eq (hg i hi))
    | succ k ih =>
      intro n g hk hn h3 h6
      apply hP
      rw [h6.2.1 a nota, hb.1, m64, m64, nI_clamp (show 64 * s + n < 2 ^ 31 by omega), nI_clamp (show 64 * a + n < 2 ^ 31 by omega)]
      refine ⟨vp_in_nI ha (by omega), fun c => absurd ((nI_leI (by omega) (by omega)).mp c) (by omega), fun _ => ⟨vp_in_nI (by omega) (by omega), vp_in_nI (by omega) (by omega), ?_⟩⟩
      intro h33 e33 n' en'
      rw [nI_1] at en'
      subst en'
      rw [h6.2.2.1 a n (by omega) nota] at e33
      refine ih (n + 1) h33 (by omega) (by omega) (fun i hi => ?_) (h6.trans (e33 ▸ mfr.sl (by omega) eS1))
      by_cases ei : i = n
      · subst ei
        rw [e33, gl_s]
      · rw [e33, gl_n (by omega)]
        exact h3 i (by omega)
  exact key _ 0 h rfl (Nat.zero_le _) (fun i hi => absurd hi (by omega)) mfr.refl
theorem m64p {s m : Nat} : (64 : Int32) * nI s + nI (m + 1) - 1 = nI (64 * s + m) := by
  rw [m64, show 64 * s + (m + 1) = (64 * s + m) + 1 from rfl, nI_pred]
theorem r_trim {s n : Nat} {a1 : Int32} {h : Hs} {Q : Hs → Prop} (e1 : a1 = nI s) (hs : s < 12) (hn : gi h 6 s = nI n) (hr : n ≤ 63 ∨ (n ≤ 64 ∧ dl h s 63 = 0)) (hd : DL h s n) (hQ : ∀ h', RV h' s (nv (dl h s) n) → mfr (eS s) h h' → Q h') : p_M_trim a1 h Q := by
  subst e1
  unfold p_M_trim
  rw [nI_clamp (show s < 2 ^ 31 by omega)]
  intro P hP
  have key : ∀ (m : Nat) (g : Hs), gi g 6 s = nI m → m ≤ n → (∀ j, gl g 5 j = gl h 5 j) → mfr (eS s) h g → nv (dl h s) m = nv (dl h s) n → P g := by
    intro m
    induction m with
    | zero =>
      intro g e1 h1 h2 h3 h4
      apply hP
      rw [e1]
      refine ⟨vp_in_nI hs (by omega), ?_⟩
      intro P45 h45
      refine ⟨fun _ => h45 (hQ g (RV.of e1 (by omega) (fun i hi => absurd hi (by omega)) (Or.inl rfl) ?_) h3), fun c => absurd (by rw [nI_0]; exact Int32.le_refl 0) c⟩
      exact (nv_congr (fun i hi => absurd hi (by omega))).trans h4
    | succ m ih =>
      intro g e1 h1 h2 h3 h4
      apply hP
      rw [e1, m64p, nI_pred, nI_clamp (by omega), h2]
      have hdm := hd m (by omega)
      refine ⟨vp_in_nI hs (by omega), ?_⟩
      intro P45 h45
      refine ⟨fun c => absurd c (nI_nle (by omega) (by omega)), fun _ => ⟨vp_in_nI hs (by omega), vp_in_nI (by omega) (by omega), fun c => ?_, fun c => ⟨vp_in_nI hs (by omega), vp_in_nI hs (by omega), ?_⟩⟩⟩
      · rw [hdm.1, cmpz_eq (lt63 hdm.2)] at c
        refine h45 (hQ g (RV.of e1 ?_ (fun i hi => ?_) (Or.inr ?_) ?_) h3)
        · rcases hr with hr | hr
          · omega
          · rcases Nat.lt_or_ge m 63 with x | x
            · omega
            · have : m = 63 := by omega
              subst this
              exact absurd hr.2 c
        · rw [h2, dl_eq (h2 _)]
          exact hd i (by omega)
        · rw [Nat.add_sub_cancel, dl_eq (h2 _)]
          exact c
        · rw [← h4]
          exact nv_congr (fun i _ => dl_eq (h2 _))
      · intro h41 e41
        rw [hdm.1, cmpz_eq (lt63 hdm.2)] at c
        refine ih h41 (by rw [e41, gi_s]) (by omega) (fun j => by rw [e41]; exact h2 j) (h3.trans (e41 ▸ mfr.si eS1)) ?_
        rw [← h4, nv_succ0 c]
  exact key n h hn (Nat.le_refl _) (fun _ => rfl) mfr.refl rfl
theorem r_times {s v f : Nat} {a1 : Int32} {a2 : Int64} {h : Hs} {Q : Hs → Prop} (e1 : a1 = nI s) (e2 : a2 = lN f) (hs : s < 12) (hb : RV h s v) (hf : f < BB) (hfit : v < BB ^ 62) (hQ : ∀ h', RV h' s (v * f) → mfr (eS s) h h' → Q h') : p_M_times a1 a2 h Q := by
  subst e1 e2
  have hsz := hb.size_le hfit
  unfold p_M_times
  rw [nI_clamp (show s < 2 ^ 31 by omega)]
  intro P hP
  have hBB : BB = 1073741824 := rfl
  have key : ∀ (k i c : Nat) (g : Hs), szR h s - i = k → i ≤ szR h s → c < BB → gi g 6 s = nI (szR h s) → DL g s (szR h s) → (∀ j, i ≤ j → j < szR h s → dl g s j = dl h s j) → nv (dl g s) i + c * BB ^ i = nv (dl h s) i * f → mfr (eS s) h g → P (lN c) (nI i) g := by
    intro k
    induction k with
    | zero =>
      intro i c g hkk hi hc e1 h2 h3 h4 h5
      have hin : i = szR h s := by omega
      subst hin
      rw [hb.2.2.2.2] at h4
      apply hP
      rw [e1, m64, nI_clamp (by omega)]
      refine ⟨vp_in_nI hs (by omega), fun _ => ?_, fun c2 => absurd (nI_le (Nat.le_refl _) (by omega)) c2⟩
      intro P103 h103
      refine ⟨fun c2 => h103 _ ?_, fun c2 => ⟨vp_in_nI hs (by omega), vp_in_nI (by omega) (by omega), ?_⟩⟩
      · have hc0 : c = 0 := (cmpz_le (by omega)).mp c2
        subst hc0
        rw [Nat.zero_mul, Nat.add_zero] at h4
        exact r_trim rfl hs e1 (Or.inl (by omega)) h2 (fun h' hR hF => hQ h' (by rw [← h4]; exact hR) (h5.trans hF))
      · intro h92 e92
        refine ⟨vp_in_nI hs (by omega), vp_in_nI hs (by omega), ?_⟩
        intro h102 e102
        apply h103
        have es : gi h92 6 s = nI (szR h s) := by rw [e92]; exact e1
        have hw := dl_w e92 hc
        refine r_trim (n := szR h s + 1) rfl hs (by rw [e102, gi_s, es, nI_1]) (Or.inl (by omega)) (by rw [e102]; exact (DL.w1 e92 hc h2).si) (fun h' hR hF => hQ h' ?_ (((h5.trans (e92 ▸ mfr.sl (by omega) eS1)).trans (e102 ▸ mfr.si eS1)).trans hF))
        have e9 : nv (dl h102 s) (szR h s + 1) = v * f := by
          rw [← h4, nv_succ]
          have hdl : ∀ i, dl h102 s i = dl h92 s i := fun i => by rw [e102]; rfl
          rw [hdl, hw.1, nv_congr (fun i hi => (hdl i).trans (hw.2.2 i (by omega)))]
        rw [← e9]
        exact hR
    | succ k ih =>
      intro i c g hkk hi hc e1 h2 h3 h4 h5
      apply hP
      rw [e1, m64, m64, nI_clamp (show 64 * s + i < 2 ^ 31 by omega)]
      refine ⟨vp_in_nI hs (by omega), fun c2 => absurd ((nI_leI (by omega) (by omega)).mp c2) (by omega), fun _ => ⟨vp_in_nI (by omega) (by omega), ?_⟩⟩
      intro x ex
      refine ⟨vp_in_nI (by omega) (by omega), ?_⟩
      intro h53 e53 c' ec' i' ei'
      have hd := h2 i (by omega)
      rw [hd.1, lN_mul, lN_add] at ex
      have hmul : dl g s i * f ≤ (BB - 1) * (BB - 1) := Nat.mul_le_mul (by have := hd.2; omega) (by omega)
      have hm2 : (BB - 1) * (BB - 1) = 1152921502459363329 := by decide +kernel
      have hsum : dl g s i * f + c < 2 ^ 63 := by omega
      subst ex
      rw [lR_rem hsum] at e53
      rw [lR_div hsum] at ec'
      subst ec'
      rw [nI_1] at ei'
      subst ei'
      have hmod : (dl g s i * f + c) % BB < BB := Nat.mod_lt _ (by decide)
      have hdiv : (dl g s i * f + c) / BB < BB := Nat.div_lt_of_lt_mul (by rw [BB2]; omega)
      have hw := dl_w e53 hmod
      refine ih (i + 1) _ h53 (by omega) (by omega) hdiv (by rw [e53]; exact e1) (DL.w e53 hmod h2) (fun j h6 h7 => ?_) ?_ (h5.trans (e53 ▸ mfr.sl (by omega) eS1))
      · rw [hw.2.2 j (by omega)]
        exact h3 j (by omega) h7
      · rw [nv_succ, nv_succ, hw.1, nv_congr (fun j hj => hw.2.2 j (by omega)), ← h3 i (Nat.le_refl _) (by omega), BB_succ]
        have hdm := Nat.div_add_mod (dl g s i * f + c) BB
        generalize (dl g s i * f + c) / BB = A at *
        generalize (dl g s i * f + c) % BB = B at *
        generalize BB ^ i = z at *
        generalize nv (dl g s) i = s1 at *
        generalize nv (dl h s) i = s2 at *
        generalize dl g s i = d at *
        grind
  rw [lN_lit0, nI_lit0]
  exact key _ 0 0 h rfl (Nat.zero_le _) (by decide) hb.1 hb.2.2.1 (fun _ _ _ => rfl) (by show 0 + 0 * 1 = 0 * f; omega) mfr.refl
