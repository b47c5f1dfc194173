/-! ===== items, as such ===== -/
def itF (K V : Nat → Nat) (pl i la hr wd cr : Nat) : Option Nat :=
  if K i = 4 ∨ K i = 5 ∨ K i = 6 then
    (if 6 ≤ hr then some i else if ¬ (K (i + 1) = 1 ∧ la ≤ V (i + 1) ∧ V (i + 1) < 120) then some (i + 1) else if K i = 4 then (if ¬ (K (i + 2) = 1 ∧ V (i + 2) < pl) then some (i + 2) else if K (i + 3) = 2 then none else some (i + 3)) else if K (i + 2) = 2 then none else some (i + 2))
  else if K i = 7 ∧ wd = 0 then (if ¬ (K (i + 1) = 1 ∧ V (i + 1) < pl) then some (i + 1) else if K (i + 2) = 2 then none else some (i + 2))
  else if K i = 8 ∧ cr = 0 then (if K (i + 1) = 2 then none else some (i + 1))
  else some i
def lay (W : Nat → Nat) (m x : Nat) : Nat → Nat := fun j => if m ≤ j then x else W j
theorem mK3 {T : Nat → Nat} {L a : Nat} : mK T L a = 3 ↔ tkK T L a = 2 := by
  unfold mK tkK
  by_cases h1 : L ≤ a
  · rw [if_pos h1, if_pos h1]
    omega
  · rw [if_neg h1, if_neg h1]
    by_cases h2 : smB (T a) = true
    · rw [if_pos h2, if_pos h2]
      have : 3 ≤ wk T a (tkE T L a - a) := by
        unfold wk
        repeat' split
        all_goals omega
      omega
    · rw [if_neg h2, if_neg h2]
      repeat' split
      all_goals omega
theorem mK2 {T : Nat → Nat} {L a : Nat} : mK T L a = 2 ↔ tkK T L a = 1 := by
  unfold mK tkK
  by_cases h1 : L ≤ a
  · rw [if_pos h1, if_pos h1]
    omega
  · rw [if_neg h1, if_neg h1]
    by_cases h2 : smB (T a) = true
    · rw [if_pos h2, if_pos h2]
      have : 3 ≤ wk T a (tkE T L a - a) := by
        unfold wk
        repeat' split
        all_goals omega
      omega
    · rw [if_neg h2, if_neg h2]
      repeat' split
      all_goals omega
theorem mK0 {T : Nat → Nat} {L a : Nat} : mK T L a = 0 ↔ tkK T L a = 0 := by
  unfold mK tkK
  by_cases h1 : L ≤ a
  · rw [if_pos h1, if_pos h1]
  · rw [if_neg h1, if_neg h1]
    by_cases h2 : smB (T a) = true
    · rw [if_pos h2, if_pos h2]
      have : 3 ≤ wk T a (tkE T L a - a) := by
        unfold wk
        repeat' split
        all_goals omega
      omega
    · rw [if_neg h2, if_neg h2]
      repeat' split
      all_goals omega
theorem mK_le {T : Nat → Nat} {L a : Nat} : mK T L a ≤ 4 := by
  unfold mK
  repeat' split
  all_goals omega
theorem tkV_lt {T : Nat → Nat} {L a : Nat} : tkV T L a < 1000 := by
  unfold tkV
  split
  · omega
  · split
    · omega
    · split
      · rename_i h1 h2 h3
        have hE : tkE T L a = ru fgB T L (a + 1) := by
          unfold tkE
          rw [if_neg h1, if_neg h2, if_pos h3]
        have hfig : ∀ j, j < tkE T L a - a → 48 ≤ T (a + j) ∧ T (a + j) ≤ 57 := fun j hj => by
          by_cases e : j = 0
          · subst e
            exact fgB_iff.mp h3
          · exact fgB_iff.mp (ru_all (p := fgB) (T := T) (L := L) (i := a + 1) (by omega) (by rw [← hE]; omega))
        have h10 : ∀ n, n ≤ 3 → n ≤ tkE T L a - a → dgv T a n < 1000 := fun n h4 h5 => by
          have h6 := dgv_lt n (fun j hj => hfig j (by omega))
          have h7 : 10 ^ n ≤ 10 ^ 3 := Nat.pow_le_pow_right (by decide) h4
          omega
        split
        · exact h10 _ (by omega) (Nat.le_refl _)
        · exact h10 3 (Nat.le_refl _) (by omega)
      · omega
/-! ===== the reference reads an item ===== -/
def pfr (s : Nat) (g g' : Hs) : Prop := (∀ c j, (c ≠ 0 ∨ j < 7 ∨ (11 < j ∧ j < 16) ∨ 17 < j) → (c ≠ 7 ∨ j < 120 * s ∨ 120 * s + 120 ≤ j) → ((c ≠ 8 ∧ c ≠ 9) ∨ j ≠ s) → gi g' c j = gi g c j) ∧ g'.2 = g.2
theorem pfr.refl {s : Nat} {g : Hs} : pfr s g g := ⟨fun _ _ _ _ _ => rfl, rfl⟩
theorem pfr.trans {s : Nat} {g g1 g2 : Hs} (a : pfr s g g1) (b : pfr s g1 g2) : pfr s g g2 := ⟨fun c j h1 h2 h3 => (b.1 c j h1 h2 h3).trans (a.1 c j h1 h2 h3), b.2.trans a.2⟩
theorem lfr.p {s : Nat} {g g' : Hs} (f : lfr g g') : pfr s g g' := ⟨fun c j h1 _ _ => f.1 c j (by omega), f.2⟩
theorem pfr.si0 {s k : Nat} {g : Hs} {v : Int32} (h : (7 ≤ k ∧ k ≤ 11) ∨ k = 16 ∨ k = 17) : pfr s g (si g 0 k v) := ⟨fun c j h1 _ _ => by rw [gi_if, if_neg (by omega)], rfl⟩
theorem pfr.si7 {s k : Nat} {g : Hs} {v : Int32} (h : k < 120) : pfr s g (si g 7 (120 * s + k) v) := ⟨fun c j _ h2 _ => by rw [gi_if, if_neg (by omega)], rfl⟩
theorem pfr.si8 {s : Nat} {g : Hs} {v : Int32} : pfr s g (si g 8 s v) := ⟨fun c j _ _ h3 => by rw [gi_if, if_neg (by omega)], rfl⟩
theorem pfr.si9 {s : Nat} {g : Hs} {v : Int32} : pfr s g (si g 9 s v) := ⟨fun c j _ _ h3 => by rw [gi_if, if_neg (by omega)], rfl⟩
theorem MX.pfr {g g' : Hs} {s L : Nat} {T : Nat → Nat} (x : MX g s T L) (f : pfr s g g') (h7 : gi g' 0 7 = nI s) : MX g' s T L := ⟨x.1, x.2.1, h7, by rw [f.1 1 _ (by omega) (by omega) (by omega)]; exact x.2.2.2.1, fun i hi => by rw [f.1 1 _ (by omega) (by omega) (by omega)]; exact x.2.2.2.2 i hi⟩
theorem r_goOn {s L i : Nat} {T : Nat → Nat} {g : Hs} {Q : Hs → Prop} (x : MX g s T L) (m : MT g T L (ps T L i)) (hQ : ∀ g', MT g' T L (ps T L (i + 1)) → lfr g g' → Q g') : p_M_goOn g Q := by
  unfold p_M_goOn
  have hle := ps_le (T := T) (L := L) i
  have h1 : ps T L i ≤ tkE T L (ps T L i) ∧ tkE T L (ps T L i) ≤ L := by
    rcases Nat.lt_or_ge (ps T L i) L with y | y
    · have := tkE_gt (T := T) y
      omega
    · rw [tkE_end y]
      omega
  refine r_look (i := tkE T L (ps T L i)) x ?_ h1.2 (fun g' y1 y2 => hQ g' y1 y2)
  rw [m.1, m.2.1, nI_add]
  congr 1
  omega
theorem r_stops {s L i : Nat} {T : Nat → Nat} {g : Hs} {Q : Int32 → Hs → Prop} (x : MX g s T L) (m : MT g T L (ps T L i)) (h1 : tkK T L (ps T L i) = 2 → ∀ g', MT g' T L (ps T L (i + 1)) → lfr g g' → Q 1 g') (h0 : ¬ tkK T L (ps T L i) = 2 → Q 0 g) : p_M_stops g Q := by
  have hk := mK_le (T := T) (L := L) (a := ps T L i)
  unfold p_M_stops
  rw [m.2.2.1]
  refine ⟨fun c => ?_, fun c => h0 (fun e => c (by rw [mK3.mpr e]; rfl))⟩
  have h3 : mK T L (ps T L i) = 3 := (nI_eq (b := 3) (by omega) (by omega)).mp c
  exact r_goOn x m (h1 (mK3.mp h3))
theorem lfr.mt {g g' : Hs} {T : Nat → Nat} {L a : Nat} (m : MT g T L a) (h : ∀ j, 8 ≤ j → j ≤ 11 → gi g' 0 j = gi g 0 j) : MT g' T L a := ⟨by rw [h 8 (by omega) (by omega)]; exact m.1, by rw [h 9 (by omega) (by omega)]; exact m.2.1, by rw [h 10 (by omega) (by omega)]; exact m.2.2.1, fun e => by rw [h 11 (by omega) (by omega)]; exact m.2.2.2 e⟩
def qfr (g g' : Hs) : Prop := (∀ c j, (c ≠ 0 ∨ j < 8 ∨ (11 < j ∧ j ≠ 16)) → gi g' c j = gi g c j) ∧ g'.2 = g.2
theorem lfr.q {g g' : Hs} (f : lfr g g') : qfr g g' := ⟨fun c j h => f.1 c j (by omega), f.2⟩
theorem qfr.trans {g g1 g2 : Hs} (a : qfr g g1) (b : qfr g1 g2) : qfr g g2 := ⟨fun c j h => (b.1 c j h).trans (a.1 c j h), b.2.trans a.2⟩
theorem qfr.p {s : Nat} {g g' : Hs} (f : qfr g g') : pfr s g g' := ⟨fun c j h1 _ _ => f.1 c j (by omega), f.2⟩
theorem qfr.si {g : Hs} {v : Int32} : qfr g (si g 0 16 v) := ⟨fun c j h => by rw [gi_if, if_neg (by omega)], rfl⟩
theorem MX.qfr {g g' : Hs} {s L : Nat} {T : Nat → Nat} (x : MX g s T L) (f : qfr g g') : MX g' s T L := x.pfr f.p (by rw [f.1 0 7 (by omega)]; exact x.2.2.1)
theorem r_takesMonth {s L i la : Nat} {T : Nat → Nat} {g : Hs} {Q : Int32 → Hs → Prop} (x : MX g s T L) (m : MT g T L (ps T L i)) (hla : gi g 0 16 = nI la) (hla2 : la < 1000) (h1 : tkK T L (ps T L i) = 1 ∧ la ≤ tkV T L (ps T L i) ∧ tkV T L (ps T L i) < 120 → ∀ g', MT g' T L (ps T L (i + 1)) → qfr g g' → gi g' 0 16 = nI (tkV T L (ps T L i)) → Q 1 g') (h0 : ¬ (tkK T L (ps T L i) = 1 ∧ la ≤ tkV T L (ps T L i) ∧ tkV T L (ps T L i) < 120) → Q 0 g) : p_M_takesMonth g Q := by
  have hk := mK_le (T := T) (L := L) (a := ps T L i)
  have hv := tkV_lt (T := T) (L := L) (a := ps T L i)
  unfold p_M_takesMonth
  rw [m.2.2.1]
  intro P27 h27
  refine ⟨fun c => h27 (h0 (fun e => c (by rw [mK2.mpr e.1]; rfl))), fun c => ?_⟩
  have h2 : mK T L (ps T L i) = 2 := (nI_eq (b := 2) (by omega) (by omega)).mp c
  rw [m.2.2.2 h2, hla]
  refine m_in (lo := (la : Int)) (hi := 119) (by rw [i64, nI_toInt' (by omega)]) (by rw [i64, nI_toInt' (by omega)]) (by decide) (fun y => ⟨fun _ => ?_, fun c => absurd c (by decide)⟩) (fun y => ⟨fun c => absurd rfl c, fun _ => h27 (h0 (fun e => y ?_))⟩)
  · intro h34 e34
    unfold ir at y
    have f34 : qfr g h34 := e34 ▸ qfr.si
    have x34 : MX h34 s T L := x.qfr f34
    refine r_goOn x34 (lfr.mt m (fun j j1 j2 => by rw [e34, gi_k (by omega)])) (fun g' y1 y2 => h1 ⟨mK2.mp h2, by omega, by omega⟩ g' y1 (f34.trans y2.q) ?_)
    rw [y2.1 0 16 (by omega), e34, gi_s]
  · unfold ir
    omega
theorem r_layFrom {s a w : Nat} {a1 a2 : Int32} {g : Hs} {Q : Hs → Prop} (e1 : a1 = nI a) (e2 : a2 = nI w) (hs : s < 4) (h7 : gi g 0 7 = nI s) (ha : a ≤ 120) (hQ : ∀ g', (∀ m, m < 120 → gi g' 7 (120 * s + m) = if a ≤ m then nI w else gi g 7 (120 * s + m)) → (∀ c j, (c ≠ 7 ∨ j < 120 * s ∨ 120 * s + 120 ≤ j) → gi g' c j = gi g c j) → g'.2 = g.2 → Q g') : p_M_layFrom a1 a2 g Q := by
  subst e1 e2
  unfold p_M_layFrom
  intro P hP
  have key : ∀ (d k : Nat) (g2 : Hs), 120 - k = d → a ≤ k → k ≤ 120 → (∀ m, m < 120 → gi g2 7 (120 * s + m) = if a ≤ m ∧ m < k then nI w else gi g 7 (120 * s + m)) → (∀ c j, (c ≠ 7 ∨ j < 120 * s ∨ 120 * s + 120 ≤ j) → gi g2 c j = gi g c j) → g2.2 = g.2 → P (nI k) g2 := by
    intro d
    induction d with
    | zero =>
      intro k g2 hd h1 h2 h3 h4 h5
      have : k = 120 := by omega
      subst this
      apply hP
      refine ⟨fun _ => hQ g2 (fun m hm => ?_) h4 h5, fun c => absurd (nI_le (a := 120) (b := 120) (Nat.le_refl _) (by omega)) c⟩
      rw [h3 m hm]
      by_cases y : a ≤ m
      · rw [if_pos y, if_pos ⟨y, hm⟩]
      · rw [if_neg y, if_neg (fun z => y z.1)]
    | succ d ih =>
      intro k g2 hd h1 h2 h3 h4 h5
      have hk : k < 120 := by omega
      have hd2 : 120 - (k + 1) = d := by omega
      clear hd
      apply hP
      have e7 : gi g2 0 7 = nI s := by rw [h4 0 7 (by omega)]; exact h7
      have em : (120 : Int32) * nI s = nI (120 * s) := pk_mul 120 s
      rw [e7, em, nI_add, nI_clamp (show 120 * s + k < 2 ^ 31 by omega)]
      refine ⟨fun c => absurd ((nI_leI (a := 120) (by omega) (by omega)).mp c) (by omega), fun _ => ⟨vp_in_nI (by omega) (by omega), ?_⟩⟩
      intro h22 e22 k' ek'
      rw [nI_1] at ek'
      subst ek'
      refine ih (k + 1) h22 hd2 (by omega) (by omega) (fun m hm => ?_) (fun c j hcj => ?_) (by rw [e22]; exact h5)
      · rw [e22, gi_if]
        by_cases y : m = k
        · subst y
          rw [if_pos ⟨rfl, rfl⟩, if_pos ⟨h1, by omega⟩]
        · rw [if_neg (by omega), h3 m hm]
          by_cases z : a ≤ m ∧ m < k
          · rw [if_pos z, if_pos (by omega)]
          · rw [if_neg z, if_neg (by omega)]
      · rw [e22, gi_if, if_neg (by omega)]
        exact h4 c j hcj
  exact key _ a g rfl (Nat.le_refl _) ha (fun m hm => by rw [if_neg (by omega)]) (fun _ _ _ => rfl) rfl
