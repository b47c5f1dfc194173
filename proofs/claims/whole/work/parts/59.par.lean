/-! ===== a story, as such; the reference reads it ===== -/
def par (K V : Nat → Nat) (pl : Nat) : Nat → Nat → Nat → Nat → Nat → Nat → (Nat → Nat) → Option Nat × Nat × Nat × (Nat → Nat)
  | 0, _, _, _, wd, cr, W => (none, wd, cr, W)
  | f + 1, i, la, hr, wd, cr, W => if K i = 0 then (none, wd, cr, W) else
    match itF K V pl i la hr wd cr with
    | some j => (some j, wd, cr, W)
    | none => par K V pl f (itN K i) (itLa K V i la) (itHr K V i hr) (itWd K V i wd) (itCr K i cr) (itW K V i W)
theorem Kt0 {T : Nat → Nat} {L i : Nat} : Kt T L i = 0 ↔ L ≤ ps T L i := by
  unfold Kt tkK
  by_cases h1 : L ≤ ps T L i
  · rw [if_pos h1]
    exact ⟨fun _ => h1, fun _ => rfl⟩
  · rw [if_neg h1]
    refine ⟨fun h => ?_, fun h => absurd h h1⟩
    have : 3 ≤ wk T (ps T L i) (tkE T L (ps T L i) - ps T L i) := by
      unfold wk
      repeat' split
      all_goals omega
    repeat' split at h
    all_goals omega
theorem ps_mono {T : Nat → Nat} {L i : Nat} : ∀ d, ps T L i ≤ ps T L (i + d)
  | 0 => Nat.le_refl _
  | d + 1 => by
    have h1 := ps_mono (T := T) (L := L) (i := i) d
    rcases Nat.lt_or_ge (ps T L (i + d)) L with h | h
    · have := ps_lt h
      rw [← Nat.add_assoc]
      omega
    · have h2 : ps T L (i + d + 1) = ru spB T L (tkE T L (ps T L (i + d))) := rfl
      rw [← Nat.add_assoc, h2, tkE_end h, ru_end h]
      exact h1
theorem itN_lt {T : Nat → Nat} {L i : Nat} (h : ¬ Kt T L i = 0) : ps T L i < ps T L (itN (Kt T L) i) := by
  have h1 : ps T L i < L := by
    rcases Nat.lt_or_ge (ps T L i) L with y | y
    · exact y
    · exact absurd (Kt0.mpr y) h
  have h2 := ps_lt h1
  obtain ⟨d, hd⟩ : ∃ d, itN (Kt T L) i = (i + 1) + d := by
    unfold itN
    repeat' split
    · exact ⟨3, by omega⟩
    · exact ⟨1, by omega⟩
    · exact ⟨2, by omega⟩
  have h3 := ps_mono (T := T) (L := L) (i := i + 1) d
  rw [hd]
  omega
def story (T : Nat → Nat) (L pl : Nat) : Option Nat × Nat × Nat × (Nat → Nat) := par (Kt T L) (Vt T L) pl (L + 1) 0 0 0 0 0 (fun _ => 0)
theorem r_readsStory {s L pl : Nat} {T : Nat → Nat} {a1 : Int32} {g : Hs} {Q : Int32 → Hs → Prop} (e1 : a1 = nI s) (hs : s < 4) (hL : L ≤ 120) (hl : gi g 1 (34 + 121 * s) = nI L) (ht : ∀ i, i < L → gi g 1 (35 + 121 * s + i) = nI (T i) ∧ T i < 256) (hp : gi g 1 671 = nI pl) (hp6 : pl ≤ 6) (h0 : ∀ j, (story T L pl).1 = some j → ∀ g', gi g' 0 8 = nI (ps T L j) → pfr s g g' → Q 0 g') (h1 : (story T L pl).1 = none → ∀ g', gi g' 8 s = wv (story T L pl).2.1 → gi g' 9 s = nI (story T L pl).2.2.1 → (∀ m, m < 120 → gi g' 7 (120 * s + m) = nI ((story T L pl).2.2.2 m)) → pfr s g g' → Q 1 g') : p_M_readsStory a1 g Q := by
  subst e1
  unfold p_M_readsStory
  intro h2 e2 h7 e7 h12 e12
  have f12 : pfr s g h12 := ((e2 ▸ pfr.si0 (by omega) : pfr s g h2).trans (e7 ▸ pfr.si0 (by omega))).trans (e12 ▸ pfr.si0 (by omega))
  have q7 : gi h12 0 7 = nI s := by rw [e12, gi_k (by omega), e7, gi_k (by omega), e2, gi_s]
  rw [q7, nI_clamp (by omega)]
  refine ⟨vp_in_nI hs (by omega), ?_⟩
  intro h24 e24
  have q24 : gi h24 0 7 = nI s := by rw [e24, gi_c (by omega)]; exact q7
  rw [q24, nI_clamp (by omega)]
  refine ⟨vp_in_nI hs (by omega), ?_⟩
  intro h34 e34
  have q34 : gi h34 0 7 = nI s := by rw [e34, gi_c (by omega)]; exact q24
  have f34 : pfr s g h34 := (f12.trans (e24 ▸ pfr.si8)).trans (e34 ▸ pfr.si9)
  refine r_layFrom (a := 0) (w := 0) rfl rfl hs q34 (by omega) (fun h38 y1 y2 y3 => ?_)
  have f38 : pfr s g h38 := f34.trans ⟨fun c j _ hc _ => y2 c j hc, y3⟩
  have x38 : MX h38 s T L := ⟨hs, hL, by rw [y2 0 7 (by omega)]; exact q34, by rw [f38.1 1 _ (by omega) (by omega) (by omega)]; exact hl, fun i hi => by rw [f38.1 1 _ (by omega) (by omega) (by omega)]; exact ht i hi⟩
  refine r_look (i := 0) x38 rfl (Nat.zero_le _) (fun h43 t43 f43 => ?_)
  have F43 : pfr s g h43 := f38.trans f43.p
  intro P48 h48
  have stop0 : ∀ (g2 : Hs) (j : Nat), (story T L pl).1 = some j → gi g2 0 8 = nI (ps T L j) → pfr s g g2 → P48 0 g2 := by
    intro g2 j hj h8 f2
    apply h48
    intro P67 h67
    exact ⟨fun _ => h67 ⟨zb0, h0 j hj g2 h8 f2⟩, fun c => absurd rfl c⟩
  have key : ∀ (f i la hr wd cr : Nat) (W : Nat → Nat) (g2 : Hs), L - ps T L i < f → MI g2 s T L pl i la hr wd cr W → pfr s g g2 → par (Kt T L) (Vt T L) pl f i la hr wd cr W = story T L pl → P48 1 g2 := by
    intro f
    induction f with
    | zero => intro i la hr wd cr W g2 hf; omega
    | succ f ih =>
      intro i la hr wd cr W g2 hf M f2 he
      have hk := mK_le (T := T) (L := L) (a := ps T L i)
      apply h48
      intro P67 h67
      refine ⟨fun c => absurd c (by decide), fun _ => ?_⟩
      rw [M.2.1.2.2.1]
      refine ⟨fun c => h67 ⟨zb1, ?_⟩, fun c => ?_⟩
      · have h0k : mK T L (ps T L i) = 0 := by
          rw [nI_lit0] at c
          exact (nI_eq (by omega) (by omega)).mp c
        have hk0 : Kt T L i = 0 := mK0.mp h0k
        have he2 : story T L pl = (none, wd, cr, W) := by
          rw [← he]
          show (if Kt T L i = 0 then _ else _) = _
          rw [if_pos hk0]
        rw [he2] at h1
        exact h1 rfl g2 M.2.2.2.2.1 M.2.2.2.2.2.1 M.2.2.2.2.2.2.1 f2
      · have hk0 : ¬ Kt T L i = 0 := fun e => c (by rw [mK0.mpr e]; rfl)
        have he2 : story T L pl = (match itF (Kt T L) (Vt T L) pl i la hr wd cr with
            | some j => (some j, wd, cr, W)
            | none => par (Kt T L) (Vt T L) pl f (itN (Kt T L) i) (itLa (Kt T L) (Vt T L) i la) (itHr (Kt T L) (Vt T L) i hr) (itWd (Kt T L) (Vt T L) i wd) (itCr (Kt T L) i cr) (itW (Kt T L) (Vt T L) i W)) := by
          rw [← he]
          show (if Kt T L i = 0 then _ else _) = _
          rw [if_neg hk0]
        refine r_readItem M (fun j hj g3 h8 f3 => ?_) (fun hn g3 M3 f3 => ?_)
        · refine stop0 g3 j ?_ h8 (f2.trans f3)
          rw [he2, hj]
        · refine ih _ _ _ _ _ _ g3 ?_ M3 (f2.trans f3) ?_
          · have := itN_lt hk0
            have := ps_le (T := T) (L := L) (itN (Kt T L) i)
            omega
          · rw [he2, hn]
  refine key (L + 1) 0 0 0 0 0 (fun _ => 0) h43 (by omega) ⟨x38.lfr f43, t43, ?_, ?_, ?_, ?_, ?_, ?_, hp6, by omega, by omega, by omega⟩ F43 rfl
  · rw [f43.1 0 16 (by omega), y2 0 16 (by omega), e34, gi_c (by omega), e24, gi_c (by omega), e12, gi_k (by omega), e7, gi_s, nI_0]
  · rw [f43.1 0 17 (by omega), y2 0 17 (by omega), e34, gi_c (by omega), e24, gi_c (by omega), e12, gi_s]
    rfl
  · rw [f43.1 8 s (by omega), y2 8 s (by omega), e34, gi_c (by omega), e24, gi_s]
    rfl
  · rw [f43.1 9 s (by omega), y2 9 s (by omega), e34, gi_s]
    rfl
  · intro k hk
    rw [f43.1 7 _ (by omega), y1 k hk, if_pos (Nat.zero_le _)]
  · rw [f43.1 1 671 (by omega), f38.1 1 671 (by omega) (by omega) (by omega)]
    exact hp
