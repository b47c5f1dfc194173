/-! ===== the reference's words ===== -/
def cC (c0 c1 c2 c3 c4 k : Nat) : Nat := if k = 0 then c0 else if k = 1 then c1 else if k = 2 then c2 else if k = 3 then c3 else c4
theorem r_isWord {s L a n c0 c1 c2 c3 c4 : Nat} {T : Nat → Nat} {g : Hs} {Q : Int32 → Prop} (x : MX g s T L) (m : MT g T L a) (haL : a ≤ L) (hc : c0 < 256 ∧ c1 < 256 ∧ c2 < 256 ∧ c3 < 256 ∧ c4 < 256) (hn : n = if c2 = 0 then 2 else if c3 = 0 then 3 else if c4 = 0 then 4 else 5) (hy : mK T L a = 1 ∧ tkE T L a - a = n ∧ (∀ k, k < n → T (a + k) = cC c0 c1 c2 c3 c4 k) → Q 1) (hno : ¬ (mK T L a = 1 ∧ tkE T L a - a = n ∧ (∀ k, k < n → T (a + k) = cC c0 c1 c2 c3 c4 k)) → Q 0) : p_M_isWord (nI c0) (nI c1) (nI c2) (nI c3) (nI c4) g Q := by
  obtain ⟨m8, m9, m10, m11⟩ := m
  have hL := x.2.1
  have hmk : mK T L a ≤ 4 := by
    unfold mK
    repeat' split
    all_goals omega
  have hEL : tkE T L a ≤ L := by
    rcases Nat.lt_or_ge a L with y | y
    · exact (tkE_gt y).2
    · rw [tkE_end y]
      exact haL
  have z0 : ∀ c, c < 256 → (nI c = 0 ↔ c = 0) := fun c h => by
    rw [nI_lit0]
    exact nI_eq (by omega) (by omega)
  unfold p_M_isWord
  rw [x.2.2.1, m8, m9, m10, z0 c2 hc.2.2.1, z0 c3 hc.2.2.2.1, z0 c4 hc.2.2.2.2]
  intro P27 h27
  have main : n ≤ 5 → P27 (nI n) := by
    intro hn5
    apply h27
    intro P51 h51 P50 h50
    have zero : ¬ (mK T L a = 1 ∧ tkE T L a - a = n ∧ (∀ k, k < n → T (a + k) = cC c0 c1 c2 c3 c4 k)) → P51 0 := fun hx => by
      apply h51
      intro P56 h56
      apply h56
      intro P141 h141
      have F := h141 ⟨zb0, hno hx⟩
      exact ⟨fun _ => F, fun _ => ⟨fun _ => F, fun c => absurd rfl c⟩⟩
    refine ⟨fun c => h50 (zero (fun y => c (by rw [y.1]; rfl))), fun c => ⟨fun k2 => h50 (zero (fun y => k2 (by rw [y.2.1]))), fun k2 => ?_⟩⟩
    have hk1 : mK T L a = 1 := (nI_eq (b := 1) (by omega) (by omega)).mp c
    have hlen : tkE T L a - a = n := (nI_eq (by omega) (by omega)).mp k2
    apply h51
    intro P56 h56
    have key : ∀ (d k : Nat), n - k = d → k ≤ n → (∀ j, j < k → T (a + j) = cC c0 c1 c2 c3 c4 j) → P56 1 (nI k) := by
      intro d
      induction d with
      | zero =>
        intro k hd hk hm
        have : k = n := by omega
        subst this
        apply h56
        intro P141 h141
        exact ⟨fun _ => h141 ⟨zb1, hy ⟨hk1, hlen, hm⟩⟩, fun c => absurd (nI_le (Nat.le_refl _) (by omega)) c⟩
      | succ d ih =>
        intro k hd hk hm
        have hkn : k < n := by omega
        have hd2 : n - (k + 1) = d := by omega
        clear hd
        apply h56
        intro P141 h141
        refine ⟨fun c => absurd ((nI_leI (by omega) (by omega)).mp c) (by omega), fun _ => ⟨fun c => absurd c (by decide), fun _ => ?_⟩⟩
        rw [nI_add]
        refine m_byteAt x rfl rfl (by omega) ?_
        have hT := (x.2.2.2.2 (a + k) (by omega)).2
        intro P125 h125
        have go : ∀ c, c < 256 → c = cC c0 c1 c2 c3 c4 k → P125 (nI c) := fun c hc2 hcc => by
          apply h125
          intro P133 h133
          refine ⟨fun k3 => h133 _ ?_, fun k3 => h133 _ ?_⟩
          · intro k' ek'
            apply h56
            intro P141 h141
            have F := h141 ⟨zb0, hno (fun y => k3 (by rw [y.2.2 k hkn, hcc]))⟩
            exact ⟨fun _ => F, fun _ => ⟨fun _ => F, fun c => absurd rfl c⟩⟩
          · intro k' ek'
            rw [nI_1] at ek'
            subst ek'
            refine ih (k + 1) hd2 (by omega) (fun j hj => ?_)
            by_cases ej : j = k
            · subst ej
              rw [← hcc]
              exact (nI_eq (by omega) (by omega)).mp k3
            · exact hm j (by omega)
        have zk : ∀ c, c < 6 → (nI k = nI c ↔ k = c) := fun c h => nI_eq (by omega) (by omega)
        refine ⟨fun y0 => ⟨fun y1 => ⟨fun y2 => ⟨fun y3 => go c4 hc.2.2.2.2 ?_, fun y3 => go c3 hc.2.2.2.1 ?_⟩, fun y2 => go c2 hc.2.2.1 ?_⟩, fun y1 => go c1 hc.2.1 ?_⟩, fun y0 => go c0 hc.1 ?_⟩
        · unfold cC
          rw [if_neg (fun e => y0 (by rw [e]; rfl)), if_neg (fun e => y1 (by rw [e]; rfl)), if_neg (fun e => y2 (by rw [e]; rfl)), if_neg (fun e => y3 (by rw [e]; rfl))]
        · unfold cC
          rw [(zk 3 (by omega)).mp y3]
          rfl
        · unfold cC
          rw [(zk 2 (by omega)).mp y2]
          rfl
        · unfold cC
          rw [(zk 1 (by omega)).mp y1]
          rfl
        · unfold cC
          rw [(zk 0 (by omega)).mp y0]
          rfl
    exact key _ 0 rfl (Nat.zero_le _) (fun j hj => absurd hj (by omega))
  refine ⟨fun y2 => ⟨fun y3 => ⟨fun y4 => ?_, fun y4 => ?_⟩, fun y3 => ?_⟩, fun y2 => ?_⟩
  · rw [if_neg y2, if_neg y3, if_neg y4] at hn
    subst hn
    exact main (by omega)
  · rw [if_neg y2, if_neg y3, if_pos y4] at hn
    subst hn
    exact main (by omega)
  · rw [if_neg y2, if_pos y3] at hn
    subst hn
    exact main (by omega)
  · rw [if_pos y2] at hn
    subst hn
    exact main (by omega)
/-- the words by their kinds -/
theorem tkK_w {T : Nat → Nat} {L a κ : Nat} (hκ : 4 ≤ κ) : tkK T L a = κ ↔ mK T L a = 1 ∧ wk T a (tkE T L a - a) = κ := by
  unfold tkK mK
  by_cases h1 : L ≤ a
  · rw [if_pos h1, if_pos h1]
    omega
  · rw [if_neg h1, if_neg h1]
    by_cases h2 : smB (T a) = true
    · rw [if_pos h2, if_pos h2]
      exact ⟨fun h => ⟨rfl, h⟩, fun h => h.2⟩
    · rw [if_neg h2, if_neg h2]
      constructor
      · intro h
        repeat' split at h
        all_goals omega
      · rintro ⟨h, _⟩
        repeat' split at h
        all_goals omega
theorem wk4 {T : Nat → Nat} {a n : Nat} : wk T a n = 4 ↔ n = 2 ∧ T a = 103 ∧ T (a + 1) = 111 := by
  unfold wk
  constructor
  · intro h
    by_cases h1 : n = 2 ∧ T a = 103 ∧ T (a + 1) = 111
    · exact h1
    · rw [if_neg h1] at h
      repeat' split at h
      all_goals omega
  · intro h
    rw [if_pos h]
theorem wk5 {T : Nat → Nat} {a n : Nat} : wk T a n = 5 ↔ n = 4 ∧ T a = 106 ∧ T (a + 1) = 111 ∧ T (a + 2) = 105 ∧ T (a + 3) = 110 := by
  unfold wk
  constructor
  · intro h
    repeat' split at h
    all_goals (first | omega | assumption)
  · intro h
    rw [if_neg (by omega), if_pos h]
theorem wk6 {T : Nat → Nat} {a n : Nat} : wk T a n = 6 ↔ n = 3 ∧ T a = 100 ∧ T (a + 1) = 105 ∧ T (a + 2) = 101 := by
  unfold wk
  constructor
  · intro h
    repeat' split at h
    all_goals (first | omega | assumption)
  · intro h
    rw [if_neg (by omega), if_neg (by omega), if_pos h]
theorem wk7 {T : Nat → Nat} {a n : Nat} : wk T a n = 7 ↔ n = 4 ∧ T a = 119 ∧ T (a + 1) = 111 ∧ T (a + 2) = 114 ∧ T (a + 3) = 100 := by
  unfold wk
  constructor
  · intro h
    repeat' split at h
    all_goals (first | omega | assumption)
  · intro h
    rw [if_neg (by omega), if_neg (by omega), if_neg (by omega), if_pos h]
theorem wk8 {T : Nat → Nat} {a n : Nat} : wk T a n = 8 ↔ n = 5 ∧ T a = 99 ∧ T (a + 1) = 114 ∧ T (a + 2) = 111 ∧ T (a + 3) = 115 ∧ T (a + 4) = 115 := by
  unfold wk
  constructor
  · intro h
    repeat' split at h
    all_goals (first | omega | assumption)
  · intro h
    rw [if_neg (by omega), if_neg (by omega), if_neg (by omega), if_neg (by omega), if_pos h]
