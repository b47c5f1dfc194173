/-! ===== the class reads a story ===== -/
def cnt (W : Nat → Nat) (p : Nat) : Nat → Nat
  | 0 => 0
  | n + 1 => cnt W p n + (if W n = p then 1 else 0)
theorem cnt_congr {W W' : Nat → Nat} {p : Nat} : ∀ n, (∀ m, m < n → W m = W' m) → cnt W p n = cnt W' p n
  | 0, _ => rfl
  | n + 1, h => by
    show cnt W p n + (if W n = p then 1 else 0) = cnt W' p n + (if W' n = p then 1 else 0)
    rw [cnt_congr n (fun m hm => h m (by omega)), h n (by omega)]
theorem cnt_tail {W : Nat → Nat} {p a hr : Nat} (h : ∀ m, a ≤ m → W m = hr) : ∀ d, cnt W p (a + d) = cnt W p a + (if hr = p then d else 0)
  | 0 => by rw [Nat.add_zero]; split <;> rfl
  | d + 1 => by
    show cnt W p (a + d) + (if W (a + d) = p then 1 else 0) = _
    rw [cnt_tail h d, h (a + d) (by omega)]
    split <;> omega
theorem cnt_le {W : Nat → Nat} {p : Nat} : ∀ n, cnt W p n ≤ n
  | 0 => Nat.le_refl _
  | n + 1 => by
    show cnt W p n + (if W n = p then 1 else 0) ≤ n + 1
    have := cnt_le (W := W) (p := p) n
    split <;> omega
def tS3 (o : Nat) : Nat → Prop := fun c => o ≤ c ∧ c ≤ o + 2
theorem s_tokenAt {T : Nat → Nat} {L c i : Nat} {a1 : Int32} {h : Hs} {Q : Int32 → Prop} (K : TKd h T L c) (hL : L ≤ 120) (e : a1 = nI i) (hi : i ≤ c) (hQ : Q (nI (Kt T L i))) : p_Tokens_tokenAt a1 h Q := by
  subst e
  obtain ⟨k1, k2, k3, k4, k5⟩ := K
  unfold p_Tokens_tokenAt
  intro P22 h22 P21 h21
  rw [k2, nI_clamp (show i < 2 ^ 31 by omega), (k3 i (by omega)).2.1]
  exact ⟨fun c => absurd c (nI_pos (by omega)), fun _ => ⟨fun c => absurd ((nI_leI (by omega) (by omega)).mp c) (by omega), fun _ => ⟨vp_in_nI (by omega) (by omega), h22 _ hQ⟩⟩⟩
theorem s_valueAt {T : Nat → Nat} {L c i : Nat} {a1 : Int32} {h : Hs} {Q : Int32 → Prop} (K : TKd h T L c) (hL : L ≤ 120) (e : a1 = nI i) (hi : i ≤ c) (hQ : Q (nI (Vt T L i))) : p_Tokens_valueAt a1 h Q := by
  subst e
  obtain ⟨k1, k2, k3, k4, k5⟩ := K
  unfold p_Tokens_valueAt
  intro P22 h22 P21 h21
  rw [k2, nI_clamp (show i < 2 ^ 31 by omega), (k3 i (by omega)).2.2]
  exact ⟨fun c => absurd c (nI_pos (by omega)), fun _ => ⟨fun c => absurd ((nI_leI (by omega) (by omega)).mp c) (by omega), fun _ => ⟨vp_in_nI (by omega) (by omega), h22 _ hQ⟩⟩⟩
theorem s_startAt {T : Nat → Nat} {L c i : Nat} {a1 : Int32} {h : Hs} {Q : Int32 → Prop} (K : TKd h T L c) (hL : L ≤ 120) (e : a1 = nI i) (hi : i ≤ c) (hQ : Q (nI (ps T L i))) : p_Tokens_startAt a1 h Q := by
  subst e
  obtain ⟨k1, k2, k3, k4, k5⟩ := K
  unfold p_Tokens_startAt
  intro P22 h22 P21 h21
  rw [k2, nI_clamp (show i < 2 ^ 31 by omega), (k3 i (by omega)).1]
  exact ⟨fun c => absurd c (nI_pos (by omega)), fun _ => ⟨fun c => absurd ((nI_leI (by omega) (by omega)).mp c) (by omega), fun _ => ⟨vp_in_nI (by omega) (by omega), h22 _ hQ⟩⟩⟩
theorem TKd.frm {S : Nat → Prop} {h h' : Hs} {T : Nat → Nat} {L c : Nat} (K : TKd h T L c) (f : frm S h h') (hS : ∀ q, tkS q → ¬ S q) : TKd h' T L c := by
  obtain ⟨k1, k2, k3, k4, k5⟩ := K
  refine ⟨k1, by rw [f.1 43 (hS 43 (by unfold tkS; omega))]; exact k2, fun i hi => ?_, k4, k5⟩
  rw [f.1 44 (hS 44 (by unfold tkS; omega)), f.1 45 (hS 45 (by unfold tkS; omega)), f.1 46 (hS 46 (by unfold tkS; omega))]
  exact k3 i hi
theorem Kt_lt {T : Nat → Nat} {L c i : Nat} {h : Hs} (K : TKd h T L c) (hi : i ≤ c) (hk : ¬ Kt T L i = 0) : i < c := by
  rcases Nat.lt_or_ge i c with y | y
  · exact y
  · have e : i = c := by omega
    subst e
    exact absurd (Kt0.mpr (by rw [K.2.2.2.1]; exact Nat.le_refl _)) hk
/-- stays until a month -/
theorem s_stayUntil {o la hr mo : Nat} {W : Nat → Nat} {a1 : Int32} {h : Hs} {Q : Hs → Prop} (e1 : a1 = nI mo) (hmo : la ≤ mo) (hmo2 : mo ≤ 120) (h6 : gi h o 6 = nI la) (h5 : gi h o 5 = nI hr) (hhr : hr ≤ 7) (hrow : ∀ m, m < la → gi h (o + 1) m = nI (W m)) (hst : ∀ p, p < 6 → gi h (o + 2) p = nI (cnt W p la)) (hW : ∀ m, la ≤ m → W m = hr) (hQ : ∀ h', (∀ m, m < mo → gi h' (o + 1) m = nI (W m)) → (∀ p, p < 6 → gi h' (o + 2) p = nI (cnt W p mo)) → gi h' o 6 = nI mo → (∀ j, j ≠ 6 → gi h' o j = gi h o j) → frm (tS3 o) h h' → Q h') : p_Tale_stayUntil o a1 h Q := by
  subst e1
  unfold p_Tale_stayUntil
  intro x2 ex2 P5 h5'
  rw [h6] at ex2
  subst ex2
  have key : ∀ (d k : Nat) (g : Hs), mo - k = d → la ≤ k → k ≤ mo → (∀ m, m < k → gi g (o + 1) m = nI (W m)) → (∀ c j, c ≠ o + 1 → gi g c j = gi h c j) → frm (tS3 o) h g → P5 (nI k) g := by
    intro d
    induction d with
    | zero =>
      intro k g hd hk1 hk2 hr1 hr2 hf
      have : k = mo := by omega
      subst this
      apply h5'
      intro P32 h32
      refine ⟨fun _ => h32 ?_, fun c => absurd (nI_le (Nat.le_refl _) (by omega)) c⟩
      intro P59 h59
      have go : ∀ g' : Hs, (∀ p, p < 6 → gi g' (o + 2) p = nI (cnt W p k)) → (∀ c j, c ≠ o + 2 → gi g' c j = gi g c j) → frm (tS3 o) h g' → P59 g' := by
        intro g' hc hg' hf'
        apply h59
        intro h61 e61
        refine hQ h61 (fun m hm => ?_) (fun p hp => ?_) (by rw [e61, gi_s]) (fun j hj => ?_) (hf'.trans (e61 ▸ frm.si (show tS3 o o by unfold tS3; omega)))
        · rw [e61, gi_c (by omega), hg' _ _ (by omega)]
          exact hr1 m hm
        · rw [e61, gi_c (by omega)]
          exact hc p hp
        · rw [e61, gi_k hj, hg' _ _ (by omega), hr2 _ _ (by omega)]
      have hk3 : ∀ p, cnt W p k = cnt W p la + (if hr = p then k - la else 0) := fun p => by
        have := cnt_tail (p := p) hW (k - la)
        rw [show la + (k - la) = k by omega] at this
        exact this
      rw [hr2 o 5 (by omega), h5, hr2 o 6 (by omega), h6]
      refine ⟨fun c => go g (fun p hp => ?_) (fun _ _ _ => rfl) hf, fun c => ?_⟩
      · have := (nI_leI (a := 6) (by omega) (by omega)).mp c
        rw [hr2 _ _ (by omega), hst p hp, hk3 p, if_neg (by omega), Nat.add_zero]
      · have hlt : hr < 6 := by
          rcases Nat.lt_or_ge hr 6 with y | y
          · exact y
          · exact absurd (nI_le (a := 6) y (by omega)) c
        refine ⟨vp_in_nI hlt (by omega), vp_in_nI hlt (by omega), ?_⟩
        intro h58 e58
        rw [nI_clamp (by omega), hr2 _ _ (by omega), hst hr hlt, pk_sub hk1, nI_add] at e58
        refine go h58 (fun p hp => ?_) (fun c j hcj => by rw [e58, gi_c hcj]) (hf.trans (e58 ▸ frm.si (show tS3 o (o + 2) by unfold tS3; omega)))
        rw [e58, gi_if]
        by_cases y : p = hr
        · subst y
          rw [if_pos ⟨rfl, rfl⟩, hk3 p, if_pos rfl]
        · rw [if_neg (fun z => y z.2), hr2 _ _ (by omega), hst p hp, hk3 p, if_neg (fun z => y z.symm), Nat.add_zero]
    | succ d ih =>
      intro k g hd hk1 hk2 hr1 hr2 hf
      have hkm : k < mo := by omega
      have hd2 : mo - (k + 1) = d := by omega
      clear hd
      apply h5'
      intro P32 h32
      rw [hr2 o 5 (by omega), h5, nI_clamp (show k < 2 ^ 31 by omega)]
      refine ⟨fun c => absurd ((nI_leI (by omega) (by omega)).mp c) (by omega), fun _ => ⟨fun c => absurd ((nI_leI (a := 120) (by omega) (by omega)).mp c) (by omega), fun _ => ⟨vp_in_nI (by omega) (by omega), ?_⟩⟩⟩
      intro h25 e25 k' ek'
      rw [nI_1] at ek'
      subst ek'
      refine ih (k + 1) h25 hd2 (by omega) (by omega) (fun m hm => ?_) (fun c j hc => by rw [e25, gi_c hc]; exact hr2 c j hc) (hf.trans (e25 ▸ frm.si (show tS3 o (o + 1) by unfold tS3; omega)))
      rw [e25]
      by_cases y : m = k
      · subst y
        rw [gi_s, hW m hk1]
      · rw [gi_k y]
        exact hr1 m (by omega)
  exact key _ la h rfl (Nat.le_refl _) hmo hrow (fun _ _ _ => rfl) frm.refl
