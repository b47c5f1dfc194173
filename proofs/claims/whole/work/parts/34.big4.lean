/-! ===== timesPower, plus, product ===== -/
theorem m9_neg : ∀ a, a < 9 → nI a + (-9) ≤ 0 := by decide +kernel
theorem m9_pos {a : Nat} (h : 9 ≤ a) : nI a + (-9) = nI (a - 9) := by
  rw [← pk_sub h]
  have e : (-9 : Int32) = -nI 9 := by decide +kernel
  rw [e, Int32.sub_eq_add_neg]
theorem pow10_9 {b m : Nat} (hb : b ≤ 10) (hm : m ≤ 9) : b ^ m < BB := by
  have h1 : b ^ m ≤ 10 ^ m := Nat.pow_le_pow_left hb m
  have h2 : 10 ^ m ≤ 10 ^ 9 := Nat.pow_le_pow_right (by decide) hm
  have h3 : 10 ^ 9 < BB := by decide +kernel
  omega
theorem s_timesPower {o v b e : Nat} {h : Hs} {Q : Hs → Prop} (hk : kX o = 1) (hb : BV h o v) (hb10 : b ≤ 10) (he : e < 1000) (hfit : ∀ j, j ≤ e → v * b ^ j < BB ^ lX (o + 1)) (hQ : ∀ h', BV h' o (v * b ^ e) → frm (bS o) h h' → Q h') : p_Big_timesPower o (nI b) (nI e) h Q := by
  unfold p_Big_timesPower
  intro P2 hP2
  have key : ∀ (k a : Nat) (g : Hs), a ≤ k → a ≤ e → BV g o (v * b ^ (e - a)) → frm (bS o) h g → P2 (nI a) g := by
    intro k
    induction k with
    | zero =>
      intro a g h1 h2 h3 h4
      have ha : a = 0 := by omega
      subst ha
      apply hP2
      refine ⟨fun _ => hQ g h3 h4, fun c => absurd (by rw [nI_0]; exact Int32.le_refl 0) c⟩
    | succ k ih =>
      intro a g h1 h2 h3 h4
      by_cases ha : a = 0
      · exact ih a g (by omega) h2 h3 h4
      · apply hP2
        refine ⟨fun c => absurd c (nI_nle (by omega) (by omega)), fun _ => ?_⟩
        intro P12 hP12
        have inner : ∀ (r i : Nat), (if a < 9 then a else 9) - i = r → i ≤ (if a < 9 then a else 9) → P12 (nI (b ^ i)) (nI i) := by
          intro r
          induction r with
          | zero =>
            intro i hr hi
            apply hP12
            intro P37 h37
            have hi2 : i = if a < 9 then a else 9 := by omega
            have fin : P37 := by
              apply h37
              have him : i ≤ a ∧ i ≤ 9 := by
                rw [hi2]
                split <;> omega
              have hee : v * b ^ (e - a) * b ^ i = v * b ^ (e - (a - i)) := by
                rw [Nat.mul_assoc, ← Nat.pow_add]
                congr 2
                omega
              refine s_times hk h3 (pow10_9 hb10 him.2) (by rw [hee]; exact hfit _ (by omega)) (fun h' hB hF => ?_)
              intro a3 e3
              rw [hee] at hB
              subst e3
              by_cases h9 : a < 9
              · rw [if_pos h9] at hi2
                have e0 : a - i = 0 := by omega
                rw [e0, Nat.sub_zero] at hB
                apply hP2
                exact ⟨fun _ => hQ h' hB (h4.trans hF), fun c => absurd (m9_neg a h9) c⟩
              · rw [if_neg h9] at hi2
                rw [m9_pos (by omega)]
                refine ih (a - 9) h' (by omega) (by omega) ?_ (h4.trans hF)
                rw [hi2] at hB
                exact hB
            refine ⟨fun _ => fin, fun c1 => ⟨fun _ => fin, fun c2 => ?_⟩⟩
            exfalso
            by_cases h9 : a < 9
            · rw [if_pos h9] at hi2
              exact c2 (nI_le (by omega) (by omega))
            · rw [if_neg h9] at hi2
              exact c1 (nI_le (show 9 ≤ i by omega) (by omega))
          | succ r ihr =>
            intro i hr hi
            apply hP12
            intro P37 h37
            have h9 : i < 9 ∧ i < a := by
              by_cases h9 : a < 9
              · rw [if_pos h9] at hr hi
                omega
              · rw [if_neg h9] at hr hi
                omega
            refine ⟨fun c => absurd ((nI_leI (a := 9) (by omega) (by omega)).mp c) (by omega), fun _ => ⟨fun c => absurd ((nI_leI (by omega) (by omega)).mp c) (by omega), fun _ => ?_⟩⟩
            intro a4 e4 a5 e5
            rw [nI_mul, ← Nat.pow_succ] at e4
            rw [nI_1] at e5
            subst e4
            subst e5
            exact ihr (i + 1) (by omega) (by omega)
        exact inner _ 0 rfl (Nat.zero_le _)
  have e0 : v * b ^ (e - e) = v := by rw [Nat.sub_self, Nat.pow_zero, Nat.mul_one]
  exact key e e h (Nat.le_refl _) (Nat.le_refl _) (by rw [e0]; exact hb) frm.refl
/-- digits, and zeros behind them -/
def pad (F : Nat → Nat) (n : Nat) : Nat → Nat := fun i => if i < n then F i else 0
theorem nv_pad {F : Nat → Nat} {n : Nat} : ∀ {m : Nat}, n ≤ m → nv (pad F n) m = nv F n := by
  intro m hm
  induction m with
  | zero =>
    have : n = 0 := by omega
    subst this
    rfl
  | succ m ih =>
    by_cases e : n = m + 1
    · subst e
      exact nv_congr (fun i hi => if_pos hi)
    · rw [nv_succ0 (show pad F n m = 0 from if_neg (by omega))]
      exact ih (by omega)
theorem i_and30 {n : Nat} (h : n < 2 ^ 32) : nI n &&& 1073741823 = nI (n % BB) := pk_andN h 30 (by decide)
theorem i_shr30 {n : Nat} (h : n < 2 ^ 31) : nI n >>> ((30 : Int32) &&& 31) = nI (n / BB) := pk_shrN h _ 30 (by decide)
theorem s_plus {o a v w : Nat} {h : Hs} {Q : Hs → Prop} (hk : kX o = 1) (ha : kX a = 1) (hne : o ≠ a) (hb : BV h o v) (hc : BV h a w) (hfit : v + w < BB ^ lX (o + 1)) (hQ : ∀ h', BV h' o (v + w) → frm (bS o) h h' → Q h') : p_Big_plus o a h Q := by
  have hR := room_le hk
  have hRa := room_le ha
  have hs := hb.2.1
  have hsa : szB h a ≤ lX (o + 1) := hc.size_le (by omega)
  have hsa2 := hc.2.1
  have n1 := kne hk ha
  have n2 := kne ha hk
  have hBB : BB = 1073741824 := rfl
  unfold p_Big_plus
  obtain ⟨M, hM, hM1, hM2⟩ : ∃ M, (if gi h o 1 < gi h a 1 then gi h a 1 else gi h o 1) + 1 = nI (M + 1) ∧ (szB h o ≤ M ∧ szB h a ≤ M) ∧ M ≤ 32 := by
    rw [hb.1, hc.1]
    by_cases c : nI (szB h o) < nI (szB h a)
    · rw [if_pos c]
      have := (nI_ltI (by omega) (by omega)).mp c
      exact ⟨szB h a, nI_1 _, by omega, by omega⟩
    · rw [if_neg c]
      have : ¬ szB h o < szB h a := fun x => c ((nI_ltI (by omega) (by omega)).mpr x)
      exact ⟨szB h o, nI_1 _, by omega, by omega⟩
  rw [hM]
  refine s_growTo hk hb.1 hs (by omega) (fun h1 n' g1 g2 g3 g4 g5 g6 g7 g8 => ?_)
  -- the sum of both in n' digits
  have hca : BV h1 a w := hc.frm g8 (fun x => by rcases x with x | x <;> omega) (fun x => by rcases x with x | x <;> omega)
  have esa : gi h1 a 1 = nI (szB h a) := by rw [g8.1 a (fun x => by rcases x with x | x <;> omega)]; exact hc.1
  have hn'a : szB h a ≤ n' := by omega
  have hlt : v + w < BB ^ n' := by
    rcases g4 with x | x
    · have h5 := hb.lt
      have h6 := hc.lt
      have h7 : BB ^ szB h o ≤ BB ^ M := Nat.pow_le_pow_right (by decide) hM1.1
      have h8 : BB ^ szB h a ≤ BB ^ M := Nat.pow_le_pow_right (by decide) hM1.2
      have h9 : BB ^ (M + 1) ≤ BB ^ n' := Nat.pow_le_pow_right (by decide) x
      rw [BB_succ] at h9
      have h10 : BB ^ M * 2 ≤ BB ^ M * BB := Nat.mul_le_mul_left _ (by decide)
      omega
    · rw [x]
      exact hfit
  have hd1 : ∀ i, i < n' → gi h1 (o + 1) i = nI (pad (dg h (o + 1)) (szB h o) i) ∧ pad (dg h (o + 1)) (szB h o) i < BB := fun i hi => by
    unfold pad
    by_cases c : i < szB h o
    · rw [if_pos c, g6 i c]
      exact hb.2.2.1 i c
    · rw [if_neg c]
      exact ⟨g7 i (by omega) hi, by decide⟩
  have hG : ∀ i, i < n' → pad (dg h (a + 1)) (szB h a) i < BB := fun i hi => by
    unfold pad
    by_cases c : i < szB h a
    · rw [if_pos c]
      exact (hc.2.2.1 i c).2
    · rw [if_neg c]
      decide
  intro P21 hP21
  have key : ∀ (k i c : Nat) (g : Hs), n' - i = k → i ≤ n' → c ≤ 1 → gi g o 1 = nI n' → DR g (o + 1) n' → (∀ j, i ≤ j → gi g (o + 1) j = gi h1 (o + 1) j) → nv (dg g (o + 1)) i + c * BB ^ i = nv (pad (dg h (o + 1)) (szB h o)) i + nv (pad (dg h (a + 1)) (szB h a)) i → frm (bS o) h g → P21 (nI c) (nI i) g := by
    intro k
    induction k with
    | zero =>
      intro i c g hkk hi hc1 e1 h2 h3 h4 h5
      have hin : i = n' := by omega
      subst hin
      rw [nv_pad g2, nv_pad hn'a, hb.2.2.2.2, hc.2.2.2.2] at h4
      have hc0 : c = 0 := by
        rcases Nat.eq_zero_or_pos c with x | x
        · exact x
        · have : BB ^ i ≤ c * BB ^ i := Nat.le_mul_of_pos_left _ x
          omega
      subst hc0
      rw [Nat.zero_mul, Nat.add_zero] at h4
      apply hP21
      rw [e1]
      refine ⟨fun _ => s_trim hk e1 g3 h2 (fun h' hB hF => hQ h' ?_ (h5.trans hF)), fun c2 => absurd (nI_le (Nat.le_refl _) (by omega)) c2⟩
      rw [← h4]
      exact hB
    | succ k ih =>
      intro i c g hkk hi hc1 e1 h2 h3 h4 h5
      have esg : gi g a 1 = nI (szB h a) := by rw [h5.1 a (fun x => by rcases x with x | x <;> omega)]; exact hc.1
      have erow : ∀ j, gi g (a + 1) j = gi h (a + 1) j := fun j => h5.1 (a + 1) (fun x => by rcases x with x | x <;> omega) j
      apply hP21
      rw [e1]
      refine ⟨fun c2 => absurd ((nI_leI (by omega) (by omega)).mp c2) (by omega), fun _ => ⟨vp_in_nI (by omega) (by omega), ?_⟩⟩
      intro P54 hP54
      have fin : P54 (nI (pad (dg h (a + 1)) (szB h a) i)) := by
        apply hP54
        intro x ex
        have hdi := hd1 i (by omega)
        rw [nI_clamp (by omega), h3 i (Nat.le_refl _), hdi.1, nI_add, nI_add] at ex
        have hgi := hG i (by omega)
        refine ⟨vp_in_nI (by omega) (by omega), ?_⟩
        intro h66 e66 c' ec' i' ei'
        have hdi2 := hdi.2
        generalize hxe : c + (pad (dg h (o + 1)) (szB h o) i + pad (dg h (a + 1)) (szB h a) i) = X at ex
        have hX : X < 2 ^ 31 := by omega
        subst ex
        rw [nI_clamp (by omega), i_and30 (by omega)] at e66
        rw [i_shr30 hX] at ec'
        subst ec'
        rw [nI_1] at ei'
        subst ei'
        have hmod : X % BB < BB := Nat.mod_lt _ (by decide)
        have hdgi : dg h66 (o + 1) i = X % BB := dg_of (by rw [e66, gi_s]) (lt31 hmod)
        have hdgn : ∀ j, j ≠ i → gi h66 (o + 1) j = gi g (o + 1) j := fun j hj => by rw [e66, gi_k hj]
        refine ih (i + 1) _ h66 (by omega) (by omega) (by have : X / BB < 2 := Nat.div_lt_of_lt_mul (by omega); omega) (by rw [e66, gi_c (by omega)]; exact e1) (fun j hj => ?_) (fun j hj => ?_) ?_ (h5.trans (e66 ▸ frm.si bS2))
        · by_cases ej : j = i
          · rw [ej, hdgi]
            exact ⟨by rw [e66, gi_s], hmod⟩
          · rw [hdgn j ej, dg_eq (hdgn j ej)]
            exact h2 j hj
        · rw [hdgn j (by omega)]
          exact h3 j (by omega)
        · rw [nv_succ, nv_succ, nv_succ, hdgi, nv_congr (fun j hj => dg_eq (hdgn j (by omega))), BB_succ]
          have hdm := Nat.div_add_mod X BB
          generalize X / BB = A at *
          generalize X % BB = B at *
          generalize BB ^ i = z at *
          generalize nv (dg g (o + 1)) i = s1 at *
          generalize nv (pad (dg h (o + 1)) (szB h o)) i = s2 at *
          generalize nv (pad (dg h (a + 1)) (szB h a)) i = s3 at *
          generalize pad (dg h (o + 1)) (szB h o) i = d1 at *
          generalize pad (dg h (a + 1)) (szB h a) i = d2 at *
          subst hxe
          grind
      rw [esg]
      refine ⟨fun c2 => ?_, fun c2 => ⟨vp_in_nI ?_ (by omega), ?_⟩⟩
      · have := (nI_leI (by omega) (by omega)).mp c2
        have e : pad (dg h (a + 1)) (szB h a) i = 0 := if_neg (by omega)
        rw [e, nI_0] at fin
        exact fin
      · have : i < szB h a := by
          rcases Nat.lt_or_ge i (szB h a) with x | x
          · exact x
          · exact absurd (nI_le x (by omega)) c2
        omega
      · have hi2 : i < szB h a := by
          rcases Nat.lt_or_ge i (szB h a) with x | x
          · exact x
          · exact absurd (nI_le x (by omega)) c2
        have e : pad (dg h (a + 1)) (szB h a) i = dg h (a + 1) i := if_pos hi2
        rw [nI_clamp (by omega), erow, (hc.2.2.1 i hi2).1, ← e]
        exact fin
  exact key _ 0 0 h1 rfl (Nat.zero_le _) (by omega) g1 (fun i hi => by
    have h6 := hd1 i hi
    rw [dg_of h6.1 (lt31 h6.2)]
    exact h6) (fun _ _ => rfl) rfl g8
