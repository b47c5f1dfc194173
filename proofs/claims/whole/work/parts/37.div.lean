/-! ===== divide ===== -/
theorem est {A c e r D t : Nat} (hA1 : A * e ≤ r) (hA2 : r < (A + 1) * e) (hc : 1 ≤ c) (hD1 : c * e ≤ D) (hD2 : D < (c + 1) * e) (hge : A / (c + 1) = 0 → D ≤ r) (ht : t = if A / (c + 1) = 0 then 1 else A / (c + 1)) : t * D ≤ r ∧ r ≤ 4 * (t * D) := by
  by_cases h0 : A / (c + 1) = 0
  · rw [if_pos h0] at ht
    subst ht
    have hAc : A < c + 1 := by
      rcases Nat.lt_or_ge A (c + 1) with x | x
      · exact x
      · have := Nat.div_pos x (by omega)
        omega
    have h1 : (A + 1) * e ≤ (2 * c) * e := Nat.mul_le_mul_right _ (by omega)
    rw [Nat.mul_assoc] at h1
    have := hge h0
    omega
  · rw [if_neg h0] at ht
    have hq : t * (c + 1) ≤ A := by rw [ht]; exact Nat.div_mul_le_self _ _
    have hq2 : A < (t + 1) * (c + 1) := by
      have h1 := Nat.lt_mul_div_succ A (show 0 < c + 1 by omega)
      rw [← ht] at h1
      rw [Nat.mul_comm]
      exact h1
    have ht1 : 1 ≤ t := by omega
    refine ⟨?_, ?_⟩
    · have h1 : t * D ≤ t * ((c + 1) * e) := Nat.mul_le_mul_left _ (by omega)
      have h2 : t * (c + 1) * e ≤ A * e := Nat.mul_le_mul_right _ hq
      rw [Nat.mul_assoc] at h2
      omega
    · have h1 : (A + 1) * e ≤ ((t + 1) * (c + 1)) * e := Nat.mul_le_mul_right _ hq2
      have h2 : (t + 1) * (c + 1) ≤ (2 * t) * (2 * c) := Nat.mul_le_mul (by omega) (by omega)
      have h3 : ((t + 1) * (c + 1)) * e ≤ ((2 * t) * (2 * c)) * e := Nat.mul_le_mul_right _ h2
      have h4 : ((2 * t) * (2 * c)) * e = 4 * (t * (c * e)) := by grind
      have h5 : t * (c * e) ≤ t * D := Nat.mul_le_mul_left _ hD1
      omega
theorem top_1 {F : Nat → Nat} {n : Nat} (h : ∀ i, i < n + 1 → F i < BB) : F n * BB ^ n ≤ nv F (n + 1) ∧ nv F (n + 1) < (F n + 1) * BB ^ n := by
  rw [nv_succ]
  have h1 := nv_lt (F := F) (n := n) (fun i hi => h i (by omega))
  rw [Nat.add_mul, Nat.one_mul]
  omega
theorem top_2 {F : Nat → Nat} {n : Nat} (h : ∀ i, i < n + 2 → F i < BB) : (F (n + 1) * BB + F n) * BB ^ n ≤ nv F (n + 2) ∧ nv F (n + 2) < (F (n + 1) * BB + F n + 1) * BB ^ n := by
  rw [nv_succ, nv_succ, BB_succ]
  have h1 := nv_lt (F := F) (n := n) (fun i hi => h i (by omega))
  generalize BB ^ n = z at *
  generalize nv F n = s at *
  have e1 : (F (n + 1) * BB + F n) * z = F n * z + F (n + 1) * (z * BB) := by grind
  have e2 : (F (n + 1) * BB + F n + 1) * z = F n * z + F (n + 1) * (z * BB) + z := by grind
  omega
theorem pot : ∀ (j k : Nat), 3 * j ≤ k → 2 ^ j * 3 ^ k ≤ 4 ^ k
  | 0, k, _ => by
    rw [Nat.pow_zero, Nat.one_mul]
    exact Nat.pow_le_pow_left (by decide) k
  | j + 1, k, h => by
    obtain ⟨m, rfl⟩ : ∃ m, k = m + 3 := ⟨k - 3, by omega⟩
    have ih := pot j m (by omega)
    have e1 : (2 : Nat) ^ (j + 1) * 3 ^ (m + 3) = 54 * (2 ^ j * 3 ^ m) := by
      rw [Nat.pow_succ, Nat.pow_add 3 m 3]
      generalize (2 : Nat) ^ j = a
      generalize (3 : Nat) ^ m = b
      show a * 2 * (b * 27) = _
      grind
    have e2 : (4 : Nat) ^ (m + 3) = 64 * 4 ^ m := by
      rw [Nat.pow_add 4 m 3]
      generalize (4 : Nat) ^ m = b
      show b * 64 = _
      grind
    rw [e1, e2]
    omega
theorem BB32 : BB ^ 32 = 2 ^ 960 := by decide +kernel
theorem lN_lit1 : (1 : Int64) = lN 1 := by decide +kernel
theorem maxlem {x : Nat} (hx : x < BB) : (if (1 : Int64) < lN x then lN x else 1) = lN (if x = 0 then 1 else x) := by
  have hB : BB = 1073741824 := rfl
  rw [lN_lit1]
  by_cases h : 1 < x
  · rw [if_pos ((pk_lLT (by omega) (by omega)).mpr h), if_neg (by omega)]
  · rw [if_neg (fun y => h ((pk_lLT (by omega) (by omega)).mp y))]
    congr 1
    split <;> omega
def dS (o q : Nat) : Nat → Prop := fun c => bS o c ∨ bS q c
theorem l_div {a b : Nat} (ha : a < 2 ^ 63) (h0 : 0 < b) (hb : b < 2 ^ 63) : lN a / lN b = lN (a / b) := pk_lDiv ha h0 hb
theorem lN_ne0 {a : Nat} (h0 : a ≠ 0) (ha : a < 2 ^ 63) : ¬ lN a = 0 := fun e => by
  rw [lN_lit0] at e
  exact h0 ((pk_lEQ ha (by omega)).mp e)
theorem s_divide {o a q R D : Nat} {h : Hs} {Q : Hs → Prop} (hk : kX o = 1) (ka : kX a = 1) (kq : kX q = 1) (hoa : o ≠ a) (hoq : o ≠ q) (haq : a ≠ q) (hb : BV h o R) (hc : BV h a D) (hD0 : D ≠ 0) (hfit : R < BB ^ lX (q + 1)) (hQ : ∀ h', BV h' o (R % D) → BV h' q (R / D) → frm (dS o q) h h' → Q h') : p_Big_divide o a q h Q := by
  have hR := room_le hk
  have hRa := room_le ka
  have hRq := room_le kq
  have n1 := kne hk ka
  have n2 := kne ka hk
  have n3 := kne hk kq
  have n4 := kne kq hk
  have n5 := kne ka kq
  have n6 := kne kq ka
  have hBB : BB = 1073741824 := rfl
  have hR960 : R < 2 ^ 960 := by
    rw [← BB32]
    exact Nat.lt_of_lt_of_le hfit (Nat.pow_le_pow_right (by decide) hRq.2)
  have nota : ∀ x, dS o q x → x ≠ a ∧ x ≠ a + 1 := fun x hx => by rcases hx with (hx | hx) | (hx | hx) <;> omega
  have qo : ∀ x, bS q x → x ≠ o ∧ x ≠ o + 1 := fun x hx => by rcases hx with hx | hx <;> omega
  have oq : ∀ x, bS o x → x ≠ q ∧ x ≠ q + 1 := fun x hx => by rcases hx with hx | hx <;> omega
  unfold p_Big_divide
  rw [lN_lit0]
  refine s_become kq (by omega) (fun h2 hq0 f2 => ?_)
  have hb2 : BV h2 o R := hb.frm f2 (fun x => (qo _ x).1 rfl) (fun x => (qo _ x).2 rfl)
  intro P7 hP7
  have key : ∀ (n r u k : Nat) (g : Hs), r ≤ n → k ≤ 1000000 → BV g o r → BV g q u → r + u * D = R → r * 4 ^ k ≤ R * 3 ^ k → frm (dS o q) h g → P7 (nI k) g := by
    intro n
    induction n with
    | zero =>
      intro r u k g hrn hkm hbo hbq hru hpot hf
      have hr0 : r = 0 := by omega
      subst hr0
      have hca : BV g a D := hc.frm hf (fun x => (nota _ x).1 rfl) (fun x => (nota _ x).2 rfl)
      have hdv : R / D = u ∧ R % D = 0 := by
        rw [← hru, Nat.zero_add]
        exact ⟨Nat.mul_div_cancel _ (by omega), Nat.mul_mod_left _ _⟩
      apply hP7
      intro P146 h146
      have fin : P146 := h146 (hQ g (by rw [hdv.2]; exact hbo) (by rw [hdv.1]; exact hbq) hf)
      refine ⟨fun _ => fin, fun _ => s_isZero ka hca (fun e => absurd e hD0) (fun _ => ?_)⟩
      refine ⟨fun c => absurd rfl c, fun _ => s_isBelow hk ka hbo hca (fun _ => ⟨fun _ => fin, fun c => absurd c (by decide)⟩) (fun hle => ?_)⟩
      omega
    | succ n ih =>
      intro r u k g hrn hkm hbo hbq hru hpot hf
      have hca : BV g a D := hc.frm hf (fun x => (nota _ x).1 rfl) (fun x => (nota _ x).2 rfl)
      by_cases hrD : r < D
      · have hdv : R / D = u ∧ R % D = r := by
          rw [← hru]
          exact ⟨by rw [Nat.add_mul_div_right _ _ (by omega), Nat.div_eq_of_lt hrD, Nat.zero_add], by rw [Nat.add_mul_mod_self_right, Nat.mod_eq_of_lt hrD]⟩
        apply hP7
        intro P146 h146
        have fin : P146 := h146 (hQ g (by rw [hdv.2]; exact hbo) (by rw [hdv.1]; exact hbq) hf)
        refine ⟨fun _ => fin, fun _ => s_isZero ka hca (fun e => absurd e hD0) (fun _ => ?_)⟩
        refine ⟨fun c => absurd rfl c, fun _ => s_isBelow hk ka hbo hca (fun _ => ⟨fun _ => fin, fun c => absurd c (by decide)⟩) (fun hle => ?_)⟩
        omega
      · have hle : D ≤ r := by omega
        have hk6 : k < 1000000 := by
          rcases Nat.lt_or_ge k 3000 with x | x
          · omega
          · exfalso
            have h1 := pot 960 k (by omega)
            have h2 : 4 ^ k ≤ r * 4 ^ k := Nat.le_mul_of_pos_left _ (by omega)
            have h3 : R * 3 ^ k < 2 ^ 960 * 3 ^ k := Nat.mul_lt_mul_of_pos_right hR960 (Nat.pow_pos (by decide))
            omega
        clear hR960
        have hrz : r ≠ 0 := by omega
        -- sizes and highest digits
        have so := hbo.2.1
        have sa := hca.2.1
        have hno : szB g o ≠ 0 := fun e => hrz (hbo.zero.mp e)
        have hna : szB g a ≠ 0 := fun e => hD0 (hca.zero.mp e)
        obtain ⟨N, hN⟩ : ∃ N, szB g o = N + 1 := ⟨szB g o - 1, by omega⟩
        obtain ⟨M, hM⟩ : ∃ M, szB g a = M + 1 := ⟨szB g a - 1, by omega⟩
        have hdo : ∀ i, i < N + 1 → dg g (o + 1) i < BB := fun i hi => (hbo.2.2.1 i (by omega)).2
        have hda : ∀ i, i < M + 1 → dg g (a + 1) i < BB := fun i hi => (hca.2.2.1 i (by omega)).2
        have vo : nv (dg g (o + 1)) (N + 1) = r := by rw [← hN]; exact hbo.2.2.2.2
        have va : nv (dg g (a + 1)) (M + 1) = D := by rw [← hM]; exact hca.2.2.2.2
        have tao : dg g (a + 1) M ≠ 0 := by
          rcases hca.2.2.2.1 with x | x
          · omega
          · rw [hM, Nat.add_sub_cancel] at x
            exact x
        have too : dg g (o + 1) N ≠ 0 := by
          rcases hbo.2.2.2.1 with x | x
          · omega
          · rw [hN, Nat.add_sub_cancel] at x
            exact x
        have hMN : M ≤ N := by
          have h1 := nv_ge (F := dg g (a + 1)) (n := M) tao
          rw [va] at h1
          have h2 := nv_lt hdo
          rw [vo] at h2
          rcases Nat.lt_or_ge N M with x | x
          · have : BB ^ (N + 1) ≤ BB ^ M := Nat.pow_le_pow_right (by decide) x
            omega
          · exact x
        have bo := top_1 hdo
        have ba := top_1 hda
        rw [vo] at bo
        rw [va] at ba
        have ro := hdo N (by omega)
        have ra := hda M (by omega)
        apply hP7
        intro P146 h146
        refine ⟨fun c => absurd ((nI_leI (a := 1000000) (by omega) (by omega)).mp c) (by omega), fun _ => s_isZero ka hca (fun e => absurd e hD0) (fun _ => ?_)⟩
        refine ⟨fun c => absurd rfl c, fun _ => s_isBelow hk ka hbo hca (fun x => absurd x (by omega)) (fun _ => ?_)⟩
        refine ⟨fun c => absurd rfl c, fun _ => ?_⟩
        intro a4 e4
        have ego : gi g o 1 = nI (N + 1) := by rw [hbo.1, hN]
        have ega : gi g a 1 = nI (M + 1) := by rw [hca.1, hM]
        rw [ego, ega, pk_sub (by omega), show N + 1 - (M + 1) = N - M by omega] at e4
        subst e4
        rw [ego, nI_pred]
        refine s_digit hk hbo (by omega) ?_
        intro a5 e5
        rw [nI_l (lt31 ro)] at e5
        subst e5
        rw [ega, nI_pred]
        refine s_digit ka hca (by omega) ?_
        intro a7 e7
        rw [nI_l (lt31 ra), lN_1] at e7
        subst e7
        intro P122 hP122
        have fin : ∀ s t : Nat, 1 ≤ t → t < BB → s + (M + 1) ≤ N + 1 → t * (D * BB ^ s) ≤ r → r ≤ 4 * (t * (D * BB ^ s)) → P122 (nI s) (lN t) := by
          intro s t ht1 htB hsM hle1 hle2
          have hass : t * D * BB ^ s = t * (D * BB ^ s) := Nat.mul_assoc _ _ _
          apply hP122
          refine s_takeAway hk ka hoa hbo hca htB (by omega) (by rw [hass]; exact hle1) (fun h128 hB1 hF1 => ?_)
          rw [hass] at hB1
          rw [lN_i]
          have hbq1 : BV h128 q u := hbq.frm hF1 (fun x => (oq _ x).1 rfl) (fun x => (oq _ x).2 rfl)
          have hsum : (u + t * BB ^ s) * D + (r - t * (D * BB ^ s)) = R := by
            have e9 : (u + t * BB ^ s) * D = u * D + t * (D * BB ^ s) := by
              generalize BB ^ s = z
              grind
            omega
          have hfit2 : u + t * BB ^ s < BB ^ lX (q + 1) := by
            have : u + t * BB ^ s ≤ (u + t * BB ^ s) * D := Nat.le_mul_of_pos_right _ (by omega)
            omega
          refine s_raise kq hbq1 htB (by omega) hfit2 (fun h137 hB2 hF2 => ?_)
          intro a3 e3
          rw [nI_1] at e3
          subst e3
          have hpos : 1 ≤ t * (D * BB ^ s) := Nat.mul_pos ht1 (Nat.mul_pos (by omega) (BB_pos s))
          refine ih (r - t * (D * BB ^ s)) (u + t * BB ^ s) (k + 1) h137 (by omega) (by omega) (hB1.frm hF2 (fun x => (qo _ x).1 rfl) (fun x => (qo _ x).2 rfl)) hB2 (by omega) ?_ ((hf.trans (hF1.mono (fun _ x => Or.inl x))).trans (hF2.mono (fun _ x => Or.inr x)))
          have h5 : 4 * (r - t * (D * BB ^ s)) ≤ 3 * r := by omega
          rw [Nat.pow_succ, Nat.pow_succ]
          generalize r - t * (D * BB ^ s) = r2 at *
          generalize (4 : Nat) ^ k = x4 at *
          generalize (3 : Nat) ^ k = x3 at *
          have h6 : 4 * r2 * x4 ≤ 3 * r * x4 := Nat.mul_le_mul_right _ h5
          have h7 : r2 * (x4 * 4) = 4 * r2 * x4 := by grind
          have h8 : R * (x3 * 3) = 3 * (R * x3) := by grind
          have h9 : 3 * r * x4 = 3 * (r * x4) := by grind
          omega
        have eS : ∀ s, D * BB ^ s = BB ^ s * D := fun s => Nat.mul_comm _ _
        refine ⟨fun c => ⟨fun c2 => ?_, fun c2 => ?_⟩, fun c => ?_⟩
        · -- the highest digit is too small: one digit lower
          have hNM : M < N := by
            rcases Nat.lt_or_ge M N with x | x
            · exact x
            · exact absurd (by rw [show N - M = 0 by omega, nI_0]) c
          have c2 := (pk_lLT (by omega) (by omega)).mp (cmp_lt0.mp c2)
          intro a4' e4'
          obtain ⟨N1, hN1⟩ : ∃ N1, N = N1 + 1 := ⟨N - 1, by omega⟩
          rw [show N - M = (N1 - M) + 1 by omega, nI_m1] at e4'
          subst e4'
          refine s_topTwo hk hbo hrz ⟨lN_ne0 (by omega) (by omega), ?_⟩
          have e2 : top2 g o = dg g (o + 1) N * BB + dg g (o + 1) N1 := by
            unfold top2
            rw [hN, if_neg (by omega), show N + 1 - 1 = N by omega, show N + 1 - 2 = N1 by omega]
          have b2 := top_2 (F := dg g (o + 1)) (n := N1) (fun i hi => hdo i (by omega))
          rw [← hN1, show N1 + 2 = N + 1 by omega, vo, ← e2] at b2
          have r1 := hdo N1 (by omega)
          have hA : top2 g o < (dg g (a + 1) M + 1) * BB := by
            rw [e2]
            have : dg g (o + 1) N * BB ≤ dg g (a + 1) M * BB := Nat.mul_le_mul_right _ (by omega)
            rw [Nat.add_mul]
            omega
          have hA2 : top2 g o < 2 ^ 63 := by
            have : (dg g (a + 1) M + 1) * BB ≤ BB * BB := Nat.mul_le_mul_right _ (by omega)
            rw [BB2] at this
            omega
          intro a9 e9
          rw [l_div hA2 (by omega) (by omega)] at e9
          subst e9
          have hq0 : top2 g o / (dg g (a + 1) M + 1) ≠ 0 := by
            have h1 : BB ≤ top2 g o := by
              rw [e2]
              exact Nat.le_trans (Nat.le_mul_of_pos_left BB (Nat.pos_of_ne_zero too)) (Nat.le_add_right _ _)
            have := Nat.div_pos (show dg g (a + 1) M + 1 ≤ top2 g o by omega) (by omega)
            omega
          have ee : BB ^ M * BB ^ (N1 - M) = BB ^ N1 := by rw [← Nat.pow_add]; congr 1; omega
          have hd1 : dg g (a + 1) M * BB ^ N1 ≤ D * BB ^ (N1 - M) := by
            rw [← ee, ← Nat.mul_assoc]
            exact Nat.mul_le_mul_right _ ba.1
          have hd2 : D * BB ^ (N1 - M) < (dg g (a + 1) M + 1) * BB ^ N1 := by
            rw [← ee, ← Nat.mul_assoc]
            exact Nat.mul_lt_mul_of_pos_right ba.2 (BB_pos _)
          have hest := est (t := top2 g o / (dg g (a + 1) M + 1)) b2.1 b2.2 (by omega) hd1 hd2 (fun x => absurd x hq0) (by rw [if_neg hq0])
          exact fin (N1 - M) _ (Nat.pos_of_ne_zero hq0) (Nat.div_lt_of_lt_mul (by rw [Nat.mul_comm] at hA; rw [Nat.mul_comm]; exact hA)) (by omega) hest.1 hest.2
        · have hNM : M < N := by
            rcases Nat.lt_or_ge M N with x | x
            · exact x
            · exact absurd (by rw [show N - M = 0 by omega, nI_0]) c
          have c2 : ¬ dg g (o + 1) N < dg g (a + 1) M + 1 := fun x => c2 (cmp_lt0.mpr ((pk_lLT (by omega) (by omega)).mpr x))
          refine ⟨lN_ne0 (by omega) (by omega), ?_⟩
          intro a9 e9
          rw [l_div (by omega) (by omega) (by omega)] at e9
          subst e9
          have hq0 : dg g (o + 1) N / (dg g (a + 1) M + 1) ≠ 0 := by
            have := Nat.div_pos (show dg g (a + 1) M + 1 ≤ dg g (o + 1) N by omega) (by omega)
            omega
          have ee : BB ^ M * BB ^ (N - M) = BB ^ N := by rw [← Nat.pow_add]; congr 1; omega
          have hd1 : dg g (a + 1) M * BB ^ N ≤ D * BB ^ (N - M) := by
            rw [← ee, ← Nat.mul_assoc]
            exact Nat.mul_le_mul_right _ ba.1
          have hd2 : D * BB ^ (N - M) < (dg g (a + 1) M + 1) * BB ^ N := by
            rw [← ee, ← Nat.mul_assoc]
            exact Nat.mul_lt_mul_of_pos_right ba.2 (BB_pos _)
          have hest := est (t := dg g (o + 1) N / (dg g (a + 1) M + 1)) bo.1 bo.2 (by omega) hd1 hd2 (fun x => absurd x hq0) (by rw [if_neg hq0])
          exact fin (N - M) _ (Nat.pos_of_ne_zero hq0) (Nat.lt_of_le_of_lt (Nat.div_le_self _ _) ro) (by omega) hest.1 hest.2
        · -- both are as long
          have hNM : N = M := by
            rw [← nI_0] at c
            have := (nI_eq (by omega) (by omega)).mp c
            omega
          subst hNM
          refine s_topTwo hk hbo hrz (s_topTwo ka hca hD0 ?_)
          have hto : top2 g o < BB * BB := by
            unfold top2
            rw [hN, show N + 1 - 1 = N by omega]
            have h1 : dg g (o + 1) N * BB ≤ (BB - 1) * BB := Nat.mul_le_mul_right _ (by omega)
            have h2 : (BB - 1) * BB + BB = BB * BB := by decide +kernel
            split
            · omega
            · have := hdo (N + 1 - 2) (by omega)
              omega
          have hta : top2 g a < BB * BB := by
            unfold top2
            rw [hM, show N + 1 - 1 = N by omega]
            have h1 : dg g (a + 1) N * BB ≤ (BB - 1) * BB := Nat.mul_le_mul_right _ (by omega)
            have h2 : (BB - 1) * BB + BB = BB * BB := by decide +kernel
            split
            · omega
            · have := hda (N + 1 - 2) (by omega)
              omega
          have hta1 : BB ≤ top2 g a := by
            unfold top2
            rw [hM, show N + 1 - 1 = N by omega]
            exact Nat.le_trans (Nat.le_mul_of_pos_left BB (Nat.pos_of_ne_zero tao)) (Nat.le_add_right _ _)
          rw [BB2] at hto hta
          rw [lN_1]
          refine ⟨lN_ne0 (by omega) (by omega), ?_⟩
          intro a9 e9
          rw [l_div (by omega) (by omega) (by omega)] at e9
          have hqlt : top2 g o / (top2 g a + 1) < BB := Nat.div_lt_of_lt_mul (by
            have : BB * BB ≤ (top2 g a + 1) * BB := Nat.mul_le_mul_right _ (by omega)
            rw [BB2] at this
            omega)
          have e9' : a9 = lN (if top2 g o / (top2 g a + 1) = 0 then 1 else top2 g o / (top2 g a + 1)) := by
            rw [e9]
            exact maxlem hqlt
          rw [e9', show N - N = 0 by omega]
          have hest : (if top2 g o / (top2 g a + 1) = 0 then 1 else top2 g o / (top2 g a + 1)) * D ≤ r ∧ r ≤ 4 * ((if top2 g o / (top2 g a + 1) = 0 then 1 else top2 g o / (top2 g a + 1)) * D) := by
            cases N with
            | zero =>
              have eo : top2 g o = r * BB := by
                unfold top2
                rw [hN, if_pos rfl, ← vo]
                show dg g (o + 1) 0 * BB + 0 = (0 + dg g (o + 1) 0 * 1) * BB
                rw [Nat.add_zero, Nat.zero_add, Nat.mul_one]
              have ea : top2 g a = D * BB := by
                unfold top2
                rw [hM, if_pos rfl, ← va]
                show dg g (a + 1) 0 * BB + 0 = (0 + dg g (a + 1) 0 * 1) * BB
                rw [Nat.add_zero, Nat.zero_add, Nat.mul_one]
              have h5 := est (A := top2 g o) (c := top2 g a) (e := 1) (r := r * BB) (D := D * BB) (t := if top2 g o / (top2 g a + 1) = 0 then 1 else top2 g o / (top2 g a + 1)) (by rw [eo, Nat.mul_one]; exact Nat.le_refl _) (by rw [eo, Nat.mul_one]; exact Nat.lt_succ_self _) (Nat.le_trans (by decide) hta1) (by rw [ea, Nat.mul_one]; exact Nat.le_refl _) (by rw [ea, Nat.mul_one]; exact Nat.lt_succ_self _) (fun _ => Nat.mul_le_mul_right _ hle) rfl
              generalize (if top2 g o / (top2 g a + 1) = 0 then 1 else top2 g o / (top2 g a + 1)) = t at *
              rw [← Nat.mul_assoc] at h5
              refine ⟨Nat.le_of_mul_le_mul_right h5.1 (by decide), ?_⟩
              have h6 : r * BB ≤ 4 * (t * D) * BB := by rw [Nat.mul_assoc]; exact h5.2
              exact Nat.le_of_mul_le_mul_right h6 (by decide)
            | succ N1 =>
              have eo : top2 g o = dg g (o + 1) (N1 + 1) * BB + dg g (o + 1) N1 := by
                unfold top2
                rw [hN, if_neg (by omega), show N1 + 1 + 1 - 1 = N1 + 1 by omega, show N1 + 1 + 1 - 2 = N1 by omega]
              have ea : top2 g a = dg g (a + 1) (N1 + 1) * BB + dg g (a + 1) N1 := by
                unfold top2
                rw [hM, if_neg (by omega), show N1 + 1 + 1 - 1 = N1 + 1 by omega, show N1 + 1 + 1 - 2 = N1 by omega]
              have b2 : top2 g o * BB ^ N1 ≤ r ∧ r < (top2 g o + 1) * BB ^ N1 := by
                rw [eo, ← vo]
                exact top_2 hdo
              have c2 : top2 g a * BB ^ N1 ≤ D ∧ D < (top2 g a + 1) * BB ^ N1 := by
                rw [ea, ← va]
                exact top_2 hda
              exact est b2.1 b2.2 (by omega) c2.1 c2.2 (fun _ => hle) rfl
          have hp : D * BB ^ 0 = D := by rw [Nat.pow_zero, Nat.mul_one]
          refine fin 0 _ ?_ ?_ (by omega) (by rw [hp]; exact hest.1) (by rw [hp]; exact hest.2)
          · split
            · exact Nat.le_refl _
            · rename_i hz
              exact Nat.pos_of_ne_zero hz
          · split
            · decide
            · exact hqlt
  exact key R R 0 0 h2 (Nat.le_refl _) (Nat.zero_le _) hb2 hq0 (by rw [Nat.zero_mul]; rfl) (Nat.le_refl _) (f2.mono (fun _ x => Or.inr x))
