/-! ===== the reference's numbers: the greatest divisor, division, telling ===== -/
def gS : Nat → Prop := fun j => j = 8 ∨ j = 9 ∨ j = 10
theorem co2 {y : Nat} (h : y % 2 = 1) : Nat.Coprime 2 y := by
  show Nat.gcd 2 y = 1
  rw [Nat.gcd_rec, h]
  decide
theorem gcd_hl {x y : Nat} (hx : x % 2 = 0) (hy : y % 2 = 1) : Nat.gcd (x / 2) y = Nat.gcd x y := by
  have e : x = 2 * (x / 2) := by omega
  have := (co2 hy).gcd_mul_left_cancel (x / 2)
  rw [← e] at this
  exact this.symm
theorem gcd_hr {x y : Nat} (hx : x % 2 = 1) (hy : y % 2 = 0) : Nat.gcd x (y / 2) = Nat.gcd x y := by
  rw [Nat.gcd_comm, gcd_hl hy hx, Nat.gcd_comm]
theorem gcd_hh {x y : Nat} (hx : x % 2 = 0) (hy : y % 2 = 0) : 2 * Nat.gcd (x / 2) (y / 2) = Nat.gcd x y := by
  rw [← Nat.gcd_mul_left]
  congr 1 <;> omega
theorem two62 : BB ^ 62 = 2 ^ 1860 := by decide +kernel
theorem g8 : gS 8 := Or.inl rfl
theorem g9 : gS 9 := Or.inr (Or.inl rfl)
theorem g10 : gS 10 := Or.inr (Or.inr rfl)
theorem mfr.up {S : Nat → Prop} {s : Nat} {h h' : Hs} (f : mfr (eS s) h h') (hs : S s) : mfr S h h' := f.mono (fun c e => (show c = s from e) ▸ hs)
theorem neS {s t : Nat} (h : t ≠ s) : ¬ eS s t := h
theorem szR0 {g : Hs} {s y : Nat} (hb : RV g s y) : gi g 6 s ≤ 0 ↔ y = 0 := by
  have hz := hb.2.1
  rw [hb.1, ← hb.zero]
  constructor
  · intro c
    rw [← nI_0] at c
    have := (nI_leI (by omega) (by omega)).mp c
    omega
  · intro e
    rw [e, nI_0]
    exact Int32.le_refl 0
theorem r_findDivisor {a b v w : Nat} {a1 a2 : Int32} {h : Hs} {Q : Hs → Prop} (e1 : a1 = nI a) (e2 : a2 = nI b) (ha : a < 12) (hb : b < 12) (na : ¬ gS a) (nb : ¬ gS b) (hv : RV h a v) (hw : RV h b w) (v0 : 0 < v) (w0 : 0 < w) (vB : v < BB ^ 62) (hQ : ∀ h', RV h' 8 (Nat.gcd v w) → mfr gS h h' → Q h') : p_M_findDivisor a1 a2 h Q := by
  unfold p_M_findDivisor
  refine r_copy (s := 8) (a := a) rfl e1 (by omega) ha (fun e => na (e ▸ g8)) hv (fun h4 v4 f4 => ?_)
  refine r_copy (s := 9) (a := b) rfl e2 (by omega) hb (fun e => nb (e ▸ g9)) (hw.mfr f4 (neS (fun e => nb (e ▸ g8)))) (fun h11 v11 f11 => ?_)
  have v11' : RV h11 8 v := v4.mfr f11 (neS (by omega))
  have F11 : mfr gS h h11 := (f4.up g8).trans (f11.up g9)
  have hGle : Nat.gcd v w ≤ v := Nat.gcd_le_left _ v0
  intro P16 h16
  have k16 : ∀ (k t x y : Nat) (g : Hs), x ≤ k → RV g 8 x → RV g 9 y → 0 < x → 0 < y → Nat.gcd v w = 2 ^ t * Nat.gcd x y → mfr gS h g → P16 (nI t) g := by
    intro k
    induction k with
    | zero => intro t x y g hk _ _ hx; omega
    | succ k ih16 =>
      intro t x y g hk rx ry hx hy hG f
      have ht : t < 1860 := by
        have h1 : 0 < Nat.gcd x y := Nat.gcd_pos_of_pos_left _ hx
        have h2 : 2 ^ t ≤ 2 ^ t * Nat.gcd x y := Nat.le_mul_of_pos_right _ h1
        rw [two62] at vB
        have h3 : 2 ^ t < 2 ^ 1860 := by omega
        exact (Nat.pow_lt_pow_iff_right (by decide)).mp h3
      apply h16
      -- what is done once not both are even
      have odd : (x % 2 = 1 ∨ y % 2 = 1) → ∀ (P52 : Hs → Prop), (∀ (g_52 : Hs), (∀ P_62 : Hs → Prop, (∀ (g_62 : Hs), (p_M_isEven 8 g_62 (fun r_65 => ∀ P_80 : Hs → Prop, (∀ (g_80 : Hs), (p_M_isEven 9 g_80 (fun r_83 => (r_83 = 0 → (p_M_compare 8 9 g_80 (fun r_103 => ∀ P_133 : Hs → Prop, (∀ (g_133 : Hs), (p_M_take 9 8 g_133 (fun h_138 => P52 h_138)) → P_133 g_133) → (r_103 ≤ 0 → (P_133 g_80)) ∧ (¬ r_103 ≤ 0 → (p_M_copy 10 8 g_80 (fun h_114 => p_M_copy 8 9 h_114 (fun h_122 => p_M_copy 9 10 h_122 (fun h_130 => P_133 h_130)))))))) ∧ (¬ r_83 = 0 → (p_M_halve 9 g_80 (fun h_92 => P_80 h_92))))) → P_80 g_80) → (r_65 = 0 → (P_80 g_62)) ∧ (¬ r_65 = 0 → (p_M_halve 8 g_62 (fun h_74 => P_62 h_74))))) → P_62 g_62) → ((gi g_52 6 9) ≤ 0 → (∀ P_147 : Int32 → Hs → Prop, (∀ (b4_147 : Int32) (g_147 : Hs), ((nI t ≤ b4_147 → (Q g_147)) ∧ (¬ nI t ≤ b4_147 → (p_M_times 8 2 g_147 (fun h_159 => ∀ a4_162 : Int32, a4_162 = b4_147 + 1 → P_147 a4_162 h_159)))) → P_147 b4_147 g_147) → P_147 0 g_52)) ∧ (¬ (gi g_52 6 9) ≤ 0 → (P_62 g_52))) → P52 g_52) → P52 g := by
        intro hodd P52 h52
        have k52 : ∀ (k x y : Nat) (g : Hs), x + y ≤ k → RV g 8 x → RV g 9 y → 0 < x → (x % 2 = 1 ∨ y % 2 = 1) → Nat.gcd v w = 2 ^ t * Nat.gcd x y → mfr gS h g → P52 g := by
          intro k
          induction k with
          | zero => intro x y g hk _ _ hx; omega
          | succ k ih52 =>
            intro x y g hk rx ry hx ho hG f
            apply h52
            intro P62 h62
            refine ⟨fun c => ?_, fun c => ?_⟩
            · have hy0 : y = 0 := (szR0 ry).mp c
              subst hy0
              rw [Nat.gcd_zero_right] at hG
              intro P147 h147
              have k147 : ∀ (k i : Nat) (g : Hs), t - i = k → i ≤ t → RV g 8 (2 ^ i * x) → mfr gS h g → P147 (nI i) g := by
                intro k
                induction k with
                | zero =>
                  intro i g hk hi r1 f1
                  have : i = t := by omega
                  subst this
                  apply h147
                  refine ⟨fun _ => hQ g (by rw [hG]; exact r1) f1, fun c => absurd (nI_le (Nat.le_refl _) (by omega)) c⟩
                | succ k ih =>
                  intro i g hk hi r1 f1
                  apply h147
                  refine ⟨fun c => absurd ((nI_leI (by omega) (by omega)).mp c) (by omega), fun _ => ?_⟩
                  have hle : 2 ^ i * x < BB ^ 62 := by
                    have h1 : 2 ^ i ≤ 2 ^ t := Nat.pow_le_pow_right (by decide) hi
                    have h2 : 2 ^ i * x ≤ 2 ^ t * x := Nat.mul_le_mul_right _ h1
                    omega
                  refine r_times (s := 8) (f := 2) rfl rfl (by omega) r1 (by decide) hle (fun h' r2 f2 => ?_)
                  intro i' ei'
                  rw [nI_1] at ei'
                  subst ei'
                  refine ih (i + 1) h' (by omega) (by omega) ?_ (f1.trans (f2.up g8))
                  have e : 2 ^ i * x * 2 = 2 ^ (i + 1) * x := by
                    rw [Nat.pow_succ]
                    grind
                  rw [← e]
                  exact r2
              rw [nI_lit0]
              exact k147 _ 0 g rfl (Nat.zero_le _) (by rw [Nat.pow_zero, Nat.one_mul]; exact rx) f
            · have hy0 : y ≠ 0 := fun e => c ((szR0 ry).mpr e)
              have k62 : ∀ (k2 x' : Nat) (g : Hs), x' ≤ k2 → x' ≤ x → RV g 8 x' → RV g 9 y → 0 < x' → (x' % 2 = 1 ∨ y % 2 = 1) → Nat.gcd v w = 2 ^ t * Nat.gcd x' y → mfr gS h g → P62 g := by
                intro k2
                induction k2 with
                | zero => intro x' g hk2 _ _ _ hx'; omega
                | succ k2 ih62 =>
                  intro x' g hk2 hxx rx ry hx' ho hG f
                  apply h62
                  refine r_isEven (s := 8) rfl (by omega) rx (fun hev => ?_) (fun hodd => ?_)
                  · intro P80 h80
                    refine ⟨fun c => absurd c (by decide), fun _ => ?_⟩
                    have hyo : y % 2 = 1 := by omega
                    refine r_halve (s := 8) rfl (by omega) rx (fun h' r2 f2 => ?_)
                    refine ih62 (x' / 2) h' (by omega) (by omega) r2 (ry.mfr f2 (neS (by omega))) (by omega) (Or.inr hyo) ?_ (f.trans (f2.up g8))
                    rw [gcd_hl hev hyo]
                    exact hG
                  · intro P80 h80
                    refine ⟨fun _ => ?_, fun c => absurd rfl c⟩
                    have k80 : ∀ (k3 y' : Nat) (g : Hs), y' ≤ k3 → y' ≤ y → RV g 8 x' → RV g 9 y' → 0 < y' → Nat.gcd v w = 2 ^ t * Nat.gcd x' y' → mfr gS h g → P80 g := by
                      intro k3
                      induction k3 with
                      | zero => intro y' g hk3 _ _ _ hy'; omega
                      | succ k3 ih80 =>
                        intro y' g hk3 hyy rx ry hy' hG f
                        apply h80
                        refine r_isEven (s := 9) rfl (by omega) ry (fun hev => ?_) (fun hodd2 => ?_)
                        · refine ⟨fun c => absurd c (by decide), fun _ => ?_⟩
                          refine r_halve (s := 9) rfl (by omega) ry (fun h' r2 f2 => ?_)
                          refine ih80 (y' / 2) h' (by omega) (by omega) (rx.mfr f2 (neS (by omega))) r2 (by omega) ?_ (f.trans (f2.up g9))
                          rw [gcd_hr hodd hev]
                          exact hG
                        · refine ⟨fun _ => ?_, fun c => absurd rfl c⟩
                          have le : x' ≤ y' → ∀ (P133 : Hs → Prop), (∀ (g_133 : Hs), (p_M_take 9 8 g_133 (fun h_138 => P52 h_138)) → P133 g_133) → P133 g := by
                            intro hle P133 h133
                            apply h133
                            refine r_take (s := 9) (a := 8) rfl rfl (by omega) (by omega) (by omega) ry rx hle (fun h' r2 f2 => ?_)
                            refine ih52 x' (y' - x') h' (by omega) (rx.mfr f2 (neS (by omega))) r2 hx' (Or.inl hodd) ?_ (f.trans (f2.up g9))
                            rw [Nat.gcd_sub_self_right hle]
                            exact hG
                          refine r_compare (s := 8) (a := 9) rfl rfl (by omega) (by omega) rx ry (fun hlt => ?_) (fun heq => ?_) (fun hgt => ?_)
                          · intro P133 h133
                            exact ⟨fun _ => le (by omega) P133 h133, fun c => absurd (by decide) c⟩
                          · intro P133 h133
                            exact ⟨fun _ => le (by omega) P133 h133, fun c => absurd (by decide) c⟩
                          · intro P133 h133
                            refine ⟨fun c => absurd c (by decide), fun _ => ?_⟩
                            refine r_copy (s := 10) (a := 8) rfl rfl (by omega) (by omega) (by omega) rx (fun h1 r1 f1 => ?_)
                            refine r_copy (s := 8) (a := 9) rfl rfl (by omega) (by omega) (by omega) (ry.mfr f1 (neS (by omega))) (fun h2 r2 f2 => ?_)
                            have r1' := r1.mfr f2 (neS (by omega))
                            refine r_copy (s := 9) (a := 10) rfl rfl (by omega) (by omega) (by omega) r1' (fun h3 r3 f3 => ?_)
                            apply h133
                            have r2' := r2.mfr f3 (neS (by omega))
                            have F3 : mfr gS h h3 := ((f.trans (f1.up g10)).trans (f2.up g8)).trans (f3.up g9)
                            refine r_take (s := 9) (a := 8) rfl rfl (by omega) (by omega) (by omega) r3 r2' (by omega) (fun h' r4 f4 => ?_)
                            refine ih52 y' (x' - y') h' (by omega) (r2'.mfr f4 (neS (by omega))) r4 hy' (Or.inl hodd2) ?_ (F3.trans (f4.up g9))
                            rw [Nat.gcd_sub_self_right (by omega), Nat.gcd_comm y' x']
                            exact hG
                    exact k80 y y g (Nat.le_refl _) (Nat.le_refl _) rx ry (by omega) hG f
              exact k62 x x g (Nat.le_refl _) (Nat.le_refl _) rx ry hx ho hG f
        exact k52 _ x y g (Nat.le_refl _) rx ry hx hodd hG f
      refine r_isEven (s := 8) rfl (by omega) rx (fun hev => ?_) (fun hodd => ?_)
      · intro P52 h52
        refine ⟨fun c => absurd c (by decide), fun _ => ?_⟩
        refine r_isEven (s := 9) rfl (by omega) ry (fun hev2 => ?_) (fun hodd2 => ?_)
        · refine ⟨fun c => absurd c (by decide), fun _ => ?_⟩
          refine r_halve (s := 8) rfl (by omega) rx (fun h1 r1 f1 => ?_)
          refine r_halve (s := 9) rfl (by omega) (ry.mfr f1 (neS (by omega))) (fun h2 r2 f2 => ?_)
          intro t' et'
          rw [nI_1] at et'
          subst et'
          refine ih16 (t + 1) (x / 2) (y / 2) h2 (by omega) (r1.mfr f2 (neS (by omega))) r2 (by omega) (by omega) ?_ ((f.trans (f1.up g8)).trans (f2.up g9))
          rw [hG, ← gcd_hh hev hev2, Nat.pow_succ]
          grind
        · exact ⟨fun _ => odd (Or.inr hodd2) P52 h52, fun c => absurd rfl c⟩
      · intro P52 h52
        exact ⟨fun _ => odd (Or.inl hodd) P52 h52, fun c => absurd rfl c⟩
  rw [nI_lit0]
  exact k16 v 0 v w h11 (Nat.le_refl _) v11' v11 v0 w0 (by rw [Nat.pow_zero, Nat.one_mul]) F11
theorem r_addOne {v : Nat} {h : Hs} {Q : Hs → Prop} (hb : RV h 9 v) (hev : v % 2 = 0) (hQ : ∀ h', RV h' 9 (v + 1) → mfr (eS 9) h h' → Q h') : p_M_addOne h Q := by
  have hsz := hb.2.1
  have hBB : BB = 1073741824 := rfl
  unfold p_M_addOne
  intro P hP
  refine ⟨fun c => ?_, fun c => ?_⟩
  · intro h31 e31
    apply hP
    have hn : szR h 9 ≠ 0 := fun e => c (by rw [hb.1, e, nI_0])
    have hd := hb.2.2.1 0 (by omega)
    have hd2 := hd.2
    have hev2 : dl h 9 0 % 2 = 0 := by
      have := nv_dig (F := dl h 9) (n := szR h 9) (fun i hi => (hb.2.2.1 i hi).2) 0 (by omega)
      rw [hb.2.2.2.2, Nat.pow_zero, Nat.div_one] at this
      simp only [BB] at this
      omega
    have e5 : gl h 5 576 = lN (dl h 9 0) := hd.1
    have el : (1 : Int64) = lN 1 := rfl
    rw [e5, el, lN_add] at e31
    have e31' : h31 = sl h 5 (64 * 9 + 0) (lN (dl h 9 0 + 1)) := e31
    have hlt : dl h 9 0 + 1 < BB := by omega
    have hw := dl_w e31' hlt
    refine hQ h31 (RV.of (n := szR h 9) (by rw [e31']; exact hb.1) hsz (DL.w e31' hlt hb.2.2.1) (Or.inr ?_) ?_) (e31' ▸ mfr.sl (by omega) eS1)
    · by_cases e0 : szR h 9 - 1 = 0
      · rw [e0, hw.1]
        omega
      · rw [hw.2.2 _ e0]
        rcases hb.2.2.2.1 with x | x
        · exact absurd x hn
        · exact x
    · have hu := nv_upd (F := dl h 9) (G := dl h31 9) (p := 0) (x := dl h 9 0 + 1) (n := szR h 9) (by omega) hw.1 (fun j _ hj => hw.2.2 j hj)
      rw [Nat.pow_zero, hb.2.2.2.2] at hu
      omega
  · have hn : szR h 9 = 0 := by
      rw [hb.1, ← nI_0] at c
      exact (nI_eq (by omega) (by omega)).mp c
    have hv0 := hb.zero.mp hn
    subst hv0
    exact r_set (s := 9) (x := 1) rfl rfl (by omega) (by decide) (fun h' r f => hP _ (hQ h' r f))
theorem sh63 : ∀ t, t < 30 → (((nI t).toInt64 &&& 63).toBitVec.smod 64).toNat = t := by decide +kernel
theorem lbit {f t : Nat} (hf : f < BB) (ht : t < 30) : (lN f >>> ((nI t).toInt64 &&& 63)) &&& 1 = lN (f / 2 ^ t % 2) := by
  have hBB : BB = 1073741824 := rfl
  have hb : (lN f).toBitVec.toNat = f := by
    show (BitVec.ofNat 64 f).toNat = f
    rw [BitVec.toNat_ofNat]
    exact Nat.mod_eq_of_lt (by omega)
  have hm : (lN f).toBitVec.msb = false := by
    rw [BitVec.msb_eq_false_iff_two_mul_lt, hb]
    omega
  apply Int64.toBitVec_inj.mp
  apply BitVec.eq_of_toNat_eq
  have h1 : ((lN f >>> ((nI t).toInt64 &&& 63)) &&& 1).toBitVec = (lN f).toBitVec.sshiftRight' (((nI t).toInt64 &&& 63).toBitVec.smod 64) &&& 1#64 := rfl
  rw [h1, BitVec.toNat_and, BitVec.toNat_sshiftRight'_of_msb_false hm, sh63 t ht, hb]
  have h2 : (1#64).toNat = 2 ^ 1 - 1 := by decide
  rw [h2, Nat.and_two_pow_sub_one_eq_mod, Nat.shiftRight_eq_div_pow]
  show _ = (BitVec.ofNat 64 _).toNat
  rw [BitVec.toNat_ofNat]
  omega
