/-! ===== telling a fraction ===== -/
def tS : Nat → Prop := fun j => j = 0 ∨ j = 1 ∨ j = 8 ∨ j = 9 ∨ j = 10
theorem gS_tS {c : Nat} (h : gS c) : tS c := by rcases h with h | h | h <;> (subst h; unfold tS; omega)
theorem d0_tS {c : Nat} (h : dvS 0 c) : tS c := by rcases h with h | h | h <;> (subst h; unfold tS; omega)
theorem d1_tS {c : Nat} (h : dvS 1 c) : tS c := by rcases h with h | h | h <;> (subst h; unfold tS; omega)
def sgn (v : Nat) : Int32 := if v = 0 then 0 else 1
theorem RV.si0 {g : Hs} {s v k : Nat} {x : Int32} (h : RV g s v) : RV (si g 0 k x) s v := by
  have e : gi (si g 0 k x) 6 s = gi g 6 s := gi_c (by omega)
  refine RV.of (n := szR g s) (e.trans h.1) h.2.1 h.2.2.1 h.2.2.2.1 h.2.2.2.2
theorem gS8 : ∀ c, c = 8 → gS c := fun c e => Or.inl e
theorem r_tell {p q v w : Nat} {a1 a2 : Int32} {h : Hs} {Q : Hs → Prop} (e1 : a1 = nI p) (e2 : a2 = nI q) (hp : p < 12) (hq : q < 12) (np : ¬ tS p) (nq : ¬ tS q) (hv : RV h p v) (hw : RV h q w) (w0 : 0 < w) (vB : v < BB ^ 61) (hQ : ∀ g', RV g' 0 (v / Nat.gcd v w) → RV g' 1 (w / Nat.gcd v w) → mfr tS h g' → Q (si g' 0 6 (sgn v))) : p_M_tell a1 a2 0 h Q := by
  have hsz := hv.2.1
  have vB62 : v < BB ^ 62 := Nat.lt_of_lt_of_le vB (Nat.pow_le_pow_right (by decide) (by decide))
  unfold p_M_tell
  subst e1 e2
  rw [nI_clamp (show p < 2 ^ 31 by omega)]
  refine ⟨vp_in_nI hp (by omega), fun c => ?_, fun c => ?_⟩
  · have hv0 : v ≠ 0 := fun e => c (by rw [hv.1, hv.zero.mpr e, nI_0])
    have hG0 : 0 < Nat.gcd v w := Nat.gcd_pos_of_pos_left _ (by omega)
    have hGle : Nat.gcd v w ≤ v := Nat.gcd_le_left _ (by omega)
    refine r_findDivisor rfl rfl hp hq (fun x => np (gS_tS x)) (fun x => nq (gS_tS x)) hv hw (by omega) w0 vB62 (fun h30 g30 f30 => ?_)
    have hv30 := hv.mfr f30 (fun x => np (gS_tS x))
    have hw30 := hw.mfr f30 (fun x => nq (gS_tS x))
    refine r_copy (s := 0) rfl rfl (by omega) hp (fun e => np (by subst e; exact Or.inl rfl)) hv30 (fun h36 r36 f36 => ?_)
    have hw36 := hw30.mfr f36 (neS (fun e => nq (by subst e; exact Or.inl rfl)))
    have g36 := g30.mfr f36 (neS (by omega))
    refine r_divide (s := 0) rfl (by omega) r36 g36 hG0 (Nat.lt_of_le_of_lt hGle vB) (fun h41 r41 f41 => ?_)
    have hw41 := hw36.mfr f41 (fun x => nq (d0_tS x))
    have g41 := g36.mfr f41 (fun x => by rcases x with x | x | x <;> omega)
    refine r_copy (s := 1) rfl rfl (by omega) hq (fun e => nq (by subst e; exact Or.inr (Or.inl rfl))) hw41 (fun h47 r47 f47 => ?_)
    have g47 := g41.mfr f47 (neS (by omega))
    have r47' := r41.mfr f47 (neS (by omega))
    refine r_divide (s := 1) rfl (by omega) r47 g47 hG0 (Nat.lt_of_le_of_lt hGle vB) (fun h52 r52 f52 => ?_)
    have r52' := r47'.mfr f52 (fun x => by rcases x with x | x | x <;> omega)
    intro P65 h65
    refine ⟨fun _ => h65 _ ?_, fun c => absurd rfl c⟩
    intro h65 e65
    have := hQ h52 r52' r52 ((((f30.mono (fun c x => gS_tS x)).trans (f36.up (Or.inl rfl))).trans (f41.mono (fun c x => d0_tS x))).trans (f47.up (Or.inr (Or.inl rfl))) |>.trans (f52.mono (fun c x => d1_tS x)))
    unfold sgn at this
    rw [if_neg hv0] at this
    rw [e65]
    exact this
  · have hv0 : v = 0 := by
      rw [hv.1, ← nI_0] at c
      exact hv.zero.mp ((nI_eq (by omega) (by omega)).mp c)
    subst hv0
    refine r_set (s := 0) (x := 0) rfl rfl (by omega) (by decide) (fun h12 r12 f12 => ?_)
    refine r_set (s := 1) (x := 1) rfl rfl (by omega) (by decide) (fun h18 r18 f18 => ?_)
    intro h23 e23
    rw [e23]
    rw [Nat.gcd_zero_left, Nat.zero_div, Nat.div_self w0] at hQ
    exact hQ h18 (r12.mfr f18 (neS (by omega))) r18 ((f12.up (Or.inl rfl)).trans (f18.up (Or.inr (Or.inl rfl))))
theorem r_tells {v w : Nat} {a1 a3 : Int64} {h : Hs} {Q : Int32 → Hs → Prop} (e1 : a1 = lN v) (e3 : a3 = lN w) (hv : v < 2 ^ 63) (hw : w < 2 ^ 63) (w0 : 0 < w) (hQ : ∀ g', RV g' 0 (v / Nat.gcd v w) → RV g' 1 (w / Nat.gcd v w) → mfr (fun _ => True) h g' → Q 1 (si g' 0 6 (sgn v))) : p_M_tells a1 a3 h Q := by
  subst e1 e3
  have hge : 0 ≤ lg_cmp (lN v) 0 := by
    rw [cmp_ge0, lN_lit0]
    exact (pk_lLE (by omega) hv).mpr (Nat.zero_le _)
  unfold p_M_tells
  intro P14 h14
  refine ⟨fun _ => h14 _ ?_, fun c => absurd hge c⟩
  refine r_set (s := 2) (x := v) rfl rfl (by omega) hv (fun h2 r2 f2 => ?_)
  refine r_set (s := 3) (x := w) rfl rfl (by omega) hw (fun h3 r3 f3 => ?_)
  intro P37 h37
  refine ⟨fun _ => h37 _ ?_, fun c => absurd hge c⟩
  have vB : v < BB ^ 61 := by
    have h1 : BB ^ 3 ≤ BB ^ 61 := Nat.pow_le_pow_right (by decide) (by decide)
    have h2 : BB ^ 3 = 1237940039285380274899124224 := by decide +kernel
    omega
  exact r_tell (p := 2) (q := 3) rfl rfl (by omega) (by omega) (fun x => by unfold tS at x; omega) (fun x => by unfold tS at x; omega) (r2.mfr f3 (neS (by omega))) r3 w0 vB (fun g' y1 y2 y3 => hQ g' y1 y2 (((f2.mono (fun _ _ => trivial)).trans (f3.mono (fun _ _ => trivial))).trans (y3.mono (fun _ _ => trivial))))
/-- the fraction that both sides hold -/
def FC (h g : Hs) : Prop := ∃ p t, BV h 407 p ∧ BV h 409 t ∧ RV g 0 p ∧ RV g 1 t ∧ gi g 0 6 = sgn p
theorem BV_RV_size {h g : Hs} {o s v : Nat} (a : BV h o v) (b : RV g s v) : szB h o = szR g s ∧ ∀ i, i < szB h o → dg h (o + 1) i = dl g s i := nv_uniq (fun i hi => (a.2.2.1 i hi).2) (fun i hi => (b.2.2.1 i hi).2) a.2.2.2.1 b.2.2.2.1 (a.2.2.2.2.trans b.2.2.2.2.symm)
