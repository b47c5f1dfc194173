/-! ===== making: the fraction, the class, the reference ===== -/
theorem bec1 : ¬ (lg_cmp 1 0 ≤ 0) ∧ ((1 : Int64) &&& 1073741823).toInt32 = 1 ∧ (1 : Int64) >>> ((30 : Int32).toInt64 &&& 63) = 0 ∧ lg_cmp 0 0 ≤ 0 := by decide +kernel
theorem k_become {h : Hs} {Q : Hs → Prop} (hr : gr h 409 0 = 411) (hQ : ∀ h', BV h' 409 1 → frm (bS 409) h h' → Q h') : i_Big_become_c 409 1 417 h Q := by
  have l32 : lX (409 + 1) = 32 := lx32.2.1
  have k1 : kX 409 = 1 := by decide +kernel
  unfold i_Big_become_c
  rw [l32]
  intro h2 e2 P7 h7
  have f2 : frm (bS 409) h h2 := e2 ▸ frm.si (Or.inl rfl)
  have g2 : gi h2 409 1 = nI 0 := by rw [e2, gi_s]; rfl
  refine h7 _ _ (fun P58 h58 => bN bec1.1 ⟨by rw [f2.gr]; exact hr, ?_⟩)
  rw [g2]
  refine bN (nI_ge (b := 32) (by omega) (by omega)) ⟨by rw [f2.gr]; exact hr, vp_in_nI (by omega) (by omega), fun h39 e39 h47 e47 a3 e3 => ?_⟩
  rw [bec1.2.2.1] at e3
  rw [nI_clamp (by omega), bec1.2.1] at e39
  rw [e39, gi_c (by omega), g2, nI_1, ← e39] at e47
  subst e3
  have f39 : frm (bS 409) h2 h39 := e39 ▸ frm.si (Or.inr rfl)
  have f47 : frm (bS 409) h39 h47 := e47 ▸ frm.si (Or.inl rfl)
  refine h7 _ _ (fun P58 h58 => bY bec1.2.2.2 (h58 (hQ h47 ?_ ((f2.trans f39).trans f47))))
  have s1 : gi h47 409 1 = nI 1 := by rw [e47, gi_s]
  have d0 : gi h47 (409 + 1) 0 = nI 1 := by rw [e47, gi_c (by omega), e39, gi_s]; rfl
  have dd : dg h47 (409 + 1) 0 = 1 := dg_of d0 (by decide)
  have hBB : BB = 1073741824 := rfl
  refine BV.of (n := 1) k1 s1 (by rw [l32]; omega) (fun i hi => ?_) (Or.inr (by rw [show 1 - 1 = 0 from rfl, dd]; omega)) ?_
  · rw [show i = 0 by omega, dd]
    exact ⟨d0, by omega⟩
  · show 0 + dg h47 (409 + 1) 0 * BB ^ 0 = 1
    rw [dd]
    rfl
theorem BV_0 {h : Hs} {o : Nat} (hk : kX o = 1) (h0 : gi h o 1 = 0) : BV h o 0 := BV.of (n := 0) hk (h0.trans nI_lit0) (Nat.zero_le _) (fun i hi => by omega) (Or.inl rfl) rfl
theorem k_Fraction {h : Hs} {Q : Hs → Prop} (hQ : ∀ h', (∀ c, 406 ≤ c → c < 417 → gd h' c) → BV h' 407 0 → BV h' 409 1 → gr h' 406 3 = 414 → gr h' 406 4 = 416 → fcx (fun c => 406 ≤ c ∧ c < 417) h h' → Q h') : i_Fraction_init h Q := by
  obtain ⟨l7, l9, l11, l13, l15⟩ := lx32
  obtain ⟨_, _, _, _, _, _, _, _, _, _, _, _, _, _, _, _, _, k7, k9, k11, k13, k15⟩ := kC
  unfold i_Fraction_init
  intro h5 e5
  have P0 : PIN 406 407 407 (fun _ => False) (h.2.2 406) h h h := PIN.start
  refine k_Big (r := 32) k7 rfl (by omega) (by omega) l7 (fun hb1 a1 b1 c1 d1 f1 hs1 es1 hz1 ez1 => ?_)
  have F1 : fcx (fun c => 407 ≤ c ∧ c < 409) h hb1 := ((e5 ▸ zr_fx : fcx (fun c => 407 ≤ c ∧ c < 407 + 1) h h5).mono (fun c hc => by omega)).trans (f1.mono (fun c hc => by unfold bS at hc; omega))
  have P1 := P0.child (e' := 409) (k := 0) (v := 407 + 1) (by omega) (by omega) (by omega) (fun c h1 h2 _ => by rcases (show c = 407 ∨ c = 408 by omega) with y | y; (rw [y]; exact a1); (rw [y]; exact b1)) F1
  rw [← es1] at P1
  have z7 : gi hs1 407 1 = 0 := by
    rw [es1]
    show gi hb1 407 1 = 0
    rw [c1, e5]
    exact zr_gi (by omega) (by omega)
  have P1 := P1.mark
  refine k_Big (r := 32) k9 rfl (by omega) (by omega) l9 (fun hb2 a2 b2 c2 d2 f2 hs2 es2 hz2 ez2 => ?_)
  have F2 : fcx (fun c => 409 ≤ c ∧ c < 411) hs1 hb2 := ((ez1 ▸ zr_fx : fcx (fun c => 409 ≤ c ∧ c < 409 + 1) hs1 hz1).mono (fun c hc => by omega)).trans (f2.mono (fun c hc => by unfold bS at hc; omega))
  have P2 := P1.child (e' := 411) (k := 1) (v := 409 + 1) (by omega) (by omega) (by omega) (fun c h1 h2 _ => by rcases (show c = 409 ∨ c = 410 by omega) with y | y; (rw [y]; exact a2); (rw [y]; exact b2)) F2
  rw [← es2] at P2
  have r9 : gr hs2 409 0 = 411 := by
    have g9 := P2.1 409 (by omega) (by omega) (fun x => x)
    have g9 := g9 (fun _ => default) 0
    unfold eC eX at g9
    rw [k9] at g9
    have g9 : (Sum.inr (0, [rfC 0 (hs2.2.2 409 0), .int (hs2.1 409 1)]) : va_E) = .inr (0, [.ref (0 + (409 + 1)), .int (hs2.1 409 1)]) := g9
    show hs2.2.2 409 0 = 411
    generalize hs2.2.2 409 0 = v at g9
    have g9 := congrArg (fun x : va_E => match x with | .inr (_, (w :: _)) => w | _ => Value.int 0) g9
    cases v with
    | zero =>
      have g9 : rfC 0 0 = .ref (0 + (409 + 1)) := g9
      simp [rfC] at g9
    | succ j =>
      have g9 : Value.ref (0 + j) = .ref (0 + (409 + 1)) := g9
      have g9 : @Eq Nat (0 + j) (0 + (409 + 1)) := Value.ref.inj g9
      omega
  have z7' : gi hs2 407 1 = 0 := by rw [P2.2.2.2.2.gi (by omega)]; exact z7
  have P2 := P2.mark
  refine k_Big (r := 32) k11 rfl (by omega) (by omega) l11 (fun hb3 a3 b3 c3 d3 f3 hs3 es3 hz3 ez3 => ?_)
  have F3 : fcx (fun c => 411 ≤ c ∧ c < 413) hs2 hb3 := ((ez2 ▸ zr_fx : fcx (fun c => 411 ≤ c ∧ c < 411 + 1) hs2 hz2).mono (fun c hc => by omega)).trans (f3.mono (fun c hc => by unfold bS at hc; omega))
  have P3 := P2.child (e' := 413) (k := 2) (v := 411 + 1) (by omega) (by omega) (by omega) (fun c h1 h2 _ => by rcases (show c = 411 ∨ c = 412 by omega) with y | y; (rw [y]; exact a3); (rw [y]; exact b3)) F3
  rw [← es3] at P3
  refine k_Big (r := 32) k13 rfl (by omega) (by omega) l13 (fun hb4 a4 b4 c4 d4 f4 hs4 es4 hz4 ez4 => ?_)
  have F4 : fcx (fun c => 413 ≤ c ∧ c < 415) hs3 hb4 := ((ez3 ▸ zr_fx : fcx (fun c => 413 ≤ c ∧ c < 413 + 1) hs3 hz3).mono (fun c hc => by omega)).trans (f4.mono (fun c hc => by unfold bS at hc; omega))
  have P4 := P3.child (e' := 415) (k := 3) (v := 413 + 1) (by omega) (by omega) (by omega) (fun c h1 h2 _ => by rcases (show c = 413 ∨ c = 414 by omega) with y | y; (rw [y]; exact a4); (rw [y]; exact b4)) F4
  rw [← es4] at P4
  refine k_Big (r := 32) k15 rfl (by omega) (by omega) l15 (fun hb5 a5 b5 c5 d5 f5 hs5 es5 => ?_)
  have F5 : fcx (fun c => 415 ≤ c ∧ c < 417) hs4 hb5 := ((ez4 ▸ zr_fx : fcx (fun c => 415 ≤ c ∧ c < 415 + 1) hs4 hz4).mono (fun c hc => by omega)).trans (f5.mono (fun c hc => by unfold bS at hc; omega))
  have P5 := P4.child (e' := 417) (k := 4) (v := 415 + 1) (by omega) (by omega) (by omega) (fun c h1 h2 _ => by rcases (show c = 415 ∨ c = 416 by omega) with y | y; (rw [y]; exact a5); (rw [y]; exact b5)) F5
  rw [← es5] at P5
  refine ⟨by show hs5.2.2 406 1 = _; rw [P5.2.2.2.1]; rfl, k_become (by rw [P5.2.2.2.2.gr (by omega)]; exact r9) (fun h' b' f' => ?_)⟩
  have fx := f'.x
  refine hQ h' (fun c h1 h2 => ?_) ?_ b' ?_ ?_ ((P5.2.2.1).trans (fx.mono (fun c hc => by unfold bS at hc; omega)))
  · by_cases e : c = 406
    · subst e
      refine gd_row ((fx 406 (by unfold bS; omega)).2.2.trans P5.2.2.2.1) (fun q b r1 r2 => ?_)
      unfold eC eX
      rw [kX_fix.2.2.2.2.2.2.2.2.2.2.2.1]
      rfl
    · by_cases e9 : c = 409
      · subst e9
        refine gd_1 k9 ?_
        show gr h' 409 0 = 409 + 2
        rw [f'.gr, P5.2.2.2.2.gr (by omega)]
        exact r9
      · by_cases e10 : c = 410
        · subst e10
          exact gd_a (Or.inl (kX_d1 409 (by omega) k9))
        · exact (P5.1 c (by omega) h2 (fun x => x)).x fx (by unfold bS; omega)
  · refine BV_0 k7 ?_
    rw [fx.gi (by unfold bS; omega), P5.2.2.2.2.gi (by omega)]
    exact z7'
  · rw [f'.gr]
    show hs5.2.2 406 3 = 414
    rw [P5.2.2.2.1]
    rfl
  · rw [f'.gr]
    show hs5.2.2 406 4 = 416
    rw [P5.2.2.2.1]
    rfl
/-- what stands when the class is made -/
def NEW (h : Hs) : Prop := XS h 3 n00 ∧ gi h 2 9 = 0 ∧ gi h 1 11 = 0 ∧ (∀ j, gi h 76 j = 0) ∧ gr h 1 6 = 358 ∧ gr h 1 7 = 360 ∧ BV h 407 0 ∧ BV h 409 1 ∧ gr h 406 3 = 414 ∧ gr h 406 4 = 416 ∧ (∀ j, gi h 405 j = 0) ∧ (∀ j, gi h 0 j = 0)
theorem k_X {h : Hs} {Q : Hs → Prop} (hz : ∀ j, gi h 0 j = 0) (hQ : ∀ h', (∀ c, c < 504 → gd h' c) → NEW h' → Q h') : i_X_init h Q := by
  obtain ⟨_, _, _, _, _, _, _, _, l404, b404, _, k405, _, k420, k422, l420, l422, _⟩ := kC
  unfold i_X_init
  intro h5 e5
  have P0 : PIN 0 1 1 (fun c => c = 404) (h.2.2 0) h h h := PIN.start
  refine k_Worlds trivial (fun h9 g9 X9 z29 z76 z1 r10 r20 r16 r17 f9 h12 e12 => ?_)
  have F9 : fcx (fun c => 1 ≤ c ∧ c < 404) h h9 := ((e5 ▸ zr_fx : fcx (fun c => 1 ≤ c ∧ c < 1 + 1) h h5).mono (fun c hc => by omega)).trans f9
  have P1 := P0.child (e' := 404) (k := 0) (v := 1 + 1) (by omega) (by omega) (by omega) (fun c h1 h2 _ => g9 c h1 h2) F9
  rw [← e12] at P1
  have f12 : fcx (fun c => c = 0) h9 h12 := e12 ▸ fcx.sr rfl
  have P1 := P1.mark
  refine ⟨by show h12.2.2 0 0 = _; rw [P1.2.2.2.1]; rfl, by rw [f12.gr (by omega)]; exact r10, fun h23 e23 => ?_⟩
  have P2 := P1.child (hc := h12) (e' := 404) (k := 1) (v := 2 + 1) (by omega) (by omega) (by omega) (fun c h1 h2 _ => by omega) fcx.refl
  rw [← e23] at P2
  refine ⟨by show h23.2.2 0 1 = _; rw [P2.2.2.2.1]; rfl, by rw [P2.2.2.2.2.gr (by omega), f12.gr (by omega)]; exact r20, fun h34 e34 h39 e39 h42 e42 h47 e47 h49 e49 h53 e53 => ?_⟩
  have P3 := P2.child (hc := h23) (e' := 404) (k := 2) (v := 3 + 1) (by omega) (by omega) (by omega) (fun c h1 h2 _ => by omega) fcx.refl
  rw [← e34] at P3
  have P4 := P3.arr (n := 1) (k := 3) (v := 404 + 1) (by omega) (by omega) (fun i hi => by rw [show 404 + i = 404 by omega]; exact Or.inr (Or.inr (Or.inr rfl)))
  rw [← e39, ← e42, show 404 + 1 = 405 from rfl] at P4
  have P5 := P4.arr (n := 1) (k := 4) (v := 405 + 1) (by omega) (by omega) (fun i hi => by rw [show 405 + i = 405 by omega]; exact Or.inr (Or.inl k405))
  rw [← e47, ← e49, show 405 + 1 = 406 from rfl] at P5
  have z405 : ∀ j, gi h49 405 j = 0 := fun j => by
    rw [e49]
    show gi h47 405 j = 0
    rw [e47]
    exact zr_gi (by omega) (by omega)
  have back : ∀ c, 1 ≤ c → c < 404 → (∀ j, gi h49 c j = gi h9 c j) ∧ ∀ j, gr h49 c j = gr h9 c j := fun c h1 h2 => ⟨fun j => by rw [P5.2.2.2.2.gi (by omega), f12.gi (by omega)], fun j => by rw [P5.2.2.2.2.gr (by omega), f12.gr (by omega)]⟩
  have X49 : XS h49 3 n00 := X9.keep (fun c h1 h2 j => (back c (by omega) (by omega)).1 j)
  have P5 := P5.mark
  refine k_Fraction (fun h57 g57 b7 b9 r3 r4 f57 h60 e60 h64 e64 => ?_)
  have F57 : fcx (fun c => 406 ≤ c ∧ c < 417) h49 h57 := ((e53 ▸ zr_fx : fcx (fun c => 406 ≤ c ∧ c < 406 + 1) h49 h53).mono (fun c hc => by omega)).trans f57
  have P6 := P5.child (e' := 417) (k := 5) (v := 406 + 1) (by omega) (by omega) (by omega) (fun c h1 h2 _ => g57 c h1 h2) F57
  rw [← e60] at P6
  have f60 : fcx (fun c => c = 0) h57 h60 := e60 ▸ fcx.sr rfl
  have X60 : XS h60 3 n00 := X49.x P6.2.2.2.2 (fun c a b => by omega)
  have N60 : gi h60 2 9 = 0 ∧ gi h60 1 11 = 0 ∧ (∀ j, gi h60 76 j = 0) ∧ gr h60 1 6 = 358 ∧ gr h60 1 7 = 360 ∧ (∀ j, gi h60 405 j = 0) := by
    refine ⟨?_, ?_, fun j => ?_, ?_, ?_, fun j => ?_⟩
    · rw [P6.2.2.2.2.gi (by omega), (back 2 (by omega) (by omega)).1]
      exact z29
    · rw [P6.2.2.2.2.gi (by omega), (back 1 (by omega) (by omega)).1, z1, e5]
      exact zr_gi (by omega) (by omega)
    · rw [P6.2.2.2.2.gi (by omega), (back 76 (by omega) (by omega)).1]
      exact z76 j
    · rw [P6.2.2.2.2.gr (by omega), (back 1 (by omega) (by omega)).2]
      exact r16
    · rw [P6.2.2.2.2.gr (by omega), (back 1 (by omega) (by omega)).2]
      exact r17
    · rw [P6.2.2.2.2.gi (by omega)]
      exact z405 j
  have B7 : BV h60 407 0 := b7.keep (f60.gi (by omega) 1) (fun j => f60.gi (by omega) j)
  have B9 : BV h60 409 1 := b9.keep (f60.gi (by omega) 1) (fun j => f60.gi (by omega) j)
  have R3 : gr h60 406 3 = 414 := by rw [f60.gr (by omega)]; exact r3
  have R4 : gr h60 406 4 = 416 := by rw [f60.gr (by omega)]; exact r4
  have P6 := P6.mark
  refine k_Ship (fun h68 g68 f68 h71 e71 h75 e75 => ?_)
  have F68 : fcx (fun c => 417 ≤ c ∧ c < 420) h60 h68 := ((e64 ▸ zr_fx : fcx (fun c => 417 ≤ c ∧ c < 417 + 1) h60 h64).mono (fun c hc => by omega)).trans f68
  have P7 := P6.child (e' := 420) (k := 6) (v := 417 + 1) (by omega) (by omega) (by omega) (fun c h1 h2 _ => g68 c h1 h2) F68
  rw [← e71] at P7
  refine k_Big (r := 5) k420 rfl (by omega) (by omega) l420 (fun h80 a1 a2 _ _ f80 h83 e83 h87 e87 => ?_)
  have F80 : fcx (fun c => 420 ≤ c ∧ c < 422) h71 h80 := ((e75 ▸ zr_fx : fcx (fun c => 420 ≤ c ∧ c < 420 + 1) h71 h75).mono (fun c hc => by omega)).trans (f80.mono (fun c hc => by unfold bS at hc; omega))
  have P8 := P7.child (e' := 422) (k := 7) (v := 420 + 1) (by omega) (by omega) (by omega) (fun c h1 h2 _ => by rcases (show c = 420 ∨ c = 421 by omega) with y | y; (rw [y]; exact a1); (rw [y]; exact a2)) F80
  rw [← e83] at P8
  refine k_Big (r := 5) k422 rfl (by omega) (by omega) l422 (fun h92 b1 b2 _ _ f92 h95 e95 P100 h100 => ?_)
  have F92 : fcx (fun c => 422 ≤ c ∧ c < 424) h83 h92 := ((e87 ▸ zr_fx : fcx (fun c => 422 ≤ c ∧ c < 422 + 1) h83 h87).mono (fun c hc => by omega)).trans (f92.mono (fun c hc => by unfold bS at hc; omega))
  have P9 := P8.child (e' := 424) (k := 8) (v := 422 + 1) (by omega) (by omega) (by omega) (fun c h1 h2 _ => by rcases (show c = 422 ∨ c = 423 by omega) with y | y; (rw [y]; exact b1); (rw [y]; exact b2)) F92
  rw [← e95] at P9
  have q3 : gr h95 0 3 = 404 + 1 := by show h95.2.2 0 3 = _; rw [P9.2.2.2.1]; rfl
  have key := lpG (fun k (g : Hs) => P100 (nI k) (423 + 40 * k) g) (fun k g => (∀ c, 424 ≤ c → c < 424 + 40 * k → gd g c) ∧ (∀ i, i < k → gr g 404 i = 424 + 40 * i + 1) ∧ fcx (fun c => c = 404 ∨ 424 ≤ c) h95 g) 2 (s := h95) ⟨fun c h1 h2 => by omega, fun i hi => by omega, fcx.refl⟩ ?_ ?_
  · exact key
  · intro g hI
    obtain ⟨i1, i2, i3⟩ := hI
    have lift : ∀ c, 1 ≤ c → c < 417 → c ≠ 404 → (∀ j, gi g c j = gi h60 c j) ∧ ∀ j, gr g c j = gr h60 c j := fun c h1 h2 h3 => ⟨fun j => by rw [i3.gi (by omega), P9.2.2.2.2.gi (by omega)], fun j => by rw [i3.gr (by omega), P9.2.2.2.2.gr (by omega)]⟩
    refine h100 _ _ _ ⟨by omega, bY (nI_le (a := 2) (b := 2) (by omega) (by omega)) ⟨rfl, hQ g (fun c hc => ?_) ⟨?_, ?_, ?_, fun j => ?_, ?_, ?_, ?_, ?_, ?_, ?_, fun j => ?_, fun j => ?_⟩⟩⟩
    · by_cases c0 : c = 0
      · subst c0
        refine gd_row ((i3 0 (by omega)).2.2.trans P9.2.2.2.1) (fun q b r1 r2 => ?_)
        unfold eC eX
        rw [kX_fix.1]
        rfl
      by_cases c404 : c = 404
      · subst c404
        refine gd_25 kX_fix.2.2.2.2.2.2.2.2.2.2.1 (fun k hk => ?_)
        rw [l404] at hk
        rw [b404]
        exact i2 k hk
      by_cases c424 : c < 424
      · exact (P9.1 c (by omega) c424 c404).x i3 (by omega)
      · exact i1 c (by omega) (by omega)
    · exact X60.keep (fun c h1 h2 j => (lift c (by omega) (by omega) (by omega)).1 j)
    · rw [(lift 2 (by omega) (by omega) (by omega)).1]
      exact N60.1
    · rw [(lift 1 (by omega) (by omega) (by omega)).1]
      exact N60.2.1
    · rw [(lift 76 (by omega) (by omega) (by omega)).1]
      exact N60.2.2.1 j
    · rw [(lift 1 (by omega) (by omega) (by omega)).2]
      exact N60.2.2.2.1
    · rw [(lift 1 (by omega) (by omega) (by omega)).2]
      exact N60.2.2.2.2.1
    · exact B7.keep ((lift 407 (by omega) (by omega) (by omega)).1 1) (fun j => (lift 408 (by omega) (by omega) (by omega)).1 j)
    · exact B9.keep ((lift 409 (by omega) (by omega) (by omega)).1 1) (fun j => (lift 410 (by omega) (by omega) (by omega)).1 j)
    · rw [(lift 406 (by omega) (by omega) (by omega)).2]
      exact R3
    · rw [(lift 406 (by omega) (by omega) (by omega)).2]
      exact R4
    · rw [(lift 405 (by omega) (by omega) (by omega)).1]
      exact N60.2.2.2.2.2 j
    · rw [i3.gi (by omega), P9.2.1]
      exact hz j
  · intro k g hk hI nx
    obtain ⟨i1, i2, i3⟩ := hI
    have so : stO (424 + 40 * k) := by unfold stO; omega
    have k6 : kX (424 + 40 * k) = 6 := (kS_all (424 + 40 * k) (by unfold stO at so; exact so)).1
    refine h100 _ _ _ ⟨by omega, bN (nI_ge (b := 2) hk (by omega)) ⟨by rw [i3.gr (by omega)]; exact q3, by rw [show 1 + (423 + 40 * k) = 424 + 40 * k by omega]; exact k6, by omega, fun h110 e110 => ⟨by omega, ?_⟩⟩⟩
    rw [show 1 + (423 + 40 * k) = 424 + 40 * k by omega] at e110 ⊢
    refine k_State so (fun j => by rw [e110]; exact zr_gi (by omega) (by omega)) (fun h114 g114 _ f114 => ⟨vp_in_nI hk (by omega), fun h117 e117 a1 e1 => ?_⟩)
    rw [nI_1] at e1
    rw [nI_clamp (by omega)] at e117
    subst e1
    have f1 : fcx (fun c => 424 + 40 * k ≤ c ∧ c < 424 + 40 * k + 40) g h114 := ((e110 ▸ zr_fx : fcx (fun c => 424 + 40 * k ≤ c ∧ c < 424 + 40 * k + 1) g h110).mono (fun c hc => by omega)).trans f114
    have f2 : fcx (fun c => c = 404) h114 h117 := e117 ▸ fcx.sr rfl
    have nx := nx h117 ⟨fun c h1 h2 => ?_, fun i hi => ?_, i3.trans ((f1.mono (fun c hc => by omega)).trans (f2.mono (fun c hc => by omega)))⟩
    · rw [show 423 + 40 * (k + 1) = 423 + 40 * k + 40 by omega] at nx
      exact nx
    · by_cases e : c < 424 + 40 * k
      · exact ((i1 c h1 e).x f1 (by omega)).x f2 (by omega)
      · exact (g114 c (by omega) (by omega)).x f2 (by omega)
    · rw [e117, gr_if]
      by_cases e : i = k
      · subst e
        rw [if_pos ⟨rfl, rfl⟩]
      · rw [if_neg (fun y => e y.2), f1.gr (by omega)]
        exact i2 i (by omega)
/-! the reference -/
def AZ (R : Nat → Nat) (h : Hs) : Prop := (∀ c j, gi h c j = 0) ∧ h.2.2 0 = R
theorem AZ.arr {R : Nat → Nat} {h : Hs} {n k v : Nat} (A : AZ R h) (hn : 1 ≤ n) : AZ (updN R k v) (sr (zr h n 1) 0 k v) := by
  refine ⟨fun c j => ?_, ?_⟩
  · show gi (zr h n 1) c j = 0
    by_cases y : n ≤ c ∧ c < n + 1
    · exact zr_gi y.1 y.2
    · unfold gi
      rw [(zr_out y).1]
      exact A.1 c j
  · show (rowU (zr h n 1).2.2 0 (updN ((zr h n 1).2.2 0) k v)) 0 = _
    rw [rowU_s, (zr_out (by omega)).2.2, A.2]
theorem ms1 : ¬ (lg_cmp 1 0 ≤ 0) ∧ (1 : Int64) - 1 / 1073741824 * 1073741824 = lN 1 ∧ (1 : Int64) / 1073741824 = 0 ∧ lg_cmp 0 0 ≤ 0 ∧ (64 : Int32) * 1 + 0 = nI 64 ∧ (1 : Int32) = nI 1 := by decide +kernel
theorem k_M {h : Hs} {Q : Hs → Prop} (hz : ∀ c j, gi h c j = 0) (hQ : ∀ g, CFM g → MS g n00 → (∀ c j, c ≠ 1 → c ≠ 6 → gi g c j = 0) → RV g 0 0 → RV g 1 1 → Q g) : i_M_init h Q := by
  unfold i_M_init
  have A0 : AZ (h.2.2 0) h := ⟨hz, rfl⟩
  intro x1 ex1 w1 ew1
  have A1 := A0.arr (n := 1) (k := 0) (v := 1 + 1) (by omega)
  rw [← ex1, ← ew1] at A1
  clear ex1 ew1 A0
  intro x2 ex2 w2 ew2
  have A2 := A1.arr (n := 2) (k := 1) (v := 2 + 1) (by omega)
  rw [← ex2, ← ew2] at A2
  clear ex2 ew2 A1
  intro x3 ex3 w3 ew3
  have A3 := A2.arr (n := 3) (k := 2) (v := 3 + 1) (by omega)
  rw [← ex3, ← ew3] at A3
  clear ex3 ew3 A2
  intro x4 ex4 w4 ew4
  have A4 := A3.arr (n := 4) (k := 3) (v := 4 + 1) (by omega)
  rw [← ex4, ← ew4] at A4
  clear ex4 ew4 A3
  intro x5 ex5 w5 ew5
  have A5 := A4.arr (n := 5) (k := 4) (v := 5 + 1) (by omega)
  rw [← ex5, ← ew5] at A5
  clear ex5 ew5 A4
  intro x6 ex6 w6 ew6
  have A6 := A5.arr (n := 6) (k := 5) (v := 6 + 1) (by omega)
  rw [← ex6, ← ew6] at A6
  clear ex6 ew6 A5
  intro x7 ex7 w7 ew7
  have A7 := A6.arr (n := 7) (k := 12) (v := 7 + 1) (by omega)
  rw [← ex7, ← ew7] at A7
  clear ex7 ew7 A6
  intro x8 ex8 w8 ew8
  have A8 := A7.arr (n := 8) (k := 13) (v := 8 + 1) (by omega)
  rw [← ex8, ← ew8] at A8
  clear ex8 ew8 A7
  intro x9 ex9 w9 ew9
  have A9 := A8.arr (n := 9) (k := 14) (v := 9 + 1) (by omega)
  rw [← ex9, ← ew9] at A9
  clear ex9 ew9 A8
  intro x10 ex10 w10 ew10
  have A10 := A9.arr (n := 10) (k := 15) (v := 10 + 1) (by omega)
  rw [← ex10, ← ew10] at A10
  clear ex10 ew10 A9
  intro x11 ex11 w11 ew11
  have A11 := A10.arr (n := 11) (k := 18) (v := 11 + 1) (by omega)
  rw [← ex11, ← ew11] at A11
  clear ex11 ew11 A10
  intro x12 ex12 w12 ew12
  have A12 := A11.arr (n := 12) (k := 19) (v := 12 + 1) (by omega)
  rw [← ex12, ← ew12] at A12
  clear ex12 ew12 A11
  intro x13 ex13 w13 ew13
  have A13 := A12.arr (n := 13) (k := 20) (v := 13 + 1) (by omega)
  rw [← ex13, ← ew13] at A13
  clear ex13 ew13 A12
  obtain ⟨az, ar⟩ := A13
  generalize w13 = H at *
  have r0 : H.2.2 0 0 = 1 + 1 := by rw [ar]; rfl
  have r4 : H.2.2 0 4 = 5 + 1 := by rw [ar]; rfl
  have r5 : H.2.2 0 5 = 6 + 1 := by rw [ar]; rfl
  intro P107 h107
  have gr0 : ∀ g, frm (fun c => c = 1) H g → gr g 0 0 = 1 + 1 := fun g f => by rw [f.gr]; exact r0
  refine lpH (fun k g => (∀ j, gi g 1 j = if 6 ≤ j ∧ j < 6 + k then 5 else 0) ∧ frm (fun c => c = 1) H g) 10 ⟨fun j => by rw [az, if_neg (by omega)], frm.refl⟩ ?_ ?_
  · intro g hI
    obtain ⟨i1, i2⟩ := hI
    refine h107 _ _ (bY (nI_le (a := 10) (b := 10) (by omega) (by omega)) ⟨gr0 g i2, fun h137 e137 => ?_⟩)
    have f137 : frm (fun c => c = 1) H h137 := i2.trans (e137 ▸ frm.si rfl)
    refine ⟨gr0 _ f137, fun h146 e146 P149 h149 => ?_⟩
    have f146 : frm (fun c => c = 1) H h146 := f137.trans (e146 ▸ frm.si rfl)
    have g146 : ∀ j, gi h146 1 j = if 6 ≤ j ∧ j < 16 then 5 else if j = 20 then 6 else if j = 21 then 9 else 0 := fun j => by
      rw [e146, gi_if, e137, gi_if, i1]
      by_cases a : j = 21
      · rw [if_pos ⟨rfl, a⟩, if_neg (by omega), if_neg (by omega), if_pos a]
      rw [if_neg (fun y => a y.2)]
      by_cases b : j = 20
      · rw [if_pos ⟨rfl, b⟩, if_neg (by omega), if_pos b]
      rw [if_neg (fun y => b y.2), if_neg b, if_neg a]
    refine lpH (fun k g => (∀ j, gi g 1 j = if 6 ≤ j ∧ j < 16 then 5 else if j = 20 then 6 else if j = 21 then 9 else if 22 ≤ j ∧ j < 22 + k then 100 else if 30 ≤ j ∧ j < 30 + k then 1 else 0) ∧ frm (fun c => c = 1) H g) 4 ⟨fun j => ?_, f146⟩ ?_ ?_
    · rw [g146, if_neg (show ¬ (22 ≤ j ∧ j < 22 + 0) by omega), if_neg (show ¬ (30 ≤ j ∧ j < 30 + 0) by omega)]
    · intro g2 hJ
      obtain ⟨j1, j2⟩ := hJ
      refine h149 _ _ (bY (nI_le (a := 4) (b := 4) (by omega) (by omega)) ⟨gr0 g2 j2, fun h189 e189 => ?_⟩)
      have f189 : frm (fun c => c = 1) H h189 := j2.trans (e189 ▸ frm.si rfl)
      have m189 : MS h189 n00 := fun j hj => by
        rw [e189, gi_if, j1]
        unfold n00
        by_cases a : j = 543
        · rw [if_pos ⟨rfl, a⟩, if_neg (by omega), if_neg (by omega), if_neg (by omega), if_neg (by omega), if_neg (by omega), if_pos a]
        · rw [if_neg (fun y => a y.2), if_neg a]
      unfold i_M_set_c
      refine ⟨by rw [f189.gr]; exact r5, vp_in_nI (n := 1) (by omega) (by omega), fun h9 e9 P10 h10 => ?_⟩
      have c1 : (1 : Int32).toNatClampNeg = 1 := by decide
      rw [c1] at e9
      have f9 : h9.2 = H.2 := by rw [e9]; exact f189.2
      have g9 : gi h9 6 1 = 0 := by rw [e9, gi_s]
      have G : ∀ g : Hs, g.2.2 = H.2.2 → gr g 0 4 = 5 + 1 ∧ gr g 0 5 = 6 + 1 := fun g e => ⟨by show g.2.2 0 4 = _; rw [e]; exact r4, by show g.2.2 0 5 = _; rw [e]; exact r5⟩
      have h9r : h9.2.2 = H.2.2 := by rw [f9]
      refine h10 _ _ (bN ms1.1 ⟨(G h9 h9r).1, (G h9 h9r).2, vp_in_nI (n := 1) (by omega) (by omega), ?_⟩)
      rw [c1, g9, ms1.2.2.2.2.1, nI_clamp (by omega), ms1.2.1]
      refine ⟨vp_in_nI (by omega) (by omega), fun h38 e38 a4 e4 => ?_⟩
      have h38r : h38.2.2 = H.2.2 := by rw [e38]; exact h9r
      refine ⟨(G h38 h38r).2, vp_in_nI (n := 1) (by omega) (by omega), vp_in_nI (n := 1) (by omega) (by omega), fun h56 e56 => ?_⟩
      have g38 : ∀ c j, gi h38 c j = gi h9 c j := fun c j => by rw [e38]; rfl
      rw [g38, g9] at e56
      rw [ms1.2.2.1] at e4
      subst e4
      have gF : ∀ c j, ¬ (c = 6 ∧ j = 1) → gi h56 c j = gi h189 c j := fun c j hc => by
        rw [e56, gi_if, if_neg hc, g38, e9, gi_if, if_neg hc]
      refine h10 _ _ (bY ms1.2.2.2.1 (hQ h56 ?_ (fun j hj => ?_) (fun c j h1 h6 => ?_) ?_ ?_))
      · intro q b o ho
        show eN q b o (h56.1 o) (h56.2.1 o) (h56.2.2 o) = eM q (fun i => b + i) o (h56.1 o) (h56.2.1 o) (fun k => h56.2.2 o k - 1)
        have hr : h56.2.2 = H.2.2 := by rw [e56]; exact h38r
        rw [hr]
        have km : o = 0 ∨ kM o = 20 ∨ kM o = 21 ∨ kM o = 26 := by
          have : ∀ o, o < 14 → o = 0 ∨ kM o = 20 ∨ kM o = 21 ∨ kM o = 26 := by decide +kernel
          exact this o ho
        unfold eN eM
        rcases km with e | e | e | e
        · subst e
          rw [show kM 0 = 11 by decide +kernel, ar]
          rfl
        · rw [e]; rfl
        · rw [e]; rfl
        · rw [e]; rfl
      · rw [gF 1 j (by omega)]
        exact m189 j hj
      · rw [gF c j (by omega), f189.1 c h1]
        exact az c j
      · refine RV.of (n := 0) ?_ (by omega) (fun i hi => by omega) (Or.inl rfl) rfl
        rw [gF 6 0 (by omega), f189.1 6 (by omega), az]
        rfl
      · have s1 : gi h56 6 1 = nI 1 := by
          rw [e56, gi_s]
          decide
        have d0 : gl h56 5 (64 * 1 + 0) = lN 1 := by
          rw [e56, gl_si, e38]
          show gl (sl h9 5 64 (lN 1)) 5 64 = lN 1
          rw [gl_if, if_pos ⟨rfl, rfl⟩]
        have hBB : BB = 1073741824 := rfl
        have dd : dl h56 1 0 = 1 := dl_of d0 (by omega)
        refine RV.of (n := 1) s1 (by omega) (fun i hi => ?_) (Or.inr (by rw [show 1 - 1 = 0 from rfl, dd]; omega)) ?_
        · rw [show i = 0 by omega, dd]
          exact ⟨d0, by omega⟩
        · show 0 + dl h56 1 0 * BB ^ 0 = 1
          rw [dd]
          rfl
    · intro k g2 hk hJ nx
      obtain ⟨j1, j2⟩ := hJ
      refine h149 _ _ (bN (nI_ge (b := 4) hk (by omega)) ⟨gr0 g2 j2, ?_⟩)
      rw [show (22 : Int32) + nI k = nI (22 + k) from nI_add 22 k, show (30 : Int32) + nI k = nI (30 + k) from nI_add 30 k, nI_clamp (by omega), nI_clamp (by omega)]
      refine ⟨vp_in_nI (by omega) (by omega), fun h164 e164 => ?_⟩
      have f164 : frm (fun c => c = 1) H h164 := j2.trans (e164 ▸ frm.si rfl)
      refine ⟨gr0 _ f164, vp_in_nI (by omega) (by omega), fun h174 e174 a1 e1 => ?_⟩
      rw [nI_1] at e1
      subst e1
      refine nx h174 ⟨fun j => ?_, f164.trans (e174 ▸ frm.si rfl)⟩
      rw [e174, gi_if, e164, gi_if, j1]
      by_cases a : j = 30 + k
      · rw [if_pos ⟨rfl, a⟩, if_neg (by omega), if_neg (by omega), if_neg (by omega), if_neg (by omega), if_pos (by omega)]
      rw [if_neg (fun y => a y.2)]
      by_cases b : j = 22 + k
      · rw [if_pos ⟨rfl, b⟩, if_neg (by omega), if_neg (by omega), if_neg (by omega), if_pos (by omega)]
      rw [if_neg (fun y => b y.2)]
      by_cases c1 : 6 ≤ j ∧ j < 16
      · rw [if_pos c1, if_pos c1]
      rw [if_neg c1, if_neg c1]
      by_cases c2 : j = 20
      · rw [if_pos c2, if_pos c2]
      rw [if_neg c2, if_neg c2]
      by_cases c3 : j = 21
      · rw [if_pos c3, if_pos c3]
      rw [if_neg c3, if_neg c3]
      by_cases c4 : 22 ≤ j ∧ j < 22 + k
      · rw [if_pos c4, if_pos (by omega)]
      rw [if_neg c4, if_neg (show ¬ (22 ≤ j ∧ j < 22 + (k + 1)) by omega)]
      by_cases c5 : 30 ≤ j ∧ j < 30 + k
      · rw [if_pos c5, if_pos (by omega)]
      rw [if_neg c5, if_neg (by omega)]
  · intro k g hk hI nx
    obtain ⟨i1, i2⟩ := hI
    refine h107 _ _ (bN (nI_ge (b := 10) hk (by omega)) ⟨gr0 g i2, ?_⟩)
    rw [show (6 : Int32) + nI k = nI (6 + k) from nI_add 6 k, nI_clamp (by omega)]
    refine ⟨vp_in_nI (by omega) (by omega), fun h122 e122 a1 e1 => ?_⟩
    rw [nI_1] at e1
    subst e1
    refine nx h122 ⟨fun j => ?_, i2.trans (e122 ▸ frm.si rfl)⟩
    rw [e122, gi_if, i1]
    by_cases a : j = 6 + k
    · rw [if_pos ⟨rfl, a⟩, if_pos (by omega)]
    · rw [if_neg (fun y => a y.2)]
      by_cases b : 6 ≤ j ∧ j < 6 + k
      · rw [if_pos b, if_pos (by omega)]
      · rw [if_neg b, if_neg (by omega)]
/-- the first row keeps the ranges -/
theorem RG_00 : RG n00 := by
  have z : ∀ k, (k < 6 ∨ (16 ≤ k ∧ k < 20) ∨ (26 ≤ k ∧ k < 30) ∨ (34 ≤ k ∧ k ≠ 543)) → n00 k = nI 0 := fun k hk => by
    unfold n00
    rw [if_neg (by omega), if_neg (by omega), if_neg (by omega), if_neg (by omega), if_neg (by omega), if_neg (by omega)]
    rfl
  have r0 : ∀ k hi, (k < 6 ∨ (16 ≤ k ∧ k < 20) ∨ (26 ≤ k ∧ k < 30) ∨ (34 ≤ k ∧ k ≠ 543)) → hi < 2 ^ 31 → rg hi (n00 k) := fun k hi h1 h2 => by rw [z k h1]; exact rg.of (Nat.zero_le _) h2
  refine ⟨r0 _ _ (by omega) (by omega), r0 _ _ (by omega) (by omega), r0 _ _ (by omega) (by omega), r0 _ _ (by omega) (by omega), fun i hi => r0 _ _ (by omega) (by omega), fun i hi => ?_, fun i hi => r0 _ _ (by omega) (by omega), fun i hi => ?_, fun i hi => ?_, fun i hi => r0 _ _ (by omega) (by omega), fun i hi => ?_, fun s hs => r0 _ _ (by omega) (by omega), fun s hs i hi => r0 _ _ (by omega) (by omega), fun s hs => ⟨r0 _ _ (by omega) (by omega), r0 _ _ (by omega) (by omega), r0 _ _ (by omega) (by omega), r0 _ _ (by omega) (by omega)⟩, ⟨r0 _ _ (by omega) (by omega), Or.inl rfl, r0 _ _ (by omega) (by omega)⟩, fun t ht => ⟨r0 _ _ (by omega) (by omega), r0 _ _ (by omega) (by omega), r0 _ _ (by omega) (by omega), r0 _ _ (by omega) (by omega), r0 _ _ (by omega) (by omega)⟩, fun t ht => ?_, fun p hp q hq => ⟨r0 _ _ (by omega) (by omega), ?_, fun _ => ?_⟩, fun d hd => r0 _ _ (by omega) (by omega)⟩
  · have e : n00 (6 + i) = nI 5 := if_pos (by omega)
    rw [e]
    exact rg_of (by omega)
  · rcases (show i = 0 ∨ i = 1 by omega) with e | e
    · rw [e]
      exact rg_of (m := 6) (by omega)
    · rw [e]
      exact rg_of (m := 9) (by omega)
  · have e : n00 (22 + i) = nI 100 := by
      unfold n00
      rw [if_neg (by omega), if_neg (by omega), if_neg (by omega), if_pos (by omega)]
      rfl
    rw [e, nn_nI (by omega)]
    exact ⟨rg_of (by omega), by omega⟩
  · have e : n00 (30 + i) = nI 1 := by
      unfold n00
      rw [if_neg (by omega), if_neg (by omega), if_neg (by omega), if_neg (by omega), if_pos (by omega)]
      rfl
    rw [e]
    exact rg_of (by omega)
  · rw [z 674 (by omega), nn_nI (by omega)] at ht
    omega
  · rw [z _ (by omega), z _ (by omega)]
  · rw [z _ (by omega), nI_0]
theorem pure_goal (L : Nat) (xs : Nat → Int32) (hL : L ≤ 3072) : i_X_init (zr h00 0 1) (fun h => CFX h ∧ i_M_init (zr h00 0 1) (fun g => CFM g ∧ p_law L xs (cv h) (cv g))) := by
  have z0 : ∀ c j, gi (zr h00 0 1) c j = 0 := fun c j => by
    by_cases y : 0 ≤ c ∧ c < 0 + 1
    · exact zr_gi y.1 y.2
    · unfold gi
      rw [(zr_out y).1]
      rfl
  refine k_X (fun j => z0 0 j) (fun h gd' N => ⟨fun q b o ho => gd' o ho q b, k_M z0 (fun g cf M Z R0 R1 => ⟨cf, pure_law hL ⟨n00, ?_⟩⟩)⟩)
  obtain ⟨x3, n29, n111, n76, w6, w7, b7, b9, f3, f4, n405, n0⟩ := N
  have cg : ∀ o k, gr (cv h) o k = gr h o k - 1 := fun _ _ => rfl
  refine ⟨x3, M, RG_00, fun i hi => Or.inl ⟨n405 i, Z 3 i (by omega) (by omega)⟩, ⟨?_, ?_, ?_⟩, ⟨0, 1, b7, b9, R0, R1, ?_⟩, Or.inl ⟨?_, ?_⟩, Or.inl ⟨?_, ?_⟩, fun s hs => Or.inl (n76 s), Or.inl n29, Or.inl n111⟩
  · show gi h 0 9 = gi g 4 0
    rw [n0, Z 4 0 (by omega) (by omega)]
  · show gi h 0 10 = gi g 4 1
    rw [n0, Z 4 1 (by omega) (by omega)]
  · show gi h 0 11 = gi g 4 2
    rw [n0, Z 4 2 (by omega) (by omega)]
  · show gi g 0 6 = sgn 0
    rw [Z 0 6 (by omega) (by omega)]
    rfl
  · rw [cg, f3]
  · rw [cg, f4]
  · rw [cg, w6]
  · rw [cg, w7]
