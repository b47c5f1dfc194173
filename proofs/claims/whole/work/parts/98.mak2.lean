/-! ===== making: tales, tokens, lives, chances, worlds ===== -/
theorem k_Tale {o : Nat} {h : Hs} {Q : Hs → Prop} (hk : kX o = 7) (k1 : kX (o + 1) = 20 ∧ lX (o + 1) = 120 ∧ kX (o + 2) = 20 ∧ lX (o + 2) = 6) (hQ : ∀ h', gd h' o → gd h' (o + 1) → gd h' (o + 2) → fcx (fun c => o ≤ c ∧ c < o + 3) h h' → Q h') : i_Tale_init o h Q := by
  obtain ⟨c1, c2, c3, c4⟩ := k1
  unfold i_Tale_init
  refine ⟨c1, c2, fun h7 e7 h9 e9 => ⟨c3, c4, fun h15 e15 h17 e17 h22 e22 h27 e27 => ?_⟩⟩
  have P0 : PIN o (o + 1) (o + 1) (fun _ => False) (h.2.2 o) h h h := PIN.start
  have P1 := P0.arr (n := 1) (k := 0) (v := o + 1 + 1) (by omega) (by omega) (fun i hi => by rw [show o + 1 + i = o + 1 by omega]; exact Or.inl c1)
  rw [← e7, ← e9] at P1
  have P2 := P1.arr (n := 1) (k := 1) (v := o + 2 + 1) (by omega) (by omega) (fun i hi => by rw [show o + 1 + 1 + i = o + 2 by omega]; exact Or.inl c3)
  rw [show o + 1 + 1 = o + 2 by omega, ← e15, ← e17] at P2
  obtain ⟨p1, p2, p3, p4, p5⟩ := P2
  have fs : fcx (fun c => c = o) h17 h27 := (e22 ▸ fcx.si rfl : fcx (fun c => c = o) h17 h22).trans (e27 ▸ fcx.si rfl)
  have er : h27.2.2 = h17.2.2 := by rw [e27, e22]; rfl
  refine hQ h27 ?_ ((p1 (o + 1) (by omega) (by omega) (fun x => x)).x fs (by omega)) ((p1 (o + 2) (by omega) (by omega) (fun x => x)).x fs (by omega)) ((p3.mono (fun c hc => by omega)).trans (fs.mono (fun c hc => by omega)))
  intro q b
  show eC q b o (h27.1 o) (h27.2.1 o) (h27.2.2 o) = eX q (fun i => b + i) o (h27.1 o) (h27.2.1 o) (fun k => h27.2.2 o k - 1)
  rw [er, p4]
  unfold eC eX
  rw [hk]
  rfl
theorem gd_row {h : Hs} {o : Nat} {R : Nat → Nat} (e : h.2.2 o = R) (g : ∀ (q : Nat → ClassId) (b : Nat) (r1 : Nat → Int32) (r2 : Nat → Int64), eC q b o r1 r2 R = eX q (fun i => b + i) o r1 r2 (fun k => R k - 1)) : gd h o := fun q b => by
  show eC q b o (h.1 o) (h.2.1 o) (h.2.2 o) = eX q (fun i => b + i) o (h.1 o) (h.2.1 o) (fun k => h.2.2 o k - 1)
  rw [e]
  exact g q b _ _
theorem kX_fix : kX 0 = 10 ∧ kX 1 = 9 ∧ kX 2 = 4 ∧ kX 43 = 8 ∧ kX 47 = 24 ∧ kX 71 = 2 ∧ kX 72 = 23 ∧ kX 73 = 23 ∧ kX 354 = 23 ∧ kX 361 = 23 ∧ kX 404 = 25 ∧ kX 406 = 3 ∧ kX 417 = 5 := by decide +kernel
theorem kX_arr : ∀ o, o < 504 → o = 0 ∨ o = 1 ∨ o = 2 ∨ o = 3 ∨ o = 43 ∨ o = 47 ∨ o = 71 ∨ o = 72 ∨ o = 73 ∨ o = 354 ∨ o = 361 ∨ o = 404 ∨ o = 406 ∨ o = 417 ∨ o = 424 ∨ o = 464 ∨ kX o = 1 ∨ kX o = 7 ∨ kX o = 20 ∨ kX o = 21 ∨ kX o = 22 := by decide +kernel
theorem kA {o : Nat} {X : Nat → Prop} (h : kX o = 20 ∨ kX o = 21 ∨ kX o = 22) : kX o = 20 ∨ kX o = 21 ∨ kX o = 22 ∨ X o := by
  rcases h with y | y | y
  · exact Or.inl y
  · exact Or.inr (Or.inl y)
  · exact Or.inr (Or.inr (Or.inl y))
theorem gd_23 {h : Hs} {o : Nat} (hk : kX o = 23) (hr : ∀ k, k < lX o → h.2.2 o k = bX o + 2 * k + 1) : gd h o := fun q b => by
  unfold eC eX
  rw [hk]
  show (Sum.inl (q 23, lX o, .inr (.inr (.inr (.inr (fun k => if k < lX o then opC b (h.2.2 o k) else none))))) : va_E) = .inl (q 23, lX o, .inr (.inr (.inr (.inr (fun k => if k < lX o then some (b + (bX o + 2 * k)) else none)))))
  have : (fun k => if k < lX o then opC b (h.2.2 o k) else none) = (fun k => if k < lX o then some (b + (bX o + 2 * k)) else none) := funext (fun k => by
    by_cases c : k < lX o
    · rw [if_pos c, if_pos c, hr k c]
      rfl
    · rw [if_neg c, if_neg c])
  rw [this]
theorem gd_24 {h : Hs} {o : Nat} (hk : kX o = 24) (hr : ∀ k, k < lX o → h.2.2 o k = bX o + 3 * k + 1) : gd h o := fun q b => by
  unfold eC eX
  rw [hk]
  show (Sum.inl (q 24, lX o, .inr (.inr (.inr (.inr (fun k => if k < lX o then opC b (h.2.2 o k) else none))))) : va_E) = .inl (q 24, lX o, .inr (.inr (.inr (.inr (fun k => if k < lX o then some (b + (bX o + 3 * k)) else none)))))
  have : (fun k => if k < lX o then opC b (h.2.2 o k) else none) = (fun k => if k < lX o then some (b + (bX o + 3 * k)) else none) := funext (fun k => by
    by_cases c : k < lX o
    · rw [if_pos c, if_pos c, hr k c]
      rfl
    · rw [if_neg c, if_neg c])
  rw [this]
theorem gd_25 {h : Hs} {o : Nat} (hk : kX o = 25) (hr : ∀ k, k < lX o → h.2.2 o k = bX o + 40 * k + 1) : gd h o := fun q b => by
  unfold eC eX
  rw [hk]
  show (Sum.inl (q 25, lX o, .inr (.inr (.inr (.inr (fun k => if k < lX o then opC b (h.2.2 o k) else none))))) : va_E) = .inl (q 25, lX o, .inr (.inr (.inr (.inr (fun k => if k < lX o then some (b + (bX o + 40 * k)) else none)))))
  have : (fun k => if k < lX o then opC b (h.2.2 o k) else none) = (fun k => if k < lX o then some (b + (bX o + 40 * k)) else none) := funext (fun k => by
    by_cases c : k < lX o
    · rw [if_pos c, if_pos c, hr k c]
      rfl
    · rw [if_neg c, if_neg c])
  rw [this]
theorem k_Tokens {h : Hs} {Q : Hs → Prop} (hQ : ∀ h', (∀ c, 43 ≤ c → c < 47 → gd h' c) → fcx (fun c => 43 ≤ c ∧ c < 47) h h' → Q h') : i_Tokens_init h Q := by
  have k20 : kX 44 = 20 ∧ kX 45 = 20 ∧ kX 46 = 20 := by decide +kernel
  unfold i_Tokens_init
  intro h7 e7 h9 e9 h15 e15 h17 e17 h23 e23 h25 e25
  have P0 : PIN 43 44 44 (fun _ => False) (h.2.2 43) h h h := PIN.start
  have P1 := P0.arr (n := 1) (k := 0) (v := 45) (by omega) (by omega) (fun i hi => by rw [show 44 + i = 44 by omega]; exact Or.inl k20.1)
  rw [← e7, ← e9] at P1
  have P2 := P1.arr (n := 1) (k := 1) (v := 46) (by omega) (by omega) (fun i hi => by rw [show 44 + 1 + i = 45 by omega]; exact Or.inl k20.2.1)
  rw [show 44 + 1 = 45 from rfl, ← e15, ← e17] at P2
  have P3 := P2.arr (n := 1) (k := 2) (v := 47) (by omega) (by omega) (fun i hi => by rw [show 45 + 1 + i = 46 by omega]; exact Or.inl k20.2.2)
  rw [show 45 + 1 = 46 from rfl, ← e23, ← e25] at P3
  obtain ⟨p1, p2, p3, p4, p5⟩ := P3
  refine hQ h25 (fun c h1 h2 => ?_) p3
  by_cases e : c = 43
  · subst e
    refine gd_row p4 (fun q b r1 r2 => ?_)
    unfold eC eX
    rw [kX_fix.2.2.2.1]
    rfl
  · exact p1 c (by omega) h2 (fun x => x)
theorem k_Ship {h : Hs} {Q : Hs → Prop} (hQ : ∀ h', (∀ c, 417 ≤ c → c < 420 → gd h' c) → fcx (fun c => 417 ≤ c ∧ c < 420) h h' → Q h') : i_Ship_init h Q := by
  have k20 : kX 418 = 20 ∧ kX 419 = 20 := by decide +kernel
  unfold i_Ship_init
  intro h7 e7 h9 e9 h15 e15 h17 e17
  have P0 : PIN 417 418 418 (fun _ => False) (h.2.2 417) h h h := PIN.start
  have P1 := P0.arr (n := 1) (k := 0) (v := 419) (by omega) (by omega) (fun i hi => by rw [show 418 + i = 418 by omega]; exact Or.inl k20.1)
  rw [← e7, ← e9] at P1
  have P2 := P1.arr (n := 1) (k := 1) (v := 420) (by omega) (by omega) (fun i hi => by rw [show 418 + 1 + i = 419 by omega]; exact Or.inl k20.2)
  rw [show 418 + 1 = 419 from rfl, ← e15, ← e17] at P2
  obtain ⟨p1, p2, p3, p4, p5⟩ := P2
  refine hQ h17 (fun c h1 h2 => ?_) p3
  by_cases e : c = 417
  · subst e
    refine gd_row p4 (fun q b r1 r2 => ?_)
    unfold eC eX
    rw [kX_fix.2.2.2.2.2.2.2.2.2.2.2.2]
    rfl
  · exact p1 c (by omega) h2 (fun x => x)
theorem XS.x {S : Nat → Prop} {h h' : Hs} {o : Nat} {n : Nat → Int32} (x : XS h o n) (f : fcx S h h') (hS : ∀ c, o ≤ c → c < o + 40 → ¬ S c) : XS h' o n := x.keep (fun c h1 h2 j => f.gi (hS c h1 h2) j)
theorem zr_fx {h : Hs} {n : Nat} : fcx (fun c => n ≤ c ∧ c < n + 1) h (zr h n 1) := fcx.zr (fun c h1 h2 => ⟨h1, h2⟩)
theorem kL : (∀ i, i < 4 → kX (59 + 3 * i) = 7 ∧ kX (59 + 3 * i + 1) = 20 ∧ lX (59 + 3 * i + 1) = 120 ∧ kX (59 + 3 * i + 2) = 20 ∧ lX (59 + 3 * i + 2) = 6) ∧ lX 47 = 4 ∧ bX 47 = 59 := by decide +kernel
theorem k_Lives {h : Hs} {Q : Hs → Prop} (hQ : ∀ h', (∀ c, 2 ≤ c → c < 71 → gd h' c) → XS h' 3 n00 → (∀ j, gi h' 2 j = gi h 2 j) → gr h' 2 0 = 4 → fcx (fun c => 2 ≤ c ∧ c < 71) h h' → Q h') : i_Lives_init h Q := by
  have kx := fun o (ho : o < 504) => kX_arr o ho
  unfold i_Lives_init
  intro h5 e5
  have P0 : PIN 2 3 3 (fun c => c = 47) (h.2.2 2) h h h := PIN.start
  refine k_State (Or.inl rfl) (fun j => by rw [e5]; exact zr_gi (by omega) (by omega)) (fun h9 g9 X9 f9 h12 e12 h16 e16 => ?_)
  have F9 : fcx (fun c => 3 ≤ c ∧ c < 43) h h9 := ((e5 ▸ zr_fx : fcx (fun c => 3 ≤ c ∧ c < 3 + 1) h h5).mono (fun c hc => by omega)).trans (f9.mono (fun c hc => by omega))
  have P1 := (P0.child (e' := 43) (k := 0) (v := 3 + 1) (by omega) (by omega) (by omega) (fun c h1 h2 _ => g9 c h1 (by omega)) F9)
  rw [← e12] at P1
  have X12 : XS h12 3 n00 := X9.x (e12 ▸ fcx.sr rfl : fcx (fun c => c = 2) h9 h12) (fun c a b => by omega)
  have P1 := P1.mark
  refine k_Tokens (fun h20 g20 f20 h23 e23 h28 e28 h31 e31 h36 e36 h38 e38 h44 e44 h46 e46 h52 e52 h54 e54 h60 e60 h62 e62 h70 e70 h74 e74 P79 h79 => ?_)
  have F20 : fcx (fun c => 43 ≤ c ∧ c < 47) h12 h20 := ((e16 ▸ zr_fx : fcx (fun c => 43 ≤ c ∧ c < 43 + 1) h12 h16).mono (fun c hc => by omega)).trans f20
  have P2 := P1.child (e' := 47) (k := 1) (v := 43 + 1) (by omega) (by omega) (by omega) (fun c h1 h2 _ => g20 c h1 h2) F20
  rw [← e23] at P2
  have k48 : kX 48 = 20 ∧ kX 49 = 20 ∧ kX 50 = 20 ∧ kX 51 = 20 ∧ (∀ i, i < 7 → kX (52 + i) = 20 ∨ kX (52 + i) = 21 ∨ kX (52 + i) = 22) := by decide +kernel
  have P3 := P2.arr (n := 1) (k := 2) (v := 47 + 1) (by omega) (by omega) (fun i hi => by rw [show 47 + i = 47 by omega]; exact Or.inr (Or.inr (Or.inr rfl)))
  rw [← e28, ← e31] at P3
  have P4 := P3.arr (n := 1) (k := 3) (v := 48 + 1) (by omega) (by omega) (fun i hi => by rw [show 47 + 1 + i = 48 by omega]; exact Or.inl k48.1)
  rw [show 47 + 1 = 48 from rfl, ← e36, ← e38] at P4
  have P5 := P4.arr (n := 1) (k := 4) (v := 49 + 1) (by omega) (by omega) (fun i hi => by rw [show 48 + 1 + i = 49 by omega]; exact Or.inl k48.2.1)
  rw [show 48 + 1 = 49 from rfl, ← e44, ← e46] at P5
  have P6 := P5.arr (n := 1) (k := 6) (v := 50 + 1) (by omega) (by omega) (fun i hi => by rw [show 49 + 1 + i = 50 by omega]; exact Or.inl k48.2.2.1)
  rw [show 49 + 1 = 50 from rfl, ← e52, ← e54] at P6
  have P7 := P6.arr (n := 1) (k := 7) (v := 51 + 1) (by omega) (by omega) (fun i hi => by rw [show 50 + 1 + i = 51 by omega]; exact Or.inl k48.2.2.2.1)
  rw [show 50 + 1 = 51 from rfl, ← e60, ← e62] at P7
  have P8 := P7.arr (n := 7) (k := 8) (v := 52 + 1) (by omega) (by omega) (fun i hi => by rw [show 51 + 1 + i = 52 + i by omega]; exact kA (X := fun c => c = 47) (k48.2.2.2.2 i hi))
  rw [show 51 + 1 = 52 from rfl, show (7 : Nat) = 1 + 6 from rfl, ← e70, ← e74, show 52 + (1 + 6) = 59 from rfl] at P8
  clear P1 P2 P3 P4 P5 P6 P7
  have r2 : gr h74 2 2 = 47 + 1 := by show h74.2.2 2 2 = _; rw [P8.2.2.2.1]; rfl
  have key := lpG (fun k (g : Hs) => P79 (nI k) (56 + 3 * k) g) (fun k g => (∀ i, i < k → gd g (59 + 3 * i) ∧ gd g (59 + 3 * i + 1) ∧ gd g (59 + 3 * i + 2)) ∧ (∀ i, i < k → gr g 47 i = 59 + 3 * i + 1) ∧ fcx (fun c => c = 47 ∨ (59 ≤ c ∧ c < 59 + 3 * k)) h74 g) 4 (s := h74) ⟨fun i hi => by omega, fun i hi => by omega, fcx.refl⟩ ?_ ?_
  · exact key
  · intro g hI
    obtain ⟨i1, i2, i3⟩ := hI
    refine h79 _ _ _ ⟨by omega, bY (nI_le (a := 4) (b := 4) (by omega) (by omega)) ⟨rfl, hQ g (fun c h1 h2 => ?_) ?_ (fun j => ?_) ?_ ?_⟩⟩
    · by_cases c2 : c = 2
      · subst c2
        refine gd_row ((i3 2 (by omega)).2.2.trans P8.2.2.2.1) (fun q b r1 r2 => ?_)
        unfold eC eX
        rw [kX_fix.2.2.1]
        rfl
      by_cases c47 : c = 47
      · subst c47
        refine gd_24 kX_fix.2.2.2.2.1 (fun k hk => ?_)
        rw [kL.2.1] at hk
        rw [kL.2.2]
        exact i2 k hk
      by_cases c59 : c < 59
      · exact (P8.1 c (by omega) c59 c47).x i3 (by omega)
      · have := i1 ((c - 59) / 3) (by omega)
        rcases (show c = 59 + 3 * ((c - 59) / 3) ∨ c = 59 + 3 * ((c - 59) / 3) + 1 ∨ c = 59 + 3 * ((c - 59) / 3) + 2 by omega) with y | y | y
        · rw [y]; exact this.1
        · rw [y]; exact this.2.1
        · rw [y]; exact this.2.2
    · exact (X12.x P8.2.2.2.2 (fun c a b => by omega)).x i3 (fun c a b => by omega)
    · rw [i3.gi (by omega)]
      exact P8.2.1 j
    · rw [i3.gr (by omega)]
      show h74.2.2 2 0 = 4
      rw [P8.2.2.2.1]
      rfl
    · exact (P8.2.2.1.mono (fun c hc => by omega)).trans (i3.mono (fun c hc => by omega))
  · intro k g hk hI nx
    obtain ⟨i1, i2, i3⟩ := hI
    obtain ⟨kk1, kk2⟩ := kL.1 k hk
    refine h79 _ _ _ ⟨by omega, bN (nI_ge (b := 4) hk (by omega)) ⟨by rw [i3.gr (by omega)]; exact r2, by rw [show 3 + (56 + 3 * k) = 59 + 3 * k by omega]; exact kk1, by omega, fun h89 e89 => ⟨by omega, ?_⟩⟩⟩
    rw [show 3 + (56 + 3 * k) = 59 + 3 * k by omega] at e89 ⊢
    refine k_Tale kk1 kk2 (fun h93 t1 t2 t3 f93 => ⟨vp_in_nI hk (by omega), fun h96 e96 a1 e1 => ?_⟩)
    rw [nI_1] at e1
    rw [nI_clamp (by omega)] at e96
    have f1 : fcx (fun c => 59 + 3 * k ≤ c ∧ c < 59 + 3 * k + 3) g h93 := ((e89 ▸ zr_fx : fcx (fun c => 59 + 3 * k ≤ c ∧ c < 59 + 3 * k + 1) g h89).mono (fun c hc => by omega)).trans f93
    have f2 : fcx (fun c => c = 47) h93 h96 := e96 ▸ fcx.sr rfl
    subst e1
    have nx := nx h96 ⟨fun i hi => ?_, fun i hi => ?_, (i3.mono (fun c hc => by omega)).trans ((f1.mono (fun c hc => by omega)).trans (f2.mono (fun c hc => by omega)))⟩
    · rw [show 56 + 3 * (k + 1) = 56 + 3 * k + 3 by omega] at nx
      exact nx
    · by_cases e : i = k
      · subst e
        exact ⟨t1.x f2 (by omega), t2.x f2 (by omega), t3.x f2 (by omega)⟩
      · obtain ⟨u1, u2, u3⟩ := i1 i (by omega)
        exact ⟨(u1.x f1 (by omega)).x f2 (by omega), (u2.x f1 (by omega)).x f2 (by omega), (u3.x f1 (by omega)).x f2 (by omega)⟩
    · rw [e96, gr_if]
      by_cases e : i = k
      · subst e
        rw [if_pos ⟨rfl, rfl⟩]
      · rw [if_neg (fun y => e y.2), f1.gr (by omega)]
        exact i2 i (by omega)
/-- a row of numbers that is filled -/
def BL (A o k : Nat) (hS g : Hs) : Prop := (∀ i, i < k → gd g (o + 2 * i) ∧ gd g (o + 2 * i + 1)) ∧ (∀ i, i < k → gr g A i = o + 2 * i + 1) ∧ fcx (fun c => c = A ∨ (o ≤ c ∧ c < o + 2 * k)) hS g
theorem BL.step {A o k : Nat} {hS g g1 h94 : Hs} (B : BL A o k hS g) (hA : A < o) (e1 : g1 = zr g (o + 2 * k) 1) (t1 : gd h94 (o + 2 * k)) (t2 : gd h94 (o + 2 * k + 1)) (f : fcx (bS (o + 2 * k)) g1 h94) : BL A o (k + 1) hS (sr h94 A k (o + 2 * k + 1)) := by
  obtain ⟨i1, i2, i3⟩ := B
  have f1 : fcx (fun c => o + 2 * k ≤ c ∧ c < o + 2 * k + 2) g h94 := ((e1 ▸ zr_fx : fcx (fun c => o + 2 * k ≤ c ∧ c < o + 2 * k + 1) g g1).mono (fun c hc => by omega)).trans (f.mono (fun c hc => by unfold bS at hc; omega))
  have f2 : fcx (fun c => c = A) h94 (sr h94 A k (o + 2 * k + 1)) := fcx.sr rfl
  refine ⟨fun i hi => ?_, fun i hi => ?_, (i3.mono (fun c hc => by omega)).trans ((f1.mono (fun c hc => by omega)).trans (f2.mono (fun c hc => by omega)))⟩
  · by_cases e : i = k
    · subst e
      exact ⟨t1.x f2 (by omega), t2.x f2 (by omega)⟩
    · obtain ⟨u1, u2⟩ := i1 i (by omega)
      exact ⟨(u1.x f1 (by omega)).x f2 (by omega), (u2.x f1 (by omega)).x f2 (by omega)⟩
  · rw [gr_if]
    by_cases e : i = k
    · subst e
      rw [if_pos ⟨rfl, rfl⟩]
    · rw [if_neg (fun y => e y.2), f1.gr (by omega)]
      exact i2 i (by omega)
theorem BL.gd {A o k c : Nat} {hS g : Hs} (B : BL A o k hS g) (h1 : o ≤ c) (h2 : c < o + 2 * k) : gd g c := by
  have := B.1 ((c - o) / 2) (by omega)
  rcases (show c = o + 2 * ((c - o) / 2) ∨ c = o + 2 * ((c - o) / 2) + 1 by omega) with y | y
  · rw [y]; exact this.1
  · rw [y]; exact this.2
theorem BL.init {A o : Nat} {hS : Hs} : BL A o 0 hS hS := ⟨fun i hi => by omega, fun i hi => by omega, fcx.refl⟩
theorem kC : lX 72 = 126 ∧ bX 72 = 77 ∧ lX 73 = 10 ∧ bX 73 = 329 ∧ lX 354 = 16 ∧ bX 354 = 364 ∧ lX 361 = 4 ∧ bX 361 = 396 ∧ lX 404 = 2 ∧ bX 404 = 424 ∧ kX 76 = 20 ∧ kX 405 = 21 ∧ (∀ i, i < 5 → kX (349 + i) = 20 ∨ kX (349 + i) = 21 ∨ kX (349 + i) = 22) ∧ kX 420 = 1 ∧ kX 422 = 1 ∧ lX (420 + 1) = 5 ∧ lX (422 + 1) = 5 ∧ kX 407 = 1 ∧ kX 409 = 1 ∧ kX 411 = 1 ∧ kX 413 = 1 ∧ kX 415 = 1 := by decide +kernel
theorem k_Chances {h : Hs} {Q : Hs → Prop} (hQ : ∀ h', (∀ c, 71 ≤ c → c < 349 → gd h' c) → (∀ j, gi h' 76 j = 0) → fcx (fun c => 71 ≤ c ∧ c < 349) h h' → Q h') : i_Chances_init h Q := by
  unfold i_Chances_init
  intro h7 e7 h10 e10 h16 e16 h19 e19 h23 e23
  have P0 : PIN 71 72 72 (fun c => c = 72 ∨ c = 73) (h.2.2 71) h h h := PIN.start
  have P1 := P0.arr (n := 1) (k := 0) (v := 72 + 1) (by omega) (by omega) (fun i hi => by rw [show 72 + i = 72 by omega]; exact Or.inr (Or.inr (Or.inr (Or.inl rfl))))
  rw [← e7, ← e10] at P1
  have P2 := P1.arr (n := 1) (k := 1) (v := 73 + 1) (by omega) (by omega) (fun i hi => by rw [show 72 + 1 + i = 73 by omega]; exact Or.inr (Or.inr (Or.inr (Or.inr rfl))))
  rw [show 72 + 1 = 73 from rfl, ← e16, ← e19] at P2
  refine k_Big (r := 5) kX_74.1 rfl (by omega) (by omega) kX_74.2 (fun h28 g1 g2 _ _ f28 h31 e31 h37 e37 h39 e39 P44 h44 => ?_)
  have F28 : fcx (fun c => 74 ≤ c ∧ c < 76) h19 h28 := ((e23 ▸ zr_fx : fcx (fun c => 74 ≤ c ∧ c < 74 + 1) h19 h23).mono (fun c hc => by omega)).trans (f28.mono (fun c hc => by unfold bS at hc; omega))
  have P3 := P2.child (e' := 76) (k := 2) (v := 74 + 1) (by omega) (by omega) (by omega) (fun c h1 h2 _ => by rcases (show c = 74 ∨ c = 75 by omega) with y | y; (rw [y]; exact g1); (rw [y]; exact g2)) F28
  rw [← e31] at P3
  have P4 := P3.arr (n := 1) (k := 3) (v := 76 + 1) (by omega) (by omega) (fun i hi => by rw [show 76 + i = 76 by omega]; exact Or.inl kC.2.2.2.2.2.2.2.2.2.2.1)
  rw [← e37, ← e39, show 76 + 1 = 77 from rfl] at P4
  have z76 : ∀ j, gi h39 76 j = 0 := fun j => by
    rw [e39]
    show gi h37 76 j = 0
    rw [e37]
    exact zr_gi (by omega) (by omega)
  have r0 : gr h39 71 0 = 72 + 1 := by show h39.2.2 71 0 = _; rw [P4.2.2.2.1]; rfl
  have r1 : gr h39 71 1 = 73 + 1 := by show h39.2.2 71 1 = _; rw [P4.2.2.2.1]; rfl
  have key := lpG (fun k (g : Hs) => P44 (nI k) (5 + 2 * k) g) (fun k g => BL 72 77 k h39 g) 126 (s := h39) BL.init ?_ ?_
  · exact key
  · intro g B
    refine h44 _ _ _ ⟨by omega, by rw [B.2.2.gr (by omega)]; exact r0, bY (nI_le (a := 126) (b := 126) (by omega) (by omega)) (fun P75 h75 => ?_)⟩
    have key2 := lpG (fun k (g2 : Hs) => P75 (nI k) (5 + 2 * 126 + 2 * k) g2) (fun k g2 => BL 73 329 k g g2) 10 (s := g) BL.init ?_ ?_
    · exact key2
    · intro g2 B2
      refine h75 _ _ _ ⟨by omega, by rw [B2.2.2.gr (by omega), B.2.2.gr (by omega)]; exact r1, bY (nI_le (a := 10) (b := 10) (by omega) (by omega)) ⟨rfl, hQ g2 (fun c h1 h2 => ?_) (fun j => ?_) ?_⟩⟩
      · by_cases c71 : c = 71
        · subst c71
          refine gd_row ((B2.2.2 71 (by omega)).2.2.trans ((B.2.2 71 (by omega)).2.2.trans P4.2.2.2.1)) (fun q b r1 r2 => ?_)
          unfold eC eX
          rw [kX_fix.2.2.2.2.2.1]
          rfl
        by_cases c72 : c = 72
        · subst c72
          refine gd_23 kX_fix.2.2.2.2.2.2.1 (fun k hk => ?_)
          rw [kC.1] at hk
          rw [kC.2.1]
          have := B.2.1 k hk
          rw [← B2.2.2.gr (by omega)] at this
          exact this
        by_cases c73 : c = 73
        · subst c73
          refine gd_23 kX_fix.2.2.2.2.2.2.2.1 (fun k hk => ?_)
          rw [kC.2.2.1] at hk
          rw [kC.2.2.2.1]
          exact B2.2.1 k hk
        by_cases c77 : c < 77
        · exact ((P4.1 c (by omega) c77 (by omega)).x B.2.2 (by omega)).x B2.2.2 (by omega)
        by_cases c329 : c < 329
        · exact (B.gd (by omega) (by omega)).x B2.2.2 (by omega)
        · exact B2.gd (by omega) (by omega)
      · rw [B2.2.2.gi (by omega), B.2.2.gi (by omega)]
        exact z76 j
      · exact (P4.2.2.1.mono (fun c hc => by omega)).trans ((B.2.2.mono (fun c hc => by omega)).trans (B2.2.2.mono (fun c hc => by omega)))
    · intro k g2 hk B2 nx
      have kb := kX_bf k hk
      refine h75 _ _ _ ⟨by omega, by rw [B2.2.2.gr (by omega), B.2.2.gr (by omega)]; exact r1, bN (nI_ge (b := 10) hk (by omega)) ⟨by rw [B2.2.2.gr (by omega), B.2.2.gr (by omega)]; exact r1, by rw [show 72 + (5 + 2 * 126 + 2 * k) = 329 + 2 * k by omega]; exact kb.1, by omega, fun h89 e89 => ⟨by omega, ?_⟩⟩⟩
      rw [show 72 + (5 + 2 * 126 + 2 * k) = 329 + 2 * k by omega] at e89 ⊢
      refine k_Big (r := 5) kb.1 rfl (by omega) (by omega) kb.2 (fun h94 t1 t2 _ _ f94 => ⟨vp_in_nI hk (by omega), fun h97 e97 a1 e1 => ?_⟩)
      rw [nI_1] at e1
      rw [nI_clamp (by omega)] at e97
      subst e1
      have nx := nx h97 (by rw [e97]; exact B2.step (by omega) e89 t1 t2 f94)
      rw [show 5 + 2 * 126 + 2 * (k + 1) = 5 + 2 * 126 + 2 * k + 2 by omega] at nx
      exact nx
  · intro k g hk B nx
    have kb := kX_tb k hk
    refine h44 _ _ _ ⟨by omega, by rw [B.2.2.gr (by omega)]; exact r0, bN (nI_ge (b := 126) hk (by omega)) ⟨by rw [B.2.2.gr (by omega)]; exact r0, by rw [show 72 + (5 + 2 * k) = 77 + 2 * k by omega]; exact kb.1, by omega, fun h58 e58 => ⟨by omega, ?_⟩⟩⟩
    rw [show 72 + (5 + 2 * k) = 77 + 2 * k by omega] at e58 ⊢
    refine k_Big (r := 5) kb.1 rfl (by omega) (by omega) kb.2 (fun h94 t1 t2 _ _ f94 => ⟨vp_in_nI hk (by omega), fun h97 e97 a1 e1 => ?_⟩)
    rw [nI_1] at e1
    rw [nI_clamp (by omega)] at e97
    subst e1
    have nx := nx h97 (by rw [e97]; exact B.step (by omega) e58 t1 t2 f94)
    rw [show 5 + 2 * (k + 1) = 5 + 2 * k + 2 by omega] at nx
    exact nx
theorem k_Worlds {h : Hs} {Q : Hs → Prop} (h2z : True) (hQ : ∀ h', (∀ c, 1 ≤ c → c < 404 → gd h' c) → XS h' 3 n00 → gi h' 2 9 = 0 → (∀ j, gi h' 76 j = 0) → (∀ j, gi h' 1 j = gi h 1 j) → gr h' 1 0 = 3 → gr h' 2 0 = 4 → gr h' 1 6 = 358 → gr h' 1 7 = 360 → fcx (fun c => 1 ≤ c ∧ c < 404) h h' → Q h') : i_Worlds_init h Q := by
  unfold i_Worlds_init
  intro h5 e5
  have P0 : PIN 1 2 2 (fun c => c = 354 ∨ c = 361) (h.2.2 1) h h h := PIN.start
  refine k_Lives (fun h9 g9 X9 z9 r9 f9 h12 e12 => ?_)
  have F9 : fcx (fun c => 2 ≤ c ∧ c < 71) h h9 := ((e5 ▸ zr_fx : fcx (fun c => 2 ≤ c ∧ c < 2 + 1) h h5).mono (fun c hc => by omega)).trans f9
  have P1 := P0.child (e' := 71) (k := 0) (v := 2 + 1) (by omega) (by omega) (by omega) (fun c h1 h2 _ => g9 c h1 h2) F9
  rw [← e12] at P1
  have f12 : fcx (fun c => c = 1) h9 h12 := e12 ▸ fcx.sr rfl
  have X12 : XS h12 3 n00 := X9.x f12 (fun c a b => by omega)
  have z12 : gi h12 2 9 = 0 := by
    rw [f12.gi (by omega), z9, e5]
    exact zr_gi (by omega) (by omega)
  have r12 : gr h12 2 0 = 4 := by rw [f12.gr (by omega)]; exact r9
  have P1 := P1.mark
  refine ⟨by show h12.2.2 1 0 = _; rw [P1.2.2.2.1]; rfl, r12, fun h23 e23 h27 e27 => ?_⟩
  have P2 := P1.child (hc := h12) (e' := 71) (k := 1) (v := 3 + 1) (by omega) (by omega) (by omega) (fun c h1 h2 _ => by omega) fcx.refl
  rw [← e23] at P2
  refine k_Chances (fun h31 g31 z31 f31 h34 e34 h40 e40 h44 e44 h50 e50 h53 e53 h57 e57 => ?_)
  have F31 : fcx (fun c => 71 ≤ c ∧ c < 349) h23 h31 := ((e27 ▸ zr_fx : fcx (fun c => 71 ≤ c ∧ c < 71 + 1) h23 h27).mono (fun c hc => by omega)).trans f31
  have P3 := P2.child (e' := 349) (k := 2) (v := 71 + 1) (by omega) (by omega) (by omega) (fun c h1 h2 _ => g31 c h1 h2) F31
  rw [← e34] at P3
  have X34 : XS h34 3 n00 := X12.x P3.2.2.2.2 (fun c a b => by omega)
  have z34 : gi h34 2 9 = 0 := by rw [P3.2.2.2.2.gi (by omega)]; exact z12
  have r34 : gr h34 2 0 = 4 := by rw [P3.2.2.2.2.gr (by omega)]; exact r12
  have k34 : ∀ j, gi h34 76 j = 0 := fun j => by
    rw [(e34 ▸ fcx.sr rfl : fcx (fun c => c = 1) h31 h34).gi (by omega)]
    exact z31 j
  have P3 := P3.mark
  have P4 := P3.arr (n := 5) (k := 3) (v := 349 + 1) (by omega) (by omega) (fun i hi => kA (X := fun c => c = 354 ∨ c = 361) (kC.2.2.2.2.2.2.2.2.2.2.2.2.1 i hi))
  rw [show (5 : Nat) = 1 + 4 from rfl, ← e40, ← e44, show 349 + (1 + 4) = 354 from rfl] at P4
  have P5 := P4.arr (n := 1) (k := 4) (v := 354 + 1) (by omega) (by omega) (fun i hi => by rw [show 354 + i = 354 by omega]; exact Or.inr (Or.inr (Or.inr (Or.inl rfl))))
  rw [← e50, ← e53, show 354 + 1 = 355 from rfl] at P5
  refine k_Big (r := 32) kX_to.2.2.1 rfl (by omega) (by omega) kX_to.2.2.2 (fun h63 a1 a2 _ _ f63 h66 e66 h70 e70 => ?_)
  have F63 : fcx (fun c => 355 ≤ c ∧ c < 357) h53 h63 := ((e57 ▸ zr_fx : fcx (fun c => 355 ≤ c ∧ c < 355 + 1) h53 h57).mono (fun c hc => by omega)).trans (f63.mono (fun c hc => by unfold bS at hc; omega))
  have P6 := P5.child (e' := 357) (k := 5) (v := 355 + 1) (by omega) (by omega) (by omega) (fun c h1 h2 _ => by rcases (show c = 355 ∨ c = 356 by omega) with y | y; (rw [y]; exact a1); (rw [y]; exact a2)) F63
  rw [← e66] at P6
  refine k_Big (r := 32) kX_wf.1 rfl (by omega) (by omega) kX_wf.2.2.1 (fun h76 b1 b2 _ _ f76 h79 e79 h83 e83 => ?_)
  have F76 : fcx (fun c => 357 ≤ c ∧ c < 359) h66 h76 := ((e70 ▸ zr_fx : fcx (fun c => 357 ≤ c ∧ c < 357 + 1) h66 h70).mono (fun c hc => by omega)).trans (f76.mono (fun c hc => by unfold bS at hc; omega))
  have P7 := P6.child (e' := 359) (k := 6) (v := 357 + 1) (by omega) (by omega) (by omega) (fun c h1 h2 _ => by rcases (show c = 357 ∨ c = 358 by omega) with y | y; (rw [y]; exact b1); (rw [y]; exact b2)) F76
  rw [← e79] at P7
  refine k_Big (r := 32) kX_wf.2.1 rfl (by omega) (by omega) kX_wf.2.2.2 (fun h89 c1 c2 _ _ f89 h92 e92 h97 e97 h100 e100 h104 e104 => ?_)
  have F89 : fcx (fun c => 359 ≤ c ∧ c < 361) h79 h89 := ((e83 ▸ zr_fx : fcx (fun c => 359 ≤ c ∧ c < 359 + 1) h79 h83).mono (fun c hc => by omega)).trans (f89.mono (fun c hc => by unfold bS at hc; omega))
  have P8 := P7.child (e' := 361) (k := 7) (v := 359 + 1) (by omega) (by omega) (by omega) (fun c h1 h2 _ => by rcases (show c = 359 ∨ c = 360 by omega) with y | y; (rw [y]; exact c1); (rw [y]; exact c2)) F89
  rw [← e92] at P8
  have P9 := P8.arr (n := 1) (k := 9) (v := 361 + 1) (by omega) (by omega) (fun i hi => by rw [show 361 + i = 361 by omega]; exact Or.inr (Or.inr (Or.inr (Or.inr rfl))))
  rw [← e97, ← e100, show 361 + 1 = 362 from rfl] at P9
  refine k_Big (r := 32) kX_to.1 rfl (by omega) (by omega) kX_to.2.1 (fun h110 d1 d2 _ _ f110 h113 e113 P118 h118 => ?_)
  have F110 : fcx (fun c => 362 ≤ c ∧ c < 364) h100 h110 := ((e104 ▸ zr_fx : fcx (fun c => 362 ≤ c ∧ c < 362 + 1) h100 h104).mono (fun c hc => by omega)).trans (f110.mono (fun c hc => by unfold bS at hc; omega))
  have P10 := P9.child (e' := 364) (k := 10) (v := 362 + 1) (by omega) (by omega) (by omega) (fun c h1 h2 _ => by rcases (show c = 362 ∨ c = 363 by omega) with y | y; (rw [y]; exact d1); (rw [y]; exact d2)) F110
  rw [← e113] at P10
  clear P0 P1 P2 P3 P4 P5 P6 P7 P8 P9
  have r4 : gr h113 1 4 = 354 + 1 := by show h113.2.2 1 4 = _; rw [P10.2.2.2.1]; rfl
  have r9' : gr h113 1 9 = 361 + 1 := by show h113.2.2 1 9 = _; rw [P10.2.2.2.1]; rfl
  have q0 : gr h113 1 0 = 3 := by show h113.2.2 1 0 = _; rw [P10.2.2.2.1]; rfl
  have q6 : gr h113 1 6 = 358 := by show h113.2.2 1 6 = _; rw [P10.2.2.2.1]; rfl
  have q7 : gr h113 1 7 = 360 := by show h113.2.2 1 7 = _; rw [P10.2.2.2.1]; rfl
  have key := lpG (fun k (g : Hs) => P118 (nI k) (362 + 2 * k) g) (fun k g => BL 354 364 k h113 g) 16 (s := h113) BL.init ?_ ?_
  · exact key
  · intro g B
    refine h118 _ _ _ ⟨by omega, by rw [B.2.2.gr (by omega)]; exact r4, bY (nI_le (a := 16) (b := 16) (by omega) (by omega)) (fun P150 h150 => ?_)⟩
    have key2 := lpG (fun k (g2 : Hs) => P150 (nI k) (362 + 2 * 16 + 2 * k) g2) (fun k g2 => BL 361 396 k g g2) 4 (s := g) BL.init ?_ ?_
    · exact key2
    · intro g2 B2
      have both : ∀ c, ¬ (c = 354 ∨ (364 ≤ c ∧ c < 364 + 2 * 16)) → ¬ (c = 361 ∨ (396 ≤ c ∧ c < 396 + 2 * 4)) → (∀ j, gi g2 c j = gi h113 c j) ∧ ∀ j, gr g2 c j = gr h113 c j := fun c h1 h2 => ⟨fun j => by rw [B2.2.2.gi h2, B.2.2.gi h1], fun j => by rw [B2.2.2.gr h2, B.2.2.gr h1]⟩
      refine h150 _ _ _ ⟨by omega, bY (nI_le (a := 4) (b := 4) (by omega) (by omega)) ⟨rfl, hQ g2 (fun c h1 h2 => ?_) ?_ ?_ (fun j => ?_) (fun j => ?_) ?_ ?_ ?_ ?_ ?_⟩⟩
      · by_cases c1' : c = 1
        · subst c1'
          refine gd_row ((B2.2.2 1 (by omega)).2.2.trans ((B.2.2 1 (by omega)).2.2.trans P10.2.2.2.1)) (fun q b r1 r2 => ?_)
          unfold eC eX
          rw [kX_fix.2.1]
          rfl
        by_cases c354 : c = 354
        · subst c354
          refine gd_23 kX_fix.2.2.2.2.2.2.2.2.1 (fun k hk => ?_)
          rw [kC.2.2.2.2.1] at hk
          rw [kC.2.2.2.2.2.1]
          have := B.2.1 k hk
          rw [← B2.2.2.gr (by omega)] at this
          exact this
        by_cases c361 : c = 361
        · subst c361
          refine gd_23 kX_fix.2.2.2.2.2.2.2.2.2.1 (fun k hk => ?_)
          rw [kC.2.2.2.2.2.2.1] at hk
          rw [kC.2.2.2.2.2.2.2.1]
          exact B2.2.1 k hk
        by_cases c364 : c < 364
        · exact ((P10.1 c (by omega) c364 (by omega)).x B.2.2 (by omega)).x B2.2.2 (by omega)
        by_cases c396 : c < 396
        · exact (B.gd (by omega) (by omega)).x B2.2.2 (by omega)
        · exact B2.gd (by omega) (by omega)
      · exact ((X34.x P10.2.2.2.2 (fun c a b => by omega)).x B.2.2 (fun c a b => by omega)).x B2.2.2 (fun c a b => by omega)
      · rw [(both 2 (by omega) (by omega)).1, P10.2.2.2.2.gi (by omega)]
        exact z34
      · rw [(both 76 (by omega) (by omega)).1, P10.2.2.2.2.gi (by omega)]
        exact k34 j
      · rw [(both 1 (by omega) (by omega)).1]
        exact P10.2.1 j
      · rw [(both 1 (by omega) (by omega)).2]
        exact q0
      · rw [(both 2 (by omega) (by omega)).2, P10.2.2.2.2.gr (by omega)]
        exact r34
      · rw [(both 1 (by omega) (by omega)).2]
        exact q6
      · rw [(both 1 (by omega) (by omega)).2]
        exact q7
      · exact (P10.2.2.1.mono (fun c hc => by omega)).trans ((B.2.2.mono (fun c hc => by omega)).trans (B2.2.2.mono (fun c hc => by omega)))
    · intro k g2 hk B2 nx
      have kb := kX_al k hk
      refine h150 _ _ _ ⟨by omega, bN (nI_ge (b := 4) hk (by omega)) ⟨by rw [B2.2.2.gr (by omega), B.2.2.gr (by omega)]; exact r9', by rw [show 2 + (362 + 2 * 16 + 2 * k) = 396 + 2 * k by omega]; exact kb.1, by omega, fun h89 e89 => ⟨by omega, ?_⟩⟩⟩
      rw [show 2 + (362 + 2 * 16 + 2 * k) = 396 + 2 * k by omega] at e89 ⊢
      refine k_Big (r := 32) kb.1 rfl (by omega) (by omega) kb.2 (fun h94 t1 t2 _ _ f94 => ⟨vp_in_nI hk (by omega), fun h97 e97 a1 e1 => ?_⟩)
      rw [nI_1] at e1
      rw [nI_clamp (by omega)] at e97
      subst e1
      have nx := nx h97 (by rw [e97]; exact B2.step (by omega) e89 t1 t2 f94)
      rw [show 362 + 2 * 16 + 2 * (k + 1) = 362 + 2 * 16 + 2 * k + 2 by omega] at nx
      exact nx
  · intro k g hk B nx
    have kb := kX_lv k hk
    refine h118 _ _ _ ⟨by omega, by rw [B.2.2.gr (by omega)]; exact r4, bN (nI_ge (b := 16) hk (by omega)) ⟨by rw [B.2.2.gr (by omega)]; exact r4, by rw [show 2 + (362 + 2 * k) = 364 + 2 * k by omega]; exact kb.1, by omega, fun h58 e58 => ⟨by omega, ?_⟩⟩⟩
    rw [show 2 + (362 + 2 * k) = 364 + 2 * k by omega] at e58 ⊢
    refine k_Big (r := 32) kb.1 rfl (by omega) (by omega) kb.2 (fun h94 t1 t2 _ _ f94 => ⟨vp_in_nI hk (by omega), fun h97 e97 a1 e1 => ?_⟩)
    rw [nI_1] at e1
    rw [nI_clamp (by omega)] at e97
    subst e1
    have nx := nx h97 (by rw [e97]; exact B.step (by omega) e58 t1 t2 f94)
    rw [show 362 + 2 * (k + 1) = 362 + 2 * k + 2 by omega] at nx
    exact nx
