/-! ===== making the class ===== -/
def fcx (S : Nat → Prop) (h h' : Hs) : Prop := ∀ c, ¬ S c → h'.1 c = h.1 c ∧ h'.2.1 c = h.2.1 c ∧ h'.2.2 c = h.2.2 c
theorem fcx.refl {S : Nat → Prop} {h : Hs} : fcx S h h := fun _ _ => ⟨rfl, rfl, rfl⟩
theorem fcx.trans {S : Nat → Prop} {h h1 h2 : Hs} (a : fcx S h h1) (b : fcx S h1 h2) : fcx S h h2 := fun c hc => ⟨(b c hc).1.trans (a c hc).1, (b c hc).2.1.trans (a c hc).2.1, (b c hc).2.2.trans (a c hc).2.2⟩
theorem fcx.mono {S T : Nat → Prop} {h h1 : Hs} (a : fcx S h h1) (st : ∀ c, S c → T c) : fcx T h h1 := fun c hc => a c (fun x => hc (st c x))
theorem fcx.gi {S : Nat → Prop} {h h' : Hs} (f : fcx S h h') {c : Nat} (hc : ¬ S c) (j : Nat) : gi h' c j = gi h c j := by
  unfold _root_.Jvm.Pilot.@@N@@.gi
  rw [(f c hc).1]
theorem fcx.gr {S : Nat → Prop} {h h' : Hs} (f : fcx S h h') {c : Nat} (hc : ¬ S c) (j : Nat) : gr h' c j = gr h c j := by
  unfold _root_.Jvm.Pilot.@@N@@.gr
  rw [(f c hc).2.2]
theorem fcx.zr {S : Nat → Prop} {h : Hs} {n k : Nat} (hS : ∀ c, n ≤ c → c < n + k → S c) : fcx S h (zr h n k) := fun c hc => zr_out (fun y => hc (hS c y.1 y.2))
theorem fcx.sr {S : Nat → Prop} {h : Hs} {o k v : Nat} (ho : S o) : fcx S h (sr h o k v) := fun c hc => ⟨rfl, rfl, rowU_n (fun e => hc (e ▸ ho))⟩
theorem fcx.si {S : Nat → Prop} {h : Hs} {o k : Nat} {v : Int32} (ho : S o) : fcx S h (si h o k v) := fun c hc => ⟨rowU_n (fun e => hc (e ▸ ho)), rfl, rfl⟩
theorem frm.x {S : Nat → Prop} {h h' : Hs} (f : frm S h h') : fcx S h h' := fun c hc => ⟨funext (fun j => f.1 c hc j), by rw [f.2], by rw [f.2]⟩
theorem zr_gi {h : Hs} {n k c j : Nat} (h1 : n ≤ c) (h2 : c < n + k) : gi (zr h n k) c j = 0 := by
  unfold gi
  rw [zr_in1 h1 h2]
def gd (h : Hs) (o : Nat) : Prop := ∀ (q : Nat → ClassId) (b : Nat), eC q b o (h.1 o) (h.2.1 o) (h.2.2 o) = eX q (fun i => b + i) o ((cv h).1 o) ((cv h).2.1 o) ((cv h).2.2 o)
theorem gd.x {S : Nat → Prop} {h h' : Hs} {o : Nat} (g : gd h o) (f : fcx S h h') (ho : ¬ S o) : gd h' o := fun q b => by
  have e := f o ho
  show eC q b o (h'.1 o) (h'.2.1 o) (h'.2.2 o) = eX q (fun i => b + i) o (h'.1 o) (h'.2.1 o) (fun k => h'.2.2 o k - 1)
  rw [e.1, e.2.1, e.2.2]
  exact g q b
theorem gd_a {h : Hs} {o : Nat} (hk : kX o = 20 ∨ kX o = 21 ∨ kX o = 22) : gd h o := fun q b => by
  unfold eC eX
  rcases hk with e | e | e <;> rw [e] <;> rfl
theorem gd_1 {h : Hs} {o : Nat} (hk : kX o = 1) (hr : h.2.2 o 0 = o + 2) : gd h o := fun q b => by
  unfold eC eX
  rw [hk]
  show (Sum.inr (0, [rfC b (h.2.2 o 0), .int (h.1 o 1)]) : va_E) = .inr (0, [.ref (b + (o + 1)), .int (h.1 o 1)])
  rw [hr]
  rfl
theorem kX_d1 : ∀ o, o < 504 → kX o = 1 → kX (o + 1) = 20 := by decide +kernel
theorem k_Big {o r : Nat} {a1 : Int32} {h : Hs} {Q : Hs → Prop} (hk : kX o = 1) (e : a1 = nI r) (hr : 1 ≤ r) (hr2 : r ≤ 100) (hl : lX (o + 1) = r) (hQ : ∀ h', gd h' o → gd h' (o + 1) → (∀ j, gi h' o j = gi h o j) → (∀ j, gi h' (o + 1) j = 0) → fcx (bS o) h h' → Q h') : i_Big_init o a1 h Q := by
  subst e
  have k20 := kX_d1 o (kX_lt hk) hk
  have n1 : ¬ nI r < 1 := nI_nlt (b := 1) hr (by omega)
  unfold i_Big_init
  rw [if_neg n1, nI_clamp (by omega)]
  refine ⟨k20, hl, nI_pos (by omega), by omega, fun h10 e10 h12 e12 => ?_⟩
  subst e10 e12
  refine hQ _ (gd_1 hk ?_) (gd_a (Or.inl k20)) (fun j => ?_) (fun j => ?_) ((fcx.zr (fun c h1 h2 => by unfold bS; omega)).trans (fcx.sr (Or.inl rfl)))
  · show gr (sr (zr h (o + 1) 1) o 0 (o + 1 + 1)) o 0 = o + 2
    rw [gr_if, if_pos ⟨rfl, rfl⟩]
  · show gi (zr h (o + 1) 1) o j = _
    unfold gi
    rw [(zr_out (by omega)).1]
  · exact zr_gi (h := h) (by omega) (by omega)
/-- an object under way -/
def PIN (a0 e m : Nat) (X : Nat → Prop) (R : Nat → Nat) (h0 hm h : Hs) : Prop := (∀ c, a0 < c → c < e → ¬ X c → gd h c) ∧ (∀ j, gi h a0 j = gi h0 a0 j) ∧ fcx (fun c => a0 ≤ c ∧ c < e) h0 h ∧ h.2.2 a0 = R ∧ fcx (fun c => c ≤ a0 ∨ m ≤ c) hm h
theorem PIN.start {a0 : Nat} {X : Nat → Prop} {h0 : Hs} : PIN a0 (a0 + 1) (a0 + 1) X (h0.2.2 a0) h0 h0 h0 := ⟨fun c h1 h2 => by omega, fun _ => rfl, fcx.refl, rfl, fcx.refl⟩
theorem PIN.child {a0 e e' m k v : Nat} {X : Nat → Prop} {R : Nat → Nat} {h0 hm h hc : Hs} (P : PIN a0 e m X R h0 hm h) (hm' : m ≤ e) (ha : a0 < e) (he : e ≤ e') (g : ∀ c, e ≤ c → c < e' → ¬ X c → gd hc c) (f : fcx (fun c => e ≤ c ∧ c < e') h hc) : PIN a0 e' m X (updN R k v) h0 hm (sr hc a0 k v) := by
  obtain ⟨p1, p2, p3, p4, p5⟩ := P
  have fs : fcx (fun c => c = a0) hc (sr hc a0 k v) := fcx.sr rfl
  refine ⟨fun c h1 h2 hX => ?_, fun j => ?_, ?_, ?_, ?_⟩
  · rcases Nat.lt_or_ge c e with y | y
    · exact ((p1 c h1 y hX).x f (by omega)).x fs (by omega)
    · exact (g c y h2 hX).x fs (by omega)
  · show gi hc a0 j = _
    rw [f.gi (by omega)]
    exact p2 j
  · exact ((p3.mono (fun c hc => ⟨hc.1, by omega⟩)).trans (f.mono (fun c hc => ⟨by omega, hc.2⟩))).trans (fs.mono (fun c hc => ⟨by omega, by omega⟩))
  · show (rowU hc.2.2 a0 (updN (hc.2.2 a0) k v)) a0 = _
    rw [rowU_s, (f a0 (by omega)).2.2, p4]
  · exact (p5.trans (f.mono (fun c hc => by omega))).trans (fs.mono (fun c hc => by omega))
theorem PIN.arr {a0 e n m k v : Nat} {X : Nat → Prop} {R : Nat → Nat} {h0 hm h : Hs} (P : PIN a0 e m X R h0 hm h) (hm' : m ≤ e) (ha : a0 < e) (hk : ∀ i, i < n → kX (e + i) = 20 ∨ kX (e + i) = 21 ∨ kX (e + i) = 22 ∨ X (e + i)) : PIN a0 (e + n) m X (updN R k v) h0 hm (sr (zr h e n) a0 k v) := P.child hm' ha (by omega) (fun c h1 h2 hX => by
  have := hk (c - e) (by omega)
  rw [show e + (c - e) = c by omega] at this
  rcases this with y | y | y | y
  · exact gd_a (Or.inl y)
  · exact gd_a (Or.inr (Or.inl y))
  · exact gd_a (Or.inr (Or.inr y))
  · exact absurd y hX) (fcx.zr (fun c h1 h2 => ⟨h1, h2⟩))
theorem PIN.mark {a0 e m : Nat} {X : Nat → Prop} {R : Nat → Nat} {h0 hm h : Hs} (P : PIN a0 e m X R h0 hm h) : PIN a0 e e X R h0 h h := ⟨P.1, P.2.1, P.2.2.1, P.2.2.2.1, fcx.refl⟩
/-- blank numbers -/
def ZI (a e : Nat) (h : Hs) : Prop := ∀ c, a < c → c < e → ∀ j, gi h c j = 0
theorem ZI.arr {a e n a0 k v : Nat} {h : Hs} (Z : ZI a e h) : ZI a (e + n) (sr (zr h e n) a0 k v) := fun c h1 h2 j => by
  show gi (zr h e n) c j = 0
  rcases Nat.lt_or_ge c e with y | y
  · unfold gi
    rw [(zr_out (by omega)).1]
    exact Z c h1 y j
  · exact zr_gi y h2
def n00 (k : Nat) : Int32 := if 6 ≤ k ∧ k < 16 then 5 else if k = 20 then 6 else if k = 21 then 9 else if 22 ≤ k ∧ k < 26 then 100 else if 30 ≤ k ∧ k < 34 then 1 else if k = 543 then -1 else 0
def tSt (c j : Nat) : Int32 := if c = 2 then 5 else if c = 10 then 1 else if c = 4 then (if j = 0 then 6 else 9) else if c = 24 then (if j = 1 then -1 else 0) else if 6 ≤ c ∧ c < 10 then (if j = 0 then 100 else 0) else 0
theorem tSt_n : ∀ k, k < 675 → tSt (ce k) (sk k) = n00 k := by decide +kernel
theorem kS_all : ∀ a, a = 3 ∨ a = 424 ∨ a = 464 → kX a = 6 ∧ (∀ i, i < 40 → i = 0 ∨ kX (a + i) = 20 ∨ kX (a + i) = 21 ∨ kX (a + i) = 22) ∧ kX (a + 1) = 20 ∧ lX (a + 1) = 6 ∧ kX (a + 2) = 20 ∧ lX (a + 2) = 10 ∧ kX (a + 3) = 20 ∧ lX (a + 3) = 4 ∧ kX (a + 4) = 20 ∧ lX (a + 4) = 2 ∧ kX (a + 5) = 22 ∧ lX (a + 5) = 4 ∧ (∀ i, i < 4 → kX (a + 5 + 1 + 1 * i) = 20) ∧ (∀ i, i < 4 → lX (a + 5 + 1 + 1 * i) = 2) ∧ kX (a + 10) = 20 ∧ lX (a + 10) = 4 ∧ kX (a + 11) = 20 ∧ lX (a + 11) = 4 ∧ kX (a + 12) = 22 ∧ lX (a + 12) = 4 ∧ (∀ i, i < 4 → kX (a + 12 + 1 + 1 * i) = 20) ∧ (∀ i, i < 4 → lX (a + 12 + 1 + 1 * i) = 120) ∧ kX (a + 17) = 22 ∧ lX (a + 17) = 6 ∧ (∀ i, i < 6 → kX (a + 17 + 1 + 1 * i) = 20) ∧ (∀ i, i < 6 → lX (a + 17 + 1 + 1 * i) = 4) ∧ kX (a + 24) = 20 ∧ lX (a + 24) = 3 ∧ kX (a + 25) = 22 ∧ lX (a + 25) = 6 ∧ (∀ i, i < 6 → kX (a + 25 + 1 + 1 * i) = 20) ∧ (∀ i, i < 6 → lX (a + 25 + 1 + 1 * i) = 5) ∧ kX (a + 32) = 22 ∧ lX (a + 32) = 6 ∧ (∀ i, i < 6 → kX (a + 32 + 1 + 1 * i) = 20) ∧ (∀ i, i < 6 → lX (a + 32 + 1 + 1 * i) = 6) ∧ kX (a + 39) = 20 ∧ lX (a + 39) = 60 := by
  intro a ha
  rcases ha with e | e | e
  · subst e
    decide +kernel
  · subst e
    decide +kernel
  · subst e
    decide +kernel
theorem k_State {a : Nat} {h : Hs} {Q : Hs → Prop} (ha : stO a) (h0 : ∀ j, gi h a j = 0) (hQ : ∀ h', (∀ c, a ≤ c → c < a + 40 → gd h' c) → XS h' a n00 → fcx (fun c => a ≤ c ∧ c < a + 40) h h' → Q h') : i_State_init a h Q := by
  obtain ⟨k6, ka, c1, l1, c2, l2, c3, l3, c4, l4, c5, l5, r5, s5, c10, l10, c11, l11, c12, l12, r12, s12, c17, l17, r17, s17, c24, l24, c25, l25, r25, s25, c32, l32, r32, s32, c39, l39⟩ := kS_all a ha
  unfold i_State_init
  have P0 : PIN a (a + 1) (a + 1) (fun _ => False) (h.2.2 a) h h h := PIN.start
  have Z0 : ZI a (a + 1) h := fun c h1 h2 => by omega
  have kk : ∀ e n, e + n ≤ 40 → 1 ≤ e → ∀ i, i < n → kX (a + e + i) = 20 ∨ kX (a + e + i) = 21 ∨ kX (a + e + i) = 22 ∨ (fun _ => False : Nat → Prop) (a + e + i) := fun e n h1 h2 i hi => by
    rcases ka (e + i) (by omega) with y | y | y | y
    · omega
    · exact Or.inl (by rw [Nat.add_assoc]; exact y)
    · exact Or.inr (Or.inl (by rw [Nat.add_assoc]; exact y))
    · exact Or.inr (Or.inr (Or.inl (by rw [Nat.add_assoc]; exact y)))
  refine ⟨c1, l1, fun g1 e1 q1 d1 => ?_⟩
  have P1 := P0.arr (n := 1) (k := 4) (v := a + 1 + 1) (by omega) (by omega) (kk 1 1 (by omega) (by omega))
  have Z1 := Z0.arr (n := 1) (a0 := a) (k := 4) (v := a + 1 + 1)
  rw [← e1, ← d1] at P1 Z1
  clear e1 d1 P0 Z0
  refine ⟨c2, l2, fun g2 e2 q2 d2 => ?_⟩
  have P2 := P1.arr (n := 1) (k := 5) (v := a + 2 + 1) (by omega) (by omega) (kk 2 1 (by omega) (by omega))
  have Z2 := Z1.arr (n := 1) (a0 := a) (k := 5) (v := a + 2 + 1)
  rw [← e2, ← d2] at P2 Z2
  clear e2 d2 P1 Z1
  refine ⟨c3, l3, fun g3 e3 q3 d3 => ?_⟩
  have P3 := P2.arr (n := 1) (k := 6) (v := a + 3 + 1) (by omega) (by omega) (kk 3 1 (by omega) (by omega))
  have Z3 := Z2.arr (n := 1) (a0 := a) (k := 6) (v := a + 3 + 1)
  rw [← e3, ← d3] at P3 Z3
  clear e3 d3 P2 Z2
  refine ⟨c4, l4, fun g4 e4 q4 d4 => ?_⟩
  have P4 := P3.arr (n := 1) (k := 7) (v := a + 4 + 1) (by omega) (by omega) (kk 4 1 (by omega) (by omega))
  have Z4 := Z3.arr (n := 1) (a0 := a) (k := 7) (v := a + 4 + 1)
  rw [← e4, ← d4] at P4 Z4
  clear e4 d4 P3 Z3
  refine ⟨c5, l5, r5, s5, fun g5 e5 q5 d5 => ?_⟩
  have P5 := P4.arr (n := 5) (k := 8) (v := a + 5 + 1) (by omega) (by omega) (kk 5 5 (by omega) (by omega))
  have Z5 := Z4.arr (n := 5) (a0 := a) (k := 8) (v := a + 5 + 1)
  rw [show (1 + 4 : Nat) = 5 from rfl] at e5
  rw [← e5, ← d5] at P5 Z5
  clear e5 d5 P4 Z4
  refine ⟨c10, l10, fun g6 e6 q6 d6 => ?_⟩
  have P6 := P5.arr (n := 1) (k := 9) (v := a + 10 + 1) (by omega) (by omega) (kk 10 1 (by omega) (by omega))
  have Z6 := Z5.arr (n := 1) (a0 := a) (k := 9) (v := a + 10 + 1)
  rw [← e6, ← d6] at P6 Z6
  clear e6 d6 P5 Z5
  refine ⟨c11, l11, fun g7 e7 q7 d7 => ?_⟩
  have P7 := P6.arr (n := 1) (k := 10) (v := a + 11 + 1) (by omega) (by omega) (kk 11 1 (by omega) (by omega))
  have Z7 := Z6.arr (n := 1) (a0 := a) (k := 10) (v := a + 11 + 1)
  rw [← e7, ← d7] at P7 Z7
  clear e7 d7 P6 Z6
  refine ⟨c12, l12, r12, s12, fun g8 e8 q8 d8 => ?_⟩
  have P8 := P7.arr (n := 5) (k := 11) (v := a + 12 + 1) (by omega) (by omega) (kk 12 5 (by omega) (by omega))
  have Z8 := Z7.arr (n := 5) (a0 := a) (k := 11) (v := a + 12 + 1)
  rw [show (1 + 4 : Nat) = 5 from rfl] at e8
  rw [← e8, ← d8] at P8 Z8
  clear e8 d8 P7 Z7
  refine ⟨c17, l17, r17, s17, fun g9 e9 q9 d9 => ?_⟩
  have P9 := P8.arr (n := 7) (k := 12) (v := a + 17 + 1) (by omega) (by omega) (kk 17 7 (by omega) (by omega))
  have Z9 := Z8.arr (n := 7) (a0 := a) (k := 12) (v := a + 17 + 1)
  rw [show (1 + 6 : Nat) = 7 from rfl] at e9
  rw [← e9, ← d9] at P9 Z9
  clear e9 d9 P8 Z8
  refine ⟨c24, l24, fun g10 e10 q10 d10 => ?_⟩
  have P10 := P9.arr (n := 1) (k := 13) (v := a + 24 + 1) (by omega) (by omega) (kk 24 1 (by omega) (by omega))
  have Z10 := Z9.arr (n := 1) (a0 := a) (k := 13) (v := a + 24 + 1)
  rw [← e10, ← d10] at P10 Z10
  clear e10 d10 P9 Z9
  refine ⟨c25, l25, r25, s25, fun g11 e11 q11 d11 => ?_⟩
  have P11 := P10.arr (n := 7) (k := 14) (v := a + 25 + 1) (by omega) (by omega) (kk 25 7 (by omega) (by omega))
  have Z11 := Z10.arr (n := 7) (a0 := a) (k := 14) (v := a + 25 + 1)
  rw [show (1 + 6 : Nat) = 7 from rfl] at e11
  rw [← e11, ← d11] at P11 Z11
  clear e11 d11 P10 Z10
  refine ⟨c32, l32, r32, s32, fun g12 e12 q12 d12 => ?_⟩
  have P12 := P11.arr (n := 7) (k := 15) (v := a + 32 + 1) (by omega) (by omega) (kk 32 7 (by omega) (by omega))
  have Z12 := Z11.arr (n := 7) (a0 := a) (k := 15) (v := a + 32 + 1)
  rw [show (1 + 6 : Nat) = 7 from rfl] at e12
  rw [← e12, ← d12] at P12 Z12
  clear e12 d12 P11 Z11
  refine ⟨c39, l39, fun g13 e13 q13 d13 => ?_⟩
  have P13 := P12.arr (n := 1) (k := 16) (v := a + 39 + 1) (by omega) (by omega) (kk 39 1 (by omega) (by omega))
  have Z13 := Z12.arr (n := 1) (a0 := a) (k := 16) (v := a + 39 + 1)
  rw [← e13, ← d13] at P13 Z13
  clear e13 d13 P12 Z12
  have fin := P13
  have Zf := Z13
  rw [show a + 39 + 1 = a + 40 by omega] at fin Zf
  clear P13 Z13
  obtain ⟨p1, p2, p3, p4, p5⟩ := fin
  generalize hH : q13 = H at *
  have r : ∀ k, gr H a k = H.2.2 a k := fun _ => rfl
  have rr : ∀ (x : Hs) (S : Nat → Prop), fcx S H x → ¬ S a → x.2.2 a = H.2.2 a := fun x S f hS => (f a hS).2.2
  have w2 : H.2.2 a 5 = a + 2 + 1 := by rw [p4]; rfl
  have w10 : H.2.2 a 9 = a + 10 + 1 := by rw [p4]; rfl
  have w4 : H.2.2 a 7 = a + 4 + 1 := by rw [p4]; rfl
  have w24 : H.2.2 a 13 = a + 24 + 1 := by rw [p4]; rfl
  have w5 : H.2.2 a 8 = a + 5 + 1 := by rw [p4]; rfl
  refine ⟨w2, ?_⟩
  show p_Arr_fill (a + 2) 5 H _
  refine s_fill l2 (by omega) (fun x1 y1 _ f1 => ?_)
  have f1x := f1.x
  refine ⟨by show x1.2.2 a 9 = _; rw [rr x1 _ f1x (by omega)]; exact w10, ?_⟩
  show p_Arr_fill (a + 10) 1 x1 _
  refine s_fill l10 (by omega) (fun x2 y2 _ f2 => ?_)
  have f2x := (f1x.mono (fun c hc => Or.inl hc)).trans (f2.x.mono (T := fun c => c = a + 2 ∨ c = a + 10) (fun c hc => Or.inr hc))
  refine ⟨by show x2.2.2 a 7 = _; rw [rr x2 _ f2x (by omega)]; exact w4, fun x3 e3 => ?_⟩
  have f3x : fcx (fun c => c = a + 2 ∨ c = a + 10 ∨ c = a + 4) H x3 := (f2x.mono (fun c hc => by omega)).trans (e3 ▸ fcx.si (by omega))
  refine ⟨by show x3.2.2 a 7 = _; rw [rr x3 _ f3x (by omega)]; exact w4, fun x4 e4 => ?_⟩
  have f4x : fcx (fun c => c = a + 2 ∨ c = a + 10 ∨ c = a + 4) H x4 := f3x.trans (e4 ▸ fcx.si (by omega))
  refine ⟨by show x4.2.2 a 13 = _; rw [rr x4 _ f4x (by omega)]; exact w24, fun x5 e5 P159 h159 => ?_⟩
  have f5x : fcx (fun c => c = a + 2 ∨ c = a + 10 ∨ c = a + 4 ∨ c = a + 24) H x5 := (f4x.mono (fun c hc => by omega)).trans (e5 ▸ fcx.si (by omega))
  have g5 : ∀ c j, c < 40 → rfc c = false → (c < 6 ∨ 10 ≤ c) → j < lnS c → gi x5 (a + c) j = tSt c j := by
    intro c j hc hr h6 hj
    rw [e5, e4, e3]
    unfold tSt
    by_cases c2 : c = 2
    · subst c2
      have j10 : j < 10 := hj
      rw [if_pos rfl, gi_c (by omega), gi_c (by omega), gi_c (by omega), f2.1 (a + 2) (by omega)]
      exact y1 j j10
    rw [if_neg c2]
    by_cases c10' : c = 10
    · subst c10'
      have j4 : j < 4 := hj
      rw [if_pos rfl, gi_c (by omega), gi_c (by omega), gi_c (by omega)]
      exact y2 j j4
    rw [if_neg c10']
    by_cases c4' : c = 4
    · subst c4'
      have j2 : j < 2 := hj
      rw [if_pos rfl, gi_c (by omega)]
      rcases (show j = 0 ∨ j = 1 by omega) with e | e
      · subst e
        rw [gi_k (by omega), gi_s]
        rfl
      · subst e
        rw [gi_s]
        rfl
    rw [if_neg c4']
    by_cases c24' : c = 24
    · subst c24'
      rw [if_pos rfl]
      by_cases e : j = 1
      · subst e
        rw [gi_s]
        rfl
      · rw [gi_k e, gi_c (by omega), gi_c (by omega), f2.1 _ (by omega), f1.1 _ (by omega), if_neg e]
        exact Zf _ (by omega) (by omega) j
    rw [if_neg c24', if_neg (by omega), gi_c (by omega), gi_c (by omega), gi_c (by omega), f2.1 _ (by omega), f1.1 _ (by omega)]
    by_cases c0 : c = 0
    · subst c0
      rw [Nat.add_zero, p2 j]
      exact h0 j
    · exact Zf _ (by omega) (by omega) j
  have z5 : ∀ c j, 6 ≤ c → c < 10 → gi x5 (a + c) j = 0 := fun c j h1 h2 => by
    rw [f5x.gi (by omega)]
    exact Zf _ (by omega) (by omega) j
  refine lpH (fun k g => (∀ i, i < k → gi g (a + 6 + i) 0 = 100) ∧ (∀ i, i < 4 → gi g (a + 6 + i) 1 = 0) ∧ fcx (fun c => a + 6 ≤ c ∧ c < a + 10) x5 g) 4 ⟨fun i hi => by omega, fun i hi => by rw [Nat.add_assoc]; exact z5 _ 1 (by omega) (by omega), fcx.refl⟩ ?_ ?_
  · intro g hI
    obtain ⟨i1, i2, i3⟩ := hI
    have fg : fcx (fun c => a + 1 ≤ c ∧ c < a + 40) H g := (f5x.mono (fun c hc => by omega)).trans (i3.mono (fun c hc => by omega))
    refine h159 _ _ (bY (nI_le (a := 4) (b := 4) (by omega) (by omega)) (hQ g (fun c h1 h2 => ?_) (fun k hk => ?_) ((p3.mono (fun c hc => hc)).trans (fg.mono (fun c hc => by omega)))))
    · by_cases e : c = a
      · subst e
        intro q b
        show eC q b c (g.1 c) (g.2.1 c) (g.2.2 c) = eX q (fun i => b + i) c (g.1 c) (g.2.1 c) (fun k => g.2.2 c k - 1)
        rw [(fg c (by omega)).2.2, p4]
        unfold eC eX
        rw [k6]
        rfl
      · rcases ka (c - a) (by omega) with y | y | y | y
        · omega
        · rw [show a + (c - a) = c by omega] at y
          exact gd_a (Or.inl y)
        · rw [show a + (c - a) = c by omega] at y
          exact gd_a (Or.inr (Or.inl y))
        · rw [show a + (c - a) = c by omega] at y
          exact gd_a (Or.inr (Or.inr y))
    · have c1 := ce_ok k hk
      have c40 := ce_lt k hk
      rw [← tSt_n k hk]
      by_cases e : 6 ≤ ce k ∧ ce k < 10
      · have sk2 : sk k < 2 := by
          have := c1.2
          have l : ∀ c, 6 ≤ c → c < 10 → lnS c = 2 := fun c h1 h2 => by
            have := ln_rows.2.1 (c - 6) (by omega)
            rw [show 5 + 1 + (c - 6) = c by omega] at this
            exact this
          rw [l _ e.1 e.2] at this
          exact this
        unfold tSt
        rw [if_neg (by omega), if_neg (by omega), if_neg (by omega), if_neg (by omega), if_pos e, show a + ce k = a + 6 + (ce k - 6) by omega]
        rcases (show sk k = 0 ∨ sk k = 1 by omega) with y | y
        · rw [y, if_pos rfl]
          exact i1 _ (by omega)
        · rw [y, if_neg (by omega)]
          exact i2 _ (by omega)
      · rw [i3.gi (by omega)]
        exact g5 (ce k) (sk k) c40 c1.1 (by omega) c1.2
  · intro k g hk hI nx
    obtain ⟨i1, i2, i3⟩ := hI
    have fg : fcx (fun c => a + 1 ≤ c ∧ c < a + 40) H g := (f5x.mono (fun c hc => by omega)).trans (i3.mono (fun c hc => by omega))
    refine h159 _ _ (bN (nI_ge (b := 4) hk (by omega)) ⟨by show g.2.2 a 8 = _; rw [(fg a (by omega)).2.2]; exact w5, vp_in_nI hk (by omega), ?_⟩)
    rw [nI_clamp (by omega), s5 k hk, show a + 5 + 1 + 1 * k = a + 6 + k by omega]
    refine ⟨vp_in_nI (n := 0) (by omega) (by omega), fun h173 e173 a1 e1 => ?_⟩
    rw [nI_1] at e1
    subst e1 e173
    refine nx _ ⟨fun i hi => ?_, fun i hi => ?_, i3.trans (fcx.si ⟨by omega, by omega⟩)⟩
    · by_cases e : i = k
      · subst e
        rw [gi_s]
      · rw [gi_c (by omega)]
        exact i1 i (by omega)
    · rw [gi_k (by omega)]
      exact i2 i hi
