/-! ===== what holds between the calls ===== -/
def IM (h g : Hs) : Prop := ∀ i, i < 2 → (gi h 405 i = 0 ∧ gi g 3 i = 0) ∨ (gi h 405 i = 1 ∧ gi g 3 i = 1 ∧ ∃ k : Nat → Int32, RG k ∧ XS h (424 + 40 * i) k ∧ ∀ j, j < 675 → gi g 2 (675 * i + j) = k j)
def RFD (h g : Hs) : Prop := gi h 0 9 = gi g 4 0 ∧ gi h 0 10 = gi g 4 1 ∧ gi h 0 11 = gi g 4 2
def Iv (h g : Hs) (n : Nat → Int32) : Prop := XS h 3 n ∧ MS g n ∧ RG n ∧ IM h g ∧ RFD h g ∧ FC h g ∧ FR h ∧ WF h ∧ KO h ∧ (gi h 2 9 = 0 ∨ LO h n) ∧ (gi h 1 11 = 0 ∨ WO h n)
def Inv (h g : Hs) : Prop := ∃ n, Iv h g n
def smq (g g' : Hs) : Prop := (∀ c, c = 2 ∨ c = 3 → ∀ j, gi g' c j = gi g c j) ∧ gi g' 0 6 = gi g 0 6 ∧ (∀ j, j < 2 → gi g' 6 j = gi g 6 j) ∧ (∀ s i, i < 64 → s < 2 → gl g' 5 (64 * s + i) = gl g 5 (64 * s + i))
theorem smf.q {g g' : Hs} (f : smf g g') : smq g g' := ⟨fun c hc => f.1 c (by omega), f.2.1, f.2.2.1, f.2.2.2⟩
theorem frm.q {S : Nat → Prop} {g g' : Hs} (f : frm S g g') (hS : ∀ c, S c → c = 1 ∨ c = 4 ∨ c = 13) : smq g g' := ⟨fun c hc j => f.1 c (fun x => by have := hS c x; omega) j, f.1 0 (fun x => by have := hS 0 x; omega) 6, fun j _ => f.1 6 (fun x => by have := hS 6 x; omega) j, fun s i _ _ => f.gl _ _⟩
theorem RV.smq {g g' : Hs} {s v : Nat} (hb : RV g s v) (f : smq g g') (hs : s < 2) : RV g' s v := by
  obtain ⟨b1, b2, b3, b4, b5⟩ := hb
  have e1 : gi g' 6 s = gi g 6 s := f.2.2.1 s hs
  have e2 : ∀ i, i < 64 → gl g' 5 (64 * s + i) = gl g 5 (64 * s + i) := fun i hi => f.2.2.2 s i hi hs
  refine RV.of (e1.trans b1) b2 (fun i hi => ?_) ?_ ?_
  · rw [dl_eq (e2 i (by omega)), e2 i (by omega)]
    exact b3 i hi
  · rcases b4 with x | x
    · exact Or.inl x
    · refine Or.inr ?_
      rw [dl_eq (e2 _ (by omega))]
      exact x
  · rw [← b5]
    exact nv_congr (fun i hi => dl_eq (e2 i (by omega)))
/-- cells of the class that no call but refusals, images and shares touch -/
def oX (c : Nat) : Prop := c = 405 ∨ (407 ≤ c ∧ c ≤ 410) ∨ 424 ≤ c
theorem IM.go {h h' g g' : Hs} (I : IM h g) (fx : ∀ c, oX c → ∀ j, gi h' c j = gi h c j) (fm : smq g g') : IM h' g' := fun i hi => by
  rw [fx 405 (Or.inl rfl), fm.1 3 (Or.inr rfl)]
  rcases I i hi with y | ⟨y1, y2, k, y3, y4, y5⟩
  · exact Or.inl y
  · exact Or.inr ⟨y1, y2, k, y3, y4.keep (fun c h1 h2 j => fx c (by unfold oX; omega) j), fun j hj => by rw [fm.1 2 (Or.inl rfl)]; exact y5 j hj⟩
theorem FC.go {h h' g g' : Hs} (I : FC h g) (fx : ∀ c, oX c → ∀ j, gi h' c j = gi h c j) (fm : smq g g') : FC h' g' := by
  obtain ⟨p, t, a, b, c, d, e⟩ := I
  exact ⟨p, t, a.keep (fx 407 (by unfold oX; omega) 1) (fx 408 (by unfold oX; omega)), b.keep (fx 409 (by unfold oX; omega) 1) (fx 410 (by unfold oX; omega)), c.smq fm (by omega), d.smq fm (by omega), by rw [fm.2.1]; exact e⟩
theorem Iv.up {h h' g g' : Hs} {n n' : Nat → Int32} (I : Iv h g n) (X' : XS h' 3 n') (M' : MS g' n') (R' : RG n') (rf : RFD h' g') (fx : ∀ c, oX c → ∀ j, gi h' c j = gi h c j) (fm : smq g g') (fr : FR h') (wf : WF h') (ko : KO h') (lo : gi h' 2 9 = 0 ∨ LO h' n') (wo : gi h' 1 11 = 0 ∨ WO h' n') : Iv h' g' n' := ⟨X', M', R', I.2.2.2.1.go fx fm, rf, I.2.2.2.2.2.1.go fx fm, fr, wf, ko, lo, wo⟩
theorem Iv.X {h g : Hs} {n : Nat → Int32} (I : Iv h g n) : XS h 3 n := I.1
theorem Iv.M {h g : Hs} {n : Nat → Int32} (I : Iv h g n) : MS g n := I.2.1
theorem Iv.R {h g : Hs} {n : Nat → Int32} (I : Iv h g n) : RG n := I.2.2.1
theorem Iv.im {h g : Hs} {n : Nat → Int32} (I : Iv h g n) : IM h g := I.2.2.2.1
theorem Iv.rf {h g : Hs} {n : Nat → Int32} (I : Iv h g n) : RFD h g := I.2.2.2.2.1
theorem Iv.fc {h g : Hs} {n : Nat → Int32} (I : Iv h g n) : FC h g := I.2.2.2.2.2.1
theorem Iv.fr {h g : Hs} {n : Nat → Int32} (I : Iv h g n) : FR h := I.2.2.2.2.2.2.1
theorem Iv.wf {h g : Hs} {n : Nat → Int32} (I : Iv h g n) : WF h := I.2.2.2.2.2.2.2.1
theorem Iv.ko {h g : Hs} {n : Nat → Int32} (I : Iv h g n) : KO h := I.2.2.2.2.2.2.2.2.1
theorem Iv.lo {h g : Hs} {n : Nat → Int32} (I : Iv h g n) : gi h 2 9 = 0 ∨ LO h n := I.2.2.2.2.2.2.2.2.2.1
theorem Iv.wo {h g : Hs} {n : Nat → Int32} (I : Iv h g n) : gi h 1 11 = 0 ∨ WO h n := I.2.2.2.2.2.2.2.2.2.2
theorem FR.frm {S : Nat → Prop} {h h' : Hs} (W : FR h) (f : frm S h h') : FR h' := by unfold FR; rw [f.gr, f.gr]; exact W
theorem WO.frm {S : Nat → Prop} {h h' : Hs} {n : Nat → Int32} (A : WO h n) (R : RG n) (f : frm S h h') (hS : ∀ c, 362 ≤ c → c ≤ 403 → ¬ S c) : WO h' n := SUMS.frr A R (f.frr (T := wgT)) hS
/-- refused -/
theorem Iv.ref {h g : Hs} {n : Nat → Int32} (I : Iv h g n) {k : Nat} (hk : k < 3) : Iv (si h 0 (9 + k) (gi h 0 (9 + k) + 1)) (si g 4 k (gi g 4 k + 1)) n := by
  have fx : frm (fun c => c = 0) h (si h 0 (9 + k) (gi h 0 (9 + k) + 1)) := frm.si rfl
  have fm : frm (fun c => c = 4) g (si g 4 k (gi g 4 k + 1)) := frm.si rfl
  have r := I.rf
  refine I.up (I.X.frm fx (fun c a b => by omega)) (I.M.frm fm (by omega)) I.R ?_ (fun c hc => fx.1 c (by unfold oX at hc; omega)) (fm.q (fun c hc => by omega)) (I.fr.frm fx) (I.wf.frm fx) (I.ko.frm fx (fun c hc => by omega)) ?_ ?_
  · unfold RFD at r ⊢
    rcases (show k = 0 ∨ k = 1 ∨ k = 2 by omega) with e | e | e
    · subst e
      rw [gi_s, gi_s, gi_k (by omega), gi_k (by omega), gi_k (by omega), gi_k (by omega)]
      exact ⟨by rw [r.1], r.2.1, r.2.2⟩
    · subst e
      rw [gi_s, gi_s, gi_k (by omega), gi_k (by omega), gi_k (by omega), gi_k (by omega)]
      exact ⟨r.1, by rw [r.2.1], r.2.2⟩
    · subst e
      rw [gi_s, gi_s, gi_k (by omega), gi_k (by omega), gi_k (by omega), gi_k (by omega)]
      exact ⟨r.1, r.2.1, by rw [r.2.2]⟩
  · rcases I.lo with y | y
    · left
      rw [fx.1 2 (by omega)]
      exact y
    · exact Or.inr (y.frm fx (fun c hc => by omega) I.R)
  · rcases I.wo with y | y
    · left
      rw [fx.1 1 (by omega)]
      exact y
    · exact Or.inr (y.frm I.R fx (fun c a b => by omega))
/-- the state has changed -/
def sX : Nat → Prop := fun c => 1 ≤ c ∧ c ≤ 42
theorem Iv.st {h h' g g' : Hs} {n n' : Nat → Int32} (I : Iv h g n) (fx : frm sX h h') (z9 : gi h' 2 9 = 0) (z11 : gi h' 1 11 = 0) (fm : frm (fun c => c = 1) g g') (X' : XS h' 3 n') (M' : MS g' n') (R' : RG n') : Iv h' g' n' := by
  refine I.up X' M' R' ?_ (fun c hc => fx.1 c (by unfold oX at hc; unfold sX; omega)) (fm.q (fun c hc => by omega)) (I.fr.frm fx) (I.wf.frm fx) (I.ko.frm fx (fun c hc => by unfold sX; omega)) (Or.inl z9) (Or.inl z11)
  have r := I.rf
  unfold RFD at r ⊢
  rw [fx.1 0 (by unfold sX; omega), fx.1 0 (by unfold sX; omega), fx.1 0 (by unfold sX; omega), fm.1 4 (by omega), fm.1 4 (by omega), fm.1 4 (by omega)]
  exact r
/-- nothing changed but what is laid aside -/
theorem Iv.qu {h h' g g' : Hs} {n : Nat → Int32} {S : Nat → Prop} (I : Iv h g n) (fx : frm S h h') (hS : ∀ c, S c → c = 48 ∨ c = 50 ∨ c = 51 ∨ c = 355 ∨ c = 356 ∨ c = 418 ∨ c = 419 ∨ (420 ≤ c ∧ c ≤ 423)) (fm : smf g g') : Iv h' g' n := by
  have r := I.rf
  refine I.up (I.X.frm fx (fun c a b y => by have := hS c y; omega)) (I.M.smf fm) I.R ?_ (fun c hc => fx.1 c (fun y => by have := hS c y; unfold oX at hc; omega)) fm.q (I.fr.frm fx) (I.wf.frm fx) (I.ko.frm fx (fun c hc y => by have := hS c y; omega)) ?_ ?_
  · unfold RFD at r ⊢
    rw [fx.1 0 (fun y => by have := hS 0 y; omega), fx.1 0 (fun y => by have := hS 0 y; omega), fx.1 0 (fun y => by have := hS 0 y; omega), fm.1 4 (by omega), fm.1 4 (by omega), fm.1 4 (by omega)]
    exact r
  · rcases I.lo with y | y
    · left
      rw [fx.1 2 (fun y => by have := hS 2 y; omega)]
      exact y
    · exact Or.inr (y.frm fx (fun c hc y => by have := hS c y; omega) I.R)
  · rcases I.wo with y | y
    · left
      rw [fx.1 1 (fun y => by have := hS 1 y; omega)]
      exact y
    · exact Or.inr (y.frm I.R fx (fun c a b y => by have := hS c y; omega))
/-! ===== ranges, index by index ===== -/
def rgk (k : Nat) (x : Int32) : Prop := if k < 6 then rg 200 x else if k < 16 then rg 9 x else if k < 20 then rg 60 x else if k < 22 then rg 9 x else if k < 26 then rg 999 x ∧ 1 ≤ nn x else if k < 34 then rg 9 x else if k < 518 then (if (k - 34) % 121 = 0 then rg 120 x else rg 255 x) else if k < 542 then (if (k - 518) % 4 = 0 then rg 5 x else if (k - 518) % 4 = 1 then rg 3 x else if (k - 518) % 4 = 2 then rg 9 x else rg 10 x) else if k = 543 then (x = -1 ∨ rg 5 x) else if k < 545 then rg 1 x else if k < 575 then (if (k - 545) % 5 = 0 then rg 5 x else if (k - 545) % 5 = 1 then rg 3 x else if (k - 545) % 5 = 2 then rg 119 x else if (k - 545) % 5 = 3 then rg 7 x else rg 9 x) else if k < 611 then rg 20 x else if k < 671 then rg 1 x else if k = 672 then rg 4 x else rg 6 x
def REL (n : Nat → Int32) : Prop := (∀ t, t < nn (n 674) → nn (n (545 + 5 * t + 1)) < nn (n 672)) ∧ (∀ p, p < 6 → ∀ q, q < 6 → n (575 + 6 * p + q) = n (575 + 6 * q + p) ∧ (nn (n 671) ≤ p ∨ nn (n 671) ≤ q → n (575 + 6 * p + q) = 0))
theorem RG.rel {n : Nat → Int32} (R : RG n) : REL n := ⟨R.tl2, fun p hp q hq => (R.da p hp q hq).2⟩
set_option maxRecDepth 20000 in
theorem RG.k {n : Nat → Int32} (R : RG n) : ∀ k, k < 675 → rgk k (n k) := by
  intro k hk
  unfold rgk
  by_cases h1 : k < 6
  · rw [if_pos h1]; exact R.fe k h1
  rw [if_neg h1]
  by_cases h2 : k < 16
  · rw [if_pos h2]; have := R.ra (k - 6) (by omega); rw [show 6 + (k - 6) = k by omega] at this; exact this
  rw [if_neg h2]
  by_cases h3 : k < 20
  · rw [if_pos h3]; have := R.pe (k - 16) (by omega); rw [show 16 + (k - 16) = k by omega] at this; exact this
  rw [if_neg h3]
  by_cases h4 : k < 22
  · rw [if_pos h4]; have := R.pu (k - 20) (by omega); rw [show 20 + (k - 20) = k by omega] at this; exact this
  rw [if_neg h4]
  by_cases h5 : k < 26
  · rw [if_pos h5]; have := R.ea (k - 22) (by omega); rw [show 22 + (k - 22) = k by omega] at this; exact this
  rw [if_neg h5]
  by_cases h6 : k < 34
  · rw [if_pos h6]
    by_cases h66 : k < 30
    · have := R.ca (k - 26) (by omega); rw [show 26 + (k - 26) = k by omega] at this; exact this
    · have := R.pr (k - 30) (by omega); rw [show 30 + (k - 30) = k by omega] at this; exact this
  rw [if_neg h6]
  by_cases h7 : k < 518
  · rw [if_pos h7]
    by_cases h77 : (k - 34) % 121 = 0
    · rw [if_pos h77]; have := R.ln ((k - 34) / 121) (by omega); rw [show 34 + 121 * ((k - 34) / 121) = k by omega] at this; exact this
    · rw [if_neg h77]; have := R.tx ((k - 34) / 121) (by omega) ((k - 34) % 121 - 1) (by omega); rw [show 35 + 121 * ((k - 34) / 121) + ((k - 34) % 121 - 1) = k by omega] at this; exact this
  rw [if_neg h7]
  by_cases h8 : k < 542
  · rw [if_pos h8]
    obtain ⟨s, i, hs, hi, e⟩ : ∃ s i, s < 6 ∧ i < 4 ∧ k = 518 + 4 * s + i := ⟨(k - 518) / 4, (k - 518) % 4, by omega, by omega, by omega⟩
    have := R.si s hs
    clear h1 h2 h3 h4 h5 h6 h7 h8
    rcases (show i = 0 ∨ i = 1 ∨ i = 2 ∨ i = 3 by omega) with a | a | a | a
    · rw [e, a, if_pos (by omega)]; exact this.1
    · rw [e, a, if_neg (by omega), if_pos (by omega)]; exact this.2.1
    · rw [e, a, if_neg (by omega), if_neg (by omega), if_pos (by omega)]; exact this.2.2.1
    · rw [e, a, if_neg (by omega), if_neg (by omega), if_neg (by omega)]; exact this.2.2.2
  rw [if_neg h8]
  by_cases h9 : k = 543
  · rw [if_pos h9, h9]; exact R.po.2.1
  rw [if_neg h9]
  by_cases h10 : k < 545
  · rw [if_pos h10]
    by_cases a : k = 542
    · rw [a]; exact R.po.1
    · rw [show k = 544 by omega]; exact R.po.2.2
  rw [if_neg h10]
  by_cases h11 : k < 575
  · rw [if_pos h11]
    obtain ⟨s, i, hs, hi, e⟩ : ∃ s i, s < 6 ∧ i < 5 ∧ k = 545 + 5 * s + i := ⟨(k - 545) / 5, (k - 545) % 5, by omega, by omega, by omega⟩
    have := R.tl s hs
    clear h1 h2 h3 h4 h5 h6 h7 h8 h9 h10 h11
    rcases (show i = 0 ∨ i = 1 ∨ i = 2 ∨ i = 3 ∨ i = 4 by omega) with a | a | a | a | a
    · rw [e, a, if_pos (by omega)]; exact this.1
    · rw [e, a, if_neg (by omega), if_pos (by omega)]; exact this.2.1
    · rw [e, a, if_neg (by omega), if_neg (by omega), if_pos (by omega)]; exact this.2.2.1
    · rw [e, a, if_neg (by omega), if_neg (by omega), if_neg (by omega), if_pos (by omega)]; exact this.2.2.2.1
    · rw [e, a, if_neg (by omega), if_neg (by omega), if_neg (by omega), if_neg (by omega)]; exact this.2.2.2.2
  rw [if_neg h11]
  by_cases h12 : k < 611
  · rw [if_pos h12]; have := (R.da ((k - 575) / 6) (by omega) ((k - 575) % 6) (by omega)).1; rw [show 575 + 6 * ((k - 575) / 6) + (k - 575) % 6 = k by omega] at this; exact this
  rw [if_neg h12]
  by_cases h13 : k < 671
  · rw [if_pos h13]; have := R.sm (k - 611) (by omega); rw [show 611 + (k - 611) = k by omega] at this; exact this
  rw [if_neg h13]
  by_cases h14 : k = 672
  · rw [if_pos h14, h14]; exact R.2.1
  rw [if_neg h14]
  rcases (show k = 671 ∨ k = 673 ∨ k = 674 by omega) with e | e | e
  · rw [e]; exact R.1
  · rw [e]; exact R.2.2.1
  · rw [e]; exact R.2.2.2.1
theorem RG.of {n : Nat → Int32} (H : ∀ k, k < 675 → rgk k (n k)) (L : REL n) : RG n := by
  refine ⟨?_, ?_, ?_, ?_, fun i hi => ?_, fun i hi => ?_, fun i hi => ?_, fun i hi => ?_, fun i hi => ?_, fun i hi => ?_, fun i hi => ?_, fun s hs => ?_, fun s hs i hi => ?_, fun s hs => ⟨?_, ?_, ?_, ?_⟩, ⟨?_, ?_, ?_⟩, fun t ht => ⟨?_, ?_, ?_, ?_, ?_⟩, L.1, fun p hp q hq => ⟨?_, L.2 p hp q hq⟩, fun d hd => ?_⟩
  · have := H 671 (by omega); unfold rgk at this; simpa using this
  · have := H 672 (by omega); unfold rgk at this; simpa using this
  · have := H 673 (by omega); unfold rgk at this; simpa using this
  · have := H 674 (by omega); unfold rgk at this; simpa using this
  · have := H i (by omega); unfold rgk at this; rw [if_pos hi] at this; exact this
  · have := H (6 + i) (by omega); unfold rgk at this; rw [if_neg (by omega), if_pos (by omega)] at this; exact this
  · have := H (16 + i) (by omega); unfold rgk at this; rw [if_neg (by omega), if_neg (by omega), if_pos (by omega)] at this; exact this
  · have := H (20 + i) (by omega); unfold rgk at this; rw [if_neg (by omega), if_neg (by omega), if_neg (by omega), if_pos (by omega)] at this; exact this
  · have := H (22 + i) (by omega); unfold rgk at this; rw [if_neg (by omega), if_neg (by omega), if_neg (by omega), if_neg (by omega), if_pos (by omega)] at this; exact this
  · have := H (26 + i) (by omega); unfold rgk at this; rw [if_neg (by omega), if_neg (by omega), if_neg (by omega), if_neg (by omega), if_neg (by omega), if_pos (by omega)] at this; exact this
  · have := H (30 + i) (by omega); unfold rgk at this; rw [if_neg (by omega), if_neg (by omega), if_neg (by omega), if_neg (by omega), if_neg (by omega), if_pos (by omega)] at this; exact this
  · have := H (34 + 121 * s) (by omega); unfold rgk at this; rw [if_neg (by omega), if_neg (by omega), if_neg (by omega), if_neg (by omega), if_neg (by omega), if_neg (by omega), if_pos (by omega), if_pos (by omega)] at this; exact this
  · have := H (35 + 121 * s + i) (by omega); unfold rgk at this; rw [if_neg (by omega), if_neg (by omega), if_neg (by omega), if_neg (by omega), if_neg (by omega), if_neg (by omega), if_pos (by omega), if_neg (by omega)] at this; exact this
  · have := H (518 + 4 * s) (by omega); unfold rgk at this; rw [if_neg (by omega), if_neg (by omega), if_neg (by omega), if_neg (by omega), if_neg (by omega), if_neg (by omega), if_neg (by omega), if_pos (by omega), if_pos (by omega)] at this; exact this
  · have := H (518 + 4 * s + 1) (by omega); unfold rgk at this; rw [if_neg (by omega), if_neg (by omega), if_neg (by omega), if_neg (by omega), if_neg (by omega), if_neg (by omega), if_neg (by omega), if_pos (by omega), if_neg (by omega), if_pos (by omega)] at this; exact this
  · have := H (518 + 4 * s + 2) (by omega); unfold rgk at this; rw [if_neg (by omega), if_neg (by omega), if_neg (by omega), if_neg (by omega), if_neg (by omega), if_neg (by omega), if_neg (by omega), if_pos (by omega), if_neg (by omega), if_neg (by omega), if_pos (by omega)] at this; exact this
  · have := H (518 + 4 * s + 3) (by omega); unfold rgk at this; rw [if_neg (by omega), if_neg (by omega), if_neg (by omega), if_neg (by omega), if_neg (by omega), if_neg (by omega), if_neg (by omega), if_pos (by omega), if_neg (by omega), if_neg (by omega), if_neg (by omega)] at this; exact this
  · have := H 542 (by omega); unfold rgk at this; simpa using this
  · have := H 543 (by omega); unfold rgk at this; simpa using this
  · have := H 544 (by omega); unfold rgk at this; simpa using this
  · have := H (545 + 5 * t) (by omega); unfold rgk at this; rw [if_neg (by omega), if_neg (by omega), if_neg (by omega), if_neg (by omega), if_neg (by omega), if_neg (by omega), if_neg (by omega), if_neg (by omega), if_neg (by omega), if_neg (by omega), if_pos (by omega), if_pos (by omega)] at this; exact this
  · have := H (545 + 5 * t + 1) (by omega); unfold rgk at this; rw [if_neg (by omega), if_neg (by omega), if_neg (by omega), if_neg (by omega), if_neg (by omega), if_neg (by omega), if_neg (by omega), if_neg (by omega), if_neg (by omega), if_neg (by omega), if_pos (by omega), if_neg (by omega), if_pos (by omega)] at this; exact this
  · have := H (545 + 5 * t + 2) (by omega); unfold rgk at this; rw [if_neg (by omega), if_neg (by omega), if_neg (by omega), if_neg (by omega), if_neg (by omega), if_neg (by omega), if_neg (by omega), if_neg (by omega), if_neg (by omega), if_neg (by omega), if_pos (by omega), if_neg (by omega), if_neg (by omega), if_pos (by omega)] at this; exact this
  · have := H (545 + 5 * t + 3) (by omega); unfold rgk at this; rw [if_neg (by omega), if_neg (by omega), if_neg (by omega), if_neg (by omega), if_neg (by omega), if_neg (by omega), if_neg (by omega), if_neg (by omega), if_neg (by omega), if_neg (by omega), if_pos (by omega), if_neg (by omega), if_neg (by omega), if_neg (by omega), if_pos (by omega)] at this; exact this
  · have := H (545 + 5 * t + 4) (by omega); unfold rgk at this; rw [if_neg (by omega), if_neg (by omega), if_neg (by omega), if_neg (by omega), if_neg (by omega), if_neg (by omega), if_neg (by omega), if_neg (by omega), if_neg (by omega), if_neg (by omega), if_pos (by omega), if_neg (by omega), if_neg (by omega), if_neg (by omega), if_neg (by omega)] at this; exact this
  · have := H (575 + 6 * p + q) (by omega); unfold rgk at this; rw [if_neg (by omega), if_neg (by omega), if_neg (by omega), if_neg (by omega), if_neg (by omega), if_neg (by omega), if_neg (by omega), if_neg (by omega), if_neg (by omega), if_neg (by omega), if_neg (by omega), if_pos (by omega)] at this; exact this
  · have := H (611 + d) (by omega); unfold rgk at this; rw [if_neg (by omega), if_neg (by omega), if_neg (by omega), if_neg (by omega), if_neg (by omega), if_neg (by omega), if_neg (by omega), if_neg (by omega), if_neg (by omega), if_neg (by omega), if_neg (by omega), if_neg (by omega), if_pos (by omega)] at this; exact this
theorem RG.set {n : Nat → Int32} {k : Nat} {v : Int32} (H : ∀ k, k < 675 → rgk k (n k)) (hv : rgk k v) : ∀ j, j < 675 → rgk j (un n k v j) := fun j hj => by
  by_cases e : j = k
  · subst e
    rw [un_s]
    exact hv
  · rw [un_n e]
    exact H j hj
theorem REL.oth {n : Nat → Int32} {k : Nat} {v : Int32} (L : REL n) (t6 : nn (n 674) ≤ 6) (hk : k < 545 ∨ (545 ≤ k ∧ k < 575 ∧ ¬ (k - 545) % 5 = 1) ∨ (611 ≤ k ∧ k < 671) ∨ k = 673) : REL (un n k v) := by
  unfold REL
  rw [un_n (show 674 ≠ k by omega), un_n (show 672 ≠ k by omega), un_n (show 671 ≠ k by omega)]
  refine ⟨fun t ht => ?_, fun p hp q hq => ?_⟩
  · by_cases e : 545 + 5 * t + 1 = k
    · omega
    · rw [un_n e]
      exact L.1 t ht
  · rw [un_n (by omega), un_n (by omega)]
    exact L.2 p hp q hq
