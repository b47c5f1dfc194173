/-! ===== the class's readItem ===== -/
def XI (h : Hs) (o : Nat) (T : Nat → Nat) (L c i la hr wd cr : Nat) (W : Nat → Nat) : Prop := TKd h T L c ∧ i ≤ c ∧ gi h o 7 = nI i ∧ gi h o 6 = nI la ∧ gi h o 5 = nI hr ∧ gi h o 3 = wv wd ∧ gi h o 4 = nI cr ∧ gi h o 2 = -1 ∧ (∀ m, m < la → gi h (o + 1) m = nI (W m)) ∧ (∀ p, p < 6 → gi h (o + 2) p = nI (cnt W p la)) ∧ (∀ m, la ≤ m → W m = hr) ∧ la < 120 ∧ hr ≤ 7 ∧ cr ≤ 1 ∧ wd ≤ 6
def sfr (o : Nat) (h h' : Hs) : Prop := (∀ c j, (c ≠ o ∨ j ≠ 7) → gi h' c j = gi h c j) ∧ h'.2 = h.2
theorem sfr.refl {o : Nat} {h : Hs} : sfr o h h := ⟨fun _ _ _ => rfl, rfl⟩
theorem sfr.si {o : Nat} {h h1 : Hs} {v : Int32} (f : sfr o h h1) : sfr o h (si h1 o 7 v) := ⟨fun c j hc => by rw [gi_if, if_neg (by omega)]; exact f.1 c j hc, f.2⟩
theorem sfr.frm {o : Nat} {h h1 : Hs} (f : sfr o h h1) : frm (tS3 o) h h1 := ⟨fun c hc j => f.1 c j (by unfold tS3 at hc; omega), f.2⟩
theorem TKd.sfr {o : Nat} {h h' : Hs} {T : Nat → Nat} {L c : Nat} (K : TKd h T L c) (ho : 59 ≤ o) (f : sfr o h h') : TKd h' T L c := K.frm f.frm (fun q hq => by unfold tkS at hq; unfold tS3; omega)
theorem Kt_le {T : Nat → Nat} {L i : Nat} : Kt T L i ≤ 8 := by
  unfold Kt tkK
  repeat' split
  all_goals (first | omega | exact wk_lt)
