/-! ===== the class reads an item ===== -/
theorem s_isLeg {κ : Nat} {a0 : Int32} {h : Hs} {Q : Int32 → Prop} (e : a0 = nI κ) (hκ : κ ≤ 8) (h1 : κ = 4 ∨ κ = 5 ∨ κ = 6 → Q 1) (h0 : ¬ (κ = 4 ∨ κ = 5 ∨ κ = 6) → Q 0) : p_Tale_isLeg a0 h Q := by
  subst e
  have z : ∀ c, c < 9 → (nI κ = nI c ↔ κ = c) := fun c h => nI_eq (by omega) (by omega)
  have z4 : nI κ = 4 ↔ κ = 4 := z 4 (by omega)
  have z5 : nI κ = 5 ↔ κ = 5 := z 5 (by omega)
  have z6 : nI κ = 6 ↔ κ = 6 := z 6 (by omega)
  unfold p_Tale_isLeg
  rw [z4, z5, z6]
  intro P hP P16 h16
  refine ⟨fun c => h16 (hP _ ⟨zb1, h1 (Or.inl c)⟩), fun c4 => ⟨fun c => h16 (hP _ ⟨zb1, h1 (Or.inr (Or.inl c))⟩), fun c5 => ⟨fun c6 => hP _ ⟨zb0, h0 (by omega)⟩, fun c6 => h16 (hP _ ⟨zb1, h1 (Or.inr (Or.inr c6))⟩)⟩⟩⟩
theorem wv_n1 {wd : Nat} (hwd : wd ≤ 6) : wv wd = -1 ↔ wd = 0 := by
  constructor
  · intro h
    have all : ∀ w, w ≤ 6 → wv w = -1 → w = 0 := by decide +kernel
    exact all wd hwd h
  · intro h
    rw [h]
    rfl
theorem s_mayBegin {o κ hr wd cr : Nat} {a1 : Int32} {h : Hs} {Q : Int32 → Prop} (e : a1 = nI κ) (hκ : κ ≤ 8) (h5 : gi h o 5 = nI hr) (hhr : hr ≤ 7) (h3 : gi h o 3 = wv wd) (hwd : wd ≤ 6) (h4 : gi h o 4 = nI cr) (hcr : cr ≤ 1) (h1 : ((κ = 4 ∨ κ = 5 ∨ κ = 6) ∧ ¬ 6 ≤ hr) ∨ (κ = 7 ∧ wd = 0) ∨ (κ = 8 ∧ cr = 0) → Q 1) (h0 : ¬ (((κ = 4 ∨ κ = 5 ∨ κ = 6) ∧ ¬ 6 ≤ hr) ∨ (κ = 7 ∧ wd = 0) ∨ (κ = 8 ∧ cr = 0)) → Q 0) : p_Tale_mayBegin o a1 h Q := by
  have z : ∀ c, c < 9 → (nI κ = nI c ↔ κ = c) := fun c h => nI_eq (by omega) (by omega)
  have z7 : nI κ = 7 ↔ κ = 7 := z 7 (by omega)
  have z8 : nI κ = 8 ↔ κ = 8 := z 8 (by omega)
  have y6 : nI hr = 6 ↔ hr = 6 := nI_eq (b := 6) (by omega) (by omega)
  have y7 : nI hr = 7 ↔ hr = 7 := nI_eq (b := 7) (by omega) (by omega)
  have y0 : nI cr = 0 ↔ cr = 0 := by
    rw [nI_lit0]
    exact nI_eq (by omega) (by omega)
  unfold p_Tale_mayBegin
  rw [h5, h3, h4, wv_n1 hwd, y6, y7, y0]
  subst e
  rw [z7, z8]
  refine s_isLeg rfl hκ (fun hl => ⟨fun c => absurd c (by decide), fun _ => ?_⟩) (fun hl => ⟨fun _ => ?_, fun c => absurd rfl c⟩)
  · intro P30 h30 P29 h29
    exact ⟨fun c => h29 (h30 _ ⟨zb0, h0 (by omega)⟩), fun c6 => ⟨fun c => h29 (h30 _ ⟨zb0, h0 (by omega)⟩), fun c7 => h30 _ ⟨zb1, h1 (by omega)⟩⟩⟩
  · intro P63 h63 P58 h58 P45 h45
    have no45 : ¬ (κ = 7 ∧ wd = 0) → P45 := fun n7 => by
      apply h45
      intro P62 h62
      exact ⟨fun c => h62 (h63 _ ⟨zb0, h0 (by omega)⟩), fun c8 => ⟨fun c => h62 (h63 _ ⟨zb0, h0 (by omega)⟩), fun c => h58 (h63 _ ⟨zb1, h1 (by omega)⟩)⟩⟩
    exact ⟨fun c => no45 (by omega), fun c7 => ⟨fun c => h58 (h63 _ ⟨zb1, h1 (by omega)⟩), fun c => no45 (by omega)⟩⟩
