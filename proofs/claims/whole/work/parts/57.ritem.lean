/-! ===== the reference reads an item, to the end ===== -/
theorem fa2 {P : Nat → Prop} : (∀ k, k < 2 → P k) ↔ P 0 ∧ P 1 := ⟨fun h => ⟨h 0 (by omega), h 1 (by omega)⟩, fun h k hk => by
  have : k = 0 ∨ k = 1 := by omega
  rcases this with rfl | rfl
  · exact h.1
  · exact h.2⟩
theorem fa3 {P : Nat → Prop} : (∀ k, k < 3 → P k) ↔ P 0 ∧ P 1 ∧ P 2 := ⟨fun h => ⟨h 0 (by omega), h 1 (by omega), h 2 (by omega)⟩, fun h k hk => by
  have : k = 0 ∨ k = 1 ∨ k = 2 := by omega
  rcases this with rfl | rfl | rfl
  · exact h.1
  · exact h.2.1
  · exact h.2.2⟩
theorem fa4 {P : Nat → Prop} : (∀ k, k < 4 → P k) ↔ P 0 ∧ P 1 ∧ P 2 ∧ P 3 := ⟨fun h => ⟨h 0 (by omega), h 1 (by omega), h 2 (by omega), h 3 (by omega)⟩, fun h k hk => by
  have : k = 0 ∨ k = 1 ∨ k = 2 ∨ k = 3 := by omega
  rcases this with rfl | rfl | rfl | rfl
  · exact h.1
  · exact h.2.1
  · exact h.2.2.1
  · exact h.2.2.2⟩
theorem fa5 {P : Nat → Prop} : (∀ k, k < 5 → P k) ↔ P 0 ∧ P 1 ∧ P 2 ∧ P 3 ∧ P 4 := ⟨fun h => ⟨h 0 (by omega), h 1 (by omega), h 2 (by omega), h 3 (by omega), h 4 (by omega)⟩, fun h k hk => by
  have : k = 0 ∨ k = 1 ∨ k = 2 ∨ k = 3 ∨ k = 4 := by omega
  rcases this with rfl | rfl | rfl | rfl | rfl
  · exact h.1
  · exact h.2.1
  · exact h.2.2.1
  · exact h.2.2.2.1
  · exact h.2.2.2.2⟩
theorem w_go {T : Nat → Nat} {L a : Nat} : (mK T L a = 1 ∧ tkE T L a - a = 2 ∧ (∀ k, k < 2 → T (a + k) = cC 103 111 0 0 0 k)) ↔ tkK T L a = 4 := by
  rw [tkK_w (by omega), wk4, fa2]
  exact Iff.rfl
theorem w_join {T : Nat → Nat} {L a : Nat} : (mK T L a = 1 ∧ tkE T L a - a = 4 ∧ (∀ k, k < 4 → T (a + k) = cC 106 111 105 110 0 k)) ↔ tkK T L a = 5 := by
  rw [tkK_w (by omega), wk5, fa4]
  exact Iff.rfl
theorem w_die {T : Nat → Nat} {L a : Nat} : (mK T L a = 1 ∧ tkE T L a - a = 3 ∧ (∀ k, k < 3 → T (a + k) = cC 100 105 101 0 0 k)) ↔ tkK T L a = 6 := by
  rw [tkK_w (by omega), wk6, fa3]
  exact Iff.rfl
theorem w_word {T : Nat → Nat} {L a : Nat} : (mK T L a = 1 ∧ tkE T L a - a = 4 ∧ (∀ k, k < 4 → T (a + k) = cC 119 111 114 100 0 k)) ↔ tkK T L a = 7 := by
  rw [tkK_w (by omega), wk7, fa4]
  exact Iff.rfl
theorem w_cross {T : Nat → Nat} {L a : Nat} : (mK T L a = 1 ∧ tkE T L a - a = 5 ∧ (∀ k, k < 5 → T (a + k) = cC 99 114 111 115 115 k)) ↔ tkK T L a = 8 := by
  rw [tkK_w (by omega), wk8, fa5]
  exact Iff.rfl
def wv (wd : Nat) : Int32 := if wd = 0 then -1 else nI (wd - 1)
def itN (K : Nat → Nat) (i : Nat) : Nat := if K i = 4 then i + 4 else if K i = 8 then i + 2 else i + 3
def itLa (K V : Nat → Nat) (i la : Nat) : Nat := if K i = 4 ∨ K i = 5 ∨ K i = 6 then V (i + 1) else la
def itHr (K V : Nat → Nat) (i hr : Nat) : Nat := if K i = 4 then V (i + 2) else if K i = 5 then 6 else if K i = 6 then 7 else hr
def itWd (K V : Nat → Nat) (i wd : Nat) : Nat := if K i = 7 then V (i + 1) + 1 else wd
def itCr (K : Nat → Nat) (i cr : Nat) : Nat := if K i = 8 then 1 else cr
def itW (K V : Nat → Nat) (i : Nat) (W : Nat → Nat) : Nat → Nat := if K i = 4 ∨ K i = 5 ∨ K i = 6 then lay W (V (i + 1)) (itHr K V i 0) else W
def Kt (T : Nat → Nat) (L i : Nat) : Nat := tkK T L (ps T L i)
def Vt (T : Nat → Nat) (L i : Nat) : Nat := tkV T L (ps T L i)
def MI (g : Hs) (s : Nat) (T : Nat → Nat) (L pl i la hr wd cr : Nat) (W : Nat → Nat) : Prop := MX g s T L ∧ MT g T L (ps T L i) ∧ gi g 0 16 = nI la ∧ gi g 0 17 = (if 6 ≤ hr then 1 else 0) ∧ gi g 8 s = wv wd ∧ gi g 9 s = nI cr ∧ (∀ m, m < 120 → gi g 7 (120 * s + m) = nI (W m)) ∧ gi g 1 671 = nI pl ∧ pl ≤ 6 ∧ la < 120 ∧ cr ≤ 1 ∧ wd ≤ 6
theorem m_isPlace {v pl : Nat} {a1 : Int32} {g : Hs} {Q : Int32 → Prop} (e : a1 = nI v) (hv : v < 1000) (hp : gi g 1 671 = nI pl) (hp6 : pl ≤ 6) (h1 : v < pl → Q 1) (h0 : ¬ v < pl → Q 0) : p_M_isPlace a1 g Q := by
  subst e
  unfold p_M_isPlace p_M_places
  rw [hp]
  refine m_in (a := (v : Int)) (lo := 0) (hi := (pl : Int) - 1) (by rw [i64, nI_toInt' (by omega)]) (by decide) (by rw [i64, nI_m1i (by omega)]) (fun y => h1 ?_) (fun y => h0 (fun z => y ?_))
  · unfold ir at y
    omega
  · unfold ir
    omega
