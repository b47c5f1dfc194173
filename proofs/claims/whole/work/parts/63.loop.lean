/-! ===== loops and branches, as such ===== -/
theorem lpG {σ : Type} (P : Nat → σ → Prop) (I : Nat → σ → Prop) (N : Nat) {s : σ} (h0 : I 0 s) (done : ∀ s, I N s → P N s) (step : ∀ k s, k < N → I k s → (∀ s', I (k + 1) s' → P (k + 1) s') → P k s) : P 0 s := by
  have key : ∀ (d k : Nat) (s : σ), N - k = d → k ≤ N → I k s → P k s := by
    intro d
    induction d with
    | zero =>
      intro k s hd hk hI
      have : k = N := by omega
      subst this
      exact done s hI
    | succ d ih =>
      intro k s hd hk hI
      exact step k s (by omega) hI (fun s' hI' => ih (k + 1) s' (by omega) (by omega) hI')
  exact key _ 0 s rfl (Nat.zero_le _) h0
theorem lpH {P : Int32 → Hs → Prop} {h : Hs} (I : Nat → Hs → Prop) (N : Nat) (h0 : I 0 h) (done : ∀ g, I N g → P (nI N) g) (step : ∀ k g, k < N → I k g → (∀ g', I (k + 1) g' → P (nI (k + 1)) g') → P (nI k) g) : P 0 h := by
  rw [nI_lit0]
  exact lpG (fun k g => P (nI k) g) I N h0 done step
theorem lq1 {P : Int32 → Prop} (I : Nat → Prop) (N : Nat) (h0 : I 0) (done : I N → P (nI N)) (step : ∀ k, k < N → I k → (I (k + 1) → P (nI (k + 1))) → P (nI k)) : P 0 := by
  rw [nI_lit0]
  exact lpG (σ := Unit) (fun k _ => P (nI k)) (fun k _ => I k) N (s := ()) h0 (fun _ => done) (fun k _ hk hI nx => step k hk hI (nx ()))
/-- a sum that runs beside the counter -/
theorem lq2 {P : Int32 → Int32 → Prop} (A : Nat → Int32) (N : Nat) {a0 : Int32} (h0 : a0 = A 0) (done : P (A N) (nI N)) (step : ∀ k, k < N → (P (A (k + 1)) (nI (k + 1))) → P (A k) (nI k)) : P a0 0 := by
  subst h0
  rw [nI_lit0]
  exact lpG (σ := Unit) (fun k _ => P (A k) (nI k)) (fun _ _ => True) N (s := ()) trivial (fun _ _ => done) (fun k _ hk _ nx => step k hk (nx () trivial))
theorem ble {x y : Int32} {A B : Prop} {a b : Nat} (hx : x = nI a) (hy : y = nI b) (ha : a < 2 ^ 31) (hb : b < 2 ^ 31) (f : a ≤ b → A) (g : b < a → B) : (x ≤ y → A) ∧ (¬ x ≤ y → B) := pk_le a b f g hx hy ha hb
theorem bleN {x y : Int32} {A B : Prop} {a b : Nat} (hx : x = nI a) (hy : y = nI b) (ha : a < 2 ^ 31) (hb : b < 2 ^ 31) (g : b < a → B) (f : a ≤ b → A) : (¬ x ≤ y → B) ∧ (x ≤ y → A) := ⟨(pk_le a b f g hx hy ha hb).2, (pk_le a b f g hx hy ha hb).1⟩
theorem blt {x y : Int32} {A B : Prop} {a b : Nat} (hx : x = nI a) (hy : y = nI b) (ha : a < 2 ^ 31) (hb : b < 2 ^ 31) (f : a < b → A) (g : b ≤ a → B) : (x < y → A) ∧ (¬ x < y → B) := pk_lt a b f g hx hy ha hb
theorem beq {x y : Int32} {A B : Prop} {a b : Nat} (hx : x = nI a) (hy : y = nI b) (ha : a < 2 ^ 31) (hb : b < 2 ^ 31) (f : a = b → A) (g : a ≠ b → B) : (x = y → A) ∧ (¬ x = y → B) := pk_eq a b f g hx hy ha hb
theorem beqN {x y : Int32} {A B : Prop} {a b : Nat} (hx : x = nI a) (hy : y = nI b) (ha : a < 2 ^ 31) (hb : b < 2 ^ 31) (g : a ≠ b → B) (f : a = b → A) : (¬ x = y → B) ∧ (x = y → A) := ⟨(pk_eq a b f g hx hy ha hb).2, (pk_eq a b f g hx hy ha hb).1⟩
/-- a branch whose side is known -/
theorem bY {c A B : Prop} (h : c) (a : A) : (c → A) ∧ (¬ c → B) := ⟨fun _ => a, fun n => absurd h n⟩
theorem bN {c A B : Prop} (h : ¬ c) (b : B) : (c → A) ∧ (¬ c → B) := ⟨fun n => absurd n h, fun _ => b⟩
theorem bNY {c A B : Prop} (h : c) (a : A) : (¬ c → B) ∧ (c → A) := ⟨fun n => absurd h n, fun _ => a⟩
theorem bNN {c A B : Prop} (h : ¬ c) (b : B) : (¬ c → B) ∧ (c → A) := ⟨fun _ => b, fun n => absurd n h⟩
theorem one0 : ¬ (1 : Int32) = 0 := by decide
theorem vpn {x : Int32} {a N : Nat} (hx : x = nI a) (h : a < N) (hN : N < 2 ^ 31) : vp_in x N := by
  subst hx
  exact vp_in_nI h hN
theorem cl {x : Int32} {a : Nat} (hx : x = nI a) (h : a < 2 ^ 31) : x.toNatClampNeg = a := by
  subst hx
  exact nI_clamp h
theorem s_fill {o N : Nat} {x : Int32} {h : Hs} {Q : Hs → Prop} (hl : lX o = N) (hN : N < 2 ^ 31) (hQ : ∀ h', (∀ j, j < N → gi h' o j = x) → (∀ j, N ≤ j → gi h' o j = gi h o j) → frm (fun c => c = o) h h' → Q h') : p_Arr_fill o x h Q := by
  unfold p_Arr_fill
  rw [hl]
  intro a3 e3 P hP
  subst e3
  refine lpH (fun k g => (∀ j, j < k → gi g o j = x) ∧ (∀ j, k ≤ j → gi g o j = gi h o j) ∧ frm (fun c => c = o) h g) N ⟨fun j hj => by omega, fun _ _ => rfl, frm.refl⟩ (fun g hI => hP _ _ (bY (nI_le (Nat.le_refl _) hN) (hQ g hI.1 hI.2.1 hI.2.2))) (fun k g hk hI nx => hP _ _ (bN (nI_ge hk hN) ⟨vp_in_nI hk hN, fun h13 e13 a2 e2 => ?_⟩))
  rw [nI_1] at e2
  rw [nI_clamp (by omega)] at e13
  subst e2 e13
  refine nx _ ⟨fun j hj => ?_, fun j hj => ?_, hI.2.2.trans (frm.si rfl)⟩
  · by_cases e : j = k
    · subst e
      rw [gi_s]
    · rw [gi_k e]
      exact hI.1 j (by omega)
  · rw [gi_k (by omega)]
    exact hI.2.1 j (by omega)
