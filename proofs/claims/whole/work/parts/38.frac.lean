/-! ===== the fraction of the class ===== -/
def frr (S T : Nat → Prop) (h h' : Hs) : Prop := (∀ c, ¬ S c → ∀ j, gi h' c j = gi h c j) ∧ (∀ c j, gl h' c j = gl h c j) ∧ (∀ c, ¬ T c → ∀ j, gr h' c j = gr h c j)
theorem frr.refl {S T : Nat → Prop} {h : Hs} : frr S T h h := ⟨fun _ _ _ => rfl, fun _ _ => rfl, fun _ _ _ => rfl⟩
theorem frr.trans {S T : Nat → Prop} {h h1 h2 : Hs} (a : frr S T h h1) (b : frr S T h1 h2) : frr S T h h2 := ⟨fun c hc j => (b.1 c hc j).trans (a.1 c hc j), fun c j => (b.2.1 c j).trans (a.2.1 c j), fun c hc j => (b.2.2 c hc j).trans (a.2.2 c hc j)⟩
theorem frr.mono {S T S' T' : Nat → Prop} {h h1 : Hs} (a : frr S T h h1) (s : ∀ c, S c → S' c) (t : ∀ c, T c → T' c) : frr S' T' h h1 := ⟨fun c hc j => a.1 c (fun x => hc (s c x)) j, a.2.1, fun c hc j => a.2.2 c (fun x => hc (t c x)) j⟩
theorem frm.frr {S T : Nat → Prop} {h h' : Hs} (a : frm S h h') : frr S T h h' := ⟨a.1, fun c j => a.gl c j, fun c _ j => a.gr c j⟩
theorem frr.si {S T : Nat → Prop} {h : Hs} {o k : Nat} {v : Int32} (ho : S o) : frr S T h (si h o k v) := (frm.si ho).frr
theorem frr.sr {S T : Nat → Prop} {h : Hs} {o k v : Nat} (ho : T o) : frr S T h (sr h o k v) := ⟨fun _ _ _ => rfl, fun _ _ => rfl, fun c hc j => by rw [gr_if, if_neg (fun e : c = o ∧ j = k => hc (e.1 ▸ ho))]⟩
theorem BV.frr {S T : Nat → Prop} {h h' : Hs} {o v : Nat} (hb : BV h o v) (f : frr S T h h') (n1 : ¬ S o) (n2 : ¬ S (o + 1)) : BV h' o v := hb.keep (f.1 o n1 1) (f.1 (o + 1) n2)
def FR (h : Hs) : Prop := (gr h 406 3 = 413 ∧ gr h 406 4 = 415) ∨ (gr h 406 3 = 415 ∧ gr h 406 4 = 413)
def fS : Nat → Prop := fun c => 407 ≤ c ∧ c ≤ 416
def fT : Nat → Prop := fun c => c = 406
theorem gcd_half {g l : Nat} (hl : 0 < l) (h : l ≤ g) : 2 * (l * (g % l)) ≤ g * l := by
  have h1 := Nat.div_add_mod g l
  have h2 : 1 ≤ g / l := Nat.div_pos h hl
  have h3 : g % l < l := Nat.mod_lt _ hl
  have h4 : l * 1 ≤ l * (g / l) := Nat.mul_le_mul_left _ h2
  have h5 : 2 * (g % l) ≤ g := by omega
  have h6 : l * (2 * (g % l)) ≤ l * g := Nat.mul_le_mul_left _ h5
  have e1 : 2 * (l * (g % l)) = l * (2 * (g % l)) := by grind
  rw [e1, Nat.mul_comm g l]
  exact h6
theorem bS_f {G c : Nat} (hG : 407 ≤ G ∧ G ≤ 415) (h : bS G c) : fS c := by
  rcases h with h | h <;> (unfold fS; omega)
theorem lx32 : lX (407 + 1) = 32 ∧ lX (409 + 1) = 32 ∧ lX (411 + 1) = 32 ∧ lX (413 + 1) = 32 ∧ lX (415 + 1) = 32 := by decide +kernel
theorem BV.lt32 {h : Hs} {o v : Nat} (hk : kX o = 1) (hb : BV h o v) : v < BB ^ 32 := Nat.lt_of_lt_of_le hb.lt (Nat.pow_le_pow_right (by decide) (Nat.le_trans hb.2.1 (room_le hk).2))
theorem s_findDivisor {g0 l0 : Nat} {h : Hs} {Q : Hs → Prop} (hF : FR h) (hg : BV h (gr h 406 3) g0) (hl : BV h (gr h 406 4) l0) (hle : l0 ≤ g0) (hQ : ∀ h', FR h' → BV h' (gr h' 406 3) (Nat.gcd g0 l0) → frr (fun c => 411 ≤ c ∧ c ≤ 416) fT h h' → Q h') : p_Fraction_findDivisor h Q := by
  have k3 : ∀ h, FR h → kX (gr h 406 3) = 1 ∧ kX (gr h 406 4) = 1 ∧ gr h 406 3 ≠ gr h 406 4 ∧ lX (gr h 406 3 + 1) = 32 ∧ lX (gr h 406 4 + 1) = 32 ∧ (gr h 406 3 = 413 ∨ gr h 406 3 = 415) ∧ (gr h 406 4 = 413 ∨ gr h 406 4 = 415) := fun h hF => by
    rcases hF with ⟨e1, e2⟩ | ⟨e1, e2⟩ <;> (rw [e1, e2]; exact ⟨by decide +kernel, by decide +kernel, by decide, by decide +kernel, by decide +kernel, by decide, by decide⟩)
  have hb0 : g0 * l0 < 2 ^ 1920 := by
    have h1 := hg.lt32 (k3 h hF).1
    have h2 := hl.lt32 (k3 h hF).2.1
    have h3 : g0 * l0 < BB ^ 32 * BB ^ 32 := Nat.mul_lt_mul_of_lt_of_lt h1 h2
    have e : BB ^ 32 * BB ^ 32 = 2 ^ 1920 := by rw [BB32, ← Nat.pow_add]
    rw [e] at h3
    exact h3
  unfold p_Fraction_findDivisor
  intro P2 hP2
  have key : ∀ (n g l k : Nat) (s : Hs), l ≤ n → k ≤ 1000000 → FR s → BV s (gr s 406 3) g → BV s (gr s 406 4) l → l ≤ g → Nat.gcd g l = Nat.gcd g0 l0 → g * l * 2 ^ k ≤ g0 * l0 → frr (fun c => 411 ≤ c ∧ c ≤ 416) fT h s → P2 (nI k) s := by
    intro n
    induction n with
    | zero =>
      intro g l k s hn hk hFs hg hl hlg hgcd hpot hf
      have hl0 : l = 0 := by omega
      subst hl0
      obtain ⟨q1, q2, q3, q4, q5, q6, q7⟩ := k3 s hFs
      rw [Nat.gcd_zero_right] at hgcd
      apply hP2
      intro P57 h57
      have fin : P57 := h57 (hQ s hFs (by rw [← hgcd]; exact hg) hf)
      exact ⟨fun _ => fin, fun _ => ⟨q2, s_isZero q2 hl (fun _ => ⟨fun _ => fin, fun c => absurd c (by decide)⟩) (fun e => absurd rfl e)⟩⟩
    | succ n ih =>
      intro g l k s hn hk hFs hg hl hlg hgcd hpot hf
      by_cases hl0 : l = 0
      · exact ih g l k s (by omega) hk hFs hg hl hlg hgcd hpot hf
      · obtain ⟨q1, q2, q3, q4, q5, q6, q7⟩ := k3 s hFs
        have hk6 : k < 1000000 := by
          rcases Nat.lt_or_ge k 1920 with x | x
          · omega
          · exfalso
            have h1 : 2 ^ 1920 ≤ 2 ^ k := Nat.pow_le_pow_right (by decide) x
            have h2 : 1 * 2 ^ k ≤ g * l * 2 ^ k := Nat.mul_le_mul_right _ (Nat.mul_pos (by omega) (by omega))
            rw [Nat.one_mul] at h2
            exact absurd (Nat.lt_of_le_of_lt (Nat.le_trans h1 (Nat.le_trans h2 hpot)) hb0) (Nat.lt_irrefl _)
        clear hb0
        have hgfit := hg.lt32 q1
        apply hP2
        intro P57 h57
        refine ⟨fun c => absurd ((nI_leI (a := 1000000) (by omega) (by omega)).mp c) (by omega), fun _ => ⟨q2, s_isZero q2 hl (fun e => absurd e hl0) (fun _ => ⟨fun c => absurd rfl c, fun _ => ⟨q1, q2, ?_⟩⟩)⟩⟩
        refine s_divide q1 q2 (by decide +kernel) q3 (by omega) (by omega) hg hl hl0 (by rw [lx32.2.2.1]; exact hgfit) (fun h30 hm hq hfr => ?_)
        have e3 : gr h30 406 3 = gr s 406 3 := hfr.gr 406 3
        have e4 : gr h30 406 4 = gr s 406 4 := hfr.gr 406 4
        rw [e3, e4]
        refine ⟨q1, q2, ?_⟩
        intro h43 e43 h48 e48 a1 e1
        rw [nI_1] at e1
        subst e1
        have r3 : gr h48 406 3 = gr s 406 4 := by rw [e48, gr_if, if_neg (by decide), e43, gr_if, if_pos ⟨rfl, rfl⟩]
        have r4 : gr h48 406 4 = gr s 406 3 := by rw [e48, gr_if, if_pos ⟨rfl, rfl⟩]
        have hgi : ∀ c j, gi h48 c j = gi h30 c j := fun c j => by rw [e48, gi_sr, e43, gi_sr]
        have hlm : l * (g % l) * 2 ^ (k + 1) ≤ g0 * l0 := by
          have h5 := gcd_half (g := g) (l := l) (by omega) hlg
          have h6 : 2 * (l * (g % l)) * 2 ^ k ≤ g * l * 2 ^ k := Nat.mul_le_mul_right _ h5
          rw [Nat.pow_succ]
          have e9 : l * (g % l) * (2 ^ k * 2) = 2 * (l * (g % l)) * 2 ^ k := by
            generalize (2 : Nat) ^ k = z
            grind
          rw [e9]
          exact Nat.le_trans h6 hpot
        have hml : g % l < l := Nat.mod_lt _ (by omega)
        refine ih l (g % l) (k + 1) h48 (by omega) (by omega) ?_ ?_ ?_ (by omega) ?_ hlm ?_
        · rcases hFs with ⟨x1, x2⟩ | ⟨x1, x2⟩
          · exact Or.inr ⟨by rw [r3, x2], by rw [r4, x1]⟩
          · exact Or.inl ⟨by rw [r3, x2], by rw [r4, x1]⟩
        · rw [r3]
          have hl2 : BV h30 (gr s 406 4) l := hl.frm hfr (fun x => by rcases x with (x | x) | (x | x) <;> omega) (fun x => by rcases x with (x | x) | (x | x) <;> omega)
          exact hl2.keep (hgi _ _) (fun j => hgi _ _)
        · rw [r4]
          exact hm.keep (hgi _ _) (fun j => hgi _ _)
        · rw [← hgcd, Nat.gcd_comm l (g % l), ← Nat.gcd_rec l g, Nat.gcd_comm]
        · refine hf.trans (((hfr.mono (T := fun c => 411 ≤ c ∧ c ≤ 416) (fun c x => ?_)).frr).trans ?_)
          · rcases x with (x | x) | (x | x) <;> omega
          · refine frr.trans (h1 := h43) ?_ ?_
            · rw [e43]
              exact frr.sr rfl
            · rw [e48]
              exact frr.sr rfl
  rw [nI_lit0]
  exact key l0 g0 l0 0 h (Nat.le_refl _) (Nat.zero_le _) hF hg hl hle rfl (by rw [Nat.pow_zero, Nat.mul_one]; exact Nat.le_refl _) frr.refl
theorem s_Fbecome {a w p t : Nat} {h : Hs} {Q : Hs → Prop} (hF : FR h) (ka : kX a = 1) (kw : kX w = 1) (na : ¬ fS a ∧ ¬ fS (a + 1)) (nw : ¬ fS w ∧ ¬ fS (w + 1)) (hp : BV h a p) (ht : BV h w t) (ht0 : t ≠ 0) (hle : p ≤ t) (hQ : ∀ h', FR h' → BV h' 407 (p / Nat.gcd t p) → BV h' 409 (t / Nat.gcd t p) → frr fS fT h h' → Q h') : p_Fraction_become a w h Q := by
  have k3 : ∀ h, FR h → kX (gr h 406 3) = 1 ∧ kX (gr h 406 4) = 1 ∧ gr h 406 3 ≠ gr h 406 4 ∧ lX (gr h 406 3 + 1) = 32 ∧ lX (gr h 406 4 + 1) = 32 ∧ (gr h 406 3 = 413 ∨ gr h 406 3 = 415) ∧ (gr h 406 4 = 413 ∨ gr h 406 4 = 415) := fun h hF => by
    rcases hF with ⟨e1, e2⟩ | ⟨e1, e2⟩ <;> (rw [e1, e2]; exact ⟨by decide +kernel, by decide +kernel, by decide, by decide +kernel, by decide +kernel, by decide, by decide⟩)
  have hpf := hp.lt32 ka
  have htf := ht.lt32 kw
  have hfs : ∀ c, fS c ↔ 407 ≤ c ∧ c ≤ 416 := fun c => Iff.rfl
  rw [hfs, hfs] at na nw
  have toF : ∀ {G : Nat} {h1 h2 : Hs}, (G = 413 ∨ G = 415) → frm (bS G) h1 h2 → frr fS fT h1 h2 := fun hG hf => (hf.mono (fun c x => bS_f (by rcases hG with e | e <;> omega) x)).frr
  obtain ⟨q1, q2, q3, q4, q5, q6, q7⟩ := k3 h hF
  unfold p_Fraction_become
  refine ⟨q1, s_copy q1 kw (by omega) ht (by rw [q4]; exact htf) (fun h5 b5 f5 => ?_)⟩
  have F5 : frr fS fT h h5 := toF q6 f5
  have g53 : gr h5 406 3 = gr h 406 3 := f5.gr 406 3
  have g54 : gr h5 406 4 = gr h 406 4 := f5.gr 406 4
  have hF5 : FR h5 := by unfold FR; rw [g53, g54]; exact hF
  have hp5 : BV h5 a p := hp.frr F5 (by rw [hfs]; omega) (by rw [hfs]; omega)
  rw [g54]
  refine ⟨q2, s_copy q2 ka (by omega) hp5 (by rw [q5]; exact hpf) (fun h13 b13 f13 => ?_)⟩
  have F13 : frr fS fT h h13 := F5.trans (toF q7 f13)
  have g133 : gr h13 406 3 = gr h 406 3 := (f13.gr 406 3).trans g53
  have g134 : gr h13 406 4 = gr h 406 4 := (f13.gr 406 4).trans g54
  have hF13 : FR h13 := by unfold FR; rw [g133, g134]; exact hF
  have b13g : BV h13 (gr h13 406 3) t := by
    rw [g133]
    exact b5.frm f13 (fun x => by rcases x with x | x <;> omega) (fun x => by rcases x with x | x <;> omega)
  have b13l : BV h13 (gr h13 406 4) p := by rw [g134]; exact b13
  refine s_findDivisor hF13 b13g b13l hle (fun h17 hF17 b17 f17 => ?_)
  have F17 : frr fS fT h h17 := F13.trans (f17.mono (fun c x => by rw [hfs]; omega) (fun _ x => x))
  obtain ⟨r1, r2, r3, r4, r5, r6, r7⟩ := k3 h17 hF17
  have hp17 : BV h17 a p := hp.frr F17 (by rw [hfs]; omega) (by rw [hfs]; omega)
  refine ⟨r2, s_copy r2 ka (by omega) hp17 (by rw [r5]; exact hpf) (fun h25 b25 f25 => ?_)⟩
  have F25 : frr fS fT h h25 := F17.trans (toF r7 f25)
  have g253 : gr h25 406 3 = gr h17 406 3 := f25.gr 406 3
  have g254 : gr h25 406 4 = gr h17 406 4 := f25.gr 406 4
  rw [g253, g254]
  have b25g : BV h25 (gr h17 406 3) (Nat.gcd t p) := b17.frm f25 (fun x => by rcases x with x | x <;> omega) (fun x => by rcases x with x | x <;> omega)
  have hgpos : Nat.gcd t p ≠ 0 := fun e => ht0 (Nat.eq_zero_of_gcd_eq_zero_left e)
  refine ⟨r2, r1, s_divide r2 r1 (by decide +kernel) (Ne.symm r3) (by omega) (by omega) b25 b25g hgpos (by rw [lx32.1]; exact hpf) (fun h40 m40 q40 f40 => ?_)⟩
  have D40 : frr fS fT h25 h40 := (f40.mono (T := fS) (fun c x => by rw [hfs]; rcases x with (x | x) | (x | x) <;> omega)).frr
  have F40 : frr fS fT h h40 := F25.trans D40
  have g403 : gr h40 406 3 = gr h17 406 3 := (f40.gr 406 3).trans g253
  have g404 : gr h40 406 4 = gr h17 406 4 := (f40.gr 406 4).trans g254
  rw [g404]
  have ht40 : BV h40 w t := ht.frr F40 (by rw [hfs]; omega) (by rw [hfs]; omega)
  refine ⟨r2, s_copy r2 kw (by omega) ht40 (by rw [r5]; exact htf) (fun h48 b48 f48 => ?_)⟩
  have F48 : frr fS fT h h48 := F40.trans (toF r7 f48)
  have g483 : gr h48 406 3 = gr h17 406 3 := (f48.gr 406 3).trans g403
  have g484 : gr h48 406 4 = gr h17 406 4 := (f48.gr 406 4).trans g404
  rw [g483, g484]
  have b48g : BV h48 (gr h17 406 3) (Nat.gcd t p) := (b25g.frm f40 (fun x => by rcases x with (x | x) | (x | x) <;> omega) (fun x => by rcases x with (x | x) | (x | x) <;> omega)).frm f48 (fun x => by rcases x with x | x <;> omega) (fun x => by rcases x with x | x <;> omega)
  refine ⟨r2, r1, s_divide r2 r1 (by decide +kernel) (Ne.symm r3) (by omega) (by omega) b48 b48g hgpos (by rw [lx32.2.1]; exact htf) (fun h63 m63 q63 f63 => ?_)⟩
  have D63 : frr fS fT h48 h63 := (f63.mono (T := fS) (fun c x => by rw [hfs]; rcases x with (x | x) | (x | x) <;> omega)).frr
  refine hQ h63 ?_ ?_ q63 (F48.trans D63)
  · unfold FR
    rw [f63.gr 406 3, f63.gr 406 4, g483, g484]
    exact hF17
  · exact (q40.frm f48 (fun x => by rcases x with x | x <;> omega) (fun x => by rcases x with x | x <;> omega)).frm f63 (fun x => by rcases x with (x | x) | (x | x) <;> omega) (fun x => by rcases x with (x | x) | (x | x) <;> omega)
