/-! ===== the law ===== -/
theorem pure_law {L : Nat} {xs : Nat → Int32} {h g : Hs} (hL : L ≤ 3072) (I : Inv h g) : p_law L xs h g := by
  unfold p_law
  intro P18 h18
  have eL : (Int32.ofNat L - 6).toInt = (L : Int) - 6 := pk_sub_toInt (a := L) (b := 6) (by omega) (by omega)
  have key : ∀ (m i : Nat) (h g : Hs), L - i ≤ m → i ≤ L + 6 → Inv h g → P18 (nI i) h g := by
    intro m
    induction m with
    | zero =>
      intro i h g hm hi I
      refine h18 _ _ _ (bY ?_ trivial)
      apply Int32.lt_iff_toInt_lt.mpr
      rw [eL, nI_toInt (by omega)]
      omega
    | succ m ih =>
      intro i h g hm hi I
      refine h18 _ _ _ ?_
      by_cases c : Int32.ofNat L - 6 < nI i
      · exact bY c trivial
      · have hi6 : i + 6 ≤ L := by
          rcases Nat.lt_or_ge L (i + 6) with y | y
          · exfalso
            apply c
            apply Int32.lt_iff_toInt_lt.mpr
            rw [eL, nI_toInt (by omega)]
            omega
          · exact y
        refine bN c ⟨vp_in_nI (by omega) (by omega), fun P1473 h1473 => ?_⟩
        have nx : ∀ h' g', Inv h' g' → P1473 h' g' := fun h' g' I' => h1473 _ _ (fun a3 e3 => by
          rw [show nI i + 6 = nI (i + 6) from nI_add i 6] at e3
          subst e3
          exact ih (i + 6) h' g' (by omega) (by omega) I')
        have v : ∀ k : Nat, k ≤ 5 → vp_in (nI i + nI k) L := fun k hk => by
          rw [nI_add]
          exact vp_in_nI (by omega) (by omega)
        refine ⟨(fun _ => ⟨v 1 (by omega), sim_place I (K := fun r h' r2 g' => (r = r2 → P1473 h' g') ∧ (¬ r = r2 → False)) (fun r h' g' I' => ⟨fun _ => nx h' g' I', fun c => absurd rfl c⟩) (fun r h' pm => ⟨v 1 (by omega), pm⟩)⟩),
          (fun _ => ⟨v 1 (by omega), v 2 (by omega), sim_rain I (K := fun r h' r2 g' => (r = r2 → P1473 h' g') ∧ (¬ r = r2 → False)) (fun r h' g' I' => ⟨fun _ => nx h' g' I', fun c => absurd rfl c⟩) (fun r h' pm => ⟨v 1 (by omega), v 2 (by omega), pm⟩)⟩),
          (fun _ => ⟨v 1 (by omega), sim_lot I (K := fun r h' r2 g' => (r = r2 → P1473 h' g') ∧ (¬ r = r2 → False)) (fun r h' g' I' => ⟨fun _ => nx h' g' I', fun c => absurd rfl c⟩) (fun r h' pm => ⟨v 1 (by omega), pm⟩)⟩),
          (fun _ => ⟨v 1 (by omega), v 2 (by omega), sim_put I (K := fun r h' r2 g' => (r = r2 → P1473 h' g') ∧ (¬ r = r2 → False)) (fun r h' g' I' => ⟨fun _ => nx h' g' I', fun c => absurd rfl c⟩) (fun r h' pm => ⟨v 1 (by omega), v 2 (by omega), pm⟩)⟩),
          (fun _ => ⟨v 1 (by omega), v 2 (by omega), v 3 (by omega), sim_kind I (K := fun r h' r2 g' => (r = r2 → P1473 h' g') ∧ (¬ r = r2 → False)) (fun r h' g' I' => ⟨fun _ => nx h' g' I', fun c => absurd rfl c⟩) (fun r h' pm => ⟨v 1 (by omega), v 2 (by omega), v 3 (by omega), pm⟩)⟩),
          (fun _ => ⟨v 1 (by omega), v 2 (by omega), sim_prior I (K := fun r h' r2 g' => (r = r2 → P1473 h' g') ∧ (¬ r = r2 → False)) (fun r h' g' I' => ⟨fun _ => nx h' g' I', fun c => absurd rfl c⟩) (fun r h' pm => ⟨v 1 (by omega), v 2 (by omega), pm⟩)⟩),
          (fun _ => ⟨v 1 (by omega), v 2 (by omega), v 3 (by omega), v 4 (by omega), sim_type I (K := fun r h' r2 g' => (r = r2 → P1473 h' g') ∧ (¬ r = r2 → False)) (fun r h' g' I' => ⟨fun _ => nx h' g' I', fun c => absurd rfl c⟩) (fun r h' pm => ⟨v 1 (by omega), v 2 (by omega), v 3 (by omega), v 4 (by omega), pm⟩)⟩),
          (fun _ => ⟨v 1 (by omega), sim_clear I (K := fun r h' r2 g' => (r = r2 → P1473 h' g') ∧ (¬ r = r2 → False)) (fun r h' g' I' => ⟨fun _ => nx h' g' I', fun c => absurd rfl c⟩) (fun r h' pm => ⟨v 1 (by omega), pm⟩)⟩),
          (fun _ => ⟨v 1 (by omega), sim_fault I (K := fun r h' r2 g' => (r = r2 → P1473 h' g') ∧ (¬ r = r2 → False)) (fun r h' g' I' => ⟨fun _ => nx h' g' I', fun c => absurd rfl c⟩) (fun r h' pm => ⟨v 1 (by omega), pm⟩)⟩),
          (fun _ => ⟨v 1 (by omega), v 2 (by omega), v 3 (by omega), v 4 (by omega), sim_sign I (K := fun r h' r2 g' => (r = r2 → P1473 h' g') ∧ (¬ r = r2 → False)) (fun r h' g' I' => ⟨fun _ => nx h' g' I', fun c => absurd rfl c⟩) (fun r h' pm => ⟨v 1 (by omega), v 2 (by omega), v 3 (by omega), v 4 (by omega), pm⟩)⟩),
          (fun _ => ⟨v 1 (by omega), v 2 (by omega), fun P571 h571 => ⟨fun z => h571 _ (sim_post I (K := fun r h' r2 g' => (r = r2 → P1473 h' g') ∧ (¬ r = r2 → False)) (fun r h' g' I' => ⟨fun _ => nx h' g' I', fun c => absurd rfl c⟩) (fun r h' pm => ⟨v 1 (by omega), v 2 (by omega), fun P593 h593 => bY z (h593 _ pm)⟩)), fun z => h571 _ (sim_post I (K := fun r h' r2 g' => (r = r2 → P1473 h' g') ∧ (¬ r = r2 → False)) (fun r h' g' I' => ⟨fun _ => nx h' g' I', fun c => absurd rfl c⟩) (fun r h' pm => ⟨v 1 (by omega), v 2 (by omega), fun P593 h593 => bN z (h593 _ pm)⟩))⟩⟩),
          (fun _ => ⟨v 1 (by omega), v 2 (by omega), v 3 (by omega), v 4 (by omega), v 5 (by omega), sim_teller I (K := fun r h' r2 g' => (r = r2 → P1473 h' g') ∧ (¬ r = r2 → False)) (fun r h' g' I' => ⟨fun _ => nx h' g' I', fun c => absurd rfl c⟩) (fun r h' pm => ⟨v 1 (by omega), v 2 (by omega), v 3 (by omega), v 4 (by omega), v 5 (by omega), pm⟩)⟩),
          (fun _ => ⟨v 1 (by omega), v 2 (by omega), sim_at I (K := fun r h' r2 g' => (r = r2 → P1473 h' g') ∧ (¬ r = r2 → False)) (fun r h' g' I' => ⟨fun _ => nx h' g' I', fun c => absurd rfl c⟩) (fun r h' pm => ⟨v 1 (by omega), v 2 (by omega), pm⟩)⟩),
          (fun _ => ⟨v 1 (by omega), v 2 (by omega), v 3 (by omega), sim_must I (K := fun r h' r2 g' => (r = r2 → P1473 h' g') ∧ (¬ r = r2 → False)) (fun r h' g' I' => ⟨fun _ => nx h' g' I', fun c => absurd rfl c⟩) (fun r h' pm => ⟨v 1 (by omega), v 2 (by omega), v 3 (by omega), pm⟩)⟩),
          (fun _ => ⟨v 1 (by omega), sim_hunger I (K := fun r h' r2 g' => (r = r2 → P1473 h' g') ∧ (¬ r = r2 → False)) (fun r h' g' I' => ⟨fun _ => nx h' g' I', fun c => absurd rfl c⟩) (fun r h' pm => ⟨v 1 (by omega), pm⟩)⟩),
          (fun _ => ⟨v 1 (by omega), v 2 (by omega), sim_odds I (K := fun r h' r2 g' => (r = r2 → P1473 h' g') ∧ (¬ r = r2 → False)) (fun r h' g' I' => ⟨fun _ => nx h' g' I', fun c => absurd rfl c⟩) (fun r h' pm => ⟨v 1 (by omega), v 2 (by omega), pm⟩)⟩),
          (fun _ => ⟨v 1 (by omega), sim_all I (K := fun r h' r2 g' => (r = r2 → P1473 h' g') ∧ (¬ r = r2 → False)) (fun r h' g' I' => ⟨fun _ => nx h' g' I', fun c => absurd rfl c⟩) (fun r h' pm => ⟨v 1 (by omega), pm⟩)⟩),
          (fun _ => ⟨v 1 (by omega), v 2 (by omega), v 3 (by omega), sim_where I (K := fun r h' r2 g' => (r = r2 → P1473 h' g') ∧ (¬ r = r2 → False)) (fun r h' g' I' => ⟨fun _ => nx h' g' I', fun c => absurd rfl c⟩) (fun r h' pm => ⟨v 1 (by omega), v 2 (by omega), v 3 (by omega), pm⟩)⟩),
          (fun _ => ⟨v 1 (by omega), sim_so I (K := fun r h' r2 g' => (r = r2 → P1473 h' g') ∧ (¬ r = r2 → False)) (fun r h' g' I' => ⟨fun _ => nx h' g' I', fun c => absurd rfl c⟩) (fun r h' pm => ⟨v 1 (by omega), pm⟩)⟩),
          (fun _ => ⟨v 1 (by omega), sim_lost I (K := fun r h' r2 g' => (r = r2 → P1473 h' g') ∧ (¬ r = r2 → False)) (fun r h' g' I' => ⟨fun _ => nx h' g' I', fun c => absurd rfl c⟩) (fun r h' pm => ⟨v 1 (by omega), pm⟩)⟩),
          (fun _ => sim_next I (K := fun r h' r2 g' => (r = r2 → P1473 h' g') ∧ (¬ r = r2 → False)) (fun r h' g' I' => ⟨fun _ => nx h' g' I', fun c => absurd rfl c⟩) (fun r h' pm => pm)),
          (fun _ => ⟨v 1 (by omega), v 2 (by omega), sim_fed I (K := fun r h' r2 g' => (r = r2 → P1473 h' g') ∧ (¬ r = r2 → False)) (fun r h' g' I' => ⟨fun _ => nx h' g' I', fun c => absurd rfl c⟩) (fun r h' pm => ⟨v 1 (by omega), v 2 (by omega), pm⟩)⟩),
          (fun _ => ⟨v 1 (by omega), v 2 (by omega), v 3 (by omega), sim_dry I (K := fun r h' r2 g' => (r = r2 → P1473 h' g') ∧ (¬ r = r2 → False)) (fun r h' g' I' => ⟨fun _ => nx h' g' I', fun c => absurd rfl c⟩) (fun r h' pm => ⟨v 1 (by omega), v 2 (by omega), v 3 (by omega), pm⟩)⟩),
          (fun _ => ⟨v 1 (by omega), v 2 (by omega), v 3 (by omega), v 4 (by omega), sim_many I (K := fun r h' r2 g' => (r = r2 → P1473 h' g') ∧ (¬ r = r2 → False)) (fun r h' g' I' => ⟨fun _ => nx h' g' I', fun c => absurd rfl c⟩) (fun r h' pm => ⟨v 1 (by omega), v 2 (by omega), v 3 (by omega), v 4 (by omega), pm⟩)⟩),
          (fun _ => ⟨v 1 (by omega), v 2 (by omega), v 3 (by omega), v 4 (by omega), v 5 (by omega), sim_stone I (K := fun r h' r2 g' => (r = r2 → P1473 h' g') ∧ (¬ r = r2 → False)) (fun r h' g' I' => ⟨fun _ => nx h' g' I', fun c => absurd rfl c⟩) (fun r h' pm => ⟨v 1 (by omega), v 2 (by omega), v 3 (by omega), v 4 (by omega), v 5 (by omega), pm⟩)⟩),
          (fun _ => ⟨v 1 (by omega), v 2 (by omega), v 3 (by omega), sim_days I (K := fun r h' r2 g' => (r = r2 → P1473 h' g') ∧ (¬ r = r2 → False)) (fun r h' g' I' => ⟨fun _ => nx h' g' I', fun c => absurd rfl c⟩) (fun r h' pm => ⟨v 1 (by omega), v 2 (by omega), v 3 (by omega), pm⟩)⟩),
          (fun _ => ⟨v 1 (by omega), v 2 (by omega), fun P571 h571 => ⟨fun z => h571 _ (sim_storm I (K := fun r h' r2 g' => (r = r2 → P1473 h' g') ∧ (¬ r = r2 → False)) (fun r h' g' I' => ⟨fun _ => nx h' g' I', fun c => absurd rfl c⟩) (fun r h' pm => ⟨v 1 (by omega), v 2 (by omega), fun P593 h593 => bY z (h593 _ pm)⟩)), fun z => h571 _ (sim_storm I (K := fun r h' r2 g' => (r = r2 → P1473 h' g') ∧ (¬ r = r2 → False)) (fun r h' g' I' => ⟨fun _ => nx h' g' I', fun c => absurd rfl c⟩) (fun r h' pm => ⟨v 1 (by omega), v 2 (by omega), fun P593 h593 => bN z (h593 _ pm)⟩))⟩⟩),
          (fun _ => ⟨v 1 (by omega), v 2 (by omega), v 3 (by omega), sim_sails I (K := fun r h' r2 g' => (r = r2 → P1473 h' g') ∧ (¬ r = r2 → False)) (fun r h' g' I' => ⟨fun _ => nx h' g' I', fun c => absurd rfl c⟩) (fun r h' pm => ⟨v 1 (by omega), v 2 (by omega), v 3 (by omega), pm⟩)⟩),
          (fun _ => ⟨v 1 (by omega), v 2 (by omega), v 3 (by omega), v 4 (by omega), v 5 (by omega), sim_back I (K := fun r h' r2 g' => (r = r2 → P1473 h' g') ∧ (¬ r = r2 → False)) (fun r h' g' I' => ⟨fun _ => nx h' g' I', fun c => absurd rfl c⟩) (fun r h' pm => ⟨v 1 (by omega), v 2 (by omega), v 3 (by omega), v 4 (by omega), v 5 (by omega), pm⟩)⟩),
          (fun _ => ⟨v 1 (by omega), sim_part I (K := fun r h' r2 g' => (r = r2 → P1473 h' g') ∧ (¬ r = r2 → False)) (fun r h' g' I' => ⟨fun _ => nx h' g' I', fun c => absurd rfl c⟩) (fun r h' pm => ⟨v 1 (by omega), pm⟩)⟩),
          (fun _ => ⟨v 1 (by omega), v 2 (by omega), sim_limb I (K := fun r h' r2 g' => (r = r2 → P1473 h' g') ∧ (¬ r = r2 → False)) (fun r h' g' I' => ⟨fun _ => nx h' g' I', fun c => absurd rfl c⟩) (fun r h' pm => ⟨v 1 (by omega), v 2 (by omega), pm⟩)⟩),
          (fun _ => ⟨v 1 (by omega), sim_image I (K := fun r h' r2 g' => (r = r2 → P1473 h' g') ∧ (¬ r = r2 → False)) (fun r h' g' I' => ⟨fun _ => nx h' g' I', fun c => absurd rfl c⟩) (fun r h' pm => ⟨v 1 (by omega), pm⟩)⟩),
          (fun _ => ⟨v 1 (by omega), sim_from I (K := fun r h' r2 g' => (r = r2 → P1473 h' g') ∧ (¬ r = r2 → False)) (fun r h' g' I' => ⟨fun _ => nx h' g' I', fun c => absurd rfl c⟩) (fun r h' pm => ⟨v 1 (by omega), pm⟩)⟩),
          (fun _ => ⟨v 1 (by omega), sim_status I (K := fun r h' r2 g' => (r = r2 → P1473 h' g') ∧ (¬ r = r2 → False)) (fun r h' g' I' => ⟨fun _ => nx h' g' I', fun c => absurd rfl c⟩) (fun r h' pm => ⟨v 1 (by omega), pm⟩)⟩),
          (fun _ => ⟨v 1 (by omega), sim_count I (K := fun r h' r2 g' => (r = r2 → P1473 h' g') ∧ (¬ r = r2 → False)) (fun r h' g' I' => ⟨fun _ => nx h' g' I', fun c => absurd rfl c⟩) (fun r h' pm => ⟨v 1 (by omega), pm⟩)⟩),
          (fun _ => sim_digest I (K := fun r r2 => ((lg_cmp r r2) = 0 → P1473 h g) ∧ (¬ (lg_cmp r r2) = 0 → False)) (fun r => ⟨fun _ => nx h g I, fun c => absurd (cmp_eq0.mpr rfl) c⟩) (fun r pm => pm)),
          (by intros; exact nx h g I)⟩
  rw [nI_lit0]
  exact key L 0 h g (by omega) (by omega) I
