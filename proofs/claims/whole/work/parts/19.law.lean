def p_law (L : Nat) (xs : Nat → Int32) (h g : Hs) : Prop :=
  ∀ P_18 : Int32 → Hs → Hs → Prop, (∀ (b3_18 : Int32) (g_18 : Hs) (f_18 : Hs), ((((Int32.ofNat L) - 6) < b3_18 → (True)) ∧ (¬ ((Int32.ofNat L) - 6) < b3_18 → (vp_in b3_18 L ∧ ∀ P_1473 : Hs → Hs → Prop, (∀ (g_1473 : Hs) (f_1473 : Hs), (∀ a3_1473 : Int32, a3_1473 = b3_18 + 6 → P_18 a3_1473 g_1473 f_1473) → P_1473 g_1473 f_1473) → (((xs b3_18.toNatClampNeg) &&& 63) = 0 → (vp_in (b3_18 + 1) L ∧ p_X_place (xs (b3_18 + 1).toNatClampNeg) g_18 (fun r_198 h_198 => vp_in (b3_18 + 1) L ∧ p_M_place (xs (b3_18 + 1).toNatClampNeg) f_18 (fun r_207 g_207 => (r_198 = r_207 → (P_1473 h_198 g_207)) ∧ (¬ r_198 = r_207 → (False)))))) ∧ (((xs b3_18.toNatClampNeg) &&& 63) = 1 → (vp_in (b3_18 + 1) L ∧ vp_in (b3_18 + 2) L ∧ p_X_rain (xs (b3_18 + 1).toNatClampNeg) (xs (b3_18 + 2).toNatClampNeg) g_18 (fun r_226 h_226 => vp_in (b3_18 + 1) L ∧ vp_in (b3_18 + 2) L ∧ p_M_rain (xs (b3_18 + 1).toNatClampNeg) (xs (b3_18 + 2).toNatClampNeg) f_18 (fun r_240 g_240 => (r_226 = r_240 → (P_1473 h_226 g_240)) ∧ (¬ r_226 = r_240 → (False)))))) ∧ (((xs b3_18.toNatClampNeg) &&& 63) = 2 → (vp_in (b3_18 + 1) L ∧ p_X_lot (xs (b3_18 + 1).toNatClampNeg) g_18 (fun r_254 h_254 => vp_in (b3_18 + 1) L ∧ p_M_lot (xs (b3_18 + 1).toNatClampNeg) f_18 (fun r_263 g_263 => (r_254 = r_263 → (P_1473 h_254 g_263)) ∧ (¬ r_254 = r_263 → (False)))))) ∧ (((xs b3_18.toNatClampNeg) &&& 63) = 3 → (vp_in (b3_18 + 1) L ∧ vp_in (b3_18 + 2) L ∧ p_X_put (xs (b3_18 + 1).toNatClampNeg) (xs (b3_18 + 2).toNatClampNeg) g_18 (fun r_282 h_282 => vp_in (b3_18 + 1) L ∧ vp_in (b3_18 + 2) L ∧ p_M_put (xs (b3_18 + 1).toNatClampNeg) (xs (b3_18 + 2).toNatClampNeg) f_18 (fun r_296 g_296 => (r_282 = r_296 → (P_1473 h_282 g_296)) ∧ (¬ r_282 = r_296 → (False)))))) ∧ (((xs b3_18.toNatClampNeg) &&& 63) = 4 → (vp_in (b3_18 + 1) L ∧ vp_in (b3_18 + 2) L ∧ vp_in (b3_18 + 3) L ∧ p_X_kind (xs (b3_18 + 1).toNatClampNeg) (xs (b3_18 + 2).toNatClampNeg) (xs (b3_18 + 3).toNatClampNeg) g_18 (fun r_320 h_320 => vp_in (b3_18 + 1) L ∧ vp_in (b3_18 + 2) L ∧ vp_in (b3_18 + 3) L ∧ p_M_kind (xs (b3_18 + 1).toNatClampNeg) (xs (b3_18 + 2).toNatClampNeg) (xs (b3_18 + 3).toNatClampNeg) f_18 (fun r_339 g_339 => (r_320 = r_339 → (P_1473 h_320 g_339)) ∧ (¬ r_320 = r_339 → (False)))))) ∧ (((xs b3_18.toNatClampNeg) &&& 63) = 5 → (vp_in (b3_18 + 1) L ∧ vp_in (b3_18 + 2) L ∧ p_X_prior (xs (b3_18 + 1).toNatClampNeg) (xs (b3_18 + 2).toNatClampNeg) g_18 (fun r_358 h_358 => vp_in (b3_18 + 1) L ∧ vp_in (b3_18 + 2) L ∧ p_M_prior (xs (b3_18 + 1).toNatClampNeg) (xs (b3_18 + 2).toNatClampNeg) f_18 (fun r_372 g_372 => (r_358 = r_372 → (P_1473 h_358 g_372)) ∧ (¬ r_358 = r_372 → (False)))))) ∧ (((xs b3_18.toNatClampNeg) &&& 63) = 6 → (vp_in (b3_18 + 1) L ∧ vp_in (b3_18 + 2) L ∧ vp_in (b3_18 + 3) L ∧ vp_in (b3_18 + 4) L ∧ p_X_type (xs (b3_18 + 1).toNatClampNeg) ((((xs (b3_18 + 2).toNatClampNeg).toInt64) <<< ((32 : Int32).toInt64 &&& 63)) ||| (((xs (b3_18 + 3).toNatClampNeg).toInt64) &&& 4294967295)) (xs (b3_18 + 4).toNatClampNeg) g_18 (fun r_411 h_411 => vp_in (b3_18 + 1) L ∧ vp_in (b3_18 + 2) L ∧ vp_in (b3_18 + 3) L ∧ vp_in (b3_18 + 4) L ∧ p_M_type (xs (b3_18 + 1).toNatClampNeg) ((((xs (b3_18 + 2).toNatClampNeg).toInt64) <<< ((32 : Int32).toInt64 &&& 63)) ||| (((xs (b3_18 + 3).toNatClampNeg).toInt64) &&& 4294967295)) (xs (b3_18 + 4).toNatClampNeg) f_18 (fun r_445 g_445 => (r_411 = r_445 → (P_1473 h_411 g_445)) ∧ (¬ r_411 = r_445 → (False)))))) ∧ (((xs b3_18.toNatClampNeg) &&& 63) = 7 → (vp_in (b3_18 + 1) L ∧ p_X_clear (xs (b3_18 + 1).toNatClampNeg) g_18 (fun r_459 h_459 => vp_in (b3_18 + 1) L ∧ p_M_clear (xs (b3_18 + 1).toNatClampNeg) f_18 (fun r_468 g_468 => (r_459 = r_468 → (P_1473 h_459 g_468)) ∧ (¬ r_459 = r_468 → (False)))))) ∧ (((xs b3_18.toNatClampNeg) &&& 63) = 8 → (vp_in (b3_18 + 1) L ∧ p_X_fault (xs (b3_18 + 1).toNatClampNeg) g_18 (fun r_482 h_482 => vp_in (b3_18 + 1) L ∧ p_M_fault (xs (b3_18 + 1).toNatClampNeg) f_18 (fun r_491 g_491 => (r_482 = r_491 → (P_1473 h_482 g_491)) ∧ (¬ r_482 = r_491 → (False)))))) ∧ (((xs b3_18.toNatClampNeg) &&& 63) = 9 → (vp_in (b3_18 + 1) L ∧ vp_in (b3_18 + 2) L ∧ vp_in (b3_18 + 3) L ∧ vp_in (b3_18 + 4) L ∧ p_X_sign (xs (b3_18 + 1).toNatClampNeg) (xs (b3_18 + 2).toNatClampNeg) (xs (b3_18 + 3).toNatClampNeg) (xs (b3_18 + 4).toNatClampNeg) g_18 (fun r_520 h_520 => vp_in (b3_18 + 1) L ∧ vp_in (b3_18 + 2) L ∧ vp_in (b3_18 + 3) L ∧ vp_in (b3_18 + 4) L ∧ p_M_sign (xs (b3_18 + 1).toNatClampNeg) (xs (b3_18 + 2).toNatClampNeg) (xs (b3_18 + 3).toNatClampNeg) (xs (b3_18 + 4).toNatClampNeg) f_18 (fun r_544 g_544 => (r_520 = r_544 → (P_1473 h_520 g_544)) ∧ (¬ r_520 = r_544 → (False)))))) ∧ (((xs b3_18.toNatClampNeg) &&& 63) = 10 → (vp_in (b3_18 + 1) L ∧ vp_in (b3_18 + 2) L ∧ ∀ P_571 : Int32 → Prop, (∀ (t2_571 : Int32), (p_X_post (xs (b3_18 + 1).toNatClampNeg) t2_571 g_18 (fun r_571 h_571 => vp_in (b3_18 + 1) L ∧ vp_in (b3_18 + 2) L ∧ ∀ P_593 : Int32 → Prop, (∀ (t3_593 : Int32), (p_M_post (xs (b3_18 + 1).toNatClampNeg) t3_593 f_18 (fun r_593 g_593 => (r_571 = r_593 → (P_1473 h_571 g_593)) ∧ (¬ r_571 = r_593 → (False)))) → P_593 t3_593) → ((xs (b3_18 + 2).toNatClampNeg) = 0 → (P_593 0)) ∧ (¬ (xs (b3_18 + 2).toNatClampNeg) = 0 → (P_593 1)))) → P_571 t2_571) → ((xs (b3_18 + 2).toNatClampNeg) = 0 → (P_571 0)) ∧ (¬ (xs (b3_18 + 2).toNatClampNeg) = 0 → (P_571 1)))) ∧ (((xs b3_18.toNatClampNeg) &&& 63) = 11 → (vp_in (b3_18 + 1) L ∧ vp_in (b3_18 + 2) L ∧ vp_in (b3_18 + 3) L ∧ vp_in (b3_18 + 4) L ∧ vp_in (b3_18 + 5) L ∧ p_X_teller (xs (b3_18 + 1).toNatClampNeg) (xs (b3_18 + 2).toNatClampNeg) (xs (b3_18 + 3).toNatClampNeg) (xs (b3_18 + 4).toNatClampNeg) (xs (b3_18 + 5).toNatClampNeg) g_18 (fun r_627 h_627 => vp_in (b3_18 + 1) L ∧ vp_in (b3_18 + 2) L ∧ vp_in (b3_18 + 3) L ∧ vp_in (b3_18 + 4) L ∧ vp_in (b3_18 + 5) L ∧ p_M_teller (xs (b3_18 + 1).toNatClampNeg) (xs (b3_18 + 2).toNatClampNeg) (xs (b3_18 + 3).toNatClampNeg) (xs (b3_18 + 4).toNatClampNeg) (xs (b3_18 + 5).toNatClampNeg) f_18 (fun r_656 g_656 => (r_627 = r_656 → (P_1473 h_627 g_656)) ∧ (¬ r_627 = r_656 → (False)))))) ∧ (((xs b3_18.toNatClampNeg) &&& 63) = 12 → (vp_in (b3_18 + 1) L ∧ vp_in (b3_18 + 2) L ∧ p_X_at (xs (b3_18 + 1).toNatClampNeg) (xs (b3_18 + 2).toNatClampNeg) g_18 (fun r_675 h_675 => vp_in (b3_18 + 1) L ∧ vp_in (b3_18 + 2) L ∧ p_M_at (xs (b3_18 + 1).toNatClampNeg) (xs (b3_18 + 2).toNatClampNeg) f_18 (fun r_689 g_689 => (r_675 = r_689 → (P_1473 h_675 g_689)) ∧ (¬ r_675 = r_689 → (False)))))) ∧ (((xs b3_18.toNatClampNeg) &&& 63) = 13 → (vp_in (b3_18 + 1) L ∧ vp_in (b3_18 + 2) L ∧ vp_in (b3_18 + 3) L ∧ p_X_must (xs (b3_18 + 1).toNatClampNeg) (xs (b3_18 + 2).toNatClampNeg) (xs (b3_18 + 3).toNatClampNeg) g_18 (fun r_713 h_713 => vp_in (b3_18 + 1) L ∧ vp_in (b3_18 + 2) L ∧ vp_in (b3_18 + 3) L ∧ p_M_must (xs (b3_18 + 1).toNatClampNeg) (xs (b3_18 + 2).toNatClampNeg) (xs (b3_18 + 3).toNatClampNeg) f_18 (fun r_732 g_732 => (r_713 = r_732 → (P_1473 h_713 g_732)) ∧ (¬ r_713 = r_732 → (False)))))) ∧ (((xs b3_18.toNatClampNeg) &&& 63) = 14 → (vp_in (b3_18 + 1) L ∧ p_X_hunger (xs (b3_18 + 1).toNatClampNeg) g_18 (fun r_746 h_746 => vp_in (b3_18 + 1) L ∧ p_M_hunger (xs (b3_18 + 1).toNatClampNeg) f_18 (fun r_755 g_755 => (r_746 = r_755 → (P_1473 h_746 g_755)) ∧ (¬ r_746 = r_755 → (False)))))) ∧ (((xs b3_18.toNatClampNeg) &&& 63) = 15 → (vp_in (b3_18 + 1) L ∧ vp_in (b3_18 + 2) L ∧ p_X_odds (xs (b3_18 + 1).toNatClampNeg) (xs (b3_18 + 2).toNatClampNeg) g_18 (fun r_774 h_774 => vp_in (b3_18 + 1) L ∧ vp_in (b3_18 + 2) L ∧ p_M_odds (xs (b3_18 + 1).toNatClampNeg) (xs (b3_18 + 2).toNatClampNeg) f_18 (fun r_788 g_788 => (r_774 = r_788 → (P_1473 h_774 g_788)) ∧ (¬ r_774 = r_788 → (False)))))) ∧ (((xs b3_18.toNatClampNeg) &&& 63) = 16 → (vp_in (b3_18 + 1) L ∧ p_X_all (xs (b3_18 + 1).toNatClampNeg) g_18 (fun r_802 h_802 => vp_in (b3_18 + 1) L ∧ p_M_all (xs (b3_18 + 1).toNatClampNeg) f_18 (fun r_811 g_811 => (r_802 = r_811 → (P_1473 h_802 g_811)) ∧ (¬ r_802 = r_811 → (False)))))) ∧ (((xs b3_18.toNatClampNeg) &&& 63) = 17 → (vp_in (b3_18 + 1) L ∧ vp_in (b3_18 + 2) L ∧ vp_in (b3_18 + 3) L ∧ p_X_where (xs (b3_18 + 1).toNatClampNeg) (xs (b3_18 + 2).toNatClampNeg) (xs (b3_18 + 3).toNatClampNeg) g_18 (fun r_835 h_835 => vp_in (b3_18 + 1) L ∧ vp_in (b3_18 + 2) L ∧ vp_in (b3_18 + 3) L ∧ p_M_where (xs (b3_18 + 1).toNatClampNeg) (xs (b3_18 + 2).toNatClampNeg) (xs (b3_18 + 3).toNatClampNeg) f_18 (fun r_854 g_854 => (r_835 = r_854 → (P_1473 h_835 g_854)) ∧ (¬ r_835 = r_854 → (False)))))) ∧ (((xs b3_18.toNatClampNeg) &&& 63) = 18 → (vp_in (b3_18 + 1) L ∧ p_X_so (xs (b3_18 + 1).toNatClampNeg) g_18 (fun r_868 h_868 => vp_in (b3_18 + 1) L ∧ p_M_so (xs (b3_18 + 1).toNatClampNeg) f_18 (fun r_877 g_877 => (r_868 = r_877 → (P_1473 h_868 g_877)) ∧ (¬ r_868 = r_877 → (False)))))) ∧ (((xs b3_18.toNatClampNeg) &&& 63) = 19 → (vp_in (b3_18 + 1) L ∧ p_X_lost (xs (b3_18 + 1).toNatClampNeg) g_18 (fun r_891 h_891 => vp_in (b3_18 + 1) L ∧ p_M_lost (xs (b3_18 + 1).toNatClampNeg) f_18 (fun r_900 g_900 => (r_891 = r_900 → (P_1473 h_891 g_900)) ∧ (¬ r_891 = r_900 → (False)))))) ∧ (((xs b3_18.toNatClampNeg) &&& 63) = 20 → (p_X_next g_18 (fun r_909 h_909 => p_M_next f_18 (fun r_913 g_913 => (r_909 = r_913 → (P_1473 h_909 g_913)) ∧ (¬ r_909 = r_913 → (False)))))) ∧ (((xs b3_18.toNatClampNeg) &&& 63) = 21 → (vp_in (b3_18 + 1) L ∧ vp_in (b3_18 + 2) L ∧ p_X_fed (xs (b3_18 + 1).toNatClampNeg) (xs (b3_18 + 2).toNatClampNeg) g_18 (fun r_932 h_932 => vp_in (b3_18 + 1) L ∧ vp_in (b3_18 + 2) L ∧ p_M_fed (xs (b3_18 + 1).toNatClampNeg) (xs (b3_18 + 2).toNatClampNeg) f_18 (fun r_946 g_946 => (r_932 = r_946 → (P_1473 h_932 g_946)) ∧ (¬ r_932 = r_946 → (False)))))) ∧ (((xs b3_18.toNatClampNeg) &&& 63) = 22 → (vp_in (b3_18 + 1) L ∧ vp_in (b3_18 + 2) L ∧ vp_in (b3_18 + 3) L ∧ p_X_dry (xs (b3_18 + 1).toNatClampNeg) (xs (b3_18 + 2).toNatClampNeg) (xs (b3_18 + 3).toNatClampNeg) g_18 (fun r_970 h_970 => vp_in (b3_18 + 1) L ∧ vp_in (b3_18 + 2) L ∧ vp_in (b3_18 + 3) L ∧ p_M_dry (xs (b3_18 + 1).toNatClampNeg) (xs (b3_18 + 2).toNatClampNeg) (xs (b3_18 + 3).toNatClampNeg) f_18 (fun r_989 g_989 => (r_970 = r_989 → (P_1473 h_970 g_989)) ∧ (¬ r_970 = r_989 → (False)))))) ∧ (((xs b3_18.toNatClampNeg) &&& 63) = 23 → (vp_in (b3_18 + 1) L ∧ vp_in (b3_18 + 2) L ∧ vp_in (b3_18 + 3) L ∧ vp_in (b3_18 + 4) L ∧ p_X_many (xs (b3_18 + 1).toNatClampNeg) (xs (b3_18 + 2).toNatClampNeg) (xs (b3_18 + 3).toNatClampNeg) (xs (b3_18 + 4).toNatClampNeg) g_18 (fun r_1018 h_1018 => vp_in (b3_18 + 1) L ∧ vp_in (b3_18 + 2) L ∧ vp_in (b3_18 + 3) L ∧ vp_in (b3_18 + 4) L ∧ p_M_many (xs (b3_18 + 1).toNatClampNeg) (xs (b3_18 + 2).toNatClampNeg) (xs (b3_18 + 3).toNatClampNeg) (xs (b3_18 + 4).toNatClampNeg) f_18 (fun r_1042 g_1042 => (r_1018 = r_1042 → (P_1473 h_1018 g_1042)) ∧ (¬ r_1018 = r_1042 → (False)))))) ∧ (((xs b3_18.toNatClampNeg) &&& 63) = 24 → (vp_in (b3_18 + 1) L ∧ vp_in (b3_18 + 2) L ∧ vp_in (b3_18 + 3) L ∧ vp_in (b3_18 + 4) L ∧ vp_in (b3_18 + 5) L ∧ p_X_stone (xs (b3_18 + 1).toNatClampNeg) (xs (b3_18 + 2).toNatClampNeg) (xs (b3_18 + 3).toNatClampNeg) (xs (b3_18 + 4).toNatClampNeg) (xs (b3_18 + 5).toNatClampNeg) g_18 (fun r_1076 h_1076 => vp_in (b3_18 + 1) L ∧ vp_in (b3_18 + 2) L ∧ vp_in (b3_18 + 3) L ∧ vp_in (b3_18 + 4) L ∧ vp_in (b3_18 + 5) L ∧ p_M_stone (xs (b3_18 + 1).toNatClampNeg) (xs (b3_18 + 2).toNatClampNeg) (xs (b3_18 + 3).toNatClampNeg) (xs (b3_18 + 4).toNatClampNeg) (xs (b3_18 + 5).toNatClampNeg) f_18 (fun r_1105 g_1105 => (r_1076 = r_1105 → (P_1473 h_1076 g_1105)) ∧ (¬ r_1076 = r_1105 → (False)))))) ∧ (((xs b3_18.toNatClampNeg) &&& 63) = 25 → (vp_in (b3_18 + 1) L ∧ vp_in (b3_18 + 2) L ∧ vp_in (b3_18 + 3) L ∧ p_X_days (xs (b3_18 + 1).toNatClampNeg) (xs (b3_18 + 2).toNatClampNeg) (xs (b3_18 + 3).toNatClampNeg) g_18 (fun r_1129 h_1129 => vp_in (b3_18 + 1) L ∧ vp_in (b3_18 + 2) L ∧ vp_in (b3_18 + 3) L ∧ p_M_days (xs (b3_18 + 1).toNatClampNeg) (xs (b3_18 + 2).toNatClampNeg) (xs (b3_18 + 3).toNatClampNeg) f_18 (fun r_1148 g_1148 => (r_1129 = r_1148 → (P_1473 h_1129 g_1148)) ∧ (¬ r_1129 = r_1148 → (False)))))) ∧ (((xs b3_18.toNatClampNeg) &&& 63) = 26 → (vp_in (b3_18 + 1) L ∧ vp_in (b3_18 + 2) L ∧ ∀ P_1175 : Int32 → Prop, (∀ (t2_1175 : Int32), (p_X_storm (xs (b3_18 + 1).toNatClampNeg) t2_1175 g_18 (fun r_1175 h_1175 => vp_in (b3_18 + 1) L ∧ vp_in (b3_18 + 2) L ∧ ∀ P_1197 : Int32 → Prop, (∀ (t3_1197 : Int32), (p_M_storm (xs (b3_18 + 1).toNatClampNeg) t3_1197 f_18 (fun r_1197 g_1197 => (r_1175 = r_1197 → (P_1473 h_1175 g_1197)) ∧ (¬ r_1175 = r_1197 → (False)))) → P_1197 t3_1197) → ((xs (b3_18 + 2).toNatClampNeg) = 0 → (P_1197 0)) ∧ (¬ (xs (b3_18 + 2).toNatClampNeg) = 0 → (P_1197 1)))) → P_1175 t2_1175) → ((xs (b3_18 + 2).toNatClampNeg) = 0 → (P_1175 0)) ∧ (¬ (xs (b3_18 + 2).toNatClampNeg) = 0 → (P_1175 1)))) ∧ (((xs b3_18.toNatClampNeg) &&& 63) = 27 → (vp_in (b3_18 + 1) L ∧ vp_in (b3_18 + 2) L ∧ vp_in (b3_18 + 3) L ∧ p_X_sails (xs (b3_18 + 1).toNatClampNeg) (xs (b3_18 + 2).toNatClampNeg) (xs (b3_18 + 3).toNatClampNeg) g_18 (fun r_1221 h_1221 => vp_in (b3_18 + 1) L ∧ vp_in (b3_18 + 2) L ∧ vp_in (b3_18 + 3) L ∧ p_M_sails (xs (b3_18 + 1).toNatClampNeg) (xs (b3_18 + 2).toNatClampNeg) (xs (b3_18 + 3).toNatClampNeg) f_18 (fun r_1240 g_1240 => (r_1221 = r_1240 → (P_1473 h_1221 g_1240)) ∧ (¬ r_1221 = r_1240 → (False)))))) ∧ (((xs b3_18.toNatClampNeg) &&& 63) = 28 → (vp_in (b3_18 + 1) L ∧ vp_in (b3_18 + 2) L ∧ vp_in (b3_18 + 3) L ∧ vp_in (b3_18 + 4) L ∧ vp_in (b3_18 + 5) L ∧ p_X_back (xs (b3_18 + 1).toNatClampNeg) (xs (b3_18 + 2).toNatClampNeg) (xs (b3_18 + 3).toNatClampNeg) (xs (b3_18 + 4).toNatClampNeg) (xs (b3_18 + 5).toNatClampNeg) g_18 (fun r_1274 h_1274 => vp_in (b3_18 + 1) L ∧ vp_in (b3_18 + 2) L ∧ vp_in (b3_18 + 3) L ∧ vp_in (b3_18 + 4) L ∧ vp_in (b3_18 + 5) L ∧ p_M_back (xs (b3_18 + 1).toNatClampNeg) (xs (b3_18 + 2).toNatClampNeg) (xs (b3_18 + 3).toNatClampNeg) (xs (b3_18 + 4).toNatClampNeg) (xs (b3_18 + 5).toNatClampNeg) f_18 (fun r_1303 g_1303 => (r_1274 = r_1303 → (P_1473 h_1274 g_1303)) ∧ (¬ r_1274 = r_1303 → (False)))))) ∧ (((xs b3_18.toNatClampNeg) &&& 63) = 29 → (vp_in (b3_18 + 1) L ∧ p_X_part (xs (b3_18 + 1).toNatClampNeg) g_18 (fun r_1317 h_1317 => vp_in (b3_18 + 1) L ∧ p_M_part (xs (b3_18 + 1).toNatClampNeg) f_18 (fun r_1326 g_1326 => (r_1317 = r_1326 → (P_1473 h_1317 g_1326)) ∧ (¬ r_1317 = r_1326 → (False)))))) ∧ (((xs b3_18.toNatClampNeg) &&& 63) = 30 → (vp_in (b3_18 + 1) L ∧ vp_in (b3_18 + 2) L ∧ p_X_limb (xs (b3_18 + 1).toNatClampNeg) (xs (b3_18 + 2).toNatClampNeg) g_18 (fun r_1345 h_1345 => vp_in (b3_18 + 1) L ∧ vp_in (b3_18 + 2) L ∧ p_M_limb (xs (b3_18 + 1).toNatClampNeg) (xs (b3_18 + 2).toNatClampNeg) f_18 (fun r_1359 g_1359 => (r_1345 = r_1359 → (P_1473 h_1345 g_1359)) ∧ (¬ r_1345 = r_1359 → (False)))))) ∧ (((xs b3_18.toNatClampNeg) &&& 63) = 31 → (vp_in (b3_18 + 1) L ∧ p_X_image (xs (b3_18 + 1).toNatClampNeg) g_18 (fun r_1373 h_1373 => vp_in (b3_18 + 1) L ∧ p_M_image (xs (b3_18 + 1).toNatClampNeg) f_18 (fun r_1382 g_1382 => (r_1373 = r_1382 → (P_1473 h_1373 g_1382)) ∧ (¬ r_1373 = r_1382 → (False)))))) ∧ (((xs b3_18.toNatClampNeg) &&& 63) = 32 → (vp_in (b3_18 + 1) L ∧ p_X_from (xs (b3_18 + 1).toNatClampNeg) g_18 (fun r_1396 h_1396 => vp_in (b3_18 + 1) L ∧ p_M_from (xs (b3_18 + 1).toNatClampNeg) f_18 (fun r_1405 g_1405 => (r_1396 = r_1405 → (P_1473 h_1396 g_1405)) ∧ (¬ r_1396 = r_1405 → (False)))))) ∧ (((xs b3_18.toNatClampNeg) &&& 63) = 33 → (vp_in (b3_18 + 1) L ∧ p_X_status (xs (b3_18 + 1).toNatClampNeg) g_18 (fun r_1419 h_1419 => vp_in (b3_18 + 1) L ∧ p_M_status (xs (b3_18 + 1).toNatClampNeg) f_18 (fun r_1428 g_1428 => (r_1419 = r_1428 → (P_1473 h_1419 g_1428)) ∧ (¬ r_1419 = r_1428 → (False)))))) ∧ (((xs b3_18.toNatClampNeg) &&& 63) = 34 → (vp_in (b3_18 + 1) L ∧ p_X_count (xs (b3_18 + 1).toNatClampNeg) g_18 (fun r_1442 h_1442 => vp_in (b3_18 + 1) L ∧ p_M_count (xs (b3_18 + 1).toNatClampNeg) f_18 (fun r_1451 g_1451 => (r_1442 = r_1451 → (P_1473 h_1442 g_1451)) ∧ (¬ r_1442 = r_1451 → (False)))))) ∧ (((xs b3_18.toNatClampNeg) &&& 63) = 35 → (p_X_digest g_18 (fun r_1460 => p_M_digest f_18 (fun r_1464 => ((lg_cmp r_1460 r_1464) = 0 → (P_1473 g_18 f_18)) ∧ (¬ (lg_cmp r_1460 r_1464) = 0 → (False)))))) ∧ (¬ ((xs b3_18.toNatClampNeg) &&& 63) = 0 → ¬ ((xs b3_18.toNatClampNeg) &&& 63) = 1 → ¬ ((xs b3_18.toNatClampNeg) &&& 63) = 2 → ¬ ((xs b3_18.toNatClampNeg) &&& 63) = 3 → ¬ ((xs b3_18.toNatClampNeg) &&& 63) = 4 → ¬ ((xs b3_18.toNatClampNeg) &&& 63) = 5 → ¬ ((xs b3_18.toNatClampNeg) &&& 63) = 6 → ¬ ((xs b3_18.toNatClampNeg) &&& 63) = 7 → ¬ ((xs b3_18.toNatClampNeg) &&& 63) = 8 → ¬ ((xs b3_18.toNatClampNeg) &&& 63) = 9 → ¬ ((xs b3_18.toNatClampNeg) &&& 63) = 10 → ¬ ((xs b3_18.toNatClampNeg) &&& 63) = 11 → ¬ ((xs b3_18.toNatClampNeg) &&& 63) = 12 → ¬ ((xs b3_18.toNatClampNeg) &&& 63) = 13 → ¬ ((xs b3_18.toNatClampNeg) &&& 63) = 14 → ¬ ((xs b3_18.toNatClampNeg) &&& 63) = 15 → ¬ ((xs b3_18.toNatClampNeg) &&& 63) = 16 → ¬ ((xs b3_18.toNatClampNeg) &&& 63) = 17 → ¬ ((xs b3_18.toNatClampNeg) &&& 63) = 18 → ¬ ((xs b3_18.toNatClampNeg) &&& 63) = 19 → ¬ ((xs b3_18.toNatClampNeg) &&& 63) = 20 → ¬ ((xs b3_18.toNatClampNeg) &&& 63) = 21 → ¬ ((xs b3_18.toNatClampNeg) &&& 63) = 22 → ¬ ((xs b3_18.toNatClampNeg) &&& 63) = 23 → ¬ ((xs b3_18.toNatClampNeg) &&& 63) = 24 → ¬ ((xs b3_18.toNatClampNeg) &&& 63) = 25 → ¬ ((xs b3_18.toNatClampNeg) &&& 63) = 26 → ¬ ((xs b3_18.toNatClampNeg) &&& 63) = 27 → ¬ ((xs b3_18.toNatClampNeg) &&& 63) = 28 → ¬ ((xs b3_18.toNatClampNeg) &&& 63) = 29 → ¬ ((xs b3_18.toNatClampNeg) &&& 63) = 30 → ¬ ((xs b3_18.toNatClampNeg) &&& 63) = 31 → ¬ ((xs b3_18.toNatClampNeg) &&& 63) = 32 → ¬ ((xs b3_18.toNatClampNeg) &&& 63) = 33 → ¬ ((xs b3_18.toNatClampNeg) &&& 63) = 34 → ¬ ((xs b3_18.toNatClampNeg) &&& 63) = 35 → (P_1473 g_18 f_18))))) → P_18 b3_18 g_18 f_18) → P_18 0 h g
theorem cw_L_13 {R : Room} {s : State} {args : Array Value} (hts : ∀ w ∈ gW, w.before args s = true) (hR : rm_X_place.frames + 1 ≤ R.frames ∧ 8 + (2 + 11) + rm_X_place.locals ≤ R.locals) : CallW R s args RL RX9 13 yX9_place cX9_place 2 (some .int) (mw yX9_place cX9_place 2 (some .int)) rm_X_place 0 0 1 := cwV9 hts km_L_13 ki_X9_place ks_X9_place kn_X9 kk_X9_place rfl rfl (by decide +kernel) hR
theorem cw_L_17 {R : Room} {s : State} {args : Array Value} (hts : ∀ w ∈ gW, w.before args s = true) (hR : rm_M_place.frames + 1 ≤ R.frames ∧ 8 + (4 + 11) + rm_M_place.locals ≤ R.locals) : CallW R s args RL RX10 17 yX10_place cX10_place 4 (some .int) (mw yX10_place cX10_place 4 (some .int)) rm_M_place 0 0 1 := cwV9 hts km_L_17 ki_X10_place ks_X10_place kn_X10 kk_X10_place rfl rfl (by decide +kernel) hR
theorem cw_L_18 {R : Room} {s : State} {args : Array Value} (hts : ∀ w ∈ gW, w.before args s = true) (hR : rm_X_rain.frames + 1 ≤ R.frames ∧ 8 + (3 + 11) + rm_X_rain.locals ≤ R.locals) : CallW R s args RL RX9 18 yX9_rain cX9_rain 3 (some .int) (mw yX9_rain cX9_rain 3 (some .int)) rm_X_rain 0 0 2 := cwV9 hts km_L_18 ki_X9_rain ks_X9_rain kn_X9 kk_X9_rain rfl rfl (by decide +kernel) hR
theorem cw_L_22 {R : Room} {s : State} {args : Array Value} (hts : ∀ w ∈ gW, w.before args s = true) (hR : rm_M_rain.frames + 1 ≤ R.frames ∧ 8 + (4 + 11) + rm_M_rain.locals ≤ R.locals) : CallW R s args RL RX10 22 yX10_rain cX10_rain 4 (some .int) (mw yX10_rain cX10_rain 4 (some .int)) rm_M_rain 0 0 2 := cwV9 hts km_L_22 ki_X10_rain ks_X10_rain kn_X10 kk_X10_rain rfl rfl (by decide +kernel) hR
theorem cw_L_23 {R : Room} {s : State} {args : Array Value} (hts : ∀ w ∈ gW, w.before args s = true) (hR : rm_X_lot.frames + 1 ≤ R.frames ∧ 8 + (2 + 11) + rm_X_lot.locals ≤ R.locals) : CallW R s args RL RX9 23 yX9_lot cX9_lot 2 (some .int) (mw yX9_lot cX9_lot 2 (some .int)) rm_X_lot 0 0 1 := cwV9 hts km_L_23 ki_X9_lot ks_X9_lot kn_X9 kk_X9_lot rfl rfl (by decide +kernel) hR
theorem cw_L_26 {R : Room} {s : State} {args : Array Value} (hts : ∀ w ∈ gW, w.before args s = true) (hR : rm_M_lot.frames + 1 ≤ R.frames ∧ 8 + (2 + 11) + rm_M_lot.locals ≤ R.locals) : CallW R s args RL RX10 26 yX10_lot cX10_lot 2 (some .int) (mw yX10_lot cX10_lot 2 (some .int)) rm_M_lot 0 0 1 := cwV9 hts km_L_26 ki_X10_lot ks_X10_lot kn_X10 kk_X10_lot rfl rfl (by decide +kernel) hR
theorem cw_L_27 {R : Room} {s : State} {args : Array Value} (hts : ∀ w ∈ gW, w.before args s = true) (hR : rm_X_put.frames + 1 ≤ R.frames ∧ 8 + (3 + 11) + rm_X_put.locals ≤ R.locals) : CallW R s args RL RX9 27 yX9_put cX9_put 3 (some .int) (mw yX9_put cX9_put 3 (some .int)) rm_X_put 0 0 2 := cwV9 hts km_L_27 ki_X9_put ks_X9_put kn_X9 kk_X9_put rfl rfl (by decide +kernel) hR
theorem cw_L_30 {R : Room} {s : State} {args : Array Value} (hts : ∀ w ∈ gW, w.before args s = true) (hR : rm_M_put.frames + 1 ≤ R.frames ∧ 8 + (4 + 11) + rm_M_put.locals ≤ R.locals) : CallW R s args RL RX10 30 yX10_put cX10_put 4 (some .int) (mw yX10_put cX10_put 4 (some .int)) rm_M_put 0 0 2 := cwV9 hts km_L_30 ki_X10_put ks_X10_put kn_X10 kk_X10_put rfl rfl (by decide +kernel) hR
theorem cw_L_31 {R : Room} {s : State} {args : Array Value} (hts : ∀ w ∈ gW, w.before args s = true) (hR : rm_X_kind.frames + 1 ≤ R.frames ∧ 8 + (4 + 11) + rm_X_kind.locals ≤ R.locals) : CallW R s args RL RX9 31 yX9_kind cX9_kind 4 (some .int) (mw yX9_kind cX9_kind 4 (some .int)) rm_X_kind 0 0 3 := cwV9 hts km_L_31 ki_X9_kind ks_X9_kind kn_X9 kk_X9_kind rfl rfl (by decide +kernel) hR
theorem cw_L_35 {R : Room} {s : State} {args : Array Value} (hts : ∀ w ∈ gW, w.before args s = true) (hR : rm_M_kind.frames + 1 ≤ R.frames ∧ 8 + (6 + 11) + rm_M_kind.locals ≤ R.locals) : CallW R s args RL RX10 35 yX10_kind cX10_kind 6 (some .int) (mw yX10_kind cX10_kind 6 (some .int)) rm_M_kind 0 0 3 := cwV9 hts km_L_35 ki_X10_kind ks_X10_kind kn_X10 kk_X10_kind rfl rfl (by decide +kernel) hR
theorem cw_L_36 {R : Room} {s : State} {args : Array Value} (hts : ∀ w ∈ gW, w.before args s = true) (hR : rm_X_prior.frames + 1 ≤ R.frames ∧ 8 + (3 + 11) + rm_X_prior.locals ≤ R.locals) : CallW R s args RL RX9 36 yX9_prior cX9_prior 3 (some .int) (mw yX9_prior cX9_prior 3 (some .int)) rm_X_prior 0 0 2 := cwV9 hts km_L_36 ki_X9_prior ks_X9_prior kn_X9 kk_X9_prior rfl rfl (by decide +kernel) hR
theorem cw_L_39 {R : Room} {s : State} {args : Array Value} (hts : ∀ w ∈ gW, w.before args s = true) (hR : rm_M_prior.frames + 1 ≤ R.frames ∧ 8 + (4 + 11) + rm_M_prior.locals ≤ R.locals) : CallW R s args RL RX10 39 yX10_prior cX10_prior 4 (some .int) (mw yX10_prior cX10_prior 4 (some .int)) rm_M_prior 0 0 2 := cwV9 hts km_L_39 ki_X10_prior ks_X10_prior kn_X10 kk_X10_prior rfl rfl (by decide +kernel) hR
theorem cw_L_42 {R : Room} {s : State} {args : Array Value} (hts : ∀ w ∈ gW, w.before args s = true) (hR : rm_X_type.frames + 1 ≤ R.frames ∧ 8 + (7 + 11) + rm_X_type.locals ≤ R.locals) : CallW R s args RL RX9 42 yX9_type cX9_type 7 (some .int) (mw yX9_type cX9_type 7 (some .int)) rm_X_type 0 0 3 := cwV9 hts km_L_42 ki_X9_type ks_X9_type kn_X9 kk_X9_type rfl rfl (by decide +kernel) hR
theorem cw_L_46 {R : Room} {s : State} {args : Array Value} (hts : ∀ w ∈ gW, w.before args s = true) (hR : rm_M_type.frames + 1 ≤ R.frames ∧ 8 + (6 + 11) + rm_M_type.locals ≤ R.locals) : CallW R s args RL RX10 46 yX10_type cX10_type 6 (some .int) (mw yX10_type cX10_type 6 (some .int)) rm_M_type 0 0 3 := cwV9 hts km_L_46 ki_X10_type ks_X10_type kn_X10 kk_X10_type rfl rfl (by decide +kernel) hR
theorem cw_L_47 {R : Room} {s : State} {args : Array Value} (hts : ∀ w ∈ gW, w.before args s = true) (hR : rm_X_clear.frames + 1 ≤ R.frames ∧ 8 + (2 + 11) + rm_X_clear.locals ≤ R.locals) : CallW R s args RL RX9 47 yX9_clear cX9_clear 2 (some .int) (mw yX9_clear cX9_clear 2 (some .int)) rm_X_clear 0 0 1 := cwV9 hts km_L_47 ki_X9_clear ks_X9_clear kn_X9 kk_X9_clear rfl rfl (by decide +kernel) hR
theorem cw_L_50 {R : Room} {s : State} {args : Array Value} (hts : ∀ w ∈ gW, w.before args s = true) (hR : rm_M_clear.frames + 1 ≤ R.frames ∧ 8 + (3 + 11) + rm_M_clear.locals ≤ R.locals) : CallW R s args RL RX10 50 yX10_clear cX10_clear 3 (some .int) (mw yX10_clear cX10_clear 3 (some .int)) rm_M_clear 0 0 1 := cwV9 hts km_L_50 ki_X10_clear ks_X10_clear kn_X10 kk_X10_clear rfl rfl (by decide +kernel) hR
theorem cw_L_51 {R : Room} {s : State} {args : Array Value} (hts : ∀ w ∈ gW, w.before args s = true) (hR : rm_X_fault.frames + 1 ≤ R.frames ∧ 8 + (2 + 11) + rm_X_fault.locals ≤ R.locals) : CallW R s args RL RX9 51 yX9_fault cX9_fault 2 (some .int) (mw yX9_fault cX9_fault 2 (some .int)) rm_X_fault 0 0 1 := cwV9 hts km_L_51 ki_X9_fault ks_X9_fault kn_X9 kk_X9_fault rfl rfl (by decide +kernel) hR
theorem cw_L_54 {R : Room} {s : State} {args : Array Value} (hts : ∀ w ∈ gW, w.before args s = true) (hR : rm_M_fault.frames + 1 ≤ R.frames ∧ 8 + (2 + 11) + rm_M_fault.locals ≤ R.locals) : CallW R s args RL RX10 54 yX10_fault cX10_fault 2 (some .int) (mw yX10_fault cX10_fault 2 (some .int)) rm_M_fault 0 0 1 := cwV9 hts km_L_54 ki_X10_fault ks_X10_fault kn_X10 kk_X10_fault rfl rfl (by decide +kernel) hR
theorem cw_L_55 {R : Room} {s : State} {args : Array Value} (hts : ∀ w ∈ gW, w.before args s = true) (hR : rm_X_sign.frames + 1 ≤ R.frames ∧ 8 + (6 + 11) + rm_X_sign.locals ≤ R.locals) : CallW R s args RL RX9 55 yX9_sign cX9_sign 6 (some .int) (mw yX9_sign cX9_sign 6 (some .int)) rm_X_sign 0 0 4 := cwV9 hts km_L_55 ki_X9_sign ks_X9_sign kn_X9 kk_X9_sign rfl rfl (by decide +kernel) hR
theorem cw_L_59 {R : Room} {s : State} {args : Array Value} (hts : ∀ w ∈ gW, w.before args s = true) (hR : rm_M_sign.frames + 1 ≤ R.frames ∧ 8 + (6 + 11) + rm_M_sign.locals ≤ R.locals) : CallW R s args RL RX10 59 yX10_sign cX10_sign 6 (some .int) (mw yX10_sign cX10_sign 6 (some .int)) rm_M_sign 0 0 4 := cwV9 hts km_L_59 ki_X10_sign ks_X10_sign kn_X10 kk_X10_sign rfl rfl (by decide +kernel) hR
theorem cw_L_60 {R : Room} {s : State} {args : Array Value} (hts : ∀ w ∈ gW, w.before args s = true) (hR : rm_X_post.frames + 1 ≤ R.frames ∧ 8 + (3 + 11) + rm_X_post.locals ≤ R.locals) : CallW R s args RL RX9 60 yX9_post cX9_post 3 (some .int) (mw yX9_post cX9_post 3 (some .int)) rm_X_post 0 0 2 := cwV9 hts km_L_60 ki_X9_post ks_X9_post kn_X9 kk_X9_post rfl rfl (by decide +kernel) hR
theorem cw_L_64 {R : Room} {s : State} {args : Array Value} (hts : ∀ w ∈ gW, w.before args s = true) (hR : rm_M_post.frames + 1 ≤ R.frames ∧ 8 + (3 + 11) + rm_M_post.locals ≤ R.locals) : CallW R s args RL RX10 64 yX10_post cX10_post 3 (some .int) (mw yX10_post cX10_post 3 (some .int)) rm_M_post 0 0 2 := cwV9 hts km_L_64 ki_X10_post ks_X10_post kn_X10 kk_X10_post rfl rfl (by decide +kernel) hR
theorem cw_L_65 {R : Room} {s : State} {args : Array Value} (hts : ∀ w ∈ gW, w.before args s = true) (hR : rm_X_teller.frames + 1 ≤ R.frames ∧ 8 + (7 + 11) + rm_X_teller.locals ≤ R.locals) : CallW R s args RL RX9 65 yX9_teller cX9_teller 7 (some .int) (mw yX9_teller cX9_teller 7 (some .int)) rm_X_teller 0 0 5 := cwV9 hts km_L_65 ki_X9_teller ks_X9_teller kn_X9 kk_X9_teller rfl rfl (by decide +kernel) hR
theorem cw_L_69 {R : Room} {s : State} {args : Array Value} (hts : ∀ w ∈ gW, w.before args s = true) (hR : rm_M_teller.frames + 1 ≤ R.frames ∧ 8 + (7 + 11) + rm_M_teller.locals ≤ R.locals) : CallW R s args RL RX10 69 yX10_teller cX10_teller 7 (some .int) (mw yX10_teller cX10_teller 7 (some .int)) rm_M_teller 0 0 5 := cwV9 hts km_L_69 ki_X10_teller ks_X10_teller kn_X10 kk_X10_teller rfl rfl (by decide +kernel) hR
theorem cw_L_70 {R : Room} {s : State} {args : Array Value} (hts : ∀ w ∈ gW, w.before args s = true) (hR : rm_X_at.frames + 1 ≤ R.frames ∧ 8 + (3 + 11) + rm_X_at.locals ≤ R.locals) : CallW R s args RL RX9 70 yX9_at cX9_at 3 (some .int) (mw yX9_at cX9_at 3 (some .int)) rm_X_at 0 0 2 := cwV9 hts km_L_70 ki_X9_at ks_X9_at kn_X9 kk_X9_at rfl rfl (by decide +kernel) hR
theorem cw_L_73 {R : Room} {s : State} {args : Array Value} (hts : ∀ w ∈ gW, w.before args s = true) (hR : rm_M_at.frames + 1 ≤ R.frames ∧ 8 + (3 + 11) + rm_M_at.locals ≤ R.locals) : CallW R s args RL RX10 73 yX10_at cX10_at 3 (some .int) (mw yX10_at cX10_at 3 (some .int)) rm_M_at 0 0 2 := cwV9 hts km_L_73 ki_X10_at ks_X10_at kn_X10 kk_X10_at rfl rfl (by decide +kernel) hR
theorem cw_L_74 {R : Room} {s : State} {args : Array Value} (hts : ∀ w ∈ gW, w.before args s = true) (hR : rm_X_must.frames + 1 ≤ R.frames ∧ 8 + (4 + 11) + rm_X_must.locals ≤ R.locals) : CallW R s args RL RX9 74 yX9_must cX9_must 4 (some .int) (mw yX9_must cX9_must 4 (some .int)) rm_X_must 0 0 3 := cwV9 hts km_L_74 ki_X9_must ks_X9_must kn_X9 kk_X9_must rfl rfl (by decide +kernel) hR
theorem cw_L_77 {R : Room} {s : State} {args : Array Value} (hts : ∀ w ∈ gW, w.before args s = true) (hR : rm_M_must.frames + 1 ≤ R.frames ∧ 8 + (4 + 11) + rm_M_must.locals ≤ R.locals) : CallW R s args RL RX10 77 yX10_must cX10_must 4 (some .int) (mw yX10_must cX10_must 4 (some .int)) rm_M_must 0 0 3 := cwV9 hts km_L_77 ki_X10_must ks_X10_must kn_X10 kk_X10_must rfl rfl (by decide +kernel) hR
theorem cw_L_78 {R : Room} {s : State} {args : Array Value} (hts : ∀ w ∈ gW, w.before args s = true) (hR : rm_X_hunger.frames + 1 ≤ R.frames ∧ 8 + (2 + 11) + rm_X_hunger.locals ≤ R.locals) : CallW R s args RL RX9 78 yX9_hunger cX9_hunger 2 (some .int) (mw yX9_hunger cX9_hunger 2 (some .int)) rm_X_hunger 0 0 1 := cwV9 hts km_L_78 ki_X9_hunger ks_X9_hunger kn_X9 kk_X9_hunger rfl rfl (by decide +kernel) hR
theorem cw_L_81 {R : Room} {s : State} {args : Array Value} (hts : ∀ w ∈ gW, w.before args s = true) (hR : rm_M_hunger.frames + 1 ≤ R.frames ∧ 8 + (2 + 11) + rm_M_hunger.locals ≤ R.locals) : CallW R s args RL RX10 81 yX10_hunger cX10_hunger 2 (some .int) (mw yX10_hunger cX10_hunger 2 (some .int)) rm_M_hunger 0 0 1 := cwV9 hts km_L_81 ki_X10_hunger ks_X10_hunger kn_X10 kk_X10_hunger rfl rfl (by decide +kernel) hR
theorem cw_L_82 {R : Room} {s : State} {args : Array Value} (hts : ∀ w ∈ gW, w.before args s = true) (hR : rm_X_odds.frames + 1 ≤ R.frames ∧ 8 + (3 + 11) + rm_X_odds.locals ≤ R.locals) : CallW R s args RL RX9 82 yX9_odds cX9_odds 3 (some .int) (mw yX9_odds cX9_odds 3 (some .int)) rm_X_odds 0 0 2 := cwV9 hts km_L_82 ki_X9_odds ks_X9_odds kn_X9 kk_X9_odds rfl rfl (by decide +kernel) hR
theorem cw_L_85 {R : Room} {s : State} {args : Array Value} (hts : ∀ w ∈ gW, w.before args s = true) (hR : rm_M_odds.frames + 1 ≤ R.frames ∧ 8 + (3 + 11) + rm_M_odds.locals ≤ R.locals) : CallW R s args RL RX10 85 yX10_odds cX10_odds 3 (some .int) (mw yX10_odds cX10_odds 3 (some .int)) rm_M_odds 0 0 2 := cwV9 hts km_L_85 ki_X10_odds ks_X10_odds kn_X10 kk_X10_odds rfl rfl (by decide +kernel) hR
theorem cw_L_86 {R : Room} {s : State} {args : Array Value} (hts : ∀ w ∈ gW, w.before args s = true) (hR : rm_X_all.frames + 1 ≤ R.frames ∧ 8 + (2 + 11) + rm_X_all.locals ≤ R.locals) : CallW R s args RL RX9 86 yX9_all cX9_all 2 (some .int) (mw yX9_all cX9_all 2 (some .int)) rm_X_all 0 0 1 := cwV9 hts km_L_86 ki_X9_all ks_X9_all kn_X9 kk_X9_all rfl rfl (by decide +kernel) hR
theorem cw_L_89 {R : Room} {s : State} {args : Array Value} (hts : ∀ w ∈ gW, w.before args s = true) (hR : rm_M_all.frames + 1 ≤ R.frames ∧ 8 + (2 + 11) + rm_M_all.locals ≤ R.locals) : CallW R s args RL RX10 89 yX10_all cX10_all 2 (some .int) (mw yX10_all cX10_all 2 (some .int)) rm_M_all 0 0 1 := cwV9 hts km_L_89 ki_X10_all ks_X10_all kn_X10 kk_X10_all rfl rfl (by decide +kernel) hR
theorem cw_L_90 {R : Room} {s : State} {args : Array Value} (hts : ∀ w ∈ gW, w.before args s = true) (hR : rm_X_where.frames + 1 ≤ R.frames ∧ 8 + (4 + 11) + rm_X_where.locals ≤ R.locals) : CallW R s args RL RX9 90 yX9_where cX9_where 4 (some .int) (mw yX9_where cX9_where 4 (some .int)) rm_X_where 0 0 3 := cwV9 hts km_L_90 ki_X9_where ks_X9_where kn_X9 kk_X9_where rfl rfl (by decide +kernel) hR
theorem cw_L_93 {R : Room} {s : State} {args : Array Value} (hts : ∀ w ∈ gW, w.before args s = true) (hR : rm_M_where.frames + 1 ≤ R.frames ∧ 8 + (4 + 11) + rm_M_where.locals ≤ R.locals) : CallW R s args RL RX10 93 yX10_where cX10_where 4 (some .int) (mw yX10_where cX10_where 4 (some .int)) rm_M_where 0 0 3 := cwV9 hts km_L_93 ki_X10_where ks_X10_where kn_X10 kk_X10_where rfl rfl (by decide +kernel) hR
theorem cw_L_94 {R : Room} {s : State} {args : Array Value} (hts : ∀ w ∈ gW, w.before args s = true) (hR : rm_X_so.frames + 1 ≤ R.frames ∧ 8 + (3 + 11) + rm_X_so.locals ≤ R.locals) : CallW R s args RL RX9 94 yX9_so cX9_so 3 (some .int) (mw yX9_so cX9_so 3 (some .int)) rm_X_so 0 0 1 := cwV9 hts km_L_94 ki_X9_so ks_X9_so kn_X9 kk_X9_so rfl rfl (by decide +kernel) hR
theorem cw_L_97 {R : Room} {s : State} {args : Array Value} (hts : ∀ w ∈ gW, w.before args s = true) (hR : rm_M_so.frames + 1 ≤ R.frames ∧ 8 + (2 + 11) + rm_M_so.locals ≤ R.locals) : CallW R s args RL RX10 97 yX10_so cX10_so 2 (some .int) (mw yX10_so cX10_so 2 (some .int)) rm_M_so 0 0 1 := cwV9 hts km_L_97 ki_X10_so ks_X10_so kn_X10 kk_X10_so rfl rfl (by decide +kernel) hR
theorem cw_L_98 {R : Room} {s : State} {args : Array Value} (hts : ∀ w ∈ gW, w.before args s = true) (hR : rm_X_lost.frames + 1 ≤ R.frames ∧ 8 + (2 + 11) + rm_X_lost.locals ≤ R.locals) : CallW R s args RL RX9 98 yX9_lost cX9_lost 2 (some .int) (mw yX9_lost cX9_lost 2 (some .int)) rm_X_lost 0 0 1 := cwV9 hts km_L_98 ki_X9_lost ks_X9_lost kn_X9 kk_X9_lost rfl rfl (by decide +kernel) hR
theorem cw_L_101 {R : Room} {s : State} {args : Array Value} (hts : ∀ w ∈ gW, w.before args s = true) (hR : rm_M_lost.frames + 1 ≤ R.frames ∧ 8 + (2 + 11) + rm_M_lost.locals ≤ R.locals) : CallW R s args RL RX10 101 yX10_lost cX10_lost 2 (some .int) (mw yX10_lost cX10_lost 2 (some .int)) rm_M_lost 0 0 1 := cwV9 hts km_L_101 ki_X10_lost ks_X10_lost kn_X10 kk_X10_lost rfl rfl (by decide +kernel) hR
theorem cw_L_102 {R : Room} {s : State} {args : Array Value} (hts : ∀ w ∈ gW, w.before args s = true) (hR : rm_X_next.frames + 1 ≤ R.frames ∧ 8 + (1 + 11) + rm_X_next.locals ≤ R.locals) : CallW R s args RL RX9 102 yX9_next cX9_next 1 (some .int) (mw yX9_next cX9_next 1 (some .int)) rm_X_next 0 0 0 := cwV9 hts km_L_102 ki_X9_next ks_X9_next kn_X9 kk_X9_next rfl rfl (by decide +kernel) hR
theorem cw_L_106 {R : Room} {s : State} {args : Array Value} (hts : ∀ w ∈ gW, w.before args s = true) (hR : rm_M_next.frames + 1 ≤ R.frames ∧ 8 + (6 + 11) + rm_M_next.locals ≤ R.locals) : CallW R s args RL RX10 106 yX10_next cX10_next 6 (some .int) (mw yX10_next cX10_next 6 (some .int)) rm_M_next 0 0 0 := cwV9 hts km_L_106 ki_X10_next ks_X10_next kn_X10 kk_X10_next rfl rfl (by decide +kernel) hR
theorem cw_L_107 {R : Room} {s : State} {args : Array Value} (hts : ∀ w ∈ gW, w.before args s = true) (hR : rm_X_fed.frames + 1 ≤ R.frames ∧ 8 + (3 + 11) + rm_X_fed.locals ≤ R.locals) : CallW R s args RL RX9 107 yX9_fed cX9_fed 3 (some .int) (mw yX9_fed cX9_fed 3 (some .int)) rm_X_fed 0 0 2 := cwV9 hts km_L_107 ki_X9_fed ks_X9_fed kn_X9 kk_X9_fed rfl rfl (by decide +kernel) hR
theorem cw_L_110 {R : Room} {s : State} {args : Array Value} (hts : ∀ w ∈ gW, w.before args s = true) (hR : rm_M_fed.frames + 1 ≤ R.frames ∧ 8 + (3 + 11) + rm_M_fed.locals ≤ R.locals) : CallW R s args RL RX10 110 yX10_fed cX10_fed 3 (some .int) (mw yX10_fed cX10_fed 3 (some .int)) rm_M_fed 0 0 2 := cwV9 hts km_L_110 ki_X10_fed ks_X10_fed kn_X10 kk_X10_fed rfl rfl (by decide +kernel) hR
theorem cw_L_111 {R : Room} {s : State} {args : Array Value} (hts : ∀ w ∈ gW, w.before args s = true) (hR : rm_X_dry.frames + 1 ≤ R.frames ∧ 8 + (8 + 11) + rm_X_dry.locals ≤ R.locals) : CallW R s args RL RX9 111 yX9_dry cX9_dry 8 (some .int) (mw yX9_dry cX9_dry 8 (some .int)) rm_X_dry 0 0 3 := cwV9 hts km_L_111 ki_X9_dry ks_X9_dry kn_X9 kk_X9_dry rfl rfl (by decide +kernel) hR
theorem cw_L_114 {R : Room} {s : State} {args : Array Value} (hts : ∀ w ∈ gW, w.before args s = true) (hR : rm_M_dry.frames + 1 ≤ R.frames ∧ 8 + (8 + 11) + rm_M_dry.locals ≤ R.locals) : CallW R s args RL RX10 114 yX10_dry cX10_dry 8 (some .int) (mw yX10_dry cX10_dry 8 (some .int)) rm_M_dry 0 0 3 := cwV9 hts km_L_114 ki_X10_dry ks_X10_dry kn_X10 kk_X10_dry rfl rfl (by decide +kernel) hR
theorem cw_L_115 {R : Room} {s : State} {args : Array Value} (hts : ∀ w ∈ gW, w.before args s = true) (hR : rm_X_many.frames + 1 ≤ R.frames ∧ 8 + (8 + 11) + rm_X_many.locals ≤ R.locals) : CallW R s args RL RX9 115 yX9_many cX9_many 8 (some .int) (mw yX9_many cX9_many 8 (some .int)) rm_X_many 0 0 4 := cwV9 hts km_L_115 ki_X9_many ks_X9_many kn_X9 kk_X9_many rfl rfl (by decide +kernel) hR
theorem cw_L_118 {R : Room} {s : State} {args : Array Value} (hts : ∀ w ∈ gW, w.before args s = true) (hR : rm_M_many.frames + 1 ≤ R.frames ∧ 8 + (8 + 11) + rm_M_many.locals ≤ R.locals) : CallW R s args RL RX10 118 yX10_many cX10_many 8 (some .int) (mw yX10_many cX10_many 8 (some .int)) rm_M_many 0 0 4 := cwV9 hts km_L_118 ki_X10_many ks_X10_many kn_X10 kk_X10_many rfl rfl (by decide +kernel) hR
theorem cw_L_119 {R : Room} {s : State} {args : Array Value} (hts : ∀ w ∈ gW, w.before args s = true) (hR : rm_X_stone.frames + 1 ≤ R.frames ∧ 8 + (10 + 11) + rm_X_stone.locals ≤ R.locals) : CallW R s args RL RX9 119 yX9_stone cX9_stone 10 (some .int) (mw yX9_stone cX9_stone 10 (some .int)) rm_X_stone 0 0 5 := cwV9 hts km_L_119 ki_X9_stone ks_X9_stone kn_X9 kk_X9_stone rfl rfl (by decide +kernel) hR
theorem cw_L_122 {R : Room} {s : State} {args : Array Value} (hts : ∀ w ∈ gW, w.before args s = true) (hR : rm_M_stone.frames + 1 ≤ R.frames ∧ 8 + (10 + 11) + rm_M_stone.locals ≤ R.locals) : CallW R s args RL RX10 122 yX10_stone cX10_stone 10 (some .int) (mw yX10_stone cX10_stone 10 (some .int)) rm_M_stone 0 0 5 := cwV9 hts km_L_122 ki_X10_stone ks_X10_stone kn_X10 kk_X10_stone rfl rfl (by decide +kernel) hR
theorem cw_L_123 {R : Room} {s : State} {args : Array Value} (hts : ∀ w ∈ gW, w.before args s = true) (hR : rm_X_days.frames + 1 ≤ R.frames ∧ 8 + (4 + 11) + rm_X_days.locals ≤ R.locals) : CallW R s args RL RX9 123 yX9_days cX9_days 4 (some .int) (mw yX9_days cX9_days 4 (some .int)) rm_X_days 0 0 3 := cwV9 hts km_L_123 ki_X9_days ks_X9_days kn_X9 kk_X9_days rfl rfl (by decide +kernel) hR
theorem cw_L_126 {R : Room} {s : State} {args : Array Value} (hts : ∀ w ∈ gW, w.before args s = true) (hR : rm_M_days.frames + 1 ≤ R.frames ∧ 8 + (5 + 11) + rm_M_days.locals ≤ R.locals) : CallW R s args RL RX10 126 yX10_days cX10_days 5 (some .int) (mw yX10_days cX10_days 5 (some .int)) rm_M_days 0 0 3 := cwV9 hts km_L_126 ki_X10_days ks_X10_days kn_X10 kk_X10_days rfl rfl (by decide +kernel) hR
theorem cw_L_127 {R : Room} {s : State} {args : Array Value} (hts : ∀ w ∈ gW, w.before args s = true) (hR : rm_X_storm.frames + 1 ≤ R.frames ∧ 8 + (4 + 11) + rm_X_storm.locals ≤ R.locals) : CallW R s args RL RX9 127 yX9_storm cX9_storm 4 (some .int) (mw yX9_storm cX9_storm 4 (some .int)) rm_X_storm 0 0 2 := cwV9 hts km_L_127 ki_X9_storm ks_X9_storm kn_X9 kk_X9_storm rfl rfl (by decide +kernel) hR
theorem cw_L_130 {R : Room} {s : State} {args : Array Value} (hts : ∀ w ∈ gW, w.before args s = true) (hR : rm_M_storm.frames + 1 ≤ R.frames ∧ 8 + (3 + 11) + rm_M_storm.locals ≤ R.locals) : CallW R s args RL RX10 130 yX10_storm cX10_storm 3 (some .int) (mw yX10_storm cX10_storm 3 (some .int)) rm_M_storm 0 0 2 := cwV9 hts km_L_130 ki_X10_storm ks_X10_storm kn_X10 kk_X10_storm rfl rfl (by decide +kernel) hR
theorem cw_L_131 {R : Room} {s : State} {args : Array Value} (hts : ∀ w ∈ gW, w.before args s = true) (hR : rm_X_sails.frames + 1 ≤ R.frames ∧ 8 + (4 + 11) + rm_X_sails.locals ≤ R.locals) : CallW R s args RL RX9 131 yX9_sails cX9_sails 4 (some .int) (mw yX9_sails cX9_sails 4 (some .int)) rm_X_sails 0 0 3 := cwV9 hts km_L_131 ki_X9_sails ks_X9_sails kn_X9 kk_X9_sails rfl rfl (by decide +kernel) hR
theorem cw_L_134 {R : Room} {s : State} {args : Array Value} (hts : ∀ w ∈ gW, w.before args s = true) (hR : rm_M_sails.frames + 1 ≤ R.frames ∧ 8 + (4 + 11) + rm_M_sails.locals ≤ R.locals) : CallW R s args RL RX10 134 yX10_sails cX10_sails 4 (some .int) (mw yX10_sails cX10_sails 4 (some .int)) rm_M_sails 0 0 3 := cwV9 hts km_L_134 ki_X10_sails ks_X10_sails kn_X10 kk_X10_sails rfl rfl (by decide +kernel) hR
theorem cw_L_135 {R : Room} {s : State} {args : Array Value} (hts : ∀ w ∈ gW, w.before args s = true) (hR : rm_X_back.frames + 1 ≤ R.frames ∧ 8 + (8 + 11) + rm_X_back.locals ≤ R.locals) : CallW R s args RL RX9 135 yX9_back cX9_back 8 (some .int) (mw yX9_back cX9_back 8 (some .int)) rm_X_back 0 0 5 := cwV9 hts km_L_135 ki_X9_back ks_X9_back kn_X9 kk_X9_back rfl rfl (by decide +kernel) hR
theorem cw_L_138 {R : Room} {s : State} {args : Array Value} (hts : ∀ w ∈ gW, w.before args s = true) (hR : rm_M_back.frames + 1 ≤ R.frames ∧ 8 + (7 + 11) + rm_M_back.locals ≤ R.locals) : CallW R s args RL RX10 138 yX10_back cX10_back 7 (some .int) (mw yX10_back cX10_back 7 (some .int)) rm_M_back 0 0 5 := cwV9 hts km_L_138 ki_X10_back ks_X10_back kn_X10 kk_X10_back rfl rfl (by decide +kernel) hR
theorem cw_L_139 {R : Room} {s : State} {args : Array Value} (hts : ∀ w ∈ gW, w.before args s = true) (hR : rm_X_part.frames + 1 ≤ R.frames ∧ 8 + (2 + 11) + rm_X_part.locals ≤ R.locals) : CallW R s args RL RX9 139 yX9_part cX9_part 2 (some .int) (mw yX9_part cX9_part 2 (some .int)) rm_X_part 0 0 1 := cwV9 hts km_L_139 ki_X9_part ks_X9_part kn_X9 kk_X9_part rfl rfl (by decide +kernel) hR
theorem cw_L_142 {R : Room} {s : State} {args : Array Value} (hts : ∀ w ∈ gW, w.before args s = true) (hR : rm_M_part.frames + 1 ≤ R.frames ∧ 8 + (2 + 11) + rm_M_part.locals ≤ R.locals) : CallW R s args RL RX10 142 yX10_part cX10_part 2 (some .int) (mw yX10_part cX10_part 2 (some .int)) rm_M_part 0 0 1 := cwV9 hts km_L_142 ki_X10_part ks_X10_part kn_X10 kk_X10_part rfl rfl (by decide +kernel) hR
theorem cw_L_143 {R : Room} {s : State} {args : Array Value} (hts : ∀ w ∈ gW, w.before args s = true) (hR : rm_X_limb.frames + 1 ≤ R.frames ∧ 8 + (4 + 11) + rm_X_limb.locals ≤ R.locals) : CallW R s args RL RX9 143 yX9_limb cX9_limb 4 (some .int) (mw yX9_limb cX9_limb 4 (some .int)) rm_X_limb 0 0 2 := cwV9 hts km_L_143 ki_X9_limb ks_X9_limb kn_X9 kk_X9_limb rfl rfl (by decide +kernel) hR
theorem cw_L_146 {R : Room} {s : State} {args : Array Value} (hts : ∀ w ∈ gW, w.before args s = true) (hR : rm_M_limb.frames + 1 ≤ R.frames ∧ 8 + (3 + 11) + rm_M_limb.locals ≤ R.locals) : CallW R s args RL RX10 146 yX10_limb cX10_limb 3 (some .int) (mw yX10_limb cX10_limb 3 (some .int)) rm_M_limb 0 0 2 := cwV9 hts km_L_146 ki_X10_limb ks_X10_limb kn_X10 kk_X10_limb rfl rfl (by decide +kernel) hR
theorem cw_L_147 {R : Room} {s : State} {args : Array Value} (hts : ∀ w ∈ gW, w.before args s = true) (hR : rm_X_image.frames + 1 ≤ R.frames ∧ 8 + (2 + 11) + rm_X_image.locals ≤ R.locals) : CallW R s args RL RX9 147 yX9_image cX9_image 2 (some .int) (mw yX9_image cX9_image 2 (some .int)) rm_X_image 0 0 1 := cwV9 hts km_L_147 ki_X9_image ks_X9_image kn_X9 kk_X9_image rfl rfl (by decide +kernel) hR
theorem cw_L_150 {R : Room} {s : State} {args : Array Value} (hts : ∀ w ∈ gW, w.before args s = true) (hR : rm_M_image.frames + 1 ≤ R.frames ∧ 8 + (3 + 11) + rm_M_image.locals ≤ R.locals) : CallW R s args RL RX10 150 yX10_image cX10_image 3 (some .int) (mw yX10_image cX10_image 3 (some .int)) rm_M_image 0 0 1 := cwV9 hts km_L_150 ki_X10_image ks_X10_image kn_X10 kk_X10_image rfl rfl (by decide +kernel) hR
theorem cw_L_151 {R : Room} {s : State} {args : Array Value} (hts : ∀ w ∈ gW, w.before args s = true) (hR : rm_X_from.frames + 1 ≤ R.frames ∧ 8 + (2 + 11) + rm_X_from.locals ≤ R.locals) : CallW R s args RL RX9 151 yX9_from cX9_from 2 (some .int) (mw yX9_from cX9_from 2 (some .int)) rm_X_from 0 0 1 := cwV9 hts km_L_151 ki_X9_from ks_X9_from kn_X9 kk_X9_from rfl rfl (by decide +kernel) hR
theorem cw_L_154 {R : Room} {s : State} {args : Array Value} (hts : ∀ w ∈ gW, w.before args s = true) (hR : rm_M_from.frames + 1 ≤ R.frames ∧ 8 + (3 + 11) + rm_M_from.locals ≤ R.locals) : CallW R s args RL RX10 154 yX10_from cX10_from 3 (some .int) (mw yX10_from cX10_from 3 (some .int)) rm_M_from 0 0 1 := cwV9 hts km_L_154 ki_X10_from ks_X10_from kn_X10 kk_X10_from rfl rfl (by decide +kernel) hR
theorem cw_L_155 {R : Room} {s : State} {args : Array Value} (hts : ∀ w ∈ gW, w.before args s = true) (hR : rm_X_status.frames + 1 ≤ R.frames ∧ 8 + (2 + 11) + rm_X_status.locals ≤ R.locals) : CallW R s args RL RX9 155 yX9_status cX9_status 2 (some .int) (mw yX9_status cX9_status 2 (some .int)) rm_X_status 0 0 1 := cwV9 hts km_L_155 ki_X9_status ks_X9_status kn_X9 kk_X9_status rfl rfl (by decide +kernel) hR
theorem cw_L_158 {R : Room} {s : State} {args : Array Value} (hts : ∀ w ∈ gW, w.before args s = true) (hR : rm_M_status.frames + 1 ≤ R.frames ∧ 8 + (2 + 11) + rm_M_status.locals ≤ R.locals) : CallW R s args RL RX10 158 yX10_status cX10_status 2 (some .int) (mw yX10_status cX10_status 2 (some .int)) rm_M_status 0 0 1 := cwV9 hts km_L_158 ki_X10_status ks_X10_status kn_X10 kk_X10_status rfl rfl (by decide +kernel) hR
theorem cw_L_159 {R : Room} {s : State} {args : Array Value} (hts : ∀ w ∈ gW, w.before args s = true) (hR : rm_X_count.frames + 1 ≤ R.frames ∧ 8 + (2 + 11) + rm_X_count.locals ≤ R.locals) : CallW R s args RL RX9 159 yX9_count cX9_count 2 (some .int) (mw yX9_count cX9_count 2 (some .int)) rm_X_count 0 0 1 := cwV9 hts km_L_159 ki_X9_count ks_X9_count kn_X9 kk_X9_count rfl rfl (by decide +kernel) hR
theorem cw_L_162 {R : Room} {s : State} {args : Array Value} (hts : ∀ w ∈ gW, w.before args s = true) (hR : rm_M_count.frames + 1 ≤ R.frames ∧ 8 + (2 + 11) + rm_M_count.locals ≤ R.locals) : CallW R s args RL RX10 162 yX10_count cX10_count 2 (some .int) (mw yX10_count cX10_count 2 (some .int)) rm_M_count 0 0 1 := cwV9 hts km_L_162 ki_X10_count ks_X10_count kn_X10 kk_X10_count rfl rfl (by decide +kernel) hR
theorem cw_L_163 {R : Room} {s : State} {args : Array Value} (hts : ∀ w ∈ gW, w.before args s = true) (hR : rm_X_digest.frames + 1 ≤ R.frames ∧ 8 + (4 + 11) + rm_X_digest.locals ≤ R.locals) : CallW R s args RL RX9 163 yX9_digest cX9_digest 4 (some .long) (mw yX9_digest cX9_digest 4 (some .long)) rm_X_digest 0 0 0 := cwV9 hts km_L_163 ki_X9_digest ks_X9_digest kn_X9 kk_X9_digest rfl rfl (by decide +kernel) hR
theorem cw_L_167 {R : Room} {s : State} {args : Array Value} (hts : ∀ w ∈ gW, w.before args s = true) (hR : rm_M_digest.frames + 1 ≤ R.frames ∧ 8 + (5 + 11) + rm_M_digest.locals ≤ R.locals) : CallW R s args RL RX10 167 yX10_digest cX10_digest 5 (some .long) (mw yX10_digest cX10_digest 5 (some .long)) rm_M_digest 0 0 0 := cwV9 hts km_L_167 ki_X10_digest ks_X10_digest kn_X10 kk_X10_digest rfl rfl (by decide +kernel) hR
set_option maxHeartbeats 20000000 in
set_option maxRecDepth 100000 in
theorem law_loop {p : Program} {l : Launch} {e : Env} {s : State} {m : MethodId} {below : List Frame} {meth : Method} {c : Code} {D : va_G} {q : Nat → ClassId} {b L bX : Nat} {xs : Nat → Int32} (C0 : lw_At p s m meth c b L xs) (S : CallFix p m c cL_law 4 s #[Value.ref b] gW RL) (h g : Hs) (hw : p_law L xs h g) (ls : Array Slot) (H : Heap) (locs : List Loc) (hl : lv_has ls 4 [(0, .ref b), (1, .ref bX), (2, .ref (bX + 504)), (3, .int 0)]) (G : okL D q s bX h g H locs) : W p l e room_1 s m #[Value.ref b] below meth c H locs 600 1200000 (lw_Z below #[Value.ref b] s) (F0 m 18 ls []) := by
  have hx := S.1
  have hb := S.2.1
  unfold p_law at hw
  have hw := hw (fun (b3_18 : Int32) (g_18 : Hs) (f_18 : Hs) => ∀ (ls : Array Slot) (H : Heap) (locs : List Loc), lv_has ls 4 [(0, .ref b), (1, .ref bX), (2, .ref (bX + 504)), (3, .int b3_18)] → okL D q s bX g_18 f_18 H locs → W p l e room_1 s m #[Value.ref b] below meth c H locs 600 1200000 (lw_Z below #[Value.ref b] s) (F0 m 18 ls [])) (by
    intro b3_18 g_18 f_18 hw ls H locs hl G
    refine lv_iload_n hx hb dL_law_18 rfl (lv_at hl 3 rfl) ?_
    refine lv_aload_n hx hb dL_law_19 rfl (lv_at hl 0 rfl) ?_
    refine va_slen hx hb C0.2.2.2.2.2.2.1 C0.2.2.2.2.2.2.2.1 (Nat.not_le.mpr C0.2.2.2.2.2.2.2.1) G.2.2.2.2 dL_law_20 ?_
    refine lv_bipush (v := 6) hx hb dL_law_21 (by decide) ?_
    refine lv_isub hx hb dL_law_23 ?_
    refine lv_icmp_gt (tgt := 1479) hx hb dL_law_24 (by decide) (fun c_24 => ?_) (fun c_24 => ?_)
    · have hw := hw.1 c_24
      refine lv_iconst (v := 1) hx hb dL_law_1479 (by decide) ?_
      exact l_ret C0 G dL_law_1480
    · have hw := hw.2 c_24
      refine lv_aload_n hx hb dL_law_27 rfl (lv_at hl 0 rfl) ?_
      refine lv_iload_n hx hb dL_law_28 rfl (lv_at hl 3 rfl) ?_
      obtain ⟨i_29, hw⟩ := hw
      refine va_sld hx hb C0.2.2.2.2.2.2.1 C0.2.2.2.2.2.2.2.1 (Nat.not_le.mpr C0.2.2.2.2.2.2.2.1) G.2.2.2.2 i_29 dL_law_29 ?_
      refine lv_bipush (v := 63) hx hb dL_law_30 (by decide) ?_
      refine lv_iand hx hb dL_law_32 ?_
      have hw := hw (fun (g_1473 : Hs) (f_1473 : Hs) => ∀ (ls : Array Slot) (H : Heap) (locs : List Loc), lv_has ls 4 [(0, .ref b), (1, .ref bX), (2, .ref (bX + 504)), (3, .int b3_18)] → okL D q s bX g_1473 f_1473 H locs → W p l e room_1 s m #[Value.ref b] below meth c H locs 600 1200000 (lw_Z below #[Value.ref b] s) (F0 m 1473 ls [])) (by
        intro g_1473 f_1473 hw ls H locs hl G
        obtain ⟨a3_1473, ea3_1473⟩ : ∃ y : Int32, y = b3_18 + 6 := ⟨_, rfl⟩
        have hw := hw a3_1473 ea3_1473
        refine lv_iinc (v := a3_1473) (lv' := [(3, .int a3_1473), (0, .ref b), (1, .ref bX), (2, .ref (bX + 504))]) hx hb dL_law_1473 hl (k := 3) rfl (by rw [ea3_1473]; rfl) (by decide) rfl (fun ls hl => ?_)
        refine lv_goto (tgt := 18) hx hb dL_law_1476 (by decide) ?_
        exact hw _ _ _ (lv_sub hl [1, 2, 3, 0] rfl) G)
      by_cases c_33_0 : ((xs b3_18.toNatClampNeg) &&& 63) = 0
      · have hw := hw.1 c_33_0
        refine lv_tableIn (tgt := 192) hx hb dL_law_33 (by rw [c_33_0]; decide) (by rw [c_33_0]; decide) (by rw [c_33_0]; rfl) (by decide) ?_
        refine lv_aload_n hx hb dL_law_192 rfl (lv_at hl 1 rfl) ?_
        refine lv_aload_n hx hb dL_law_193 rfl (lv_at hl 0 rfl) ?_
        refine lv_iload_n hx hb dL_law_194 rfl (lv_at hl 3 rfl) ?_
        refine lv_iconst (v := 1) hx hb dL_law_195 (by decide) ?_
        refine lv_iadd hx hb dL_law_196 ?_
        obtain ⟨i_197, hw⟩ := hw
        refine va_sld hx hb C0.2.2.2.2.2.2.1 C0.2.2.2.2.2.2.2.1 (Nat.not_le.mpr C0.2.2.2.2.2.2.2.1) G.2.2.2.2 i_197 dL_law_197 ?_
        refine l_Xi S hl.1 G (c_X_place l D q (aX bX) (fun i => bX + i) (xs (b3_18 + 1).toNatClampNeg) g_18 _ hw) (cw_L_13 S.2.2.2.2 ⟨Nat.le_of_ble_eq_true rfl, Nat.le_of_ble_eq_true rfl⟩) rfl rfl (Nat.le_of_ble_eq_true rfl) dL_law_198 ⟨Nat.le_of_ble_eq_true rfl, Nat.le_of_ble_eq_true rfl⟩ (fun r_198 h_198 H locs G hw => ?_)
        refine lv_aload_n hx hb dL_law_201 rfl (lv_at hl 2 rfl) ?_
        refine lv_aload_n hx hb dL_law_202 rfl (lv_at hl 0 rfl) ?_
        refine lv_iload_n hx hb dL_law_203 rfl (lv_at hl 3 rfl) ?_
        refine lv_iconst (v := 1) hx hb dL_law_204 (by decide) ?_
        refine lv_iadd hx hb dL_law_205 ?_
        obtain ⟨i_206, hw⟩ := hw
        refine va_sld hx hb C0.2.2.2.2.2.2.1 C0.2.2.2.2.2.2.2.1 (Nat.not_le.mpr C0.2.2.2.2.2.2.2.1) G.2.2.2.2 i_206 dL_law_206 ?_
        refine l_Mi S hl.1 G (c_M_place l D q (aM bX) (fun i => bX + 504 + i) (xs (b3_18 + 1).toNatClampNeg) f_18 _ hw) (cw_L_17 S.2.2.2.2 ⟨Nat.le_of_ble_eq_true rfl, Nat.le_of_ble_eq_true rfl⟩) rfl rfl (Nat.le_of_ble_eq_true rfl) dL_law_207 ⟨Nat.le_of_ble_eq_true rfl, Nat.le_of_ble_eq_true rfl⟩ (fun r_207 g_207 H locs G hw => ?_)
        refine lv_icmp_eq (tgt := 1473) hx hb dL_law_210 (by decide) (fun c_210 => ?_) (fun c_210 => ?_)
        · have hw := hw.1 c_210
          exact hw _ _ _ (lv_sub hl [0, 1, 2, 3] rfl) G
        · have hw := hw.2 c_210
          refine lv_iconst (v := 0) hx hb dL_law_213 (by decide) ?_
          exact hw.elim
      have hw := hw.2
      by_cases c_33_1 : ((xs b3_18.toNatClampNeg) &&& 63) = 1
      · have hw := hw.1 c_33_1
        refine lv_tableIn (tgt := 215) hx hb dL_law_33 (by rw [c_33_1]; decide) (by rw [c_33_1]; decide) (by rw [c_33_1]; rfl) (by decide) ?_
        refine lv_aload_n hx hb dL_law_215 rfl (lv_at hl 1 rfl) ?_
        refine lv_aload_n hx hb dL_law_216 rfl (lv_at hl 0 rfl) ?_
        refine lv_iload_n hx hb dL_law_217 rfl (lv_at hl 3 rfl) ?_
        refine lv_iconst (v := 1) hx hb dL_law_218 (by decide) ?_
        refine lv_iadd hx hb dL_law_219 ?_
        obtain ⟨i_220, hw⟩ := hw
        refine va_sld hx hb C0.2.2.2.2.2.2.1 C0.2.2.2.2.2.2.2.1 (Nat.not_le.mpr C0.2.2.2.2.2.2.2.1) G.2.2.2.2 i_220 dL_law_220 ?_
        refine lv_aload_n hx hb dL_law_221 rfl (lv_at hl 0 rfl) ?_
        refine lv_iload_n hx hb dL_law_222 rfl (lv_at hl 3 rfl) ?_
        refine lv_iconst (v := 2) hx hb dL_law_223 (by decide) ?_
        refine lv_iadd hx hb dL_law_224 ?_
        obtain ⟨i_225, hw⟩ := hw
        refine va_sld hx hb C0.2.2.2.2.2.2.1 C0.2.2.2.2.2.2.2.1 (Nat.not_le.mpr C0.2.2.2.2.2.2.2.1) G.2.2.2.2 i_225 dL_law_225 ?_
        refine l_Xi S hl.1 G (c_X_rain l D q (aX bX) (fun i => bX + i) (xs (b3_18 + 1).toNatClampNeg) (xs (b3_18 + 2).toNatClampNeg) g_18 _ hw) (cw_L_18 S.2.2.2.2 ⟨Nat.le_of_ble_eq_true rfl, Nat.le_of_ble_eq_true rfl⟩) rfl rfl (Nat.le_of_ble_eq_true rfl) dL_law_226 ⟨Nat.le_of_ble_eq_true rfl, Nat.le_of_ble_eq_true rfl⟩ (fun r_226 h_226 H locs G hw => ?_)
        refine lv_aload_n hx hb dL_law_229 rfl (lv_at hl 2 rfl) ?_
        refine lv_aload_n hx hb dL_law_230 rfl (lv_at hl 0 rfl) ?_
        refine lv_iload_n hx hb dL_law_231 rfl (lv_at hl 3 rfl) ?_
        refine lv_iconst (v := 1) hx hb dL_law_232 (by decide) ?_
        refine lv_iadd hx hb dL_law_233 ?_
        obtain ⟨i_234, hw⟩ := hw
        refine va_sld hx hb C0.2.2.2.2.2.2.1 C0.2.2.2.2.2.2.2.1 (Nat.not_le.mpr C0.2.2.2.2.2.2.2.1) G.2.2.2.2 i_234 dL_law_234 ?_
        refine lv_aload_n hx hb dL_law_235 rfl (lv_at hl 0 rfl) ?_
        refine lv_iload_n hx hb dL_law_236 rfl (lv_at hl 3 rfl) ?_
        refine lv_iconst (v := 2) hx hb dL_law_237 (by decide) ?_
        refine lv_iadd hx hb dL_law_238 ?_
        obtain ⟨i_239, hw⟩ := hw
        refine va_sld hx hb C0.2.2.2.2.2.2.1 C0.2.2.2.2.2.2.2.1 (Nat.not_le.mpr C0.2.2.2.2.2.2.2.1) G.2.2.2.2 i_239 dL_law_239 ?_
        refine l_Mi S hl.1 G (c_M_rain l D q (aM bX) (fun i => bX + 504 + i) (xs (b3_18 + 1).toNatClampNeg) (xs (b3_18 + 2).toNatClampNeg) f_18 _ hw) (cw_L_22 S.2.2.2.2 ⟨Nat.le_of_ble_eq_true rfl, Nat.le_of_ble_eq_true rfl⟩) rfl rfl (Nat.le_of_ble_eq_true rfl) dL_law_240 ⟨Nat.le_of_ble_eq_true rfl, Nat.le_of_ble_eq_true rfl⟩ (fun r_240 g_240 H locs G hw => ?_)
        refine lv_icmp_eq (tgt := 1473) hx hb dL_law_243 (by decide) (fun c_243 => ?_) (fun c_243 => ?_)
        · have hw := hw.1 c_243
          exact hw _ _ _ (lv_sub hl [0, 1, 2, 3] rfl) G
        · have hw := hw.2 c_243
          refine lv_iconst (v := 0) hx hb dL_law_246 (by decide) ?_
          exact hw.elim
      have hw := hw.2
      by_cases c_33_2 : ((xs b3_18.toNatClampNeg) &&& 63) = 2
      · have hw := hw.1 c_33_2
        refine lv_tableIn (tgt := 248) hx hb dL_law_33 (by rw [c_33_2]; decide) (by rw [c_33_2]; decide) (by rw [c_33_2]; rfl) (by decide) ?_
        refine lv_aload_n hx hb dL_law_248 rfl (lv_at hl 1 rfl) ?_
        refine lv_aload_n hx hb dL_law_249 rfl (lv_at hl 0 rfl) ?_
        refine lv_iload_n hx hb dL_law_250 rfl (lv_at hl 3 rfl) ?_
        refine lv_iconst (v := 1) hx hb dL_law_251 (by decide) ?_
        refine lv_iadd hx hb dL_law_252 ?_
        obtain ⟨i_253, hw⟩ := hw
        refine va_sld hx hb C0.2.2.2.2.2.2.1 C0.2.2.2.2.2.2.2.1 (Nat.not_le.mpr C0.2.2.2.2.2.2.2.1) G.2.2.2.2 i_253 dL_law_253 ?_
        refine l_Xi S hl.1 G (c_X_lot l D q (aX bX) (fun i => bX + i) (xs (b3_18 + 1).toNatClampNeg) g_18 _ hw) (cw_L_23 S.2.2.2.2 ⟨Nat.le_of_ble_eq_true rfl, Nat.le_of_ble_eq_true rfl⟩) rfl rfl (Nat.le_of_ble_eq_true rfl) dL_law_254 ⟨Nat.le_of_ble_eq_true rfl, Nat.le_of_ble_eq_true rfl⟩ (fun r_254 h_254 H locs G hw => ?_)
        refine lv_aload_n hx hb dL_law_257 rfl (lv_at hl 2 rfl) ?_
        refine lv_aload_n hx hb dL_law_258 rfl (lv_at hl 0 rfl) ?_
        refine lv_iload_n hx hb dL_law_259 rfl (lv_at hl 3 rfl) ?_
        refine lv_iconst (v := 1) hx hb dL_law_260 (by decide) ?_
        refine lv_iadd hx hb dL_law_261 ?_
        obtain ⟨i_262, hw⟩ := hw
        refine va_sld hx hb C0.2.2.2.2.2.2.1 C0.2.2.2.2.2.2.2.1 (Nat.not_le.mpr C0.2.2.2.2.2.2.2.1) G.2.2.2.2 i_262 dL_law_262 ?_
        refine l_Mi S hl.1 G (c_M_lot l D q (aM bX) (fun i => bX + 504 + i) (xs (b3_18 + 1).toNatClampNeg) f_18 _ hw) (cw_L_26 S.2.2.2.2 ⟨Nat.le_of_ble_eq_true rfl, Nat.le_of_ble_eq_true rfl⟩) rfl rfl (Nat.le_of_ble_eq_true rfl) dL_law_263 ⟨Nat.le_of_ble_eq_true rfl, Nat.le_of_ble_eq_true rfl⟩ (fun r_263 g_263 H locs G hw => ?_)
        refine lv_icmp_eq (tgt := 1473) hx hb dL_law_266 (by decide) (fun c_266 => ?_) (fun c_266 => ?_)
        · have hw := hw.1 c_266
          exact hw _ _ _ (lv_sub hl [0, 1, 2, 3] rfl) G
        · have hw := hw.2 c_266
          refine lv_iconst (v := 0) hx hb dL_law_269 (by decide) ?_
          exact hw.elim
      have hw := hw.2
      by_cases c_33_3 : ((xs b3_18.toNatClampNeg) &&& 63) = 3
      · have hw := hw.1 c_33_3
        refine lv_tableIn (tgt := 271) hx hb dL_law_33 (by rw [c_33_3]; decide) (by rw [c_33_3]; decide) (by rw [c_33_3]; rfl) (by decide) ?_
        refine lv_aload_n hx hb dL_law_271 rfl (lv_at hl 1 rfl) ?_
        refine lv_aload_n hx hb dL_law_272 rfl (lv_at hl 0 rfl) ?_
        refine lv_iload_n hx hb dL_law_273 rfl (lv_at hl 3 rfl) ?_
        refine lv_iconst (v := 1) hx hb dL_law_274 (by decide) ?_
        refine lv_iadd hx hb dL_law_275 ?_
        obtain ⟨i_276, hw⟩ := hw
        refine va_sld hx hb C0.2.2.2.2.2.2.1 C0.2.2.2.2.2.2.2.1 (Nat.not_le.mpr C0.2.2.2.2.2.2.2.1) G.2.2.2.2 i_276 dL_law_276 ?_
        refine lv_aload_n hx hb dL_law_277 rfl (lv_at hl 0 rfl) ?_
        refine lv_iload_n hx hb dL_law_278 rfl (lv_at hl 3 rfl) ?_
        refine lv_iconst (v := 2) hx hb dL_law_279 (by decide) ?_
        refine lv_iadd hx hb dL_law_280 ?_
        obtain ⟨i_281, hw⟩ := hw
        refine va_sld hx hb C0.2.2.2.2.2.2.1 C0.2.2.2.2.2.2.2.1 (Nat.not_le.mpr C0.2.2.2.2.2.2.2.1) G.2.2.2.2 i_281 dL_law_281 ?_
        refine l_Xi S hl.1 G (c_X_put l D q (aX bX) (fun i => bX + i) (xs (b3_18 + 1).toNatClampNeg) (xs (b3_18 + 2).toNatClampNeg) g_18 _ hw) (cw_L_27 S.2.2.2.2 ⟨Nat.le_of_ble_eq_true rfl, Nat.le_of_ble_eq_true rfl⟩) rfl rfl (Nat.le_of_ble_eq_true rfl) dL_law_282 ⟨Nat.le_of_ble_eq_true rfl, Nat.le_of_ble_eq_true rfl⟩ (fun r_282 h_282 H locs G hw => ?_)
        refine lv_aload_n hx hb dL_law_285 rfl (lv_at hl 2 rfl) ?_
        refine lv_aload_n hx hb dL_law_286 rfl (lv_at hl 0 rfl) ?_
        refine lv_iload_n hx hb dL_law_287 rfl (lv_at hl 3 rfl) ?_
        refine lv_iconst (v := 1) hx hb dL_law_288 (by decide) ?_
        refine lv_iadd hx hb dL_law_289 ?_
        obtain ⟨i_290, hw⟩ := hw
        refine va_sld hx hb C0.2.2.2.2.2.2.1 C0.2.2.2.2.2.2.2.1 (Nat.not_le.mpr C0.2.2.2.2.2.2.2.1) G.2.2.2.2 i_290 dL_law_290 ?_
        refine lv_aload_n hx hb dL_law_291 rfl (lv_at hl 0 rfl) ?_
        refine lv_iload_n hx hb dL_law_292 rfl (lv_at hl 3 rfl) ?_
        refine lv_iconst (v := 2) hx hb dL_law_293 (by decide) ?_
        refine lv_iadd hx hb dL_law_294 ?_
        obtain ⟨i_295, hw⟩ := hw
        refine va_sld hx hb C0.2.2.2.2.2.2.1 C0.2.2.2.2.2.2.2.1 (Nat.not_le.mpr C0.2.2.2.2.2.2.2.1) G.2.2.2.2 i_295 dL_law_295 ?_
        refine l_Mi S hl.1 G (c_M_put l D q (aM bX) (fun i => bX + 504 + i) (xs (b3_18 + 1).toNatClampNeg) (xs (b3_18 + 2).toNatClampNeg) f_18 _ hw) (cw_L_30 S.2.2.2.2 ⟨Nat.le_of_ble_eq_true rfl, Nat.le_of_ble_eq_true rfl⟩) rfl rfl (Nat.le_of_ble_eq_true rfl) dL_law_296 ⟨Nat.le_of_ble_eq_true rfl, Nat.le_of_ble_eq_true rfl⟩ (fun r_296 g_296 H locs G hw => ?_)
        refine lv_icmp_eq (tgt := 1473) hx hb dL_law_299 (by decide) (fun c_299 => ?_) (fun c_299 => ?_)
        · have hw := hw.1 c_299
          exact hw _ _ _ (lv_sub hl [0, 1, 2, 3] rfl) G
        · have hw := hw.2 c_299
          refine lv_iconst (v := 0) hx hb dL_law_302 (by decide) ?_
          exact hw.elim
      have hw := hw.2
      by_cases c_33_4 : ((xs b3_18.toNatClampNeg) &&& 63) = 4
      · have hw := hw.1 c_33_4
        refine lv_tableIn (tgt := 304) hx hb dL_law_33 (by rw [c_33_4]; decide) (by rw [c_33_4]; decide) (by rw [c_33_4]; rfl) (by decide) ?_
        refine lv_aload_n hx hb dL_law_304 rfl (lv_at hl 1 rfl) ?_
        refine lv_aload_n hx hb dL_law_305 rfl (lv_at hl 0 rfl) ?_
        refine lv_iload_n hx hb dL_law_306 rfl (lv_at hl 3 rfl) ?_
        refine lv_iconst (v := 1) hx hb dL_law_307 (by decide) ?_
        refine lv_iadd hx hb dL_law_308 ?_
        obtain ⟨i_309, hw⟩ := hw
        refine va_sld hx hb C0.2.2.2.2.2.2.1 C0.2.2.2.2.2.2.2.1 (Nat.not_le.mpr C0.2.2.2.2.2.2.2.1) G.2.2.2.2 i_309 dL_law_309 ?_
        refine lv_aload_n hx hb dL_law_310 rfl (lv_at hl 0 rfl) ?_
        refine lv_iload_n hx hb dL_law_311 rfl (lv_at hl 3 rfl) ?_
        refine lv_iconst (v := 2) hx hb dL_law_312 (by decide) ?_
        refine lv_iadd hx hb dL_law_313 ?_
        obtain ⟨i_314, hw⟩ := hw
        refine va_sld hx hb C0.2.2.2.2.2.2.1 C0.2.2.2.2.2.2.2.1 (Nat.not_le.mpr C0.2.2.2.2.2.2.2.1) G.2.2.2.2 i_314 dL_law_314 ?_
        refine lv_aload_n hx hb dL_law_315 rfl (lv_at hl 0 rfl) ?_
        refine lv_iload_n hx hb dL_law_316 rfl (lv_at hl 3 rfl) ?_
        refine lv_iconst (v := 3) hx hb dL_law_317 (by decide) ?_
        refine lv_iadd hx hb dL_law_318 ?_
        obtain ⟨i_319, hw⟩ := hw
        refine va_sld hx hb C0.2.2.2.2.2.2.1 C0.2.2.2.2.2.2.2.1 (Nat.not_le.mpr C0.2.2.2.2.2.2.2.1) G.2.2.2.2 i_319 dL_law_319 ?_
        refine l_Xi S hl.1 G (c_X_kind l D q (aX bX) (fun i => bX + i) (xs (b3_18 + 1).toNatClampNeg) (xs (b3_18 + 2).toNatClampNeg) (xs (b3_18 + 3).toNatClampNeg) g_18 _ hw) (cw_L_31 S.2.2.2.2 ⟨Nat.le_of_ble_eq_true rfl, Nat.le_of_ble_eq_true rfl⟩) rfl rfl (Nat.le_of_ble_eq_true rfl) dL_law_320 ⟨Nat.le_of_ble_eq_true rfl, Nat.le_of_ble_eq_true rfl⟩ (fun r_320 h_320 H locs G hw => ?_)
        refine lv_aload_n hx hb dL_law_323 rfl (lv_at hl 2 rfl) ?_
        refine lv_aload_n hx hb dL_law_324 rfl (lv_at hl 0 rfl) ?_
        refine lv_iload_n hx hb dL_law_325 rfl (lv_at hl 3 rfl) ?_
        refine lv_iconst (v := 1) hx hb dL_law_326 (by decide) ?_
        refine lv_iadd hx hb dL_law_327 ?_
        obtain ⟨i_328, hw⟩ := hw
        refine va_sld hx hb C0.2.2.2.2.2.2.1 C0.2.2.2.2.2.2.2.1 (Nat.not_le.mpr C0.2.2.2.2.2.2.2.1) G.2.2.2.2 i_328 dL_law_328 ?_
        refine lv_aload_n hx hb dL_law_329 rfl (lv_at hl 0 rfl) ?_
        refine lv_iload_n hx hb dL_law_330 rfl (lv_at hl 3 rfl) ?_
        refine lv_iconst (v := 2) hx hb dL_law_331 (by decide) ?_
        refine lv_iadd hx hb dL_law_332 ?_
        obtain ⟨i_333, hw⟩ := hw
        refine va_sld hx hb C0.2.2.2.2.2.2.1 C0.2.2.2.2.2.2.2.1 (Nat.not_le.mpr C0.2.2.2.2.2.2.2.1) G.2.2.2.2 i_333 dL_law_333 ?_
        refine lv_aload_n hx hb dL_law_334 rfl (lv_at hl 0 rfl) ?_
        refine lv_iload_n hx hb dL_law_335 rfl (lv_at hl 3 rfl) ?_
        refine lv_iconst (v := 3) hx hb dL_law_336 (by decide) ?_
        refine lv_iadd hx hb dL_law_337 ?_
        obtain ⟨i_338, hw⟩ := hw
        refine va_sld hx hb C0.2.2.2.2.2.2.1 C0.2.2.2.2.2.2.2.1 (Nat.not_le.mpr C0.2.2.2.2.2.2.2.1) G.2.2.2.2 i_338 dL_law_338 ?_
        refine l_Mi S hl.1 G (c_M_kind l D q (aM bX) (fun i => bX + 504 + i) (xs (b3_18 + 1).toNatClampNeg) (xs (b3_18 + 2).toNatClampNeg) (xs (b3_18 + 3).toNatClampNeg) f_18 _ hw) (cw_L_35 S.2.2.2.2 ⟨Nat.le_of_ble_eq_true rfl, Nat.le_of_ble_eq_true rfl⟩) rfl rfl (Nat.le_of_ble_eq_true rfl) dL_law_339 ⟨Nat.le_of_ble_eq_true rfl, Nat.le_of_ble_eq_true rfl⟩ (fun r_339 g_339 H locs G hw => ?_)
        refine lv_icmp_eq (tgt := 1473) hx hb dL_law_342 (by decide) (fun c_342 => ?_) (fun c_342 => ?_)
        · have hw := hw.1 c_342
          exact hw _ _ _ (lv_sub hl [0, 1, 2, 3] rfl) G
        · have hw := hw.2 c_342
          refine lv_iconst (v := 0) hx hb dL_law_345 (by decide) ?_
          exact hw.elim
      have hw := hw.2
      by_cases c_33_5 : ((xs b3_18.toNatClampNeg) &&& 63) = 5
      · have hw := hw.1 c_33_5
        refine lv_tableIn (tgt := 347) hx hb dL_law_33 (by rw [c_33_5]; decide) (by rw [c_33_5]; decide) (by rw [c_33_5]; rfl) (by decide) ?_
        refine lv_aload_n hx hb dL_law_347 rfl (lv_at hl 1 rfl) ?_
        refine lv_aload_n hx hb dL_law_348 rfl (lv_at hl 0 rfl) ?_
        refine lv_iload_n hx hb dL_law_349 rfl (lv_at hl 3 rfl) ?_
        refine lv_iconst (v := 1) hx hb dL_law_350 (by decide) ?_
        refine lv_iadd hx hb dL_law_351 ?_
        obtain ⟨i_352, hw⟩ := hw
        refine va_sld hx hb C0.2.2.2.2.2.2.1 C0.2.2.2.2.2.2.2.1 (Nat.not_le.mpr C0.2.2.2.2.2.2.2.1) G.2.2.2.2 i_352 dL_law_352 ?_
        refine lv_aload_n hx hb dL_law_353 rfl (lv_at hl 0 rfl) ?_
        refine lv_iload_n hx hb dL_law_354 rfl (lv_at hl 3 rfl) ?_
        refine lv_iconst (v := 2) hx hb dL_law_355 (by decide) ?_
        refine lv_iadd hx hb dL_law_356 ?_
        obtain ⟨i_357, hw⟩ := hw
        refine va_sld hx hb C0.2.2.2.2.2.2.1 C0.2.2.2.2.2.2.2.1 (Nat.not_le.mpr C0.2.2.2.2.2.2.2.1) G.2.2.2.2 i_357 dL_law_357 ?_
        refine l_Xi S hl.1 G (c_X_prior l D q (aX bX) (fun i => bX + i) (xs (b3_18 + 1).toNatClampNeg) (xs (b3_18 + 2).toNatClampNeg) g_18 _ hw) (cw_L_36 S.2.2.2.2 ⟨Nat.le_of_ble_eq_true rfl, Nat.le_of_ble_eq_true rfl⟩) rfl rfl (Nat.le_of_ble_eq_true rfl) dL_law_358 ⟨Nat.le_of_ble_eq_true rfl, Nat.le_of_ble_eq_true rfl⟩ (fun r_358 h_358 H locs G hw => ?_)
        refine lv_aload_n hx hb dL_law_361 rfl (lv_at hl 2 rfl) ?_
        refine lv_aload_n hx hb dL_law_362 rfl (lv_at hl 0 rfl) ?_
        refine lv_iload_n hx hb dL_law_363 rfl (lv_at hl 3 rfl) ?_
        refine lv_iconst (v := 1) hx hb dL_law_364 (by decide) ?_
        refine lv_iadd hx hb dL_law_365 ?_
        obtain ⟨i_366, hw⟩ := hw
        refine va_sld hx hb C0.2.2.2.2.2.2.1 C0.2.2.2.2.2.2.2.1 (Nat.not_le.mpr C0.2.2.2.2.2.2.2.1) G.2.2.2.2 i_366 dL_law_366 ?_
        refine lv_aload_n hx hb dL_law_367 rfl (lv_at hl 0 rfl) ?_
        refine lv_iload_n hx hb dL_law_368 rfl (lv_at hl 3 rfl) ?_
        refine lv_iconst (v := 2) hx hb dL_law_369 (by decide) ?_
        refine lv_iadd hx hb dL_law_370 ?_
        obtain ⟨i_371, hw⟩ := hw
        refine va_sld hx hb C0.2.2.2.2.2.2.1 C0.2.2.2.2.2.2.2.1 (Nat.not_le.mpr C0.2.2.2.2.2.2.2.1) G.2.2.2.2 i_371 dL_law_371 ?_
        refine l_Mi S hl.1 G (c_M_prior l D q (aM bX) (fun i => bX + 504 + i) (xs (b3_18 + 1).toNatClampNeg) (xs (b3_18 + 2).toNatClampNeg) f_18 _ hw) (cw_L_39 S.2.2.2.2 ⟨Nat.le_of_ble_eq_true rfl, Nat.le_of_ble_eq_true rfl⟩) rfl rfl (Nat.le_of_ble_eq_true rfl) dL_law_372 ⟨Nat.le_of_ble_eq_true rfl, Nat.le_of_ble_eq_true rfl⟩ (fun r_372 g_372 H locs G hw => ?_)
        refine lv_icmp_eq (tgt := 1473) hx hb dL_law_375 (by decide) (fun c_375 => ?_) (fun c_375 => ?_)
        · have hw := hw.1 c_375
          exact hw _ _ _ (lv_sub hl [0, 1, 2, 3] rfl) G
        · have hw := hw.2 c_375
          refine lv_iconst (v := 0) hx hb dL_law_378 (by decide) ?_
          exact hw.elim
      have hw := hw.2
      by_cases c_33_6 : ((xs b3_18.toNatClampNeg) &&& 63) = 6
      · have hw := hw.1 c_33_6
        refine lv_tableIn (tgt := 380) hx hb dL_law_33 (by rw [c_33_6]; decide) (by rw [c_33_6]; decide) (by rw [c_33_6]; rfl) (by decide) ?_
        refine lv_aload_n hx hb dL_law_380 rfl (lv_at hl 1 rfl) ?_
        refine lv_aload_n hx hb dL_law_381 rfl (lv_at hl 0 rfl) ?_
        refine lv_iload_n hx hb dL_law_382 rfl (lv_at hl 3 rfl) ?_
        refine lv_iconst (v := 1) hx hb dL_law_383 (by decide) ?_
        refine lv_iadd hx hb dL_law_384 ?_
        obtain ⟨i_385, hw⟩ := hw
        refine va_sld hx hb C0.2.2.2.2.2.2.1 C0.2.2.2.2.2.2.2.1 (Nat.not_le.mpr C0.2.2.2.2.2.2.2.1) G.2.2.2.2 i_385 dL_law_385 ?_
        refine lv_aload_n hx hb dL_law_386 rfl (lv_at hl 0 rfl) ?_
        refine lv_iload_n hx hb dL_law_387 rfl (lv_at hl 3 rfl) ?_
        refine lv_iconst (v := 2) hx hb dL_law_388 (by decide) ?_
        refine lv_iadd hx hb dL_law_389 ?_
        obtain ⟨i_390, hw⟩ := hw
        refine va_sld hx hb C0.2.2.2.2.2.2.1 C0.2.2.2.2.2.2.2.1 (Nat.not_le.mpr C0.2.2.2.2.2.2.2.1) G.2.2.2.2 i_390 dL_law_390 ?_
        refine lv_i2l hx hb dL_law_391 rfl ?_
        refine lv_bipush (v := 32) hx hb dL_law_392 (by decide) ?_
        refine lv_lshl hx hb dL_law_394 rfl ?_
        refine lv_aload_n hx hb dL_law_395 rfl (lv_at hl 0 rfl) ?_
        refine lv_iload_n hx hb dL_law_396 rfl (lv_at hl 3 rfl) ?_
        refine lv_iconst (v := 3) hx hb dL_law_397 (by decide) ?_
        refine lv_iadd hx hb dL_law_398 ?_
        obtain ⟨i_399, hw⟩ := hw
        refine va_sld hx hb C0.2.2.2.2.2.2.1 C0.2.2.2.2.2.2.2.1 (Nat.not_le.mpr C0.2.2.2.2.2.2.2.1) G.2.2.2.2 i_399 dL_law_399 ?_
        refine lv_i2l hx hb dL_law_400 rfl ?_
        refine lv_ldc2 (v := 4294967295) hx hb S.2.2.2.1 (S.2.2.2.2 _ kl_L_40) dL_law_401 ?_
        refine lv_land hx hb dL_law_404 ?_
        refine lv_lor hx hb dL_law_405 ?_
        refine lv_aload_n hx hb dL_law_406 rfl (lv_at hl 0 rfl) ?_
        refine lv_iload_n hx hb dL_law_407 rfl (lv_at hl 3 rfl) ?_
        refine lv_iconst (v := 4) hx hb dL_law_408 (by decide) ?_
        refine lv_iadd hx hb dL_law_409 ?_
        obtain ⟨i_410, hw⟩ := hw
        refine va_sld hx hb C0.2.2.2.2.2.2.1 C0.2.2.2.2.2.2.2.1 (Nat.not_le.mpr C0.2.2.2.2.2.2.2.1) G.2.2.2.2 i_410 dL_law_410 ?_
        refine l_Xi S hl.1 G (c_X_type l D q (aX bX) (fun i => bX + i) (xs (b3_18 + 1).toNatClampNeg) ((((xs (b3_18 + 2).toNatClampNeg).toInt64) <<< ((32 : Int32).toInt64 &&& 63)) ||| (((xs (b3_18 + 3).toNatClampNeg).toInt64) &&& 4294967295)) (xs (b3_18 + 4).toNatClampNeg) g_18 _ hw) (cw_L_42 S.2.2.2.2 ⟨Nat.le_of_ble_eq_true rfl, Nat.le_of_ble_eq_true rfl⟩) rfl rfl (Nat.le_of_ble_eq_true rfl) dL_law_411 ⟨Nat.le_of_ble_eq_true rfl, Nat.le_of_ble_eq_true rfl⟩ (fun r_411 h_411 H locs G hw => ?_)
        refine lv_aload_n hx hb dL_law_414 rfl (lv_at hl 2 rfl) ?_
        refine lv_aload_n hx hb dL_law_415 rfl (lv_at hl 0 rfl) ?_
        refine lv_iload_n hx hb dL_law_416 rfl (lv_at hl 3 rfl) ?_
        refine lv_iconst (v := 1) hx hb dL_law_417 (by decide) ?_
        refine lv_iadd hx hb dL_law_418 ?_
        obtain ⟨i_419, hw⟩ := hw
        refine va_sld hx hb C0.2.2.2.2.2.2.1 C0.2.2.2.2.2.2.2.1 (Nat.not_le.mpr C0.2.2.2.2.2.2.2.1) G.2.2.2.2 i_419 dL_law_419 ?_
        refine lv_aload_n hx hb dL_law_420 rfl (lv_at hl 0 rfl) ?_
        refine lv_iload_n hx hb dL_law_421 rfl (lv_at hl 3 rfl) ?_
        refine lv_iconst (v := 2) hx hb dL_law_422 (by decide) ?_
        refine lv_iadd hx hb dL_law_423 ?_
        obtain ⟨i_424, hw⟩ := hw
        refine va_sld hx hb C0.2.2.2.2.2.2.1 C0.2.2.2.2.2.2.2.1 (Nat.not_le.mpr C0.2.2.2.2.2.2.2.1) G.2.2.2.2 i_424 dL_law_424 ?_
        refine lv_i2l hx hb dL_law_425 rfl ?_
        refine lv_bipush (v := 32) hx hb dL_law_426 (by decide) ?_
        refine lv_lshl hx hb dL_law_428 rfl ?_
        refine lv_aload_n hx hb dL_law_429 rfl (lv_at hl 0 rfl) ?_
        refine lv_iload_n hx hb dL_law_430 rfl (lv_at hl 3 rfl) ?_
        refine lv_iconst (v := 3) hx hb dL_law_431 (by decide) ?_
        refine lv_iadd hx hb dL_law_432 ?_
        obtain ⟨i_433, hw⟩ := hw
        refine va_sld hx hb C0.2.2.2.2.2.2.1 C0.2.2.2.2.2.2.2.1 (Nat.not_le.mpr C0.2.2.2.2.2.2.2.1) G.2.2.2.2 i_433 dL_law_433 ?_
        refine lv_i2l hx hb dL_law_434 rfl ?_
        refine lv_ldc2 (v := 4294967295) hx hb S.2.2.2.1 (S.2.2.2.2 _ kl_L_40) dL_law_435 ?_
        refine lv_land hx hb dL_law_438 ?_
        refine lv_lor hx hb dL_law_439 ?_
        refine lv_aload_n hx hb dL_law_440 rfl (lv_at hl 0 rfl) ?_
        refine lv_iload_n hx hb dL_law_441 rfl (lv_at hl 3 rfl) ?_
        refine lv_iconst (v := 4) hx hb dL_law_442 (by decide) ?_
        refine lv_iadd hx hb dL_law_443 ?_
        obtain ⟨i_444, hw⟩ := hw
        refine va_sld hx hb C0.2.2.2.2.2.2.1 C0.2.2.2.2.2.2.2.1 (Nat.not_le.mpr C0.2.2.2.2.2.2.2.1) G.2.2.2.2 i_444 dL_law_444 ?_
        refine l_Mi S hl.1 G (c_M_type l D q (aM bX) (fun i => bX + 504 + i) (xs (b3_18 + 1).toNatClampNeg) ((((xs (b3_18 + 2).toNatClampNeg).toInt64) <<< ((32 : Int32).toInt64 &&& 63)) ||| (((xs (b3_18 + 3).toNatClampNeg).toInt64) &&& 4294967295)) (xs (b3_18 + 4).toNatClampNeg) f_18 _ hw) (cw_L_46 S.2.2.2.2 ⟨Nat.le_of_ble_eq_true rfl, Nat.le_of_ble_eq_true rfl⟩) rfl rfl (Nat.le_of_ble_eq_true rfl) dL_law_445 ⟨Nat.le_of_ble_eq_true rfl, Nat.le_of_ble_eq_true rfl⟩ (fun r_445 g_445 H locs G hw => ?_)
        refine lv_icmp_eq (tgt := 1473) hx hb dL_law_448 (by decide) (fun c_448 => ?_) (fun c_448 => ?_)
        · have hw := hw.1 c_448
          exact hw _ _ _ (lv_sub hl [0, 1, 2, 3] rfl) G
        · have hw := hw.2 c_448
          refine lv_iconst (v := 0) hx hb dL_law_451 (by decide) ?_
          exact hw.elim
      have hw := hw.2
      by_cases c_33_7 : ((xs b3_18.toNatClampNeg) &&& 63) = 7
      · have hw := hw.1 c_33_7
        refine lv_tableIn (tgt := 453) hx hb dL_law_33 (by rw [c_33_7]; decide) (by rw [c_33_7]; decide) (by rw [c_33_7]; rfl) (by decide) ?_
        refine lv_aload_n hx hb dL_law_453 rfl (lv_at hl 1 rfl) ?_
        refine lv_aload_n hx hb dL_law_454 rfl (lv_at hl 0 rfl) ?_
        refine lv_iload_n hx hb dL_law_455 rfl (lv_at hl 3 rfl) ?_
        refine lv_iconst (v := 1) hx hb dL_law_456 (by decide) ?_
        refine lv_iadd hx hb dL_law_457 ?_
        obtain ⟨i_458, hw⟩ := hw
        refine va_sld hx hb C0.2.2.2.2.2.2.1 C0.2.2.2.2.2.2.2.1 (Nat.not_le.mpr C0.2.2.2.2.2.2.2.1) G.2.2.2.2 i_458 dL_law_458 ?_
        refine l_Xi S hl.1 G (c_X_clear l D q (aX bX) (fun i => bX + i) (xs (b3_18 + 1).toNatClampNeg) g_18 _ hw) (cw_L_47 S.2.2.2.2 ⟨Nat.le_of_ble_eq_true rfl, Nat.le_of_ble_eq_true rfl⟩) rfl rfl (Nat.le_of_ble_eq_true rfl) dL_law_459 ⟨Nat.le_of_ble_eq_true rfl, Nat.le_of_ble_eq_true rfl⟩ (fun r_459 h_459 H locs G hw => ?_)
        refine lv_aload_n hx hb dL_law_462 rfl (lv_at hl 2 rfl) ?_
        refine lv_aload_n hx hb dL_law_463 rfl (lv_at hl 0 rfl) ?_
        refine lv_iload_n hx hb dL_law_464 rfl (lv_at hl 3 rfl) ?_
        refine lv_iconst (v := 1) hx hb dL_law_465 (by decide) ?_
        refine lv_iadd hx hb dL_law_466 ?_
        obtain ⟨i_467, hw⟩ := hw
        refine va_sld hx hb C0.2.2.2.2.2.2.1 C0.2.2.2.2.2.2.2.1 (Nat.not_le.mpr C0.2.2.2.2.2.2.2.1) G.2.2.2.2 i_467 dL_law_467 ?_
        refine l_Mi S hl.1 G (c_M_clear l D q (aM bX) (fun i => bX + 504 + i) (xs (b3_18 + 1).toNatClampNeg) f_18 _ hw) (cw_L_50 S.2.2.2.2 ⟨Nat.le_of_ble_eq_true rfl, Nat.le_of_ble_eq_true rfl⟩) rfl rfl (Nat.le_of_ble_eq_true rfl) dL_law_468 ⟨Nat.le_of_ble_eq_true rfl, Nat.le_of_ble_eq_true rfl⟩ (fun r_468 g_468 H locs G hw => ?_)
        refine lv_icmp_eq (tgt := 1473) hx hb dL_law_471 (by decide) (fun c_471 => ?_) (fun c_471 => ?_)
        · have hw := hw.1 c_471
          exact hw _ _ _ (lv_sub hl [0, 1, 2, 3] rfl) G
        · have hw := hw.2 c_471
          refine lv_iconst (v := 0) hx hb dL_law_474 (by decide) ?_
          exact hw.elim
      have hw := hw.2
      by_cases c_33_8 : ((xs b3_18.toNatClampNeg) &&& 63) = 8
      · have hw := hw.1 c_33_8
        refine lv_tableIn (tgt := 476) hx hb dL_law_33 (by rw [c_33_8]; decide) (by rw [c_33_8]; decide) (by rw [c_33_8]; rfl) (by decide) ?_
        refine lv_aload_n hx hb dL_law_476 rfl (lv_at hl 1 rfl) ?_
        refine lv_aload_n hx hb dL_law_477 rfl (lv_at hl 0 rfl) ?_
        refine lv_iload_n hx hb dL_law_478 rfl (lv_at hl 3 rfl) ?_
        refine lv_iconst (v := 1) hx hb dL_law_479 (by decide) ?_
        refine lv_iadd hx hb dL_law_480 ?_
        obtain ⟨i_481, hw⟩ := hw
        refine va_sld hx hb C0.2.2.2.2.2.2.1 C0.2.2.2.2.2.2.2.1 (Nat.not_le.mpr C0.2.2.2.2.2.2.2.1) G.2.2.2.2 i_481 dL_law_481 ?_
        refine l_Xi S hl.1 G (c_X_fault l D q (aX bX) (fun i => bX + i) (xs (b3_18 + 1).toNatClampNeg) g_18 _ hw) (cw_L_51 S.2.2.2.2 ⟨Nat.le_of_ble_eq_true rfl, Nat.le_of_ble_eq_true rfl⟩) rfl rfl (Nat.le_of_ble_eq_true rfl) dL_law_482 ⟨Nat.le_of_ble_eq_true rfl, Nat.le_of_ble_eq_true rfl⟩ (fun r_482 h_482 H locs G hw => ?_)
        refine lv_aload_n hx hb dL_law_485 rfl (lv_at hl 2 rfl) ?_
        refine lv_aload_n hx hb dL_law_486 rfl (lv_at hl 0 rfl) ?_
        refine lv_iload_n hx hb dL_law_487 rfl (lv_at hl 3 rfl) ?_
        refine lv_iconst (v := 1) hx hb dL_law_488 (by decide) ?_
        refine lv_iadd hx hb dL_law_489 ?_
        obtain ⟨i_490, hw⟩ := hw
        refine va_sld hx hb C0.2.2.2.2.2.2.1 C0.2.2.2.2.2.2.2.1 (Nat.not_le.mpr C0.2.2.2.2.2.2.2.1) G.2.2.2.2 i_490 dL_law_490 ?_
        refine l_Mi S hl.1 G (c_M_fault l D q (aM bX) (fun i => bX + 504 + i) (xs (b3_18 + 1).toNatClampNeg) f_18 _ hw) (cw_L_54 S.2.2.2.2 ⟨Nat.le_of_ble_eq_true rfl, Nat.le_of_ble_eq_true rfl⟩) rfl rfl (Nat.le_of_ble_eq_true rfl) dL_law_491 ⟨Nat.le_of_ble_eq_true rfl, Nat.le_of_ble_eq_true rfl⟩ (fun r_491 g_491 H locs G hw => ?_)
        refine lv_icmp_eq (tgt := 1473) hx hb dL_law_494 (by decide) (fun c_494 => ?_) (fun c_494 => ?_)
        · have hw := hw.1 c_494
          exact hw _ _ _ (lv_sub hl [0, 1, 2, 3] rfl) G
        · have hw := hw.2 c_494
          refine lv_iconst (v := 0) hx hb dL_law_497 (by decide) ?_
          exact hw.elim
      have hw := hw.2
      by_cases c_33_9 : ((xs b3_18.toNatClampNeg) &&& 63) = 9
      · have hw := hw.1 c_33_9
        refine lv_tableIn (tgt := 499) hx hb dL_law_33 (by rw [c_33_9]; decide) (by rw [c_33_9]; decide) (by rw [c_33_9]; rfl) (by decide) ?_
        refine lv_aload_n hx hb dL_law_499 rfl (lv_at hl 1 rfl) ?_
        refine lv_aload_n hx hb dL_law_500 rfl (lv_at hl 0 rfl) ?_
        refine lv_iload_n hx hb dL_law_501 rfl (lv_at hl 3 rfl) ?_
        refine lv_iconst (v := 1) hx hb dL_law_502 (by decide) ?_
        refine lv_iadd hx hb dL_law_503 ?_
        obtain ⟨i_504, hw⟩ := hw
        refine va_sld hx hb C0.2.2.2.2.2.2.1 C0.2.2.2.2.2.2.2.1 (Nat.not_le.mpr C0.2.2.2.2.2.2.2.1) G.2.2.2.2 i_504 dL_law_504 ?_
        refine lv_aload_n hx hb dL_law_505 rfl (lv_at hl 0 rfl) ?_
        refine lv_iload_n hx hb dL_law_506 rfl (lv_at hl 3 rfl) ?_
        refine lv_iconst (v := 2) hx hb dL_law_507 (by decide) ?_
        refine lv_iadd hx hb dL_law_508 ?_
        obtain ⟨i_509, hw⟩ := hw
        refine va_sld hx hb C0.2.2.2.2.2.2.1 C0.2.2.2.2.2.2.2.1 (Nat.not_le.mpr C0.2.2.2.2.2.2.2.1) G.2.2.2.2 i_509 dL_law_509 ?_
        refine lv_aload_n hx hb dL_law_510 rfl (lv_at hl 0 rfl) ?_
        refine lv_iload_n hx hb dL_law_511 rfl (lv_at hl 3 rfl) ?_
        refine lv_iconst (v := 3) hx hb dL_law_512 (by decide) ?_
        refine lv_iadd hx hb dL_law_513 ?_
        obtain ⟨i_514, hw⟩ := hw
        refine va_sld hx hb C0.2.2.2.2.2.2.1 C0.2.2.2.2.2.2.2.1 (Nat.not_le.mpr C0.2.2.2.2.2.2.2.1) G.2.2.2.2 i_514 dL_law_514 ?_
        refine lv_aload_n hx hb dL_law_515 rfl (lv_at hl 0 rfl) ?_
        refine lv_iload_n hx hb dL_law_516 rfl (lv_at hl 3 rfl) ?_
        refine lv_iconst (v := 4) hx hb dL_law_517 (by decide) ?_
        refine lv_iadd hx hb dL_law_518 ?_
        obtain ⟨i_519, hw⟩ := hw
        refine va_sld hx hb C0.2.2.2.2.2.2.1 C0.2.2.2.2.2.2.2.1 (Nat.not_le.mpr C0.2.2.2.2.2.2.2.1) G.2.2.2.2 i_519 dL_law_519 ?_
        refine l_Xi S hl.1 G (c_X_sign l D q (aX bX) (fun i => bX + i) (xs (b3_18 + 1).toNatClampNeg) (xs (b3_18 + 2).toNatClampNeg) (xs (b3_18 + 3).toNatClampNeg) (xs (b3_18 + 4).toNatClampNeg) g_18 _ hw) (cw_L_55 S.2.2.2.2 ⟨Nat.le_of_ble_eq_true rfl, Nat.le_of_ble_eq_true rfl⟩) rfl rfl (Nat.le_of_ble_eq_true rfl) dL_law_520 ⟨Nat.le_of_ble_eq_true rfl, Nat.le_of_ble_eq_true rfl⟩ (fun r_520 h_520 H locs G hw => ?_)
        refine lv_aload_n hx hb dL_law_523 rfl (lv_at hl 2 rfl) ?_
        refine lv_aload_n hx hb dL_law_524 rfl (lv_at hl 0 rfl) ?_
        refine lv_iload_n hx hb dL_law_525 rfl (lv_at hl 3 rfl) ?_
        refine lv_iconst (v := 1) hx hb dL_law_526 (by decide) ?_
        refine lv_iadd hx hb dL_law_527 ?_
        obtain ⟨i_528, hw⟩ := hw
        refine va_sld hx hb C0.2.2.2.2.2.2.1 C0.2.2.2.2.2.2.2.1 (Nat.not_le.mpr C0.2.2.2.2.2.2.2.1) G.2.2.2.2 i_528 dL_law_528 ?_
        refine lv_aload_n hx hb dL_law_529 rfl (lv_at hl 0 rfl) ?_
        refine lv_iload_n hx hb dL_law_530 rfl (lv_at hl 3 rfl) ?_
        refine lv_iconst (v := 2) hx hb dL_law_531 (by decide) ?_
        refine lv_iadd hx hb dL_law_532 ?_
        obtain ⟨i_533, hw⟩ := hw
        refine va_sld hx hb C0.2.2.2.2.2.2.1 C0.2.2.2.2.2.2.2.1 (Nat.not_le.mpr C0.2.2.2.2.2.2.2.1) G.2.2.2.2 i_533 dL_law_533 ?_
        refine lv_aload_n hx hb dL_law_534 rfl (lv_at hl 0 rfl) ?_
        refine lv_iload_n hx hb dL_law_535 rfl (lv_at hl 3 rfl) ?_
        refine lv_iconst (v := 3) hx hb dL_law_536 (by decide) ?_
        refine lv_iadd hx hb dL_law_537 ?_
        obtain ⟨i_538, hw⟩ := hw
        refine va_sld hx hb C0.2.2.2.2.2.2.1 C0.2.2.2.2.2.2.2.1 (Nat.not_le.mpr C0.2.2.2.2.2.2.2.1) G.2.2.2.2 i_538 dL_law_538 ?_
        refine lv_aload_n hx hb dL_law_539 rfl (lv_at hl 0 rfl) ?_
        refine lv_iload_n hx hb dL_law_540 rfl (lv_at hl 3 rfl) ?_
        refine lv_iconst (v := 4) hx hb dL_law_541 (by decide) ?_
        refine lv_iadd hx hb dL_law_542 ?_
        obtain ⟨i_543, hw⟩ := hw
        refine va_sld hx hb C0.2.2.2.2.2.2.1 C0.2.2.2.2.2.2.2.1 (Nat.not_le.mpr C0.2.2.2.2.2.2.2.1) G.2.2.2.2 i_543 dL_law_543 ?_
        refine l_Mi S hl.1 G (c_M_sign l D q (aM bX) (fun i => bX + 504 + i) (xs (b3_18 + 1).toNatClampNeg) (xs (b3_18 + 2).toNatClampNeg) (xs (b3_18 + 3).toNatClampNeg) (xs (b3_18 + 4).toNatClampNeg) f_18 _ hw) (cw_L_59 S.2.2.2.2 ⟨Nat.le_of_ble_eq_true rfl, Nat.le_of_ble_eq_true rfl⟩) rfl rfl (Nat.le_of_ble_eq_true rfl) dL_law_544 ⟨Nat.le_of_ble_eq_true rfl, Nat.le_of_ble_eq_true rfl⟩ (fun r_544 g_544 H locs G hw => ?_)
        refine lv_icmp_eq (tgt := 1473) hx hb dL_law_547 (by decide) (fun c_547 => ?_) (fun c_547 => ?_)
        · have hw := hw.1 c_547
          exact hw _ _ _ (lv_sub hl [0, 1, 2, 3] rfl) G
        · have hw := hw.2 c_547
          refine lv_iconst (v := 0) hx hb dL_law_550 (by decide) ?_
          exact hw.elim
      have hw := hw.2
      by_cases c_33_10 : ((xs b3_18.toNatClampNeg) &&& 63) = 10
      · have hw := hw.1 c_33_10
        refine lv_tableIn (tgt := 552) hx hb dL_law_33 (by rw [c_33_10]; decide) (by rw [c_33_10]; decide) (by rw [c_33_10]; rfl) (by decide) ?_
        refine lv_aload_n hx hb dL_law_552 rfl (lv_at hl 1 rfl) ?_
        refine lv_aload_n hx hb dL_law_553 rfl (lv_at hl 0 rfl) ?_
        refine lv_iload_n hx hb dL_law_554 rfl (lv_at hl 3 rfl) ?_
        refine lv_iconst (v := 1) hx hb dL_law_555 (by decide) ?_
        refine lv_iadd hx hb dL_law_556 ?_
        obtain ⟨i_557, hw⟩ := hw
        refine va_sld hx hb C0.2.2.2.2.2.2.1 C0.2.2.2.2.2.2.2.1 (Nat.not_le.mpr C0.2.2.2.2.2.2.2.1) G.2.2.2.2 i_557 dL_law_557 ?_
        refine lv_aload_n hx hb dL_law_558 rfl (lv_at hl 0 rfl) ?_
        refine lv_iload_n hx hb dL_law_559 rfl (lv_at hl 3 rfl) ?_
        refine lv_iconst (v := 2) hx hb dL_law_560 (by decide) ?_
        refine lv_iadd hx hb dL_law_561 ?_
        obtain ⟨i_562, hw⟩ := hw
        refine va_sld hx hb C0.2.2.2.2.2.2.1 C0.2.2.2.2.2.2.2.1 (Nat.not_le.mpr C0.2.2.2.2.2.2.2.1) G.2.2.2.2 i_562 dL_law_562 ?_
        have hw := hw (fun (t2_571 : Int32) => ∀ (ls : Array Slot) (H : Heap) (locs : List Loc), lv_has ls 4 [(0, .ref b), (1, .ref bX), (2, .ref (bX + 504)), (3, .int b3_18)] → okL D q s bX g_18 f_18 H locs → W p l e room_1 s m #[Value.ref b] below meth c H locs 600 1200000 (lw_Z below #[Value.ref b] s) (F0 m 571 ls [.int t2_571, .int (xs (b3_18 + 1).toNatClampNeg), .ref bX])) (by
          intro t2_571 hw ls H locs hl G
          refine l_Xi S hl.1 G (c_X_post l D q (aX bX) (fun i => bX + i) (xs (b3_18 + 1).toNatClampNeg) t2_571 g_18 _ hw) (cw_L_60 S.2.2.2.2 ⟨Nat.le_of_ble_eq_true rfl, Nat.le_of_ble_eq_true rfl⟩) rfl rfl (Nat.le_of_ble_eq_true rfl) dL_law_571 ⟨Nat.le_of_ble_eq_true rfl, Nat.le_of_ble_eq_true rfl⟩ (fun r_571 h_571 H locs G hw => ?_)
          refine lv_aload_n hx hb dL_law_574 rfl (lv_at hl 2 rfl) ?_
          refine lv_aload_n hx hb dL_law_575 rfl (lv_at hl 0 rfl) ?_
          refine lv_iload_n hx hb dL_law_576 rfl (lv_at hl 3 rfl) ?_
          refine lv_iconst (v := 1) hx hb dL_law_577 (by decide) ?_
          refine lv_iadd hx hb dL_law_578 ?_
          obtain ⟨i_579, hw⟩ := hw
          refine va_sld hx hb C0.2.2.2.2.2.2.1 C0.2.2.2.2.2.2.2.1 (Nat.not_le.mpr C0.2.2.2.2.2.2.2.1) G.2.2.2.2 i_579 dL_law_579 ?_
          refine lv_aload_n hx hb dL_law_580 rfl (lv_at hl 0 rfl) ?_
          refine lv_iload_n hx hb dL_law_581 rfl (lv_at hl 3 rfl) ?_
          refine lv_iconst (v := 2) hx hb dL_law_582 (by decide) ?_
          refine lv_iadd hx hb dL_law_583 ?_
          obtain ⟨i_584, hw⟩ := hw
          refine va_sld hx hb C0.2.2.2.2.2.2.1 C0.2.2.2.2.2.2.2.1 (Nat.not_le.mpr C0.2.2.2.2.2.2.2.1) G.2.2.2.2 i_584 dL_law_584 ?_
          have hw := hw (fun (t3_593 : Int32) => ∀ (ls : Array Slot) (H : Heap) (locs : List Loc), lv_has ls 4 [(0, .ref b), (1, .ref bX), (2, .ref (bX + 504)), (3, .int b3_18)] → okL D q s bX h_571 f_18 H locs → W p l e room_1 s m #[Value.ref b] below meth c H locs 600 1200000 (lw_Z below #[Value.ref b] s) (F0 m 593 ls [.int t3_593, .int (xs (b3_18 + 1).toNatClampNeg), .ref (bX + 504), .int r_571])) (by
            intro t3_593 hw ls H locs hl G
            refine l_Mi S hl.1 G (c_M_post l D q (aM bX) (fun i => bX + 504 + i) (xs (b3_18 + 1).toNatClampNeg) t3_593 f_18 _ hw) (cw_L_64 S.2.2.2.2 ⟨Nat.le_of_ble_eq_true rfl, Nat.le_of_ble_eq_true rfl⟩) rfl rfl (Nat.le_of_ble_eq_true rfl) dL_law_593 ⟨Nat.le_of_ble_eq_true rfl, Nat.le_of_ble_eq_true rfl⟩ (fun r_593 g_593 H locs G hw => ?_)
            refine lv_icmp_eq (tgt := 1473) hx hb dL_law_596 (by decide) (fun c_596 => ?_) (fun c_596 => ?_)
            · have hw := hw.1 c_596
              exact hw _ _ _ (lv_sub hl [0, 1, 2, 3] rfl) G
            · have hw := hw.2 c_596
              refine lv_iconst (v := 0) hx hb dL_law_599 (by decide) ?_
              exact hw.elim)
          refine lv_if_eq (tgt := 592) hx hb dL_law_585 (by decide) (fun c_585 => ?_) (fun c_585 => ?_)
          · have hw := hw.1 c_585
            refine lv_iconst (v := 0) hx hb dL_law_592 (by decide) ?_
            exact hw _ _ _ (lv_sub hl [0, 1, 2, 3] rfl) G
          · have hw := hw.2 c_585
            refine lv_iconst (v := 1) hx hb dL_law_588 (by decide) ?_
            refine lv_goto (tgt := 593) hx hb dL_law_589 (by decide) ?_
            exact hw _ _ _ (lv_sub hl [0, 1, 2, 3] rfl) G)
        refine lv_if_eq (tgt := 570) hx hb dL_law_563 (by decide) (fun c_563 => ?_) (fun c_563 => ?_)
        · have hw := hw.1 c_563
          refine lv_iconst (v := 0) hx hb dL_law_570 (by decide) ?_
          exact hw _ _ _ (lv_sub hl [0, 1, 2, 3] rfl) G
        · have hw := hw.2 c_563
          refine lv_iconst (v := 1) hx hb dL_law_566 (by decide) ?_
          refine lv_goto (tgt := 571) hx hb dL_law_567 (by decide) ?_
          exact hw _ _ _ (lv_sub hl [0, 1, 2, 3] rfl) G
      have hw := hw.2
      by_cases c_33_11 : ((xs b3_18.toNatClampNeg) &&& 63) = 11
      · have hw := hw.1 c_33_11
        refine lv_tableIn (tgt := 601) hx hb dL_law_33 (by rw [c_33_11]; decide) (by rw [c_33_11]; decide) (by rw [c_33_11]; rfl) (by decide) ?_
        refine lv_aload_n hx hb dL_law_601 rfl (lv_at hl 1 rfl) ?_
        refine lv_aload_n hx hb dL_law_602 rfl (lv_at hl 0 rfl) ?_
        refine lv_iload_n hx hb dL_law_603 rfl (lv_at hl 3 rfl) ?_
        refine lv_iconst (v := 1) hx hb dL_law_604 (by decide) ?_
        refine lv_iadd hx hb dL_law_605 ?_
        obtain ⟨i_606, hw⟩ := hw
        refine va_sld hx hb C0.2.2.2.2.2.2.1 C0.2.2.2.2.2.2.2.1 (Nat.not_le.mpr C0.2.2.2.2.2.2.2.1) G.2.2.2.2 i_606 dL_law_606 ?_
        refine lv_aload_n hx hb dL_law_607 rfl (lv_at hl 0 rfl) ?_
        refine lv_iload_n hx hb dL_law_608 rfl (lv_at hl 3 rfl) ?_
        refine lv_iconst (v := 2) hx hb dL_law_609 (by decide) ?_
        refine lv_iadd hx hb dL_law_610 ?_
        obtain ⟨i_611, hw⟩ := hw
        refine va_sld hx hb C0.2.2.2.2.2.2.1 C0.2.2.2.2.2.2.2.1 (Nat.not_le.mpr C0.2.2.2.2.2.2.2.1) G.2.2.2.2 i_611 dL_law_611 ?_
        refine lv_aload_n hx hb dL_law_612 rfl (lv_at hl 0 rfl) ?_
        refine lv_iload_n hx hb dL_law_613 rfl (lv_at hl 3 rfl) ?_
        refine lv_iconst (v := 3) hx hb dL_law_614 (by decide) ?_
        refine lv_iadd hx hb dL_law_615 ?_
        obtain ⟨i_616, hw⟩ := hw
        refine va_sld hx hb C0.2.2.2.2.2.2.1 C0.2.2.2.2.2.2.2.1 (Nat.not_le.mpr C0.2.2.2.2.2.2.2.1) G.2.2.2.2 i_616 dL_law_616 ?_
        refine lv_aload_n hx hb dL_law_617 rfl (lv_at hl 0 rfl) ?_
        refine lv_iload_n hx hb dL_law_618 rfl (lv_at hl 3 rfl) ?_
        refine lv_iconst (v := 4) hx hb dL_law_619 (by decide) ?_
        refine lv_iadd hx hb dL_law_620 ?_
        obtain ⟨i_621, hw⟩ := hw
        refine va_sld hx hb C0.2.2.2.2.2.2.1 C0.2.2.2.2.2.2.2.1 (Nat.not_le.mpr C0.2.2.2.2.2.2.2.1) G.2.2.2.2 i_621 dL_law_621 ?_
        refine lv_aload_n hx hb dL_law_622 rfl (lv_at hl 0 rfl) ?_
        refine lv_iload_n hx hb dL_law_623 rfl (lv_at hl 3 rfl) ?_
        refine lv_iconst (v := 5) hx hb dL_law_624 (by decide) ?_
        refine lv_iadd hx hb dL_law_625 ?_
        obtain ⟨i_626, hw⟩ := hw
        refine va_sld hx hb C0.2.2.2.2.2.2.1 C0.2.2.2.2.2.2.2.1 (Nat.not_le.mpr C0.2.2.2.2.2.2.2.1) G.2.2.2.2 i_626 dL_law_626 ?_
        refine l_Xi S hl.1 G (c_X_teller l D q (aX bX) (fun i => bX + i) (xs (b3_18 + 1).toNatClampNeg) (xs (b3_18 + 2).toNatClampNeg) (xs (b3_18 + 3).toNatClampNeg) (xs (b3_18 + 4).toNatClampNeg) (xs (b3_18 + 5).toNatClampNeg) g_18 _ hw) (cw_L_65 S.2.2.2.2 ⟨Nat.le_of_ble_eq_true rfl, Nat.le_of_ble_eq_true rfl⟩) rfl rfl (Nat.le_of_ble_eq_true rfl) dL_law_627 ⟨Nat.le_of_ble_eq_true rfl, Nat.le_of_ble_eq_true rfl⟩ (fun r_627 h_627 H locs G hw => ?_)
        refine lv_aload_n hx hb dL_law_630 rfl (lv_at hl 2 rfl) ?_
        refine lv_aload_n hx hb dL_law_631 rfl (lv_at hl 0 rfl) ?_
        refine lv_iload_n hx hb dL_law_632 rfl (lv_at hl 3 rfl) ?_
        refine lv_iconst (v := 1) hx hb dL_law_633 (by decide) ?_
        refine lv_iadd hx hb dL_law_634 ?_
        obtain ⟨i_635, hw⟩ := hw
        refine va_sld hx hb C0.2.2.2.2.2.2.1 C0.2.2.2.2.2.2.2.1 (Nat.not_le.mpr C0.2.2.2.2.2.2.2.1) G.2.2.2.2 i_635 dL_law_635 ?_
        refine lv_aload_n hx hb dL_law_636 rfl (lv_at hl 0 rfl) ?_
        refine lv_iload_n hx hb dL_law_637 rfl (lv_at hl 3 rfl) ?_
        refine lv_iconst (v := 2) hx hb dL_law_638 (by decide) ?_
        refine lv_iadd hx hb dL_law_639 ?_
        obtain ⟨i_640, hw⟩ := hw
        refine va_sld hx hb C0.2.2.2.2.2.2.1 C0.2.2.2.2.2.2.2.1 (Nat.not_le.mpr C0.2.2.2.2.2.2.2.1) G.2.2.2.2 i_640 dL_law_640 ?_
        refine lv_aload_n hx hb dL_law_641 rfl (lv_at hl 0 rfl) ?_
        refine lv_iload_n hx hb dL_law_642 rfl (lv_at hl 3 rfl) ?_
        refine lv_iconst (v := 3) hx hb dL_law_643 (by decide) ?_
        refine lv_iadd hx hb dL_law_644 ?_
        obtain ⟨i_645, hw⟩ := hw
        refine va_sld hx hb C0.2.2.2.2.2.2.1 C0.2.2.2.2.2.2.2.1 (Nat.not_le.mpr C0.2.2.2.2.2.2.2.1) G.2.2.2.2 i_645 dL_law_645 ?_
        refine lv_aload_n hx hb dL_law_646 rfl (lv_at hl 0 rfl) ?_
        refine lv_iload_n hx hb dL_law_647 rfl (lv_at hl 3 rfl) ?_
        refine lv_iconst (v := 4) hx hb dL_law_648 (by decide) ?_
        refine lv_iadd hx hb dL_law_649 ?_
        obtain ⟨i_650, hw⟩ := hw
        refine va_sld hx hb C0.2.2.2.2.2.2.1 C0.2.2.2.2.2.2.2.1 (Nat.not_le.mpr C0.2.2.2.2.2.2.2.1) G.2.2.2.2 i_650 dL_law_650 ?_
        refine lv_aload_n hx hb dL_law_651 rfl (lv_at hl 0 rfl) ?_
        refine lv_iload_n hx hb dL_law_652 rfl (lv_at hl 3 rfl) ?_
        refine lv_iconst (v := 5) hx hb dL_law_653 (by decide) ?_
        refine lv_iadd hx hb dL_law_654 ?_
        obtain ⟨i_655, hw⟩ := hw
        refine va_sld hx hb C0.2.2.2.2.2.2.1 C0.2.2.2.2.2.2.2.1 (Nat.not_le.mpr C0.2.2.2.2.2.2.2.1) G.2.2.2.2 i_655 dL_law_655 ?_
        refine l_Mi S hl.1 G (c_M_teller l D q (aM bX) (fun i => bX + 504 + i) (xs (b3_18 + 1).toNatClampNeg) (xs (b3_18 + 2).toNatClampNeg) (xs (b3_18 + 3).toNatClampNeg) (xs (b3_18 + 4).toNatClampNeg) (xs (b3_18 + 5).toNatClampNeg) f_18 _ hw) (cw_L_69 S.2.2.2.2 ⟨Nat.le_of_ble_eq_true rfl, Nat.le_of_ble_eq_true rfl⟩) rfl rfl (Nat.le_of_ble_eq_true rfl) dL_law_656 ⟨Nat.le_of_ble_eq_true rfl, Nat.le_of_ble_eq_true rfl⟩ (fun r_656 g_656 H locs G hw => ?_)
        refine lv_icmp_eq (tgt := 1473) hx hb dL_law_659 (by decide) (fun c_659 => ?_) (fun c_659 => ?_)
        · have hw := hw.1 c_659
          exact hw _ _ _ (lv_sub hl [0, 1, 2, 3] rfl) G
        · have hw := hw.2 c_659
          refine lv_iconst (v := 0) hx hb dL_law_662 (by decide) ?_
          exact hw.elim
      have hw := hw.2
      by_cases c_33_12 : ((xs b3_18.toNatClampNeg) &&& 63) = 12
      · have hw := hw.1 c_33_12
        refine lv_tableIn (tgt := 664) hx hb dL_law_33 (by rw [c_33_12]; decide) (by rw [c_33_12]; decide) (by rw [c_33_12]; rfl) (by decide) ?_
        refine lv_aload_n hx hb dL_law_664 rfl (lv_at hl 1 rfl) ?_
        refine lv_aload_n hx hb dL_law_665 rfl (lv_at hl 0 rfl) ?_
        refine lv_iload_n hx hb dL_law_666 rfl (lv_at hl 3 rfl) ?_
        refine lv_iconst (v := 1) hx hb dL_law_667 (by decide) ?_
        refine lv_iadd hx hb dL_law_668 ?_
        obtain ⟨i_669, hw⟩ := hw
        refine va_sld hx hb C0.2.2.2.2.2.2.1 C0.2.2.2.2.2.2.2.1 (Nat.not_le.mpr C0.2.2.2.2.2.2.2.1) G.2.2.2.2 i_669 dL_law_669 ?_
        refine lv_aload_n hx hb dL_law_670 rfl (lv_at hl 0 rfl) ?_
        refine lv_iload_n hx hb dL_law_671 rfl (lv_at hl 3 rfl) ?_
        refine lv_iconst (v := 2) hx hb dL_law_672 (by decide) ?_
        refine lv_iadd hx hb dL_law_673 ?_
        obtain ⟨i_674, hw⟩ := hw
        refine va_sld hx hb C0.2.2.2.2.2.2.1 C0.2.2.2.2.2.2.2.1 (Nat.not_le.mpr C0.2.2.2.2.2.2.2.1) G.2.2.2.2 i_674 dL_law_674 ?_
        refine l_Xi S hl.1 G (c_X_at l D q (aX bX) (fun i => bX + i) (xs (b3_18 + 1).toNatClampNeg) (xs (b3_18 + 2).toNatClampNeg) g_18 _ hw) (cw_L_70 S.2.2.2.2 ⟨Nat.le_of_ble_eq_true rfl, Nat.le_of_ble_eq_true rfl⟩) rfl rfl (Nat.le_of_ble_eq_true rfl) dL_law_675 ⟨Nat.le_of_ble_eq_true rfl, Nat.le_of_ble_eq_true rfl⟩ (fun r_675 h_675 H locs G hw => ?_)
        refine lv_aload_n hx hb dL_law_678 rfl (lv_at hl 2 rfl) ?_
        refine lv_aload_n hx hb dL_law_679 rfl (lv_at hl 0 rfl) ?_
        refine lv_iload_n hx hb dL_law_680 rfl (lv_at hl 3 rfl) ?_
        refine lv_iconst (v := 1) hx hb dL_law_681 (by decide) ?_
        refine lv_iadd hx hb dL_law_682 ?_
        obtain ⟨i_683, hw⟩ := hw
        refine va_sld hx hb C0.2.2.2.2.2.2.1 C0.2.2.2.2.2.2.2.1 (Nat.not_le.mpr C0.2.2.2.2.2.2.2.1) G.2.2.2.2 i_683 dL_law_683 ?_
        refine lv_aload_n hx hb dL_law_684 rfl (lv_at hl 0 rfl) ?_
        refine lv_iload_n hx hb dL_law_685 rfl (lv_at hl 3 rfl) ?_
        refine lv_iconst (v := 2) hx hb dL_law_686 (by decide) ?_
        refine lv_iadd hx hb dL_law_687 ?_
        obtain ⟨i_688, hw⟩ := hw
        refine va_sld hx hb C0.2.2.2.2.2.2.1 C0.2.2.2.2.2.2.2.1 (Nat.not_le.mpr C0.2.2.2.2.2.2.2.1) G.2.2.2.2 i_688 dL_law_688 ?_
        refine l_Mi S hl.1 G (c_M_at l D q (aM bX) (fun i => bX + 504 + i) (xs (b3_18 + 1).toNatClampNeg) (xs (b3_18 + 2).toNatClampNeg) f_18 _ hw) (cw_L_73 S.2.2.2.2 ⟨Nat.le_of_ble_eq_true rfl, Nat.le_of_ble_eq_true rfl⟩) rfl rfl (Nat.le_of_ble_eq_true rfl) dL_law_689 ⟨Nat.le_of_ble_eq_true rfl, Nat.le_of_ble_eq_true rfl⟩ (fun r_689 g_689 H locs G hw => ?_)
        refine lv_icmp_eq (tgt := 1473) hx hb dL_law_692 (by decide) (fun c_692 => ?_) (fun c_692 => ?_)
        · have hw := hw.1 c_692
          exact hw _ _ _ (lv_sub hl [0, 1, 2, 3] rfl) G
        · have hw := hw.2 c_692
          refine lv_iconst (v := 0) hx hb dL_law_695 (by decide) ?_
          exact hw.elim
      have hw := hw.2
      by_cases c_33_13 : ((xs b3_18.toNatClampNeg) &&& 63) = 13
      · have hw := hw.1 c_33_13
        refine lv_tableIn (tgt := 697) hx hb dL_law_33 (by rw [c_33_13]; decide) (by rw [c_33_13]; decide) (by rw [c_33_13]; rfl) (by decide) ?_
        refine lv_aload_n hx hb dL_law_697 rfl (lv_at hl 1 rfl) ?_
        refine lv_aload_n hx hb dL_law_698 rfl (lv_at hl 0 rfl) ?_
        refine lv_iload_n hx hb dL_law_699 rfl (lv_at hl 3 rfl) ?_
        refine lv_iconst (v := 1) hx hb dL_law_700 (by decide) ?_
        refine lv_iadd hx hb dL_law_701 ?_
        obtain ⟨i_702, hw⟩ := hw
        refine va_sld hx hb C0.2.2.2.2.2.2.1 C0.2.2.2.2.2.2.2.1 (Nat.not_le.mpr C0.2.2.2.2.2.2.2.1) G.2.2.2.2 i_702 dL_law_702 ?_
        refine lv_aload_n hx hb dL_law_703 rfl (lv_at hl 0 rfl) ?_
        refine lv_iload_n hx hb dL_law_704 rfl (lv_at hl 3 rfl) ?_
        refine lv_iconst (v := 2) hx hb dL_law_705 (by decide) ?_
        refine lv_iadd hx hb dL_law_706 ?_
        obtain ⟨i_707, hw⟩ := hw
        refine va_sld hx hb C0.2.2.2.2.2.2.1 C0.2.2.2.2.2.2.2.1 (Nat.not_le.mpr C0.2.2.2.2.2.2.2.1) G.2.2.2.2 i_707 dL_law_707 ?_
        refine lv_aload_n hx hb dL_law_708 rfl (lv_at hl 0 rfl) ?_
        refine lv_iload_n hx hb dL_law_709 rfl (lv_at hl 3 rfl) ?_
        refine lv_iconst (v := 3) hx hb dL_law_710 (by decide) ?_
        refine lv_iadd hx hb dL_law_711 ?_
        obtain ⟨i_712, hw⟩ := hw
        refine va_sld hx hb C0.2.2.2.2.2.2.1 C0.2.2.2.2.2.2.2.1 (Nat.not_le.mpr C0.2.2.2.2.2.2.2.1) G.2.2.2.2 i_712 dL_law_712 ?_
        refine l_Xi S hl.1 G (c_X_must l D q (aX bX) (fun i => bX + i) (xs (b3_18 + 1).toNatClampNeg) (xs (b3_18 + 2).toNatClampNeg) (xs (b3_18 + 3).toNatClampNeg) g_18 _ hw) (cw_L_74 S.2.2.2.2 ⟨Nat.le_of_ble_eq_true rfl, Nat.le_of_ble_eq_true rfl⟩) rfl rfl (Nat.le_of_ble_eq_true rfl) dL_law_713 ⟨Nat.le_of_ble_eq_true rfl, Nat.le_of_ble_eq_true rfl⟩ (fun r_713 h_713 H locs G hw => ?_)
        refine lv_aload_n hx hb dL_law_716 rfl (lv_at hl 2 rfl) ?_
        refine lv_aload_n hx hb dL_law_717 rfl (lv_at hl 0 rfl) ?_
        refine lv_iload_n hx hb dL_law_718 rfl (lv_at hl 3 rfl) ?_
        refine lv_iconst (v := 1) hx hb dL_law_719 (by decide) ?_
        refine lv_iadd hx hb dL_law_720 ?_
        obtain ⟨i_721, hw⟩ := hw
        refine va_sld hx hb C0.2.2.2.2.2.2.1 C0.2.2.2.2.2.2.2.1 (Nat.not_le.mpr C0.2.2.2.2.2.2.2.1) G.2.2.2.2 i_721 dL_law_721 ?_
        refine lv_aload_n hx hb dL_law_722 rfl (lv_at hl 0 rfl) ?_
        refine lv_iload_n hx hb dL_law_723 rfl (lv_at hl 3 rfl) ?_
        refine lv_iconst (v := 2) hx hb dL_law_724 (by decide) ?_
        refine lv_iadd hx hb dL_law_725 ?_
        obtain ⟨i_726, hw⟩ := hw
        refine va_sld hx hb C0.2.2.2.2.2.2.1 C0.2.2.2.2.2.2.2.1 (Nat.not_le.mpr C0.2.2.2.2.2.2.2.1) G.2.2.2.2 i_726 dL_law_726 ?_
        refine lv_aload_n hx hb dL_law_727 rfl (lv_at hl 0 rfl) ?_
        refine lv_iload_n hx hb dL_law_728 rfl (lv_at hl 3 rfl) ?_
        refine lv_iconst (v := 3) hx hb dL_law_729 (by decide) ?_
        refine lv_iadd hx hb dL_law_730 ?_
        obtain ⟨i_731, hw⟩ := hw
        refine va_sld hx hb C0.2.2.2.2.2.2.1 C0.2.2.2.2.2.2.2.1 (Nat.not_le.mpr C0.2.2.2.2.2.2.2.1) G.2.2.2.2 i_731 dL_law_731 ?_
        refine l_Mi S hl.1 G (c_M_must l D q (aM bX) (fun i => bX + 504 + i) (xs (b3_18 + 1).toNatClampNeg) (xs (b3_18 + 2).toNatClampNeg) (xs (b3_18 + 3).toNatClampNeg) f_18 _ hw) (cw_L_77 S.2.2.2.2 ⟨Nat.le_of_ble_eq_true rfl, Nat.le_of_ble_eq_true rfl⟩) rfl rfl (Nat.le_of_ble_eq_true rfl) dL_law_732 ⟨Nat.le_of_ble_eq_true rfl, Nat.le_of_ble_eq_true rfl⟩ (fun r_732 g_732 H locs G hw => ?_)
        refine lv_icmp_eq (tgt := 1473) hx hb dL_law_735 (by decide) (fun c_735 => ?_) (fun c_735 => ?_)
        · have hw := hw.1 c_735
          exact hw _ _ _ (lv_sub hl [0, 1, 2, 3] rfl) G
        · have hw := hw.2 c_735
          refine lv_iconst (v := 0) hx hb dL_law_738 (by decide) ?_
          exact hw.elim
      have hw := hw.2
      by_cases c_33_14 : ((xs b3_18.toNatClampNeg) &&& 63) = 14
      · have hw := hw.1 c_33_14
        refine lv_tableIn (tgt := 740) hx hb dL_law_33 (by rw [c_33_14]; decide) (by rw [c_33_14]; decide) (by rw [c_33_14]; rfl) (by decide) ?_
        refine lv_aload_n hx hb dL_law_740 rfl (lv_at hl 1 rfl) ?_
        refine lv_aload_n hx hb dL_law_741 rfl (lv_at hl 0 rfl) ?_
        refine lv_iload_n hx hb dL_law_742 rfl (lv_at hl 3 rfl) ?_
        refine lv_iconst (v := 1) hx hb dL_law_743 (by decide) ?_
        refine lv_iadd hx hb dL_law_744 ?_
        obtain ⟨i_745, hw⟩ := hw
        refine va_sld hx hb C0.2.2.2.2.2.2.1 C0.2.2.2.2.2.2.2.1 (Nat.not_le.mpr C0.2.2.2.2.2.2.2.1) G.2.2.2.2 i_745 dL_law_745 ?_
        refine l_Xi S hl.1 G (c_X_hunger l D q (aX bX) (fun i => bX + i) (xs (b3_18 + 1).toNatClampNeg) g_18 _ hw) (cw_L_78 S.2.2.2.2 ⟨Nat.le_of_ble_eq_true rfl, Nat.le_of_ble_eq_true rfl⟩) rfl rfl (Nat.le_of_ble_eq_true rfl) dL_law_746 ⟨Nat.le_of_ble_eq_true rfl, Nat.le_of_ble_eq_true rfl⟩ (fun r_746 h_746 H locs G hw => ?_)
        refine lv_aload_n hx hb dL_law_749 rfl (lv_at hl 2 rfl) ?_
        refine lv_aload_n hx hb dL_law_750 rfl (lv_at hl 0 rfl) ?_
        refine lv_iload_n hx hb dL_law_751 rfl (lv_at hl 3 rfl) ?_
        refine lv_iconst (v := 1) hx hb dL_law_752 (by decide) ?_
        refine lv_iadd hx hb dL_law_753 ?_
        obtain ⟨i_754, hw⟩ := hw
        refine va_sld hx hb C0.2.2.2.2.2.2.1 C0.2.2.2.2.2.2.2.1 (Nat.not_le.mpr C0.2.2.2.2.2.2.2.1) G.2.2.2.2 i_754 dL_law_754 ?_
        refine l_Mi S hl.1 G (c_M_hunger l D q (aM bX) (fun i => bX + 504 + i) (xs (b3_18 + 1).toNatClampNeg) f_18 _ hw) (cw_L_81 S.2.2.2.2 ⟨Nat.le_of_ble_eq_true rfl, Nat.le_of_ble_eq_true rfl⟩) rfl rfl (Nat.le_of_ble_eq_true rfl) dL_law_755 ⟨Nat.le_of_ble_eq_true rfl, Nat.le_of_ble_eq_true rfl⟩ (fun r_755 g_755 H locs G hw => ?_)
        refine lv_icmp_eq (tgt := 1473) hx hb dL_law_758 (by decide) (fun c_758 => ?_) (fun c_758 => ?_)
        · have hw := hw.1 c_758
          exact hw _ _ _ (lv_sub hl [0, 1, 2, 3] rfl) G
        · have hw := hw.2 c_758
          refine lv_iconst (v := 0) hx hb dL_law_761 (by decide) ?_
          exact hw.elim
      have hw := hw.2
      by_cases c_33_15 : ((xs b3_18.toNatClampNeg) &&& 63) = 15
      · have hw := hw.1 c_33_15
        refine lv_tableIn (tgt := 763) hx hb dL_law_33 (by rw [c_33_15]; decide) (by rw [c_33_15]; decide) (by rw [c_33_15]; rfl) (by decide) ?_
        refine lv_aload_n hx hb dL_law_763 rfl (lv_at hl 1 rfl) ?_
        refine lv_aload_n hx hb dL_law_764 rfl (lv_at hl 0 rfl) ?_
        refine lv_iload_n hx hb dL_law_765 rfl (lv_at hl 3 rfl) ?_
        refine lv_iconst (v := 1) hx hb dL_law_766 (by decide) ?_
        refine lv_iadd hx hb dL_law_767 ?_
        obtain ⟨i_768, hw⟩ := hw
        refine va_sld hx hb C0.2.2.2.2.2.2.1 C0.2.2.2.2.2.2.2.1 (Nat.not_le.mpr C0.2.2.2.2.2.2.2.1) G.2.2.2.2 i_768 dL_law_768 ?_
        refine lv_aload_n hx hb dL_law_769 rfl (lv_at hl 0 rfl) ?_
        refine lv_iload_n hx hb dL_law_770 rfl (lv_at hl 3 rfl) ?_
        refine lv_iconst (v := 2) hx hb dL_law_771 (by decide) ?_
        refine lv_iadd hx hb dL_law_772 ?_
        obtain ⟨i_773, hw⟩ := hw
        refine va_sld hx hb C0.2.2.2.2.2.2.1 C0.2.2.2.2.2.2.2.1 (Nat.not_le.mpr C0.2.2.2.2.2.2.2.1) G.2.2.2.2 i_773 dL_law_773 ?_
        refine l_Xi S hl.1 G (c_X_odds l D q (aX bX) (fun i => bX + i) (xs (b3_18 + 1).toNatClampNeg) (xs (b3_18 + 2).toNatClampNeg) g_18 _ hw) (cw_L_82 S.2.2.2.2 ⟨Nat.le_of_ble_eq_true rfl, Nat.le_of_ble_eq_true rfl⟩) rfl rfl (Nat.le_of_ble_eq_true rfl) dL_law_774 ⟨Nat.le_of_ble_eq_true rfl, Nat.le_of_ble_eq_true rfl⟩ (fun r_774 h_774 H locs G hw => ?_)
        refine lv_aload_n hx hb dL_law_777 rfl (lv_at hl 2 rfl) ?_
        refine lv_aload_n hx hb dL_law_778 rfl (lv_at hl 0 rfl) ?_
        refine lv_iload_n hx hb dL_law_779 rfl (lv_at hl 3 rfl) ?_
        refine lv_iconst (v := 1) hx hb dL_law_780 (by decide) ?_
        refine lv_iadd hx hb dL_law_781 ?_
        obtain ⟨i_782, hw⟩ := hw
        refine va_sld hx hb C0.2.2.2.2.2.2.1 C0.2.2.2.2.2.2.2.1 (Nat.not_le.mpr C0.2.2.2.2.2.2.2.1) G.2.2.2.2 i_782 dL_law_782 ?_
        refine lv_aload_n hx hb dL_law_783 rfl (lv_at hl 0 rfl) ?_
        refine lv_iload_n hx hb dL_law_784 rfl (lv_at hl 3 rfl) ?_
        refine lv_iconst (v := 2) hx hb dL_law_785 (by decide) ?_
        refine lv_iadd hx hb dL_law_786 ?_
        obtain ⟨i_787, hw⟩ := hw
        refine va_sld hx hb C0.2.2.2.2.2.2.1 C0.2.2.2.2.2.2.2.1 (Nat.not_le.mpr C0.2.2.2.2.2.2.2.1) G.2.2.2.2 i_787 dL_law_787 ?_
        refine l_Mi S hl.1 G (c_M_odds l D q (aM bX) (fun i => bX + 504 + i) (xs (b3_18 + 1).toNatClampNeg) (xs (b3_18 + 2).toNatClampNeg) f_18 _ hw) (cw_L_85 S.2.2.2.2 ⟨Nat.le_of_ble_eq_true rfl, Nat.le_of_ble_eq_true rfl⟩) rfl rfl (Nat.le_of_ble_eq_true rfl) dL_law_788 ⟨Nat.le_of_ble_eq_true rfl, Nat.le_of_ble_eq_true rfl⟩ (fun r_788 g_788 H locs G hw => ?_)
        refine lv_icmp_eq (tgt := 1473) hx hb dL_law_791 (by decide) (fun c_791 => ?_) (fun c_791 => ?_)
        · have hw := hw.1 c_791
          exact hw _ _ _ (lv_sub hl [0, 1, 2, 3] rfl) G
        · have hw := hw.2 c_791
          refine lv_iconst (v := 0) hx hb dL_law_794 (by decide) ?_
          exact hw.elim
      have hw := hw.2
      by_cases c_33_16 : ((xs b3_18.toNatClampNeg) &&& 63) = 16
      · have hw := hw.1 c_33_16
        refine lv_tableIn (tgt := 796) hx hb dL_law_33 (by rw [c_33_16]; decide) (by rw [c_33_16]; decide) (by rw [c_33_16]; rfl) (by decide) ?_
        refine lv_aload_n hx hb dL_law_796 rfl (lv_at hl 1 rfl) ?_
        refine lv_aload_n hx hb dL_law_797 rfl (lv_at hl 0 rfl) ?_
        refine lv_iload_n hx hb dL_law_798 rfl (lv_at hl 3 rfl) ?_
        refine lv_iconst (v := 1) hx hb dL_law_799 (by decide) ?_
        refine lv_iadd hx hb dL_law_800 ?_
        obtain ⟨i_801, hw⟩ := hw
        refine va_sld hx hb C0.2.2.2.2.2.2.1 C0.2.2.2.2.2.2.2.1 (Nat.not_le.mpr C0.2.2.2.2.2.2.2.1) G.2.2.2.2 i_801 dL_law_801 ?_
        refine l_Xi S hl.1 G (c_X_all l D q (aX bX) (fun i => bX + i) (xs (b3_18 + 1).toNatClampNeg) g_18 _ hw) (cw_L_86 S.2.2.2.2 ⟨Nat.le_of_ble_eq_true rfl, Nat.le_of_ble_eq_true rfl⟩) rfl rfl (Nat.le_of_ble_eq_true rfl) dL_law_802 ⟨Nat.le_of_ble_eq_true rfl, Nat.le_of_ble_eq_true rfl⟩ (fun r_802 h_802 H locs G hw => ?_)
        refine lv_aload_n hx hb dL_law_805 rfl (lv_at hl 2 rfl) ?_
        refine lv_aload_n hx hb dL_law_806 rfl (lv_at hl 0 rfl) ?_
        refine lv_iload_n hx hb dL_law_807 rfl (lv_at hl 3 rfl) ?_
        refine lv_iconst (v := 1) hx hb dL_law_808 (by decide) ?_
        refine lv_iadd hx hb dL_law_809 ?_
        obtain ⟨i_810, hw⟩ := hw
        refine va_sld hx hb C0.2.2.2.2.2.2.1 C0.2.2.2.2.2.2.2.1 (Nat.not_le.mpr C0.2.2.2.2.2.2.2.1) G.2.2.2.2 i_810 dL_law_810 ?_
        refine l_Mi S hl.1 G (c_M_all l D q (aM bX) (fun i => bX + 504 + i) (xs (b3_18 + 1).toNatClampNeg) f_18 _ hw) (cw_L_89 S.2.2.2.2 ⟨Nat.le_of_ble_eq_true rfl, Nat.le_of_ble_eq_true rfl⟩) rfl rfl (Nat.le_of_ble_eq_true rfl) dL_law_811 ⟨Nat.le_of_ble_eq_true rfl, Nat.le_of_ble_eq_true rfl⟩ (fun r_811 g_811 H locs G hw => ?_)
        refine lv_icmp_eq (tgt := 1473) hx hb dL_law_814 (by decide) (fun c_814 => ?_) (fun c_814 => ?_)
        · have hw := hw.1 c_814
          exact hw _ _ _ (lv_sub hl [0, 1, 2, 3] rfl) G
        · have hw := hw.2 c_814
          refine lv_iconst (v := 0) hx hb dL_law_817 (by decide) ?_
          exact hw.elim
      have hw := hw.2
      by_cases c_33_17 : ((xs b3_18.toNatClampNeg) &&& 63) = 17
      · have hw := hw.1 c_33_17
        refine lv_tableIn (tgt := 819) hx hb dL_law_33 (by rw [c_33_17]; decide) (by rw [c_33_17]; decide) (by rw [c_33_17]; rfl) (by decide) ?_
        refine lv_aload_n hx hb dL_law_819 rfl (lv_at hl 1 rfl) ?_
        refine lv_aload_n hx hb dL_law_820 rfl (lv_at hl 0 rfl) ?_
        refine lv_iload_n hx hb dL_law_821 rfl (lv_at hl 3 rfl) ?_
        refine lv_iconst (v := 1) hx hb dL_law_822 (by decide) ?_
        refine lv_iadd hx hb dL_law_823 ?_
        obtain ⟨i_824, hw⟩ := hw
        refine va_sld hx hb C0.2.2.2.2.2.2.1 C0.2.2.2.2.2.2.2.1 (Nat.not_le.mpr C0.2.2.2.2.2.2.2.1) G.2.2.2.2 i_824 dL_law_824 ?_
        refine lv_aload_n hx hb dL_law_825 rfl (lv_at hl 0 rfl) ?_
        refine lv_iload_n hx hb dL_law_826 rfl (lv_at hl 3 rfl) ?_
        refine lv_iconst (v := 2) hx hb dL_law_827 (by decide) ?_
        refine lv_iadd hx hb dL_law_828 ?_
        obtain ⟨i_829, hw⟩ := hw
        refine va_sld hx hb C0.2.2.2.2.2.2.1 C0.2.2.2.2.2.2.2.1 (Nat.not_le.mpr C0.2.2.2.2.2.2.2.1) G.2.2.2.2 i_829 dL_law_829 ?_
        refine lv_aload_n hx hb dL_law_830 rfl (lv_at hl 0 rfl) ?_
        refine lv_iload_n hx hb dL_law_831 rfl (lv_at hl 3 rfl) ?_
        refine lv_iconst (v := 3) hx hb dL_law_832 (by decide) ?_
        refine lv_iadd hx hb dL_law_833 ?_
        obtain ⟨i_834, hw⟩ := hw
        refine va_sld hx hb C0.2.2.2.2.2.2.1 C0.2.2.2.2.2.2.2.1 (Nat.not_le.mpr C0.2.2.2.2.2.2.2.1) G.2.2.2.2 i_834 dL_law_834 ?_
        refine l_Xi S hl.1 G (c_X_where l D q (aX bX) (fun i => bX + i) (xs (b3_18 + 1).toNatClampNeg) (xs (b3_18 + 2).toNatClampNeg) (xs (b3_18 + 3).toNatClampNeg) g_18 _ hw) (cw_L_90 S.2.2.2.2 ⟨Nat.le_of_ble_eq_true rfl, Nat.le_of_ble_eq_true rfl⟩) rfl rfl (Nat.le_of_ble_eq_true rfl) dL_law_835 ⟨Nat.le_of_ble_eq_true rfl, Nat.le_of_ble_eq_true rfl⟩ (fun r_835 h_835 H locs G hw => ?_)
        refine lv_aload_n hx hb dL_law_838 rfl (lv_at hl 2 rfl) ?_
        refine lv_aload_n hx hb dL_law_839 rfl (lv_at hl 0 rfl) ?_
        refine lv_iload_n hx hb dL_law_840 rfl (lv_at hl 3 rfl) ?_
        refine lv_iconst (v := 1) hx hb dL_law_841 (by decide) ?_
        refine lv_iadd hx hb dL_law_842 ?_
        obtain ⟨i_843, hw⟩ := hw
        refine va_sld hx hb C0.2.2.2.2.2.2.1 C0.2.2.2.2.2.2.2.1 (Nat.not_le.mpr C0.2.2.2.2.2.2.2.1) G.2.2.2.2 i_843 dL_law_843 ?_
        refine lv_aload_n hx hb dL_law_844 rfl (lv_at hl 0 rfl) ?_
        refine lv_iload_n hx hb dL_law_845 rfl (lv_at hl 3 rfl) ?_
        refine lv_iconst (v := 2) hx hb dL_law_846 (by decide) ?_
        refine lv_iadd hx hb dL_law_847 ?_
        obtain ⟨i_848, hw⟩ := hw
        refine va_sld hx hb C0.2.2.2.2.2.2.1 C0.2.2.2.2.2.2.2.1 (Nat.not_le.mpr C0.2.2.2.2.2.2.2.1) G.2.2.2.2 i_848 dL_law_848 ?_
        refine lv_aload_n hx hb dL_law_849 rfl (lv_at hl 0 rfl) ?_
        refine lv_iload_n hx hb dL_law_850 rfl (lv_at hl 3 rfl) ?_
        refine lv_iconst (v := 3) hx hb dL_law_851 (by decide) ?_
        refine lv_iadd hx hb dL_law_852 ?_
        obtain ⟨i_853, hw⟩ := hw
        refine va_sld hx hb C0.2.2.2.2.2.2.1 C0.2.2.2.2.2.2.2.1 (Nat.not_le.mpr C0.2.2.2.2.2.2.2.1) G.2.2.2.2 i_853 dL_law_853 ?_
        refine l_Mi S hl.1 G (c_M_where l D q (aM bX) (fun i => bX + 504 + i) (xs (b3_18 + 1).toNatClampNeg) (xs (b3_18 + 2).toNatClampNeg) (xs (b3_18 + 3).toNatClampNeg) f_18 _ hw) (cw_L_93 S.2.2.2.2 ⟨Nat.le_of_ble_eq_true rfl, Nat.le_of_ble_eq_true rfl⟩) rfl rfl (Nat.le_of_ble_eq_true rfl) dL_law_854 ⟨Nat.le_of_ble_eq_true rfl, Nat.le_of_ble_eq_true rfl⟩ (fun r_854 g_854 H locs G hw => ?_)
        refine lv_icmp_eq (tgt := 1473) hx hb dL_law_857 (by decide) (fun c_857 => ?_) (fun c_857 => ?_)
        · have hw := hw.1 c_857
          exact hw _ _ _ (lv_sub hl [0, 1, 2, 3] rfl) G
        · have hw := hw.2 c_857
          refine lv_iconst (v := 0) hx hb dL_law_860 (by decide) ?_
          exact hw.elim
      have hw := hw.2
      by_cases c_33_18 : ((xs b3_18.toNatClampNeg) &&& 63) = 18
      · have hw := hw.1 c_33_18
        refine lv_tableIn (tgt := 862) hx hb dL_law_33 (by rw [c_33_18]; decide) (by rw [c_33_18]; decide) (by rw [c_33_18]; rfl) (by decide) ?_
        refine lv_aload_n hx hb dL_law_862 rfl (lv_at hl 1 rfl) ?_
        refine lv_aload_n hx hb dL_law_863 rfl (lv_at hl 0 rfl) ?_
        refine lv_iload_n hx hb dL_law_864 rfl (lv_at hl 3 rfl) ?_
        refine lv_iconst (v := 1) hx hb dL_law_865 (by decide) ?_
        refine lv_iadd hx hb dL_law_866 ?_
        obtain ⟨i_867, hw⟩ := hw
        refine va_sld hx hb C0.2.2.2.2.2.2.1 C0.2.2.2.2.2.2.2.1 (Nat.not_le.mpr C0.2.2.2.2.2.2.2.1) G.2.2.2.2 i_867 dL_law_867 ?_
        refine l_Xi S hl.1 G (c_X_so l D q (aX bX) (fun i => bX + i) (xs (b3_18 + 1).toNatClampNeg) g_18 _ hw) (cw_L_94 S.2.2.2.2 ⟨Nat.le_of_ble_eq_true rfl, Nat.le_of_ble_eq_true rfl⟩) rfl rfl (Nat.le_of_ble_eq_true rfl) dL_law_868 ⟨Nat.le_of_ble_eq_true rfl, Nat.le_of_ble_eq_true rfl⟩ (fun r_868 h_868 H locs G hw => ?_)
        refine lv_aload_n hx hb dL_law_871 rfl (lv_at hl 2 rfl) ?_
        refine lv_aload_n hx hb dL_law_872 rfl (lv_at hl 0 rfl) ?_
        refine lv_iload_n hx hb dL_law_873 rfl (lv_at hl 3 rfl) ?_
        refine lv_iconst (v := 1) hx hb dL_law_874 (by decide) ?_
        refine lv_iadd hx hb dL_law_875 ?_
        obtain ⟨i_876, hw⟩ := hw
        refine va_sld hx hb C0.2.2.2.2.2.2.1 C0.2.2.2.2.2.2.2.1 (Nat.not_le.mpr C0.2.2.2.2.2.2.2.1) G.2.2.2.2 i_876 dL_law_876 ?_
        refine l_Mi S hl.1 G (c_M_so l D q (aM bX) (fun i => bX + 504 + i) (xs (b3_18 + 1).toNatClampNeg) f_18 _ hw) (cw_L_97 S.2.2.2.2 ⟨Nat.le_of_ble_eq_true rfl, Nat.le_of_ble_eq_true rfl⟩) rfl rfl (Nat.le_of_ble_eq_true rfl) dL_law_877 ⟨Nat.le_of_ble_eq_true rfl, Nat.le_of_ble_eq_true rfl⟩ (fun r_877 g_877 H locs G hw => ?_)
        refine lv_icmp_eq (tgt := 1473) hx hb dL_law_880 (by decide) (fun c_880 => ?_) (fun c_880 => ?_)
        · have hw := hw.1 c_880
          exact hw _ _ _ (lv_sub hl [0, 1, 2, 3] rfl) G
        · have hw := hw.2 c_880
          refine lv_iconst (v := 0) hx hb dL_law_883 (by decide) ?_
          exact hw.elim
      have hw := hw.2
      by_cases c_33_19 : ((xs b3_18.toNatClampNeg) &&& 63) = 19
      · have hw := hw.1 c_33_19
        refine lv_tableIn (tgt := 885) hx hb dL_law_33 (by rw [c_33_19]; decide) (by rw [c_33_19]; decide) (by rw [c_33_19]; rfl) (by decide) ?_
        refine lv_aload_n hx hb dL_law_885 rfl (lv_at hl 1 rfl) ?_
        refine lv_aload_n hx hb dL_law_886 rfl (lv_at hl 0 rfl) ?_
        refine lv_iload_n hx hb dL_law_887 rfl (lv_at hl 3 rfl) ?_
        refine lv_iconst (v := 1) hx hb dL_law_888 (by decide) ?_
        refine lv_iadd hx hb dL_law_889 ?_
        obtain ⟨i_890, hw⟩ := hw
        refine va_sld hx hb C0.2.2.2.2.2.2.1 C0.2.2.2.2.2.2.2.1 (Nat.not_le.mpr C0.2.2.2.2.2.2.2.1) G.2.2.2.2 i_890 dL_law_890 ?_
        refine l_Xi S hl.1 G (c_X_lost l D q (aX bX) (fun i => bX + i) (xs (b3_18 + 1).toNatClampNeg) g_18 _ hw) (cw_L_98 S.2.2.2.2 ⟨Nat.le_of_ble_eq_true rfl, Nat.le_of_ble_eq_true rfl⟩) rfl rfl (Nat.le_of_ble_eq_true rfl) dL_law_891 ⟨Nat.le_of_ble_eq_true rfl, Nat.le_of_ble_eq_true rfl⟩ (fun r_891 h_891 H locs G hw => ?_)
        refine lv_aload_n hx hb dL_law_894 rfl (lv_at hl 2 rfl) ?_
        refine lv_aload_n hx hb dL_law_895 rfl (lv_at hl 0 rfl) ?_
        refine lv_iload_n hx hb dL_law_896 rfl (lv_at hl 3 rfl) ?_
        refine lv_iconst (v := 1) hx hb dL_law_897 (by decide) ?_
        refine lv_iadd hx hb dL_law_898 ?_
        obtain ⟨i_899, hw⟩ := hw
        refine va_sld hx hb C0.2.2.2.2.2.2.1 C0.2.2.2.2.2.2.2.1 (Nat.not_le.mpr C0.2.2.2.2.2.2.2.1) G.2.2.2.2 i_899 dL_law_899 ?_
        refine l_Mi S hl.1 G (c_M_lost l D q (aM bX) (fun i => bX + 504 + i) (xs (b3_18 + 1).toNatClampNeg) f_18 _ hw) (cw_L_101 S.2.2.2.2 ⟨Nat.le_of_ble_eq_true rfl, Nat.le_of_ble_eq_true rfl⟩) rfl rfl (Nat.le_of_ble_eq_true rfl) dL_law_900 ⟨Nat.le_of_ble_eq_true rfl, Nat.le_of_ble_eq_true rfl⟩ (fun r_900 g_900 H locs G hw => ?_)
        refine lv_icmp_eq (tgt := 1473) hx hb dL_law_903 (by decide) (fun c_903 => ?_) (fun c_903 => ?_)
        · have hw := hw.1 c_903
          exact hw _ _ _ (lv_sub hl [0, 1, 2, 3] rfl) G
        · have hw := hw.2 c_903
          refine lv_iconst (v := 0) hx hb dL_law_906 (by decide) ?_
          exact hw.elim
      have hw := hw.2
      by_cases c_33_20 : ((xs b3_18.toNatClampNeg) &&& 63) = 20
      · have hw := hw.1 c_33_20
        refine lv_tableIn (tgt := 908) hx hb dL_law_33 (by rw [c_33_20]; decide) (by rw [c_33_20]; decide) (by rw [c_33_20]; rfl) (by decide) ?_
        refine lv_aload_n hx hb dL_law_908 rfl (lv_at hl 1 rfl) ?_
        refine l_Xi S hl.1 G (c_X_next l D q (aX bX) (fun i => bX + i) g_18 _ hw) (cw_L_102 S.2.2.2.2 ⟨Nat.le_of_ble_eq_true rfl, Nat.le_of_ble_eq_true rfl⟩) rfl rfl (Nat.le_of_ble_eq_true rfl) dL_law_909 ⟨Nat.le_of_ble_eq_true rfl, Nat.le_of_ble_eq_true rfl⟩ (fun r_909 h_909 H locs G hw => ?_)
        refine lv_aload_n hx hb dL_law_912 rfl (lv_at hl 2 rfl) ?_
        refine l_Mi S hl.1 G (c_M_next l D q (aM bX) (fun i => bX + 504 + i) f_18 _ hw) (cw_L_106 S.2.2.2.2 ⟨Nat.le_of_ble_eq_true rfl, Nat.le_of_ble_eq_true rfl⟩) rfl rfl (Nat.le_of_ble_eq_true rfl) dL_law_913 ⟨Nat.le_of_ble_eq_true rfl, Nat.le_of_ble_eq_true rfl⟩ (fun r_913 g_913 H locs G hw => ?_)
        refine lv_icmp_eq (tgt := 1473) hx hb dL_law_916 (by decide) (fun c_916 => ?_) (fun c_916 => ?_)
        · have hw := hw.1 c_916
          exact hw _ _ _ (lv_sub hl [0, 1, 2, 3] rfl) G
        · have hw := hw.2 c_916
          refine lv_iconst (v := 0) hx hb dL_law_919 (by decide) ?_
          exact hw.elim
      have hw := hw.2
      by_cases c_33_21 : ((xs b3_18.toNatClampNeg) &&& 63) = 21
      · have hw := hw.1 c_33_21
        refine lv_tableIn (tgt := 921) hx hb dL_law_33 (by rw [c_33_21]; decide) (by rw [c_33_21]; decide) (by rw [c_33_21]; rfl) (by decide) ?_
        refine lv_aload_n hx hb dL_law_921 rfl (lv_at hl 1 rfl) ?_
        refine lv_aload_n hx hb dL_law_922 rfl (lv_at hl 0 rfl) ?_
        refine lv_iload_n hx hb dL_law_923 rfl (lv_at hl 3 rfl) ?_
        refine lv_iconst (v := 1) hx hb dL_law_924 (by decide) ?_
        refine lv_iadd hx hb dL_law_925 ?_
        obtain ⟨i_926, hw⟩ := hw
        refine va_sld hx hb C0.2.2.2.2.2.2.1 C0.2.2.2.2.2.2.2.1 (Nat.not_le.mpr C0.2.2.2.2.2.2.2.1) G.2.2.2.2 i_926 dL_law_926 ?_
        refine lv_aload_n hx hb dL_law_927 rfl (lv_at hl 0 rfl) ?_
        refine lv_iload_n hx hb dL_law_928 rfl (lv_at hl 3 rfl) ?_
        refine lv_iconst (v := 2) hx hb dL_law_929 (by decide) ?_
        refine lv_iadd hx hb dL_law_930 ?_
        obtain ⟨i_931, hw⟩ := hw
        refine va_sld hx hb C0.2.2.2.2.2.2.1 C0.2.2.2.2.2.2.2.1 (Nat.not_le.mpr C0.2.2.2.2.2.2.2.1) G.2.2.2.2 i_931 dL_law_931 ?_
        refine l_Xi S hl.1 G (c_X_fed l D q (aX bX) (fun i => bX + i) (xs (b3_18 + 1).toNatClampNeg) (xs (b3_18 + 2).toNatClampNeg) g_18 _ hw) (cw_L_107 S.2.2.2.2 ⟨Nat.le_of_ble_eq_true rfl, Nat.le_of_ble_eq_true rfl⟩) rfl rfl (Nat.le_of_ble_eq_true rfl) dL_law_932 ⟨Nat.le_of_ble_eq_true rfl, Nat.le_of_ble_eq_true rfl⟩ (fun r_932 h_932 H locs G hw => ?_)
        refine lv_aload_n hx hb dL_law_935 rfl (lv_at hl 2 rfl) ?_
        refine lv_aload_n hx hb dL_law_936 rfl (lv_at hl 0 rfl) ?_
        refine lv_iload_n hx hb dL_law_937 rfl (lv_at hl 3 rfl) ?_
        refine lv_iconst (v := 1) hx hb dL_law_938 (by decide) ?_
        refine lv_iadd hx hb dL_law_939 ?_
        obtain ⟨i_940, hw⟩ := hw
        refine va_sld hx hb C0.2.2.2.2.2.2.1 C0.2.2.2.2.2.2.2.1 (Nat.not_le.mpr C0.2.2.2.2.2.2.2.1) G.2.2.2.2 i_940 dL_law_940 ?_
        refine lv_aload_n hx hb dL_law_941 rfl (lv_at hl 0 rfl) ?_
        refine lv_iload_n hx hb dL_law_942 rfl (lv_at hl 3 rfl) ?_
        refine lv_iconst (v := 2) hx hb dL_law_943 (by decide) ?_
        refine lv_iadd hx hb dL_law_944 ?_
        obtain ⟨i_945, hw⟩ := hw
        refine va_sld hx hb C0.2.2.2.2.2.2.1 C0.2.2.2.2.2.2.2.1 (Nat.not_le.mpr C0.2.2.2.2.2.2.2.1) G.2.2.2.2 i_945 dL_law_945 ?_
        refine l_Mi S hl.1 G (c_M_fed l D q (aM bX) (fun i => bX + 504 + i) (xs (b3_18 + 1).toNatClampNeg) (xs (b3_18 + 2).toNatClampNeg) f_18 _ hw) (cw_L_110 S.2.2.2.2 ⟨Nat.le_of_ble_eq_true rfl, Nat.le_of_ble_eq_true rfl⟩) rfl rfl (Nat.le_of_ble_eq_true rfl) dL_law_946 ⟨Nat.le_of_ble_eq_true rfl, Nat.le_of_ble_eq_true rfl⟩ (fun r_946 g_946 H locs G hw => ?_)
        refine lv_icmp_eq (tgt := 1473) hx hb dL_law_949 (by decide) (fun c_949 => ?_) (fun c_949 => ?_)
        · have hw := hw.1 c_949
          exact hw _ _ _ (lv_sub hl [0, 1, 2, 3] rfl) G
        · have hw := hw.2 c_949
          refine lv_iconst (v := 0) hx hb dL_law_952 (by decide) ?_
          exact hw.elim
      have hw := hw.2
      by_cases c_33_22 : ((xs b3_18.toNatClampNeg) &&& 63) = 22
      · have hw := hw.1 c_33_22
        refine lv_tableIn (tgt := 954) hx hb dL_law_33 (by rw [c_33_22]; decide) (by rw [c_33_22]; decide) (by rw [c_33_22]; rfl) (by decide) ?_
        refine lv_aload_n hx hb dL_law_954 rfl (lv_at hl 1 rfl) ?_
        refine lv_aload_n hx hb dL_law_955 rfl (lv_at hl 0 rfl) ?_
        refine lv_iload_n hx hb dL_law_956 rfl (lv_at hl 3 rfl) ?_
        refine lv_iconst (v := 1) hx hb dL_law_957 (by decide) ?_
        refine lv_iadd hx hb dL_law_958 ?_
        obtain ⟨i_959, hw⟩ := hw
        refine va_sld hx hb C0.2.2.2.2.2.2.1 C0.2.2.2.2.2.2.2.1 (Nat.not_le.mpr C0.2.2.2.2.2.2.2.1) G.2.2.2.2 i_959 dL_law_959 ?_
        refine lv_aload_n hx hb dL_law_960 rfl (lv_at hl 0 rfl) ?_
        refine lv_iload_n hx hb dL_law_961 rfl (lv_at hl 3 rfl) ?_
        refine lv_iconst (v := 2) hx hb dL_law_962 (by decide) ?_
        refine lv_iadd hx hb dL_law_963 ?_
        obtain ⟨i_964, hw⟩ := hw
        refine va_sld hx hb C0.2.2.2.2.2.2.1 C0.2.2.2.2.2.2.2.1 (Nat.not_le.mpr C0.2.2.2.2.2.2.2.1) G.2.2.2.2 i_964 dL_law_964 ?_
        refine lv_aload_n hx hb dL_law_965 rfl (lv_at hl 0 rfl) ?_
        refine lv_iload_n hx hb dL_law_966 rfl (lv_at hl 3 rfl) ?_
        refine lv_iconst (v := 3) hx hb dL_law_967 (by decide) ?_
        refine lv_iadd hx hb dL_law_968 ?_
        obtain ⟨i_969, hw⟩ := hw
        refine va_sld hx hb C0.2.2.2.2.2.2.1 C0.2.2.2.2.2.2.2.1 (Nat.not_le.mpr C0.2.2.2.2.2.2.2.1) G.2.2.2.2 i_969 dL_law_969 ?_
        refine l_Xi S hl.1 G (c_X_dry l D q (aX bX) (fun i => bX + i) (xs (b3_18 + 1).toNatClampNeg) (xs (b3_18 + 2).toNatClampNeg) (xs (b3_18 + 3).toNatClampNeg) g_18 _ hw) (cw_L_111 S.2.2.2.2 ⟨Nat.le_of_ble_eq_true rfl, Nat.le_of_ble_eq_true rfl⟩) rfl rfl (Nat.le_of_ble_eq_true rfl) dL_law_970 ⟨Nat.le_of_ble_eq_true rfl, Nat.le_of_ble_eq_true rfl⟩ (fun r_970 h_970 H locs G hw => ?_)
        refine lv_aload_n hx hb dL_law_973 rfl (lv_at hl 2 rfl) ?_
        refine lv_aload_n hx hb dL_law_974 rfl (lv_at hl 0 rfl) ?_
        refine lv_iload_n hx hb dL_law_975 rfl (lv_at hl 3 rfl) ?_
        refine lv_iconst (v := 1) hx hb dL_law_976 (by decide) ?_
        refine lv_iadd hx hb dL_law_977 ?_
        obtain ⟨i_978, hw⟩ := hw
        refine va_sld hx hb C0.2.2.2.2.2.2.1 C0.2.2.2.2.2.2.2.1 (Nat.not_le.mpr C0.2.2.2.2.2.2.2.1) G.2.2.2.2 i_978 dL_law_978 ?_
        refine lv_aload_n hx hb dL_law_979 rfl (lv_at hl 0 rfl) ?_
        refine lv_iload_n hx hb dL_law_980 rfl (lv_at hl 3 rfl) ?_
        refine lv_iconst (v := 2) hx hb dL_law_981 (by decide) ?_
        refine lv_iadd hx hb dL_law_982 ?_
        obtain ⟨i_983, hw⟩ := hw
        refine va_sld hx hb C0.2.2.2.2.2.2.1 C0.2.2.2.2.2.2.2.1 (Nat.not_le.mpr C0.2.2.2.2.2.2.2.1) G.2.2.2.2 i_983 dL_law_983 ?_
        refine lv_aload_n hx hb dL_law_984 rfl (lv_at hl 0 rfl) ?_
        refine lv_iload_n hx hb dL_law_985 rfl (lv_at hl 3 rfl) ?_
        refine lv_iconst (v := 3) hx hb dL_law_986 (by decide) ?_
        refine lv_iadd hx hb dL_law_987 ?_
        obtain ⟨i_988, hw⟩ := hw
        refine va_sld hx hb C0.2.2.2.2.2.2.1 C0.2.2.2.2.2.2.2.1 (Nat.not_le.mpr C0.2.2.2.2.2.2.2.1) G.2.2.2.2 i_988 dL_law_988 ?_
        refine l_Mi S hl.1 G (c_M_dry l D q (aM bX) (fun i => bX + 504 + i) (xs (b3_18 + 1).toNatClampNeg) (xs (b3_18 + 2).toNatClampNeg) (xs (b3_18 + 3).toNatClampNeg) f_18 _ hw) (cw_L_114 S.2.2.2.2 ⟨Nat.le_of_ble_eq_true rfl, Nat.le_of_ble_eq_true rfl⟩) rfl rfl (Nat.le_of_ble_eq_true rfl) dL_law_989 ⟨Nat.le_of_ble_eq_true rfl, Nat.le_of_ble_eq_true rfl⟩ (fun r_989 g_989 H locs G hw => ?_)
        refine lv_icmp_eq (tgt := 1473) hx hb dL_law_992 (by decide) (fun c_992 => ?_) (fun c_992 => ?_)
        · have hw := hw.1 c_992
          exact hw _ _ _ (lv_sub hl [0, 1, 2, 3] rfl) G
        · have hw := hw.2 c_992
          refine lv_iconst (v := 0) hx hb dL_law_995 (by decide) ?_
          exact hw.elim
      have hw := hw.2
      by_cases c_33_23 : ((xs b3_18.toNatClampNeg) &&& 63) = 23
      · have hw := hw.1 c_33_23
        refine lv_tableIn (tgt := 997) hx hb dL_law_33 (by rw [c_33_23]; decide) (by rw [c_33_23]; decide) (by rw [c_33_23]; rfl) (by decide) ?_
        refine lv_aload_n hx hb dL_law_997 rfl (lv_at hl 1 rfl) ?_
        refine lv_aload_n hx hb dL_law_998 rfl (lv_at hl 0 rfl) ?_
        refine lv_iload_n hx hb dL_law_999 rfl (lv_at hl 3 rfl) ?_
        refine lv_iconst (v := 1) hx hb dL_law_1000 (by decide) ?_
        refine lv_iadd hx hb dL_law_1001 ?_
        obtain ⟨i_1002, hw⟩ := hw
        refine va_sld hx hb C0.2.2.2.2.2.2.1 C0.2.2.2.2.2.2.2.1 (Nat.not_le.mpr C0.2.2.2.2.2.2.2.1) G.2.2.2.2 i_1002 dL_law_1002 ?_
        refine lv_aload_n hx hb dL_law_1003 rfl (lv_at hl 0 rfl) ?_
        refine lv_iload_n hx hb dL_law_1004 rfl (lv_at hl 3 rfl) ?_
        refine lv_iconst (v := 2) hx hb dL_law_1005 (by decide) ?_
        refine lv_iadd hx hb dL_law_1006 ?_
        obtain ⟨i_1007, hw⟩ := hw
        refine va_sld hx hb C0.2.2.2.2.2.2.1 C0.2.2.2.2.2.2.2.1 (Nat.not_le.mpr C0.2.2.2.2.2.2.2.1) G.2.2.2.2 i_1007 dL_law_1007 ?_
        refine lv_aload_n hx hb dL_law_1008 rfl (lv_at hl 0 rfl) ?_
        refine lv_iload_n hx hb dL_law_1009 rfl (lv_at hl 3 rfl) ?_
        refine lv_iconst (v := 3) hx hb dL_law_1010 (by decide) ?_
        refine lv_iadd hx hb dL_law_1011 ?_
        obtain ⟨i_1012, hw⟩ := hw
        refine va_sld hx hb C0.2.2.2.2.2.2.1 C0.2.2.2.2.2.2.2.1 (Nat.not_le.mpr C0.2.2.2.2.2.2.2.1) G.2.2.2.2 i_1012 dL_law_1012 ?_
        refine lv_aload_n hx hb dL_law_1013 rfl (lv_at hl 0 rfl) ?_
        refine lv_iload_n hx hb dL_law_1014 rfl (lv_at hl 3 rfl) ?_
        refine lv_iconst (v := 4) hx hb dL_law_1015 (by decide) ?_
        refine lv_iadd hx hb dL_law_1016 ?_
        obtain ⟨i_1017, hw⟩ := hw
        refine va_sld hx hb C0.2.2.2.2.2.2.1 C0.2.2.2.2.2.2.2.1 (Nat.not_le.mpr C0.2.2.2.2.2.2.2.1) G.2.2.2.2 i_1017 dL_law_1017 ?_
        refine l_Xi S hl.1 G (c_X_many l D q (aX bX) (fun i => bX + i) (xs (b3_18 + 1).toNatClampNeg) (xs (b3_18 + 2).toNatClampNeg) (xs (b3_18 + 3).toNatClampNeg) (xs (b3_18 + 4).toNatClampNeg) g_18 _ hw) (cw_L_115 S.2.2.2.2 ⟨Nat.le_of_ble_eq_true rfl, Nat.le_of_ble_eq_true rfl⟩) rfl rfl (Nat.le_of_ble_eq_true rfl) dL_law_1018 ⟨Nat.le_of_ble_eq_true rfl, Nat.le_of_ble_eq_true rfl⟩ (fun r_1018 h_1018 H locs G hw => ?_)
        refine lv_aload_n hx hb dL_law_1021 rfl (lv_at hl 2 rfl) ?_
        refine lv_aload_n hx hb dL_law_1022 rfl (lv_at hl 0 rfl) ?_
        refine lv_iload_n hx hb dL_law_1023 rfl (lv_at hl 3 rfl) ?_
        refine lv_iconst (v := 1) hx hb dL_law_1024 (by decide) ?_
        refine lv_iadd hx hb dL_law_1025 ?_
        obtain ⟨i_1026, hw⟩ := hw
        refine va_sld hx hb C0.2.2.2.2.2.2.1 C0.2.2.2.2.2.2.2.1 (Nat.not_le.mpr C0.2.2.2.2.2.2.2.1) G.2.2.2.2 i_1026 dL_law_1026 ?_
        refine lv_aload_n hx hb dL_law_1027 rfl (lv_at hl 0 rfl) ?_
        refine lv_iload_n hx hb dL_law_1028 rfl (lv_at hl 3 rfl) ?_
        refine lv_iconst (v := 2) hx hb dL_law_1029 (by decide) ?_
        refine lv_iadd hx hb dL_law_1030 ?_
        obtain ⟨i_1031, hw⟩ := hw
        refine va_sld hx hb C0.2.2.2.2.2.2.1 C0.2.2.2.2.2.2.2.1 (Nat.not_le.mpr C0.2.2.2.2.2.2.2.1) G.2.2.2.2 i_1031 dL_law_1031 ?_
        refine lv_aload_n hx hb dL_law_1032 rfl (lv_at hl 0 rfl) ?_
        refine lv_iload_n hx hb dL_law_1033 rfl (lv_at hl 3 rfl) ?_
        refine lv_iconst (v := 3) hx hb dL_law_1034 (by decide) ?_
        refine lv_iadd hx hb dL_law_1035 ?_
        obtain ⟨i_1036, hw⟩ := hw
        refine va_sld hx hb C0.2.2.2.2.2.2.1 C0.2.2.2.2.2.2.2.1 (Nat.not_le.mpr C0.2.2.2.2.2.2.2.1) G.2.2.2.2 i_1036 dL_law_1036 ?_
        refine lv_aload_n hx hb dL_law_1037 rfl (lv_at hl 0 rfl) ?_
        refine lv_iload_n hx hb dL_law_1038 rfl (lv_at hl 3 rfl) ?_
        refine lv_iconst (v := 4) hx hb dL_law_1039 (by decide) ?_
        refine lv_iadd hx hb dL_law_1040 ?_
        obtain ⟨i_1041, hw⟩ := hw
        refine va_sld hx hb C0.2.2.2.2.2.2.1 C0.2.2.2.2.2.2.2.1 (Nat.not_le.mpr C0.2.2.2.2.2.2.2.1) G.2.2.2.2 i_1041 dL_law_1041 ?_
        refine l_Mi S hl.1 G (c_M_many l D q (aM bX) (fun i => bX + 504 + i) (xs (b3_18 + 1).toNatClampNeg) (xs (b3_18 + 2).toNatClampNeg) (xs (b3_18 + 3).toNatClampNeg) (xs (b3_18 + 4).toNatClampNeg) f_18 _ hw) (cw_L_118 S.2.2.2.2 ⟨Nat.le_of_ble_eq_true rfl, Nat.le_of_ble_eq_true rfl⟩) rfl rfl (Nat.le_of_ble_eq_true rfl) dL_law_1042 ⟨Nat.le_of_ble_eq_true rfl, Nat.le_of_ble_eq_true rfl⟩ (fun r_1042 g_1042 H locs G hw => ?_)
        refine lv_icmp_eq (tgt := 1473) hx hb dL_law_1045 (by decide) (fun c_1045 => ?_) (fun c_1045 => ?_)
        · have hw := hw.1 c_1045
          exact hw _ _ _ (lv_sub hl [0, 1, 2, 3] rfl) G
        · have hw := hw.2 c_1045
          refine lv_iconst (v := 0) hx hb dL_law_1048 (by decide) ?_
          exact hw.elim
      have hw := hw.2
      by_cases c_33_24 : ((xs b3_18.toNatClampNeg) &&& 63) = 24
      · have hw := hw.1 c_33_24
        refine lv_tableIn (tgt := 1050) hx hb dL_law_33 (by rw [c_33_24]; decide) (by rw [c_33_24]; decide) (by rw [c_33_24]; rfl) (by decide) ?_
        refine lv_aload_n hx hb dL_law_1050 rfl (lv_at hl 1 rfl) ?_
        refine lv_aload_n hx hb dL_law_1051 rfl (lv_at hl 0 rfl) ?_
        refine lv_iload_n hx hb dL_law_1052 rfl (lv_at hl 3 rfl) ?_
        refine lv_iconst (v := 1) hx hb dL_law_1053 (by decide) ?_
        refine lv_iadd hx hb dL_law_1054 ?_
        obtain ⟨i_1055, hw⟩ := hw
        refine va_sld hx hb C0.2.2.2.2.2.2.1 C0.2.2.2.2.2.2.2.1 (Nat.not_le.mpr C0.2.2.2.2.2.2.2.1) G.2.2.2.2 i_1055 dL_law_1055 ?_
        refine lv_aload_n hx hb dL_law_1056 rfl (lv_at hl 0 rfl) ?_
        refine lv_iload_n hx hb dL_law_1057 rfl (lv_at hl 3 rfl) ?_
        refine lv_iconst (v := 2) hx hb dL_law_1058 (by decide) ?_
        refine lv_iadd hx hb dL_law_1059 ?_
        obtain ⟨i_1060, hw⟩ := hw
        refine va_sld hx hb C0.2.2.2.2.2.2.1 C0.2.2.2.2.2.2.2.1 (Nat.not_le.mpr C0.2.2.2.2.2.2.2.1) G.2.2.2.2 i_1060 dL_law_1060 ?_
        refine lv_aload_n hx hb dL_law_1061 rfl (lv_at hl 0 rfl) ?_
        refine lv_iload_n hx hb dL_law_1062 rfl (lv_at hl 3 rfl) ?_
        refine lv_iconst (v := 3) hx hb dL_law_1063 (by decide) ?_
        refine lv_iadd hx hb dL_law_1064 ?_
        obtain ⟨i_1065, hw⟩ := hw
        refine va_sld hx hb C0.2.2.2.2.2.2.1 C0.2.2.2.2.2.2.2.1 (Nat.not_le.mpr C0.2.2.2.2.2.2.2.1) G.2.2.2.2 i_1065 dL_law_1065 ?_
        refine lv_aload_n hx hb dL_law_1066 rfl (lv_at hl 0 rfl) ?_
        refine lv_iload_n hx hb dL_law_1067 rfl (lv_at hl 3 rfl) ?_
        refine lv_iconst (v := 4) hx hb dL_law_1068 (by decide) ?_
        refine lv_iadd hx hb dL_law_1069 ?_
        obtain ⟨i_1070, hw⟩ := hw
        refine va_sld hx hb C0.2.2.2.2.2.2.1 C0.2.2.2.2.2.2.2.1 (Nat.not_le.mpr C0.2.2.2.2.2.2.2.1) G.2.2.2.2 i_1070 dL_law_1070 ?_
        refine lv_aload_n hx hb dL_law_1071 rfl (lv_at hl 0 rfl) ?_
        refine lv_iload_n hx hb dL_law_1072 rfl (lv_at hl 3 rfl) ?_
        refine lv_iconst (v := 5) hx hb dL_law_1073 (by decide) ?_
        refine lv_iadd hx hb dL_law_1074 ?_
        obtain ⟨i_1075, hw⟩ := hw
        refine va_sld hx hb C0.2.2.2.2.2.2.1 C0.2.2.2.2.2.2.2.1 (Nat.not_le.mpr C0.2.2.2.2.2.2.2.1) G.2.2.2.2 i_1075 dL_law_1075 ?_
        refine l_Xi S hl.1 G (c_X_stone l D q (aX bX) (fun i => bX + i) (xs (b3_18 + 1).toNatClampNeg) (xs (b3_18 + 2).toNatClampNeg) (xs (b3_18 + 3).toNatClampNeg) (xs (b3_18 + 4).toNatClampNeg) (xs (b3_18 + 5).toNatClampNeg) g_18 _ hw) (cw_L_119 S.2.2.2.2 ⟨Nat.le_of_ble_eq_true rfl, Nat.le_of_ble_eq_true rfl⟩) rfl rfl (Nat.le_of_ble_eq_true rfl) dL_law_1076 ⟨Nat.le_of_ble_eq_true rfl, Nat.le_of_ble_eq_true rfl⟩ (fun r_1076 h_1076 H locs G hw => ?_)
        refine lv_aload_n hx hb dL_law_1079 rfl (lv_at hl 2 rfl) ?_
        refine lv_aload_n hx hb dL_law_1080 rfl (lv_at hl 0 rfl) ?_
        refine lv_iload_n hx hb dL_law_1081 rfl (lv_at hl 3 rfl) ?_
        refine lv_iconst (v := 1) hx hb dL_law_1082 (by decide) ?_
        refine lv_iadd hx hb dL_law_1083 ?_
        obtain ⟨i_1084, hw⟩ := hw
        refine va_sld hx hb C0.2.2.2.2.2.2.1 C0.2.2.2.2.2.2.2.1 (Nat.not_le.mpr C0.2.2.2.2.2.2.2.1) G.2.2.2.2 i_1084 dL_law_1084 ?_
        refine lv_aload_n hx hb dL_law_1085 rfl (lv_at hl 0 rfl) ?_
        refine lv_iload_n hx hb dL_law_1086 rfl (lv_at hl 3 rfl) ?_
        refine lv_iconst (v := 2) hx hb dL_law_1087 (by decide) ?_
        refine lv_iadd hx hb dL_law_1088 ?_
        obtain ⟨i_1089, hw⟩ := hw
        refine va_sld hx hb C0.2.2.2.2.2.2.1 C0.2.2.2.2.2.2.2.1 (Nat.not_le.mpr C0.2.2.2.2.2.2.2.1) G.2.2.2.2 i_1089 dL_law_1089 ?_
        refine lv_aload_n hx hb dL_law_1090 rfl (lv_at hl 0 rfl) ?_
        refine lv_iload_n hx hb dL_law_1091 rfl (lv_at hl 3 rfl) ?_
        refine lv_iconst (v := 3) hx hb dL_law_1092 (by decide) ?_
        refine lv_iadd hx hb dL_law_1093 ?_
        obtain ⟨i_1094, hw⟩ := hw
        refine va_sld hx hb C0.2.2.2.2.2.2.1 C0.2.2.2.2.2.2.2.1 (Nat.not_le.mpr C0.2.2.2.2.2.2.2.1) G.2.2.2.2 i_1094 dL_law_1094 ?_
        refine lv_aload_n hx hb dL_law_1095 rfl (lv_at hl 0 rfl) ?_
        refine lv_iload_n hx hb dL_law_1096 rfl (lv_at hl 3 rfl) ?_
        refine lv_iconst (v := 4) hx hb dL_law_1097 (by decide) ?_
        refine lv_iadd hx hb dL_law_1098 ?_
        obtain ⟨i_1099, hw⟩ := hw
        refine va_sld hx hb C0.2.2.2.2.2.2.1 C0.2.2.2.2.2.2.2.1 (Nat.not_le.mpr C0.2.2.2.2.2.2.2.1) G.2.2.2.2 i_1099 dL_law_1099 ?_
        refine lv_aload_n hx hb dL_law_1100 rfl (lv_at hl 0 rfl) ?_
        refine lv_iload_n hx hb dL_law_1101 rfl (lv_at hl 3 rfl) ?_
        refine lv_iconst (v := 5) hx hb dL_law_1102 (by decide) ?_
        refine lv_iadd hx hb dL_law_1103 ?_
        obtain ⟨i_1104, hw⟩ := hw
        refine va_sld hx hb C0.2.2.2.2.2.2.1 C0.2.2.2.2.2.2.2.1 (Nat.not_le.mpr C0.2.2.2.2.2.2.2.1) G.2.2.2.2 i_1104 dL_law_1104 ?_
        refine l_Mi S hl.1 G (c_M_stone l D q (aM bX) (fun i => bX + 504 + i) (xs (b3_18 + 1).toNatClampNeg) (xs (b3_18 + 2).toNatClampNeg) (xs (b3_18 + 3).toNatClampNeg) (xs (b3_18 + 4).toNatClampNeg) (xs (b3_18 + 5).toNatClampNeg) f_18 _ hw) (cw_L_122 S.2.2.2.2 ⟨Nat.le_of_ble_eq_true rfl, Nat.le_of_ble_eq_true rfl⟩) rfl rfl (Nat.le_of_ble_eq_true rfl) dL_law_1105 ⟨Nat.le_of_ble_eq_true rfl, Nat.le_of_ble_eq_true rfl⟩ (fun r_1105 g_1105 H locs G hw => ?_)
        refine lv_icmp_eq (tgt := 1473) hx hb dL_law_1108 (by decide) (fun c_1108 => ?_) (fun c_1108 => ?_)
        · have hw := hw.1 c_1108
          exact hw _ _ _ (lv_sub hl [0, 1, 2, 3] rfl) G
        · have hw := hw.2 c_1108
          refine lv_iconst (v := 0) hx hb dL_law_1111 (by decide) ?_
          exact hw.elim
      have hw := hw.2
      by_cases c_33_25 : ((xs b3_18.toNatClampNeg) &&& 63) = 25
      · have hw := hw.1 c_33_25
        refine lv_tableIn (tgt := 1113) hx hb dL_law_33 (by rw [c_33_25]; decide) (by rw [c_33_25]; decide) (by rw [c_33_25]; rfl) (by decide) ?_
        refine lv_aload_n hx hb dL_law_1113 rfl (lv_at hl 1 rfl) ?_
        refine lv_aload_n hx hb dL_law_1114 rfl (lv_at hl 0 rfl) ?_
        refine lv_iload_n hx hb dL_law_1115 rfl (lv_at hl 3 rfl) ?_
        refine lv_iconst (v := 1) hx hb dL_law_1116 (by decide) ?_
        refine lv_iadd hx hb dL_law_1117 ?_
        obtain ⟨i_1118, hw⟩ := hw
        refine va_sld hx hb C0.2.2.2.2.2.2.1 C0.2.2.2.2.2.2.2.1 (Nat.not_le.mpr C0.2.2.2.2.2.2.2.1) G.2.2.2.2 i_1118 dL_law_1118 ?_
        refine lv_aload_n hx hb dL_law_1119 rfl (lv_at hl 0 rfl) ?_
        refine lv_iload_n hx hb dL_law_1120 rfl (lv_at hl 3 rfl) ?_
        refine lv_iconst (v := 2) hx hb dL_law_1121 (by decide) ?_
        refine lv_iadd hx hb dL_law_1122 ?_
        obtain ⟨i_1123, hw⟩ := hw
        refine va_sld hx hb C0.2.2.2.2.2.2.1 C0.2.2.2.2.2.2.2.1 (Nat.not_le.mpr C0.2.2.2.2.2.2.2.1) G.2.2.2.2 i_1123 dL_law_1123 ?_
        refine lv_aload_n hx hb dL_law_1124 rfl (lv_at hl 0 rfl) ?_
        refine lv_iload_n hx hb dL_law_1125 rfl (lv_at hl 3 rfl) ?_
        refine lv_iconst (v := 3) hx hb dL_law_1126 (by decide) ?_
        refine lv_iadd hx hb dL_law_1127 ?_
        obtain ⟨i_1128, hw⟩ := hw
        refine va_sld hx hb C0.2.2.2.2.2.2.1 C0.2.2.2.2.2.2.2.1 (Nat.not_le.mpr C0.2.2.2.2.2.2.2.1) G.2.2.2.2 i_1128 dL_law_1128 ?_
        refine l_Xi S hl.1 G (c_X_days l D q (aX bX) (fun i => bX + i) (xs (b3_18 + 1).toNatClampNeg) (xs (b3_18 + 2).toNatClampNeg) (xs (b3_18 + 3).toNatClampNeg) g_18 _ hw) (cw_L_123 S.2.2.2.2 ⟨Nat.le_of_ble_eq_true rfl, Nat.le_of_ble_eq_true rfl⟩) rfl rfl (Nat.le_of_ble_eq_true rfl) dL_law_1129 ⟨Nat.le_of_ble_eq_true rfl, Nat.le_of_ble_eq_true rfl⟩ (fun r_1129 h_1129 H locs G hw => ?_)
        refine lv_aload_n hx hb dL_law_1132 rfl (lv_at hl 2 rfl) ?_
        refine lv_aload_n hx hb dL_law_1133 rfl (lv_at hl 0 rfl) ?_
        refine lv_iload_n hx hb dL_law_1134 rfl (lv_at hl 3 rfl) ?_
        refine lv_iconst (v := 1) hx hb dL_law_1135 (by decide) ?_
        refine lv_iadd hx hb dL_law_1136 ?_
        obtain ⟨i_1137, hw⟩ := hw
        refine va_sld hx hb C0.2.2.2.2.2.2.1 C0.2.2.2.2.2.2.2.1 (Nat.not_le.mpr C0.2.2.2.2.2.2.2.1) G.2.2.2.2 i_1137 dL_law_1137 ?_
        refine lv_aload_n hx hb dL_law_1138 rfl (lv_at hl 0 rfl) ?_
        refine lv_iload_n hx hb dL_law_1139 rfl (lv_at hl 3 rfl) ?_
        refine lv_iconst (v := 2) hx hb dL_law_1140 (by decide) ?_
        refine lv_iadd hx hb dL_law_1141 ?_
        obtain ⟨i_1142, hw⟩ := hw
        refine va_sld hx hb C0.2.2.2.2.2.2.1 C0.2.2.2.2.2.2.2.1 (Nat.not_le.mpr C0.2.2.2.2.2.2.2.1) G.2.2.2.2 i_1142 dL_law_1142 ?_
        refine lv_aload_n hx hb dL_law_1143 rfl (lv_at hl 0 rfl) ?_
        refine lv_iload_n hx hb dL_law_1144 rfl (lv_at hl 3 rfl) ?_
        refine lv_iconst (v := 3) hx hb dL_law_1145 (by decide) ?_
        refine lv_iadd hx hb dL_law_1146 ?_
        obtain ⟨i_1147, hw⟩ := hw
        refine va_sld hx hb C0.2.2.2.2.2.2.1 C0.2.2.2.2.2.2.2.1 (Nat.not_le.mpr C0.2.2.2.2.2.2.2.1) G.2.2.2.2 i_1147 dL_law_1147 ?_
        refine l_Mi S hl.1 G (c_M_days l D q (aM bX) (fun i => bX + 504 + i) (xs (b3_18 + 1).toNatClampNeg) (xs (b3_18 + 2).toNatClampNeg) (xs (b3_18 + 3).toNatClampNeg) f_18 _ hw) (cw_L_126 S.2.2.2.2 ⟨Nat.le_of_ble_eq_true rfl, Nat.le_of_ble_eq_true rfl⟩) rfl rfl (Nat.le_of_ble_eq_true rfl) dL_law_1148 ⟨Nat.le_of_ble_eq_true rfl, Nat.le_of_ble_eq_true rfl⟩ (fun r_1148 g_1148 H locs G hw => ?_)
        refine lv_icmp_eq (tgt := 1473) hx hb dL_law_1151 (by decide) (fun c_1151 => ?_) (fun c_1151 => ?_)
        · have hw := hw.1 c_1151
          exact hw _ _ _ (lv_sub hl [0, 1, 2, 3] rfl) G
        · have hw := hw.2 c_1151
          refine lv_iconst (v := 0) hx hb dL_law_1154 (by decide) ?_
          exact hw.elim
      have hw := hw.2
      by_cases c_33_26 : ((xs b3_18.toNatClampNeg) &&& 63) = 26
      · have hw := hw.1 c_33_26
        refine lv_tableIn (tgt := 1156) hx hb dL_law_33 (by rw [c_33_26]; decide) (by rw [c_33_26]; decide) (by rw [c_33_26]; rfl) (by decide) ?_
        refine lv_aload_n hx hb dL_law_1156 rfl (lv_at hl 1 rfl) ?_
        refine lv_aload_n hx hb dL_law_1157 rfl (lv_at hl 0 rfl) ?_
        refine lv_iload_n hx hb dL_law_1158 rfl (lv_at hl 3 rfl) ?_
        refine lv_iconst (v := 1) hx hb dL_law_1159 (by decide) ?_
        refine lv_iadd hx hb dL_law_1160 ?_
        obtain ⟨i_1161, hw⟩ := hw
        refine va_sld hx hb C0.2.2.2.2.2.2.1 C0.2.2.2.2.2.2.2.1 (Nat.not_le.mpr C0.2.2.2.2.2.2.2.1) G.2.2.2.2 i_1161 dL_law_1161 ?_
        refine lv_aload_n hx hb dL_law_1162 rfl (lv_at hl 0 rfl) ?_
        refine lv_iload_n hx hb dL_law_1163 rfl (lv_at hl 3 rfl) ?_
        refine lv_iconst (v := 2) hx hb dL_law_1164 (by decide) ?_
        refine lv_iadd hx hb dL_law_1165 ?_
        obtain ⟨i_1166, hw⟩ := hw
        refine va_sld hx hb C0.2.2.2.2.2.2.1 C0.2.2.2.2.2.2.2.1 (Nat.not_le.mpr C0.2.2.2.2.2.2.2.1) G.2.2.2.2 i_1166 dL_law_1166 ?_
        have hw := hw (fun (t2_1175 : Int32) => ∀ (ls : Array Slot) (H : Heap) (locs : List Loc), lv_has ls 4 [(0, .ref b), (1, .ref bX), (2, .ref (bX + 504)), (3, .int b3_18)] → okL D q s bX g_18 f_18 H locs → W p l e room_1 s m #[Value.ref b] below meth c H locs 600 1200000 (lw_Z below #[Value.ref b] s) (F0 m 1175 ls [.int t2_1175, .int (xs (b3_18 + 1).toNatClampNeg), .ref bX])) (by
          intro t2_1175 hw ls H locs hl G
          refine l_Xi S hl.1 G (c_X_storm l D q (aX bX) (fun i => bX + i) (xs (b3_18 + 1).toNatClampNeg) t2_1175 g_18 _ hw) (cw_L_127 S.2.2.2.2 ⟨Nat.le_of_ble_eq_true rfl, Nat.le_of_ble_eq_true rfl⟩) rfl rfl (Nat.le_of_ble_eq_true rfl) dL_law_1175 ⟨Nat.le_of_ble_eq_true rfl, Nat.le_of_ble_eq_true rfl⟩ (fun r_1175 h_1175 H locs G hw => ?_)
          refine lv_aload_n hx hb dL_law_1178 rfl (lv_at hl 2 rfl) ?_
          refine lv_aload_n hx hb dL_law_1179 rfl (lv_at hl 0 rfl) ?_
          refine lv_iload_n hx hb dL_law_1180 rfl (lv_at hl 3 rfl) ?_
          refine lv_iconst (v := 1) hx hb dL_law_1181 (by decide) ?_
          refine lv_iadd hx hb dL_law_1182 ?_
          obtain ⟨i_1183, hw⟩ := hw
          refine va_sld hx hb C0.2.2.2.2.2.2.1 C0.2.2.2.2.2.2.2.1 (Nat.not_le.mpr C0.2.2.2.2.2.2.2.1) G.2.2.2.2 i_1183 dL_law_1183 ?_
          refine lv_aload_n hx hb dL_law_1184 rfl (lv_at hl 0 rfl) ?_
          refine lv_iload_n hx hb dL_law_1185 rfl (lv_at hl 3 rfl) ?_
          refine lv_iconst (v := 2) hx hb dL_law_1186 (by decide) ?_
          refine lv_iadd hx hb dL_law_1187 ?_
          obtain ⟨i_1188, hw⟩ := hw
          refine va_sld hx hb C0.2.2.2.2.2.2.1 C0.2.2.2.2.2.2.2.1 (Nat.not_le.mpr C0.2.2.2.2.2.2.2.1) G.2.2.2.2 i_1188 dL_law_1188 ?_
          have hw := hw (fun (t3_1197 : Int32) => ∀ (ls : Array Slot) (H : Heap) (locs : List Loc), lv_has ls 4 [(0, .ref b), (1, .ref bX), (2, .ref (bX + 504)), (3, .int b3_18)] → okL D q s bX h_1175 f_18 H locs → W p l e room_1 s m #[Value.ref b] below meth c H locs 600 1200000 (lw_Z below #[Value.ref b] s) (F0 m 1197 ls [.int t3_1197, .int (xs (b3_18 + 1).toNatClampNeg), .ref (bX + 504), .int r_1175])) (by
            intro t3_1197 hw ls H locs hl G
            refine l_Mi S hl.1 G (c_M_storm l D q (aM bX) (fun i => bX + 504 + i) (xs (b3_18 + 1).toNatClampNeg) t3_1197 f_18 _ hw) (cw_L_130 S.2.2.2.2 ⟨Nat.le_of_ble_eq_true rfl, Nat.le_of_ble_eq_true rfl⟩) rfl rfl (Nat.le_of_ble_eq_true rfl) dL_law_1197 ⟨Nat.le_of_ble_eq_true rfl, Nat.le_of_ble_eq_true rfl⟩ (fun r_1197 g_1197 H locs G hw => ?_)
            refine lv_icmp_eq (tgt := 1473) hx hb dL_law_1200 (by decide) (fun c_1200 => ?_) (fun c_1200 => ?_)
            · have hw := hw.1 c_1200
              exact hw _ _ _ (lv_sub hl [0, 1, 2, 3] rfl) G
            · have hw := hw.2 c_1200
              refine lv_iconst (v := 0) hx hb dL_law_1203 (by decide) ?_
              exact hw.elim)
          refine lv_if_eq (tgt := 1196) hx hb dL_law_1189 (by decide) (fun c_1189 => ?_) (fun c_1189 => ?_)
          · have hw := hw.1 c_1189
            refine lv_iconst (v := 0) hx hb dL_law_1196 (by decide) ?_
            exact hw _ _ _ (lv_sub hl [0, 1, 2, 3] rfl) G
          · have hw := hw.2 c_1189
            refine lv_iconst (v := 1) hx hb dL_law_1192 (by decide) ?_
            refine lv_goto (tgt := 1197) hx hb dL_law_1193 (by decide) ?_
            exact hw _ _ _ (lv_sub hl [0, 1, 2, 3] rfl) G)
        refine lv_if_eq (tgt := 1174) hx hb dL_law_1167 (by decide) (fun c_1167 => ?_) (fun c_1167 => ?_)
        · have hw := hw.1 c_1167
          refine lv_iconst (v := 0) hx hb dL_law_1174 (by decide) ?_
          exact hw _ _ _ (lv_sub hl [0, 1, 2, 3] rfl) G
        · have hw := hw.2 c_1167
          refine lv_iconst (v := 1) hx hb dL_law_1170 (by decide) ?_
          refine lv_goto (tgt := 1175) hx hb dL_law_1171 (by decide) ?_
          exact hw _ _ _ (lv_sub hl [0, 1, 2, 3] rfl) G
      have hw := hw.2
      by_cases c_33_27 : ((xs b3_18.toNatClampNeg) &&& 63) = 27
      · have hw := hw.1 c_33_27
        refine lv_tableIn (tgt := 1205) hx hb dL_law_33 (by rw [c_33_27]; decide) (by rw [c_33_27]; decide) (by rw [c_33_27]; rfl) (by decide) ?_
        refine lv_aload_n hx hb dL_law_1205 rfl (lv_at hl 1 rfl) ?_
        refine lv_aload_n hx hb dL_law_1206 rfl (lv_at hl 0 rfl) ?_
        refine lv_iload_n hx hb dL_law_1207 rfl (lv_at hl 3 rfl) ?_
        refine lv_iconst (v := 1) hx hb dL_law_1208 (by decide) ?_
        refine lv_iadd hx hb dL_law_1209 ?_
        obtain ⟨i_1210, hw⟩ := hw
        refine va_sld hx hb C0.2.2.2.2.2.2.1 C0.2.2.2.2.2.2.2.1 (Nat.not_le.mpr C0.2.2.2.2.2.2.2.1) G.2.2.2.2 i_1210 dL_law_1210 ?_
        refine lv_aload_n hx hb dL_law_1211 rfl (lv_at hl 0 rfl) ?_
        refine lv_iload_n hx hb dL_law_1212 rfl (lv_at hl 3 rfl) ?_
        refine lv_iconst (v := 2) hx hb dL_law_1213 (by decide) ?_
        refine lv_iadd hx hb dL_law_1214 ?_
        obtain ⟨i_1215, hw⟩ := hw
        refine va_sld hx hb C0.2.2.2.2.2.2.1 C0.2.2.2.2.2.2.2.1 (Nat.not_le.mpr C0.2.2.2.2.2.2.2.1) G.2.2.2.2 i_1215 dL_law_1215 ?_
        refine lv_aload_n hx hb dL_law_1216 rfl (lv_at hl 0 rfl) ?_
        refine lv_iload_n hx hb dL_law_1217 rfl (lv_at hl 3 rfl) ?_
        refine lv_iconst (v := 3) hx hb dL_law_1218 (by decide) ?_
        refine lv_iadd hx hb dL_law_1219 ?_
        obtain ⟨i_1220, hw⟩ := hw
        refine va_sld hx hb C0.2.2.2.2.2.2.1 C0.2.2.2.2.2.2.2.1 (Nat.not_le.mpr C0.2.2.2.2.2.2.2.1) G.2.2.2.2 i_1220 dL_law_1220 ?_
        refine l_Xi S hl.1 G (c_X_sails l D q (aX bX) (fun i => bX + i) (xs (b3_18 + 1).toNatClampNeg) (xs (b3_18 + 2).toNatClampNeg) (xs (b3_18 + 3).toNatClampNeg) g_18 _ hw) (cw_L_131 S.2.2.2.2 ⟨Nat.le_of_ble_eq_true rfl, Nat.le_of_ble_eq_true rfl⟩) rfl rfl (Nat.le_of_ble_eq_true rfl) dL_law_1221 ⟨Nat.le_of_ble_eq_true rfl, Nat.le_of_ble_eq_true rfl⟩ (fun r_1221 h_1221 H locs G hw => ?_)
        refine lv_aload_n hx hb dL_law_1224 rfl (lv_at hl 2 rfl) ?_
        refine lv_aload_n hx hb dL_law_1225 rfl (lv_at hl 0 rfl) ?_
        refine lv_iload_n hx hb dL_law_1226 rfl (lv_at hl 3 rfl) ?_
        refine lv_iconst (v := 1) hx hb dL_law_1227 (by decide) ?_
        refine lv_iadd hx hb dL_law_1228 ?_
        obtain ⟨i_1229, hw⟩ := hw
        refine va_sld hx hb C0.2.2.2.2.2.2.1 C0.2.2.2.2.2.2.2.1 (Nat.not_le.mpr C0.2.2.2.2.2.2.2.1) G.2.2.2.2 i_1229 dL_law_1229 ?_
        refine lv_aload_n hx hb dL_law_1230 rfl (lv_at hl 0 rfl) ?_
        refine lv_iload_n hx hb dL_law_1231 rfl (lv_at hl 3 rfl) ?_
        refine lv_iconst (v := 2) hx hb dL_law_1232 (by decide) ?_
        refine lv_iadd hx hb dL_law_1233 ?_
        obtain ⟨i_1234, hw⟩ := hw
        refine va_sld hx hb C0.2.2.2.2.2.2.1 C0.2.2.2.2.2.2.2.1 (Nat.not_le.mpr C0.2.2.2.2.2.2.2.1) G.2.2.2.2 i_1234 dL_law_1234 ?_
        refine lv_aload_n hx hb dL_law_1235 rfl (lv_at hl 0 rfl) ?_
        refine lv_iload_n hx hb dL_law_1236 rfl (lv_at hl 3 rfl) ?_
        refine lv_iconst (v := 3) hx hb dL_law_1237 (by decide) ?_
        refine lv_iadd hx hb dL_law_1238 ?_
        obtain ⟨i_1239, hw⟩ := hw
        refine va_sld hx hb C0.2.2.2.2.2.2.1 C0.2.2.2.2.2.2.2.1 (Nat.not_le.mpr C0.2.2.2.2.2.2.2.1) G.2.2.2.2 i_1239 dL_law_1239 ?_
        refine l_Mi S hl.1 G (c_M_sails l D q (aM bX) (fun i => bX + 504 + i) (xs (b3_18 + 1).toNatClampNeg) (xs (b3_18 + 2).toNatClampNeg) (xs (b3_18 + 3).toNatClampNeg) f_18 _ hw) (cw_L_134 S.2.2.2.2 ⟨Nat.le_of_ble_eq_true rfl, Nat.le_of_ble_eq_true rfl⟩) rfl rfl (Nat.le_of_ble_eq_true rfl) dL_law_1240 ⟨Nat.le_of_ble_eq_true rfl, Nat.le_of_ble_eq_true rfl⟩ (fun r_1240 g_1240 H locs G hw => ?_)
        refine lv_icmp_eq (tgt := 1473) hx hb dL_law_1243 (by decide) (fun c_1243 => ?_) (fun c_1243 => ?_)
        · have hw := hw.1 c_1243
          exact hw _ _ _ (lv_sub hl [0, 1, 2, 3] rfl) G
        · have hw := hw.2 c_1243
          refine lv_iconst (v := 0) hx hb dL_law_1246 (by decide) ?_
          exact hw.elim
      have hw := hw.2
      by_cases c_33_28 : ((xs b3_18.toNatClampNeg) &&& 63) = 28
      · have hw := hw.1 c_33_28
        refine lv_tableIn (tgt := 1248) hx hb dL_law_33 (by rw [c_33_28]; decide) (by rw [c_33_28]; decide) (by rw [c_33_28]; rfl) (by decide) ?_
        refine lv_aload_n hx hb dL_law_1248 rfl (lv_at hl 1 rfl) ?_
        refine lv_aload_n hx hb dL_law_1249 rfl (lv_at hl 0 rfl) ?_
        refine lv_iload_n hx hb dL_law_1250 rfl (lv_at hl 3 rfl) ?_
        refine lv_iconst (v := 1) hx hb dL_law_1251 (by decide) ?_
        refine lv_iadd hx hb dL_law_1252 ?_
        obtain ⟨i_1253, hw⟩ := hw
        refine va_sld hx hb C0.2.2.2.2.2.2.1 C0.2.2.2.2.2.2.2.1 (Nat.not_le.mpr C0.2.2.2.2.2.2.2.1) G.2.2.2.2 i_1253 dL_law_1253 ?_
        refine lv_aload_n hx hb dL_law_1254 rfl (lv_at hl 0 rfl) ?_
        refine lv_iload_n hx hb dL_law_1255 rfl (lv_at hl 3 rfl) ?_
        refine lv_iconst (v := 2) hx hb dL_law_1256 (by decide) ?_
        refine lv_iadd hx hb dL_law_1257 ?_
        obtain ⟨i_1258, hw⟩ := hw
        refine va_sld hx hb C0.2.2.2.2.2.2.1 C0.2.2.2.2.2.2.2.1 (Nat.not_le.mpr C0.2.2.2.2.2.2.2.1) G.2.2.2.2 i_1258 dL_law_1258 ?_
        refine lv_aload_n hx hb dL_law_1259 rfl (lv_at hl 0 rfl) ?_
        refine lv_iload_n hx hb dL_law_1260 rfl (lv_at hl 3 rfl) ?_
        refine lv_iconst (v := 3) hx hb dL_law_1261 (by decide) ?_
        refine lv_iadd hx hb dL_law_1262 ?_
        obtain ⟨i_1263, hw⟩ := hw
        refine va_sld hx hb C0.2.2.2.2.2.2.1 C0.2.2.2.2.2.2.2.1 (Nat.not_le.mpr C0.2.2.2.2.2.2.2.1) G.2.2.2.2 i_1263 dL_law_1263 ?_
        refine lv_aload_n hx hb dL_law_1264 rfl (lv_at hl 0 rfl) ?_
        refine lv_iload_n hx hb dL_law_1265 rfl (lv_at hl 3 rfl) ?_
        refine lv_iconst (v := 4) hx hb dL_law_1266 (by decide) ?_
        refine lv_iadd hx hb dL_law_1267 ?_
        obtain ⟨i_1268, hw⟩ := hw
        refine va_sld hx hb C0.2.2.2.2.2.2.1 C0.2.2.2.2.2.2.2.1 (Nat.not_le.mpr C0.2.2.2.2.2.2.2.1) G.2.2.2.2 i_1268 dL_law_1268 ?_
        refine lv_aload_n hx hb dL_law_1269 rfl (lv_at hl 0 rfl) ?_
        refine lv_iload_n hx hb dL_law_1270 rfl (lv_at hl 3 rfl) ?_
        refine lv_iconst (v := 5) hx hb dL_law_1271 (by decide) ?_
        refine lv_iadd hx hb dL_law_1272 ?_
        obtain ⟨i_1273, hw⟩ := hw
        refine va_sld hx hb C0.2.2.2.2.2.2.1 C0.2.2.2.2.2.2.2.1 (Nat.not_le.mpr C0.2.2.2.2.2.2.2.1) G.2.2.2.2 i_1273 dL_law_1273 ?_
        refine l_Xi S hl.1 G (c_X_back l D q (aX bX) (fun i => bX + i) (xs (b3_18 + 1).toNatClampNeg) (xs (b3_18 + 2).toNatClampNeg) (xs (b3_18 + 3).toNatClampNeg) (xs (b3_18 + 4).toNatClampNeg) (xs (b3_18 + 5).toNatClampNeg) g_18 _ hw) (cw_L_135 S.2.2.2.2 ⟨Nat.le_of_ble_eq_true rfl, Nat.le_of_ble_eq_true rfl⟩) rfl rfl (Nat.le_of_ble_eq_true rfl) dL_law_1274 ⟨Nat.le_of_ble_eq_true rfl, Nat.le_of_ble_eq_true rfl⟩ (fun r_1274 h_1274 H locs G hw => ?_)
        refine lv_aload_n hx hb dL_law_1277 rfl (lv_at hl 2 rfl) ?_
        refine lv_aload_n hx hb dL_law_1278 rfl (lv_at hl 0 rfl) ?_
        refine lv_iload_n hx hb dL_law_1279 rfl (lv_at hl 3 rfl) ?_
        refine lv_iconst (v := 1) hx hb dL_law_1280 (by decide) ?_
        refine lv_iadd hx hb dL_law_1281 ?_
        obtain ⟨i_1282, hw⟩ := hw
        refine va_sld hx hb C0.2.2.2.2.2.2.1 C0.2.2.2.2.2.2.2.1 (Nat.not_le.mpr C0.2.2.2.2.2.2.2.1) G.2.2.2.2 i_1282 dL_law_1282 ?_
        refine lv_aload_n hx hb dL_law_1283 rfl (lv_at hl 0 rfl) ?_
        refine lv_iload_n hx hb dL_law_1284 rfl (lv_at hl 3 rfl) ?_
        refine lv_iconst (v := 2) hx hb dL_law_1285 (by decide) ?_
        refine lv_iadd hx hb dL_law_1286 ?_
        obtain ⟨i_1287, hw⟩ := hw
        refine va_sld hx hb C0.2.2.2.2.2.2.1 C0.2.2.2.2.2.2.2.1 (Nat.not_le.mpr C0.2.2.2.2.2.2.2.1) G.2.2.2.2 i_1287 dL_law_1287 ?_
        refine lv_aload_n hx hb dL_law_1288 rfl (lv_at hl 0 rfl) ?_
        refine lv_iload_n hx hb dL_law_1289 rfl (lv_at hl 3 rfl) ?_
        refine lv_iconst (v := 3) hx hb dL_law_1290 (by decide) ?_
        refine lv_iadd hx hb dL_law_1291 ?_
        obtain ⟨i_1292, hw⟩ := hw
        refine va_sld hx hb C0.2.2.2.2.2.2.1 C0.2.2.2.2.2.2.2.1 (Nat.not_le.mpr C0.2.2.2.2.2.2.2.1) G.2.2.2.2 i_1292 dL_law_1292 ?_
        refine lv_aload_n hx hb dL_law_1293 rfl (lv_at hl 0 rfl) ?_
        refine lv_iload_n hx hb dL_law_1294 rfl (lv_at hl 3 rfl) ?_
        refine lv_iconst (v := 4) hx hb dL_law_1295 (by decide) ?_
        refine lv_iadd hx hb dL_law_1296 ?_
        obtain ⟨i_1297, hw⟩ := hw
        refine va_sld hx hb C0.2.2.2.2.2.2.1 C0.2.2.2.2.2.2.2.1 (Nat.not_le.mpr C0.2.2.2.2.2.2.2.1) G.2.2.2.2 i_1297 dL_law_1297 ?_
        refine lv_aload_n hx hb dL_law_1298 rfl (lv_at hl 0 rfl) ?_
        refine lv_iload_n hx hb dL_law_1299 rfl (lv_at hl 3 rfl) ?_
        refine lv_iconst (v := 5) hx hb dL_law_1300 (by decide) ?_
        refine lv_iadd hx hb dL_law_1301 ?_
        obtain ⟨i_1302, hw⟩ := hw
        refine va_sld hx hb C0.2.2.2.2.2.2.1 C0.2.2.2.2.2.2.2.1 (Nat.not_le.mpr C0.2.2.2.2.2.2.2.1) G.2.2.2.2 i_1302 dL_law_1302 ?_
        refine l_Mi S hl.1 G (c_M_back l D q (aM bX) (fun i => bX + 504 + i) (xs (b3_18 + 1).toNatClampNeg) (xs (b3_18 + 2).toNatClampNeg) (xs (b3_18 + 3).toNatClampNeg) (xs (b3_18 + 4).toNatClampNeg) (xs (b3_18 + 5).toNatClampNeg) f_18 _ hw) (cw_L_138 S.2.2.2.2 ⟨Nat.le_of_ble_eq_true rfl, Nat.le_of_ble_eq_true rfl⟩) rfl rfl (Nat.le_of_ble_eq_true rfl) dL_law_1303 ⟨Nat.le_of_ble_eq_true rfl, Nat.le_of_ble_eq_true rfl⟩ (fun r_1303 g_1303 H locs G hw => ?_)
        refine lv_icmp_eq (tgt := 1473) hx hb dL_law_1306 (by decide) (fun c_1306 => ?_) (fun c_1306 => ?_)
        · have hw := hw.1 c_1306
          exact hw _ _ _ (lv_sub hl [0, 1, 2, 3] rfl) G
        · have hw := hw.2 c_1306
          refine lv_iconst (v := 0) hx hb dL_law_1309 (by decide) ?_
          exact hw.elim
      have hw := hw.2
      by_cases c_33_29 : ((xs b3_18.toNatClampNeg) &&& 63) = 29
      · have hw := hw.1 c_33_29
        refine lv_tableIn (tgt := 1311) hx hb dL_law_33 (by rw [c_33_29]; decide) (by rw [c_33_29]; decide) (by rw [c_33_29]; rfl) (by decide) ?_
        refine lv_aload_n hx hb dL_law_1311 rfl (lv_at hl 1 rfl) ?_
        refine lv_aload_n hx hb dL_law_1312 rfl (lv_at hl 0 rfl) ?_
        refine lv_iload_n hx hb dL_law_1313 rfl (lv_at hl 3 rfl) ?_
        refine lv_iconst (v := 1) hx hb dL_law_1314 (by decide) ?_
        refine lv_iadd hx hb dL_law_1315 ?_
        obtain ⟨i_1316, hw⟩ := hw
        refine va_sld hx hb C0.2.2.2.2.2.2.1 C0.2.2.2.2.2.2.2.1 (Nat.not_le.mpr C0.2.2.2.2.2.2.2.1) G.2.2.2.2 i_1316 dL_law_1316 ?_
        refine l_Xi S hl.1 G (c_X_part l D q (aX bX) (fun i => bX + i) (xs (b3_18 + 1).toNatClampNeg) g_18 _ hw) (cw_L_139 S.2.2.2.2 ⟨Nat.le_of_ble_eq_true rfl, Nat.le_of_ble_eq_true rfl⟩) rfl rfl (Nat.le_of_ble_eq_true rfl) dL_law_1317 ⟨Nat.le_of_ble_eq_true rfl, Nat.le_of_ble_eq_true rfl⟩ (fun r_1317 h_1317 H locs G hw => ?_)
        refine lv_aload_n hx hb dL_law_1320 rfl (lv_at hl 2 rfl) ?_
        refine lv_aload_n hx hb dL_law_1321 rfl (lv_at hl 0 rfl) ?_
        refine lv_iload_n hx hb dL_law_1322 rfl (lv_at hl 3 rfl) ?_
        refine lv_iconst (v := 1) hx hb dL_law_1323 (by decide) ?_
        refine lv_iadd hx hb dL_law_1324 ?_
        obtain ⟨i_1325, hw⟩ := hw
        refine va_sld hx hb C0.2.2.2.2.2.2.1 C0.2.2.2.2.2.2.2.1 (Nat.not_le.mpr C0.2.2.2.2.2.2.2.1) G.2.2.2.2 i_1325 dL_law_1325 ?_
        refine l_Mi S hl.1 G (c_M_part l D q (aM bX) (fun i => bX + 504 + i) (xs (b3_18 + 1).toNatClampNeg) f_18 _ hw) (cw_L_142 S.2.2.2.2 ⟨Nat.le_of_ble_eq_true rfl, Nat.le_of_ble_eq_true rfl⟩) rfl rfl (Nat.le_of_ble_eq_true rfl) dL_law_1326 ⟨Nat.le_of_ble_eq_true rfl, Nat.le_of_ble_eq_true rfl⟩ (fun r_1326 g_1326 H locs G hw => ?_)
        refine lv_icmp_eq (tgt := 1473) hx hb dL_law_1329 (by decide) (fun c_1329 => ?_) (fun c_1329 => ?_)
        · have hw := hw.1 c_1329
          exact hw _ _ _ (lv_sub hl [0, 1, 2, 3] rfl) G
        · have hw := hw.2 c_1329
          refine lv_iconst (v := 0) hx hb dL_law_1332 (by decide) ?_
          exact hw.elim
      have hw := hw.2
      by_cases c_33_30 : ((xs b3_18.toNatClampNeg) &&& 63) = 30
      · have hw := hw.1 c_33_30
        refine lv_tableIn (tgt := 1334) hx hb dL_law_33 (by rw [c_33_30]; decide) (by rw [c_33_30]; decide) (by rw [c_33_30]; rfl) (by decide) ?_
        refine lv_aload_n hx hb dL_law_1334 rfl (lv_at hl 1 rfl) ?_
        refine lv_aload_n hx hb dL_law_1335 rfl (lv_at hl 0 rfl) ?_
        refine lv_iload_n hx hb dL_law_1336 rfl (lv_at hl 3 rfl) ?_
        refine lv_iconst (v := 1) hx hb dL_law_1337 (by decide) ?_
        refine lv_iadd hx hb dL_law_1338 ?_
        obtain ⟨i_1339, hw⟩ := hw
        refine va_sld hx hb C0.2.2.2.2.2.2.1 C0.2.2.2.2.2.2.2.1 (Nat.not_le.mpr C0.2.2.2.2.2.2.2.1) G.2.2.2.2 i_1339 dL_law_1339 ?_
        refine lv_aload_n hx hb dL_law_1340 rfl (lv_at hl 0 rfl) ?_
        refine lv_iload_n hx hb dL_law_1341 rfl (lv_at hl 3 rfl) ?_
        refine lv_iconst (v := 2) hx hb dL_law_1342 (by decide) ?_
        refine lv_iadd hx hb dL_law_1343 ?_
        obtain ⟨i_1344, hw⟩ := hw
        refine va_sld hx hb C0.2.2.2.2.2.2.1 C0.2.2.2.2.2.2.2.1 (Nat.not_le.mpr C0.2.2.2.2.2.2.2.1) G.2.2.2.2 i_1344 dL_law_1344 ?_
        refine l_Xi S hl.1 G (c_X_limb l D q (aX bX) (fun i => bX + i) (xs (b3_18 + 1).toNatClampNeg) (xs (b3_18 + 2).toNatClampNeg) g_18 _ hw) (cw_L_143 S.2.2.2.2 ⟨Nat.le_of_ble_eq_true rfl, Nat.le_of_ble_eq_true rfl⟩) rfl rfl (Nat.le_of_ble_eq_true rfl) dL_law_1345 ⟨Nat.le_of_ble_eq_true rfl, Nat.le_of_ble_eq_true rfl⟩ (fun r_1345 h_1345 H locs G hw => ?_)
        refine lv_aload_n hx hb dL_law_1348 rfl (lv_at hl 2 rfl) ?_
        refine lv_aload_n hx hb dL_law_1349 rfl (lv_at hl 0 rfl) ?_
        refine lv_iload_n hx hb dL_law_1350 rfl (lv_at hl 3 rfl) ?_
        refine lv_iconst (v := 1) hx hb dL_law_1351 (by decide) ?_
        refine lv_iadd hx hb dL_law_1352 ?_
        obtain ⟨i_1353, hw⟩ := hw
        refine va_sld hx hb C0.2.2.2.2.2.2.1 C0.2.2.2.2.2.2.2.1 (Nat.not_le.mpr C0.2.2.2.2.2.2.2.1) G.2.2.2.2 i_1353 dL_law_1353 ?_
        refine lv_aload_n hx hb dL_law_1354 rfl (lv_at hl 0 rfl) ?_
        refine lv_iload_n hx hb dL_law_1355 rfl (lv_at hl 3 rfl) ?_
        refine lv_iconst (v := 2) hx hb dL_law_1356 (by decide) ?_
        refine lv_iadd hx hb dL_law_1357 ?_
        obtain ⟨i_1358, hw⟩ := hw
        refine va_sld hx hb C0.2.2.2.2.2.2.1 C0.2.2.2.2.2.2.2.1 (Nat.not_le.mpr C0.2.2.2.2.2.2.2.1) G.2.2.2.2 i_1358 dL_law_1358 ?_
        refine l_Mi S hl.1 G (c_M_limb l D q (aM bX) (fun i => bX + 504 + i) (xs (b3_18 + 1).toNatClampNeg) (xs (b3_18 + 2).toNatClampNeg) f_18 _ hw) (cw_L_146 S.2.2.2.2 ⟨Nat.le_of_ble_eq_true rfl, Nat.le_of_ble_eq_true rfl⟩) rfl rfl (Nat.le_of_ble_eq_true rfl) dL_law_1359 ⟨Nat.le_of_ble_eq_true rfl, Nat.le_of_ble_eq_true rfl⟩ (fun r_1359 g_1359 H locs G hw => ?_)
        refine lv_icmp_eq (tgt := 1473) hx hb dL_law_1362 (by decide) (fun c_1362 => ?_) (fun c_1362 => ?_)
        · have hw := hw.1 c_1362
          exact hw _ _ _ (lv_sub hl [0, 1, 2, 3] rfl) G
        · have hw := hw.2 c_1362
          refine lv_iconst (v := 0) hx hb dL_law_1365 (by decide) ?_
          exact hw.elim
      have hw := hw.2
      by_cases c_33_31 : ((xs b3_18.toNatClampNeg) &&& 63) = 31
      · have hw := hw.1 c_33_31
        refine lv_tableIn (tgt := 1367) hx hb dL_law_33 (by rw [c_33_31]; decide) (by rw [c_33_31]; decide) (by rw [c_33_31]; rfl) (by decide) ?_
        refine lv_aload_n hx hb dL_law_1367 rfl (lv_at hl 1 rfl) ?_
        refine lv_aload_n hx hb dL_law_1368 rfl (lv_at hl 0 rfl) ?_
        refine lv_iload_n hx hb dL_law_1369 rfl (lv_at hl 3 rfl) ?_
        refine lv_iconst (v := 1) hx hb dL_law_1370 (by decide) ?_
        refine lv_iadd hx hb dL_law_1371 ?_
        obtain ⟨i_1372, hw⟩ := hw
        refine va_sld hx hb C0.2.2.2.2.2.2.1 C0.2.2.2.2.2.2.2.1 (Nat.not_le.mpr C0.2.2.2.2.2.2.2.1) G.2.2.2.2 i_1372 dL_law_1372 ?_
        refine l_Xi S hl.1 G (c_X_image l D q (aX bX) (fun i => bX + i) (xs (b3_18 + 1).toNatClampNeg) g_18 _ hw) (cw_L_147 S.2.2.2.2 ⟨Nat.le_of_ble_eq_true rfl, Nat.le_of_ble_eq_true rfl⟩) rfl rfl (Nat.le_of_ble_eq_true rfl) dL_law_1373 ⟨Nat.le_of_ble_eq_true rfl, Nat.le_of_ble_eq_true rfl⟩ (fun r_1373 h_1373 H locs G hw => ?_)
        refine lv_aload_n hx hb dL_law_1376 rfl (lv_at hl 2 rfl) ?_
        refine lv_aload_n hx hb dL_law_1377 rfl (lv_at hl 0 rfl) ?_
        refine lv_iload_n hx hb dL_law_1378 rfl (lv_at hl 3 rfl) ?_
        refine lv_iconst (v := 1) hx hb dL_law_1379 (by decide) ?_
        refine lv_iadd hx hb dL_law_1380 ?_
        obtain ⟨i_1381, hw⟩ := hw
        refine va_sld hx hb C0.2.2.2.2.2.2.1 C0.2.2.2.2.2.2.2.1 (Nat.not_le.mpr C0.2.2.2.2.2.2.2.1) G.2.2.2.2 i_1381 dL_law_1381 ?_
        refine l_Mi S hl.1 G (c_M_image l D q (aM bX) (fun i => bX + 504 + i) (xs (b3_18 + 1).toNatClampNeg) f_18 _ hw) (cw_L_150 S.2.2.2.2 ⟨Nat.le_of_ble_eq_true rfl, Nat.le_of_ble_eq_true rfl⟩) rfl rfl (Nat.le_of_ble_eq_true rfl) dL_law_1382 ⟨Nat.le_of_ble_eq_true rfl, Nat.le_of_ble_eq_true rfl⟩ (fun r_1382 g_1382 H locs G hw => ?_)
        refine lv_icmp_eq (tgt := 1473) hx hb dL_law_1385 (by decide) (fun c_1385 => ?_) (fun c_1385 => ?_)
        · have hw := hw.1 c_1385
          exact hw _ _ _ (lv_sub hl [0, 1, 2, 3] rfl) G
        · have hw := hw.2 c_1385
          refine lv_iconst (v := 0) hx hb dL_law_1388 (by decide) ?_
          exact hw.elim
      have hw := hw.2
      by_cases c_33_32 : ((xs b3_18.toNatClampNeg) &&& 63) = 32
      · have hw := hw.1 c_33_32
        refine lv_tableIn (tgt := 1390) hx hb dL_law_33 (by rw [c_33_32]; decide) (by rw [c_33_32]; decide) (by rw [c_33_32]; rfl) (by decide) ?_
        refine lv_aload_n hx hb dL_law_1390 rfl (lv_at hl 1 rfl) ?_
        refine lv_aload_n hx hb dL_law_1391 rfl (lv_at hl 0 rfl) ?_
        refine lv_iload_n hx hb dL_law_1392 rfl (lv_at hl 3 rfl) ?_
        refine lv_iconst (v := 1) hx hb dL_law_1393 (by decide) ?_
        refine lv_iadd hx hb dL_law_1394 ?_
        obtain ⟨i_1395, hw⟩ := hw
        refine va_sld hx hb C0.2.2.2.2.2.2.1 C0.2.2.2.2.2.2.2.1 (Nat.not_le.mpr C0.2.2.2.2.2.2.2.1) G.2.2.2.2 i_1395 dL_law_1395 ?_
        refine l_Xi S hl.1 G (c_X_from l D q (aX bX) (fun i => bX + i) (xs (b3_18 + 1).toNatClampNeg) g_18 _ hw) (cw_L_151 S.2.2.2.2 ⟨Nat.le_of_ble_eq_true rfl, Nat.le_of_ble_eq_true rfl⟩) rfl rfl (Nat.le_of_ble_eq_true rfl) dL_law_1396 ⟨Nat.le_of_ble_eq_true rfl, Nat.le_of_ble_eq_true rfl⟩ (fun r_1396 h_1396 H locs G hw => ?_)
        refine lv_aload_n hx hb dL_law_1399 rfl (lv_at hl 2 rfl) ?_
        refine lv_aload_n hx hb dL_law_1400 rfl (lv_at hl 0 rfl) ?_
        refine lv_iload_n hx hb dL_law_1401 rfl (lv_at hl 3 rfl) ?_
        refine lv_iconst (v := 1) hx hb dL_law_1402 (by decide) ?_
        refine lv_iadd hx hb dL_law_1403 ?_
        obtain ⟨i_1404, hw⟩ := hw
        refine va_sld hx hb C0.2.2.2.2.2.2.1 C0.2.2.2.2.2.2.2.1 (Nat.not_le.mpr C0.2.2.2.2.2.2.2.1) G.2.2.2.2 i_1404 dL_law_1404 ?_
        refine l_Mi S hl.1 G (c_M_from l D q (aM bX) (fun i => bX + 504 + i) (xs (b3_18 + 1).toNatClampNeg) f_18 _ hw) (cw_L_154 S.2.2.2.2 ⟨Nat.le_of_ble_eq_true rfl, Nat.le_of_ble_eq_true rfl⟩) rfl rfl (Nat.le_of_ble_eq_true rfl) dL_law_1405 ⟨Nat.le_of_ble_eq_true rfl, Nat.le_of_ble_eq_true rfl⟩ (fun r_1405 g_1405 H locs G hw => ?_)
        refine lv_icmp_eq (tgt := 1473) hx hb dL_law_1408 (by decide) (fun c_1408 => ?_) (fun c_1408 => ?_)
        · have hw := hw.1 c_1408
          exact hw _ _ _ (lv_sub hl [0, 1, 2, 3] rfl) G
        · have hw := hw.2 c_1408
          refine lv_iconst (v := 0) hx hb dL_law_1411 (by decide) ?_
          exact hw.elim
      have hw := hw.2
      by_cases c_33_33 : ((xs b3_18.toNatClampNeg) &&& 63) = 33
      · have hw := hw.1 c_33_33
        refine lv_tableIn (tgt := 1413) hx hb dL_law_33 (by rw [c_33_33]; decide) (by rw [c_33_33]; decide) (by rw [c_33_33]; rfl) (by decide) ?_
        refine lv_aload_n hx hb dL_law_1413 rfl (lv_at hl 1 rfl) ?_
        refine lv_aload_n hx hb dL_law_1414 rfl (lv_at hl 0 rfl) ?_
        refine lv_iload_n hx hb dL_law_1415 rfl (lv_at hl 3 rfl) ?_
        refine lv_iconst (v := 1) hx hb dL_law_1416 (by decide) ?_
        refine lv_iadd hx hb dL_law_1417 ?_
        obtain ⟨i_1418, hw⟩ := hw
        refine va_sld hx hb C0.2.2.2.2.2.2.1 C0.2.2.2.2.2.2.2.1 (Nat.not_le.mpr C0.2.2.2.2.2.2.2.1) G.2.2.2.2 i_1418 dL_law_1418 ?_
        refine l_Xi S hl.1 G (c_X_status l D q (aX bX) (fun i => bX + i) (xs (b3_18 + 1).toNatClampNeg) g_18 _ hw) (cw_L_155 S.2.2.2.2 ⟨Nat.le_of_ble_eq_true rfl, Nat.le_of_ble_eq_true rfl⟩) rfl rfl (Nat.le_of_ble_eq_true rfl) dL_law_1419 ⟨Nat.le_of_ble_eq_true rfl, Nat.le_of_ble_eq_true rfl⟩ (fun r_1419 h_1419 H locs G hw => ?_)
        refine lv_aload_n hx hb dL_law_1422 rfl (lv_at hl 2 rfl) ?_
        refine lv_aload_n hx hb dL_law_1423 rfl (lv_at hl 0 rfl) ?_
        refine lv_iload_n hx hb dL_law_1424 rfl (lv_at hl 3 rfl) ?_
        refine lv_iconst (v := 1) hx hb dL_law_1425 (by decide) ?_
        refine lv_iadd hx hb dL_law_1426 ?_
        obtain ⟨i_1427, hw⟩ := hw
        refine va_sld hx hb C0.2.2.2.2.2.2.1 C0.2.2.2.2.2.2.2.1 (Nat.not_le.mpr C0.2.2.2.2.2.2.2.1) G.2.2.2.2 i_1427 dL_law_1427 ?_
        refine l_Mi S hl.1 G (c_M_status l D q (aM bX) (fun i => bX + 504 + i) (xs (b3_18 + 1).toNatClampNeg) f_18 _ hw) (cw_L_158 S.2.2.2.2 ⟨Nat.le_of_ble_eq_true rfl, Nat.le_of_ble_eq_true rfl⟩) rfl rfl (Nat.le_of_ble_eq_true rfl) dL_law_1428 ⟨Nat.le_of_ble_eq_true rfl, Nat.le_of_ble_eq_true rfl⟩ (fun r_1428 g_1428 H locs G hw => ?_)
        refine lv_icmp_eq (tgt := 1473) hx hb dL_law_1431 (by decide) (fun c_1431 => ?_) (fun c_1431 => ?_)
        · have hw := hw.1 c_1431
          exact hw _ _ _ (lv_sub hl [0, 1, 2, 3] rfl) G
        · have hw := hw.2 c_1431
          refine lv_iconst (v := 0) hx hb dL_law_1434 (by decide) ?_
          exact hw.elim
      have hw := hw.2
      by_cases c_33_34 : ((xs b3_18.toNatClampNeg) &&& 63) = 34
      · have hw := hw.1 c_33_34
        refine lv_tableIn (tgt := 1436) hx hb dL_law_33 (by rw [c_33_34]; decide) (by rw [c_33_34]; decide) (by rw [c_33_34]; rfl) (by decide) ?_
        refine lv_aload_n hx hb dL_law_1436 rfl (lv_at hl 1 rfl) ?_
        refine lv_aload_n hx hb dL_law_1437 rfl (lv_at hl 0 rfl) ?_
        refine lv_iload_n hx hb dL_law_1438 rfl (lv_at hl 3 rfl) ?_
        refine lv_iconst (v := 1) hx hb dL_law_1439 (by decide) ?_
        refine lv_iadd hx hb dL_law_1440 ?_
        obtain ⟨i_1441, hw⟩ := hw
        refine va_sld hx hb C0.2.2.2.2.2.2.1 C0.2.2.2.2.2.2.2.1 (Nat.not_le.mpr C0.2.2.2.2.2.2.2.1) G.2.2.2.2 i_1441 dL_law_1441 ?_
        refine l_Xi S hl.1 G (c_X_count l D q (aX bX) (fun i => bX + i) (xs (b3_18 + 1).toNatClampNeg) g_18 _ hw) (cw_L_159 S.2.2.2.2 ⟨Nat.le_of_ble_eq_true rfl, Nat.le_of_ble_eq_true rfl⟩) rfl rfl (Nat.le_of_ble_eq_true rfl) dL_law_1442 ⟨Nat.le_of_ble_eq_true rfl, Nat.le_of_ble_eq_true rfl⟩ (fun r_1442 h_1442 H locs G hw => ?_)
        refine lv_aload_n hx hb dL_law_1445 rfl (lv_at hl 2 rfl) ?_
        refine lv_aload_n hx hb dL_law_1446 rfl (lv_at hl 0 rfl) ?_
        refine lv_iload_n hx hb dL_law_1447 rfl (lv_at hl 3 rfl) ?_
        refine lv_iconst (v := 1) hx hb dL_law_1448 (by decide) ?_
        refine lv_iadd hx hb dL_law_1449 ?_
        obtain ⟨i_1450, hw⟩ := hw
        refine va_sld hx hb C0.2.2.2.2.2.2.1 C0.2.2.2.2.2.2.2.1 (Nat.not_le.mpr C0.2.2.2.2.2.2.2.1) G.2.2.2.2 i_1450 dL_law_1450 ?_
        refine l_Mi S hl.1 G (c_M_count l D q (aM bX) (fun i => bX + 504 + i) (xs (b3_18 + 1).toNatClampNeg) f_18 _ hw) (cw_L_162 S.2.2.2.2 ⟨Nat.le_of_ble_eq_true rfl, Nat.le_of_ble_eq_true rfl⟩) rfl rfl (Nat.le_of_ble_eq_true rfl) dL_law_1451 ⟨Nat.le_of_ble_eq_true rfl, Nat.le_of_ble_eq_true rfl⟩ (fun r_1451 g_1451 H locs G hw => ?_)
        refine lv_icmp_eq (tgt := 1473) hx hb dL_law_1454 (by decide) (fun c_1454 => ?_) (fun c_1454 => ?_)
        · have hw := hw.1 c_1454
          exact hw _ _ _ (lv_sub hl [0, 1, 2, 3] rfl) G
        · have hw := hw.2 c_1454
          refine lv_iconst (v := 0) hx hb dL_law_1457 (by decide) ?_
          exact hw.elim
      have hw := hw.2
      by_cases c_33_35 : ((xs b3_18.toNatClampNeg) &&& 63) = 35
      · have hw := hw.1 c_33_35
        refine lv_tableIn (tgt := 1459) hx hb dL_law_33 (by rw [c_33_35]; decide) (by rw [c_33_35]; decide) (by rw [c_33_35]; rfl) (by decide) ?_
        refine lv_aload_n hx hb dL_law_1459 rfl (lv_at hl 1 rfl) ?_
        refine l_Xl S hl.1 G (c_X_digest l D q (aX bX) (fun i => bX + i) g_18 _ hw) (cw_L_163 S.2.2.2.2 ⟨Nat.le_of_ble_eq_true rfl, Nat.le_of_ble_eq_true rfl⟩) rfl rfl (Nat.le_of_ble_eq_true rfl) dL_law_1460 ⟨Nat.le_of_ble_eq_true rfl, Nat.le_of_ble_eq_true rfl⟩ (fun r_1460 h9_1460 H locs G hw => ?_)
        obtain ⟨e9_1460, hw⟩ := hw
        rw [e9_1460] at G
        refine lv_aload_n hx hb dL_law_1463 rfl (lv_at hl 2 rfl) ?_
        refine l_Ml S hl.1 G (c_M_digest l D q (aM bX) (fun i => bX + 504 + i) f_18 _ hw) (cw_L_167 S.2.2.2.2 ⟨Nat.le_of_ble_eq_true rfl, Nat.le_of_ble_eq_true rfl⟩) rfl rfl (Nat.le_of_ble_eq_true rfl) dL_law_1464 ⟨Nat.le_of_ble_eq_true rfl, Nat.le_of_ble_eq_true rfl⟩ (fun r_1464 h9_1464 H locs G hw => ?_)
        obtain ⟨e9_1464, hw⟩ := hw
        rw [e9_1464] at G
        refine W.lcmp hx hb dL_law_1467 ?_
        refine lv_if_eq (tgt := 1473) hx hb dL_law_1468 (by decide) (fun c_1468 => ?_) (fun c_1468 => ?_)
        · have hw := hw.1 c_1468
          exact hw _ _ _ (lv_sub hl [0, 1, 2, 3] rfl) G
        · have hw := hw.2 c_1468
          refine lv_iconst (v := 0) hx hb dL_law_1471 (by decide) ?_
          exact hw.elim
      have hw := hw.2
      have hw := hw c_33_0 c_33_1 c_33_2 c_33_3 c_33_4 c_33_5 c_33_6 c_33_7 c_33_8 c_33_9 c_33_10 c_33_11 c_33_12 c_33_13 c_33_14 c_33_15 c_33_16 c_33_17 c_33_18 c_33_19 c_33_20 c_33_21 c_33_22 c_33_23 c_33_24 c_33_25 c_33_26 c_33_27 c_33_28 c_33_29 c_33_30 c_33_31 c_33_32 c_33_33 c_33_34 c_33_35
      have hsw := sw36 (x := (xs b3_18.toNatClampNeg) &&& 63) (fun k hk => match k, hk with
        | 0, _ => c_33_0
        | 1, _ => c_33_1
        | 2, _ => c_33_2
        | 3, _ => c_33_3
        | 4, _ => c_33_4
        | 5, _ => c_33_5
        | 6, _ => c_33_6
        | 7, _ => c_33_7
        | 8, _ => c_33_8
        | 9, _ => c_33_9
        | 10, _ => c_33_10
        | 11, _ => c_33_11
        | 12, _ => c_33_12
        | 13, _ => c_33_13
        | 14, _ => c_33_14
        | 15, _ => c_33_15
        | 16, _ => c_33_16
        | 17, _ => c_33_17
        | 18, _ => c_33_18
        | 19, _ => c_33_19
        | 20, _ => c_33_20
        | 21, _ => c_33_21
        | 22, _ => c_33_22
        | 23, _ => c_33_23
        | 24, _ => c_33_24
        | 25, _ => c_33_25
        | 26, _ => c_33_26
        | 27, _ => c_33_27
        | 28, _ => c_33_28
        | 29, _ => c_33_29
        | 30, _ => c_33_30
        | 31, _ => c_33_31
        | 32, _ => c_33_32
        | 33, _ => c_33_33
        | 34, _ => c_33_34
        | 35, _ => c_33_35
        | k + 36, hk => absurd hk (by omega))
      refine lv_tableOut (tgt := 1473) hx hb dL_law_33 hsw (by decide) ?_
      exact hw _ _ _ (lv_sub hl [0, 1, 2, 3] rfl) G)
  exact hw _ _ _ (lv_sub hl [0, 1, 2, 3] rfl) G
