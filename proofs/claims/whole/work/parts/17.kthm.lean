abbrev rx_Arr_fill_c : Room := { frames := 0, cells := 0, slots := 0, locals := 0 }
set_option maxHeartbeats 4000000 in
set_option maxRecDepth 100000 in
theorem k_Arr_fill_c (l : Launch) (D : va_G) (q : Nat → ClassId) (A : Nat → Prop) (b : Nat) (a0 : Nat) (a1 : Int32) (n0 : Nat) (k0 : kX a0 = 20) (q_a0 : a0 < n0) (h : Hs) (Q : Hs → Prop) (hw : i_Arr_fill_c a0 a1 n0 h Q) : Met l yJ7_fill_53178 (mw yJ7_fill_53178 cJ7_fill_53178 4 none) rx_Arr_fill_c (va_Pc [.ref (b + a0), .int a1] (pC D q A b (n0) (eC q b) h)) (va_Qv Q (fun h t => pC D q A b (n0) (eC q b) h t) A) 0 (2000 * 0) A := by
  refine met_c (Qp := Q) (mc := 0) (by decide) (Nat.le_of_ble_eq_true rfl) rfl rfl ?_
  intro p e R s m args below meth c Qm ls hR1 hR2 hR3 hR4 S hin RT hl G
  have hx := S.1
  have hb := S.2.1
  have hl : lv_has ls 4 [(0, .ref (b + a0)), (1, .int a1)] := hl
  unfold i_Arr_fill_c at hw
  refine lv_iconst (v := 0) hx hb dJ7_fill_53178_0 (by decide) ?_
  refine lv_istore_n (lv' := [(2, .int 0), (0, .ref (b + a0)), (1, .int a1)]) hx hb dJ7_fill_53178_1 rfl hl (by decide) rfl (fun ls hl => ?_)
  refine lv_aload_n hx hb dJ7_fill_53178_2 rfl (lv_at hl 1 rfl) ?_
  refine x_alen (v := nI (lX a0)) S G.1 0 (ce_20 (o := a0) (by omega) k0 rfl) rfl rfl dJ7_fill_53178_3 ?_
  refine lv_topi (fun a3_4 ea3_4 => ?_)
  have hw := hw a3_4 ea3_4
  refine lv_istore_n (lv' := [(3, .int a3_4), (2, .int 0), (0, .ref (b + a0)), (1, .int a1)]) hx hb dJ7_fill_53178_4 rfl hl (by decide) rfl (fun ls hl => ?_)
  have hw := hw (fun (b2_5 : Int32) (g_5 : Hs) => ∀ (ls : Array Slot) (H : Heap) (locs : List Loc), lv_has ls 4 [(0, .ref (b + a0)), (1, .int a1), (2, .int b2_5), (3, .int a3_4)] → okC D q A s b (n0) (eC q b) g_5 H locs → W p l e R s m args below meth c H locs 0 (2000 * 0) Qm (F0 m 5 ls [])) (by
    intro b2_5 g_5 hw ls H locs hl G
    refine lv_iload_n hx hb dJ7_fill_53178_5 rfl (lv_at hl 2 rfl) ?_
    refine lv_iload_n hx hb dJ7_fill_53178_6 rfl (lv_at hl 3 rfl) ?_
    refine lv_icmp_ge (tgt := 20) hx hb dJ7_fill_53178_7 (by decide) (fun c_7 => ?_) (fun c_7 => ?_)
    · have hw := hw.1 c_7
      refine W.widen (k := 0) (n := 2000 * 0) (by omega) (by omega) ?_
      exact RT _ _ _ _ _ G hw dJ7_fill_53178_20
    · have hw := hw.2 c_7
      refine lv_aload_n hx hb dJ7_fill_53178_10 rfl (lv_at hl 0 rfl) ?_
      refine lv_iload_n hx hb dJ7_fill_53178_11 rfl (lv_at hl 2 rfl) ?_
      refine lv_iload_n hx hb dJ7_fill_53178_12 rfl (lv_at hl 1 rfl) ?_
      obtain ⟨i_13, hw⟩ := hw
      refine c_iast (k := b2_5.toNatClampNeg) S G (ce_20 (o := a0) (by omega) k0 rfl) i_13 rfl (cs_20 k0 rfl) dJ7_fill_53178_13 (fun H locs G => ?_)
      obtain ⟨h_13, eh_13⟩ : ∃ y : Hs, y = si g_5 a0 b2_5.toNatClampNeg a1 := ⟨_, rfl⟩
      rw [← eh_13] at G
      have hw := hw h_13 eh_13
      have G : okC D q A s b (n0) (eC q b) h_13 H _ := G
      obtain ⟨a2_14, ea2_14⟩ : ∃ y : Int32, y = b2_5 + 1 := ⟨_, rfl⟩
      have hw := hw a2_14 ea2_14
      refine lv_iinc (v := a2_14) (lv' := [(2, .int a2_14), (0, .ref (b + a0)), (1, .int a1), (3, .int a3_4)]) hx hb dJ7_fill_53178_14 hl (k := 2) rfl (by rw [ea2_14]; rfl) (by decide) rfl (fun ls hl => ?_)
      refine lv_goto (tgt := 5) hx hb dJ7_fill_53178_17 (by decide) ?_
      exact hw _ _ _ (lv_sub hl [1, 2, 0, 3] rfl) G)
  exact hw _ _ _ (lv_sub hl [2, 3, 1, 0] rfl) G
theorem cx_X5_53_c {R : Room} {s : State} {args : Array Value} (hts : ∀ w ∈ gW, w.before args s = true) (hR : rx_Arr_fill_c.frames + 1 ≤ R.frames ∧ 8 + (4 + 11) + rx_Arr_fill_c.locals ≤ R.locals) : CallB R s args RX5 53 yJ7_fill_53178 cJ7_fill_53178 4 none (mw yJ7_fill_53178 cJ7_fill_53178 4 none) rx_Arr_fill_c 0 0 2 ∧ (Cond.static yJ7_fill_53178).before args s = true := cwS9 hts km_X5_53 kt_J7_fill_53178 kn_J7 kk_J7_fill_53178 rfl rfl (by decide +kernel) hR
abbrev rx_Big_become_c : Room := { frames := 0, cells := 0, slots := 0, locals := 0 }
set_option maxHeartbeats 4000000 in
set_option maxRecDepth 100000 in
theorem k_Big_become_c (l : Launch) (D : va_G) (q : Nat → ClassId) (A : Nat → Prop) (b : Nat) (a0 : Nat) (a1 : Int64) (n0 : Nat) (k0 : kX a0 = 1) (q_a0 : a0 < n0) (q_d : a0 + 1 < n0) (h : Hs) (Q : Hs → Prop) (hw : i_Big_become_c a0 a1 n0 h Q) : Met l yX0_become (mw yX0_become cX0_become 5 none) rx_Big_become_c (va_Pc [.ref (b + a0), .long a1] (pC D q A b (n0) (eC q b) h)) (va_Qv Q (fun h t => pC D q A b (n0) (eC q b) h t) A) 0 (2000 * 0) A := by
  refine met_c (Qp := Q) (mc := 0) (by decide) (Nat.le_of_ble_eq_true rfl) rfl rfl ?_
  intro p e R s m args below meth c Qm ls hR1 hR2 hR3 hR4 S hin RT hl G
  have hx := S.1
  have hb := S.2.1
  have hl : lv_has ls 5 [(0, .ref (b + a0)), (1, .long a1)] := hl
  unfold i_Big_become_c at hw
  refine lv_aload_n hx hb dX0_become_0 rfl (lv_at hl 0 rfl) ?_
  refine lv_iconst (v := 0) hx hb dX0_become_1 (by decide) ?_
  refine c_put (C := RX0) (T := TX0) (N := 2) S G inX0 tyX0 tyX0_ok nmX0 (ce_1 (o := a0) (by omega) k0) rfl 1 (by decide) kf_X0_19 rfl rfl rfl (Nat.le_of_ble_eq_true rfl) (cp_1_1 k0) dX0_become_2 (fun H locs G => ?_)
  obtain ⟨h_2, eh_2⟩ : ∃ y : Hs, y = si h a0 1 0 := ⟨_, rfl⟩
  rw [← eh_2] at G
  have hw := hw h_2 eh_2
  have G : okC D q A s b (n0) (eC q b) h_2 H _ := G
  refine lv_lload_n hx hb dX0_become_5 rfl (lv_at hl 1 rfl) ?_
  refine lv_lstore_n (lv' := [(3, .long a1), (0, .ref (b + a0)), (1, .long a1)]) hx hb dX0_become_6 rfl hl (by decide) rfl (fun ls hl => ?_)
  have hw := hw (fun (b3_7 : Int64) (g_7 : Hs) => ∀ (ls : Array Slot) (H : Heap) (locs : List Loc), lv_has ls 5 [(0, .ref (b + a0)), (3, .long b3_7)] → okC D q A s b (n0) (eC q b) g_7 H locs → W p l e R s m args below meth c H locs 0 (2000 * 0) Qm (F0 m 7 ls [])) (by
    intro b3_7 g_7 hw ls H locs hl G
    refine lv_lload_n hx hb dX0_become_7 rfl (lv_at hl 1 rfl) ?_
    refine lv_lconst (v := 0) hx hb dX0_become_8 (by decide) ?_
    refine W.lcmp hx hb dX0_become_9 ?_
    have hw := hw (∀ (ls : Array Slot) (H : Heap) (locs : List Loc), lv_has ls 5 [] → okC D q A s b (n0) (eC q b) g_7 H locs → W p l e R s m args below meth c H locs 0 (2000 * 0) Qm (F0 m 58 ls [])) (by
      intro hw ls H locs hl G
      refine W.widen (k := 0) (n := 2000 * 0) (by omega) (by omega) ?_
      exact RT _ _ _ _ _ G hw dX0_become_58)
    refine lv_if_le (tgt := 58) hx hb dX0_become_10 (by decide) (fun c_10 => ?_) (fun c_10 => ?_)
    · have hw := hw.1 c_10
      exact hw _ _ _ (lv_sub hl [] rfl) G
    · have hw := hw.2 c_10
      refine lv_aload_n hx hb dX0_become_13 rfl (lv_at hl 0 rfl) ?_
      refine x_get (C := RX0) (T := TX0) (n := 2) S G.1 inX0 (ce_1 (o := a0) (by omega) k0) rfl 1 (by decide) kf_X0_19 rfl dX0_become_14 ?_
      refine lv_aload_n hx hb dX0_become_17 rfl (lv_at hl 0 rfl) ?_
      obtain ⟨gg_18, hw⟩ := hw
      refine x_get (C := RX0) (T := TX0) (n := 2) S G.1 inX0 (ce_1 (o := a0) (by omega) k0) rfl 0 (by decide) kf_X0_13 (congrArg (fun z => some (rfC b z)) gg_18) dX0_become_18 ?_
      refine x_alen (v := nI (lX (a0 + 1))) S G.1 0 (ce_20 (o := (a0 + 1)) (by omega) (kxr_1 _ (kX_lt k0) k0) rfl) rfl rfl dX0_become_21 ?_
      refine lv_icmp_ge (tgt := 58) hx hb dX0_become_22 (by decide) (fun c_22 => ?_) (fun c_22 => ?_)
      · have hw := hw.1 c_22
        exact hw _ _ _ (lv_sub hl [] rfl) G
      · have hw := hw.2 c_22
        refine lv_aload_n hx hb dX0_become_25 rfl (lv_at hl 0 rfl) ?_
        obtain ⟨gg_26, hw⟩ := hw
        refine x_get (C := RX0) (T := TX0) (n := 2) S G.1 inX0 (ce_1 (o := a0) (by omega) k0) rfl 0 (by decide) kf_X0_13 (congrArg (fun z => some (rfC b z)) gg_26) dX0_become_26 ?_
        refine lv_aload_n hx hb dX0_become_29 rfl (lv_at hl 0 rfl) ?_
        refine x_get (C := RX0) (T := TX0) (n := 2) S G.1 inX0 (ce_1 (o := a0) (by omega) k0) rfl 1 (by decide) kf_X0_19 rfl dX0_become_30 ?_
        refine lv_lload_n hx hb dX0_become_33 rfl (lv_at hl 1 rfl) ?_
        refine lv_ldc2 (v := 1073741823) hx hb S.2.2.2.1 (S.2.2.2.2 _ kl_X0_23) dX0_become_34 ?_
        refine lv_land hx hb dX0_become_37 ?_
        refine lv_l2i hx hb dX0_become_38 rfl ?_
        obtain ⟨i_39, hw⟩ := hw
        refine c_iast (k := (gi g_7 a0 1).toNatClampNeg) S G (ce_20 (o := (a0 + 1)) (by omega) (kxr_1 _ (kX_lt k0) k0) rfl) i_39 rfl (cs_20 (kxr_1 _ (kX_lt k0) k0) rfl) dX0_become_39 (fun H locs G => ?_)
        obtain ⟨h_39, eh_39⟩ : ∃ y : Hs, y = si g_7 (a0 + 1) ((gi g_7 a0 1).toNatClampNeg) ((b3_7 &&& 1073741823).toInt32) := ⟨_, rfl⟩
        rw [← eh_39] at G
        have hw := hw h_39 eh_39
        have G : okC D q A s b (n0) (eC q b) h_39 H _ := G
        refine lv_aload_n hx hb dX0_become_40 rfl (lv_at hl 0 rfl) ?_
        refine lv_dup hx hb dX0_become_41 rfl ?_
        refine x_get (C := RX0) (T := TX0) (n := 2) S G.1 inX0 (ce_1 (o := a0) (by omega) k0) rfl 1 (by decide) kf_X0_19 rfl dX0_become_42 ?_
        refine lv_iconst (v := 1) hx hb dX0_become_45 (by decide) ?_
        refine lv_iadd hx hb dX0_become_46 ?_
        refine c_put (C := RX0) (T := TX0) (N := 2) S G inX0 tyX0 tyX0_ok nmX0 (ce_1 (o := a0) (by omega) k0) rfl 1 (by decide) kf_X0_19 rfl rfl rfl (Nat.le_of_ble_eq_true rfl) (cp_1_1 k0) dX0_become_47 (fun H locs G => ?_)
        obtain ⟨h_47, eh_47⟩ : ∃ y : Hs, y = si h_39 a0 1 ((gi h_39 a0 1) + 1) := ⟨_, rfl⟩
        rw [← eh_47] at G
        have hw := hw h_47 eh_47
        have G : okC D q A s b (n0) (eC q b) h_47 H _ := G
        refine lv_lload_n hx hb dX0_become_50 rfl (lv_at hl 1 rfl) ?_
        refine lv_bipush (v := 30) hx hb dX0_become_51 (by decide) ?_
        refine lv_lshr hx hb dX0_become_53 rfl ?_
        refine lv_topl (fun a3_54 ea3_54 => ?_)
        have hw := hw a3_54 ea3_54
        refine lv_lstore_n (lv' := [(3, .long a3_54), (0, .ref (b + a0))]) hx hb dX0_become_54 rfl hl (by decide) rfl (fun ls hl => ?_)
        refine lv_goto (tgt := 7) hx hb dX0_become_55 (by decide) ?_
        exact hw _ _ _ (lv_sub hl [1, 0] rfl) G)
  exact hw _ _ _ (lv_sub hl [1, 0] rfl) G
theorem cx_X2_32_c {R : Room} {s : State} {args : Array Value} (hts : ∀ w ∈ gW, w.before args s = true) (hR : rx_Big_become_c.frames + 1 ≤ R.frames ∧ 8 + (5 + 11) + rx_Big_become_c.locals ≤ R.locals) : CallW R s args RX2 RX0 32 yX0_become cX0_become 5 none (mw yX0_become cX0_become 5 none) rx_Big_become_c 0 0 1 := cwV9 hts km_X2_32 ki_X0_become ks_X0_become kn_X0 kk_X0_become rfl rfl (by decide +kernel) hR
abbrev rx_M_set_c : Room := { frames := 0, cells := 0, slots := 0, locals := 0 }
set_option maxHeartbeats 4000000 in
set_option maxRecDepth 100000 in
theorem k_M_set_c (l : Launch) (D : va_G) (q : Nat → ClassId) (A : Nat → Prop) (b : Nat) (a1 : Int32) (a2 : Int64) (n0 : Nat) (q_m : n0 = 14) (h : Hs) (Q : Hs → Prop) (hw : i_M_set_c a1 a2 n0 h Q) : Met l yX10_set (mw yX10_set cX10_set 6 none) rx_M_set_c (va_Pc [.ref (b + 0), .int a1, .long a2] (pC D q A b (n0) (eN q b) h)) (va_Qv Q (fun h t => pC D q A b (n0) (eN q b) h t) A) 0 (2000 * 0) A := by
  refine met_c (Qp := Q) (mc := 0) (by decide) (Nat.le_of_ble_eq_true rfl) rfl rfl ?_
  intro p e R s m args below meth c Qm ls hR1 hR2 hR3 hR4 S hin RT hl G
  have hx := S.1
  have hb := S.2.1
  have hl : lv_has ls 6 [(0, .ref (b + 0)), (1, .int a1), (2, .long a2)] := hl
  unfold i_M_set_c at hw
  refine lv_lload_n hx hb dX10_set_0 rfl (lv_at hl 2 rfl) ?_
  refine lv_lstore (lv' := [(4, .long a2), (0, .ref (b + 0)), (1, .int a1), (2, .long a2)]) hx hb dX10_set_1 hl (by decide) rfl (fun ls hl => ?_)
  refine lv_aload_n hx hb dX10_set_3 rfl (lv_at hl 1 rfl) ?_
  obtain ⟨gg_4, hw⟩ := hw
  refine x_get (C := RX10) (T := TX10) (n := 21) S G.1 inX10 (ne_11 (o := 0) (by omega) km_0) rfl 5 (by decide) kf_X10_27 (congrArg (fun z => some (rfC b z)) gg_4) dX10_set_4 ?_
  refine lv_iload_n hx hb dX10_set_7 rfl (lv_at hl 2 rfl) ?_
  refine lv_iconst (v := 0) hx hb dX10_set_8 (by decide) ?_
  obtain ⟨i_9, hw⟩ := hw
  refine c_iast (k := a1.toNatClampNeg) S G (ne_20 (o := 6) (l := 12) (by omega) (by decide +kernel) (by decide +kernel)) i_9 rfl (ns_20 (by decide +kernel) (by decide +kernel)) dX10_set_9 (fun H locs G => ?_)
  obtain ⟨h_9, eh_9⟩ : ∃ y : Hs, y = si h 6 a1.toNatClampNeg 0 := ⟨_, rfl⟩
  rw [← eh_9] at G
  have hw := hw h_9 eh_9
  have G : okC D q A s b (n0) (eN q b) h_9 H _ := G
  have hw := hw (fun (b4_10 : Int64) (g_10 : Hs) => ∀ (ls : Array Slot) (H : Heap) (locs : List Loc), lv_has ls 6 [(0, .ref (b + 0)), (1, .int a1), (4, .long b4_10)] → okC D q A s b (n0) (eN q b) g_10 H locs → W p l e R s m args below meth c H locs 0 (2000 * 0) Qm (F0 m 10 ls [])) (by
    intro b4_10 g_10 hw ls H locs hl G
    refine lv_lload hx hb dX10_set_10 (lv_at hl 2 rfl) ?_
    refine lv_lconst (v := 0) hx hb dX10_set_12 (by decide) ?_
    refine W.lcmp hx hb dX10_set_13 ?_
    refine lv_if_le (tgt := 60) hx hb dX10_set_14 (by decide) (fun c_14 => ?_) (fun c_14 => ?_)
    · have hw := hw.1 c_14
      refine W.widen (k := 0) (n := 2000 * 0) (by omega) (by omega) ?_
      exact RT _ _ _ _ _ G hw dX10_set_60
    · have hw := hw.2 c_14
      refine lv_aload_n hx hb dX10_set_17 rfl (lv_at hl 0 rfl) ?_
      obtain ⟨gg_18, hw⟩ := hw
      refine x_get (C := RX10) (T := TX10) (n := 21) S G.1 inX10 (ne_11 (o := 0) (by omega) km_0) rfl 4 (by decide) kf_X10_23 (congrArg (fun z => some (rfC b z)) gg_18) dX10_set_18 ?_
      refine lv_bipush (v := 64) hx hb dX10_set_21 (by decide) ?_
      refine lv_iload_n hx hb dX10_set_23 rfl (lv_at hl 1 rfl) ?_
      refine lv_imul hx hb dX10_set_24 ?_
      refine lv_aload_n hx hb dX10_set_25 rfl (lv_at hl 0 rfl) ?_
      obtain ⟨gg_26, hw⟩ := hw
      refine x_get (C := RX10) (T := TX10) (n := 21) S G.1 inX10 (ne_11 (o := 0) (by omega) km_0) rfl 5 (by decide) kf_X10_27 (congrArg (fun z => some (rfC b z)) gg_26) dX10_set_26 ?_
      refine lv_iload_n hx hb dX10_set_29 rfl (lv_at hl 1 rfl) ?_
      obtain ⟨i_30, hw⟩ := hw
      refine x_iald (k := a1.toNatClampNeg) S G.1 (ne_20 (o := 6) (l := 12) (by omega) (by decide +kernel) (by decide +kernel)) i_30 rfl rfl dX10_set_30 ?_
      refine lv_iadd hx hb dX10_set_31 ?_
      refine lv_lload hx hb dX10_set_32 (lv_at hl 2 rfl) ?_
      refine lv_ldc2 (v := 1073741824) hx hb S.2.2.2.1 (S.2.2.2.2 _ kl_X10_55) dX10_set_34 ?_
      refine lv_lrem hx hb dX10_set_37 (by decide) ?_
      obtain ⟨i_38, hw⟩ := hw
      refine c_last (k := ((64 * a1) + (gi g_10 6 a1.toNatClampNeg)).toNatClampNeg) S G (ne_26 (o := 5) (l := 768) (by omega) (by decide +kernel) (by decide +kernel)) i_38 rfl (ns_26 (by decide +kernel) (by decide +kernel)) dX10_set_38 (fun H locs G => ?_)
      obtain ⟨h_38, eh_38⟩ : ∃ y : Hs, y = sl g_10 5 (((64 * a1) + (gi g_10 6 a1.toNatClampNeg)).toNatClampNeg) (b4_10 - b4_10 / 1073741824 * 1073741824) := ⟨_, rfl⟩
      rw [← eh_38] at G
      have hw := hw h_38 eh_38
      have G : okC D q A s b (n0) (eN q b) h_38 H _ := G
      refine lv_lload hx hb dX10_set_39 (lv_at hl 2 rfl) ?_
      refine lv_ldc2 (v := 1073741824) hx hb S.2.2.2.1 (S.2.2.2.2 _ kl_X10_55) dX10_set_41 ?_
      refine lv_ldiv hx hb dX10_set_44 (by decide) ?_
      refine lv_topl (fun a4_45 ea4_45 => ?_)
      have hw := hw a4_45 ea4_45
      refine lv_lstore (lv' := [(4, .long a4_45), (0, .ref (b + 0)), (1, .int a1)]) hx hb dX10_set_45 hl (by decide) rfl (fun ls hl => ?_)
      refine lv_aload_n hx hb dX10_set_47 rfl (lv_at hl 1 rfl) ?_
      obtain ⟨gg_48, hw⟩ := hw
      refine x_get (C := RX10) (T := TX10) (n := 21) S G.1 inX10 (ne_11 (o := 0) (by omega) km_0) rfl 5 (by decide) kf_X10_27 (congrArg (fun z => some (rfC b z)) gg_48) dX10_set_48 ?_
      refine lv_iload_n hx hb dX10_set_51 rfl (lv_at hl 2 rfl) ?_
      refine lv_dup2_11 hx hb dX10_set_52 rfl rfl ?_
      obtain ⟨i_53, hw⟩ := hw
      refine x_iald (k := a1.toNatClampNeg) S G.1 (ne_20 (o := 6) (l := 12) (by omega) (by decide +kernel) (by decide +kernel)) i_53 rfl rfl dX10_set_53 ?_
      refine lv_iconst (v := 1) hx hb dX10_set_54 (by decide) ?_
      refine lv_iadd hx hb dX10_set_55 ?_
      obtain ⟨i_56, hw⟩ := hw
      refine c_iast (k := a1.toNatClampNeg) S G (ne_20 (o := 6) (l := 12) (by omega) (by decide +kernel) (by decide +kernel)) i_56 rfl (ns_20 (by decide +kernel) (by decide +kernel)) dX10_set_56 (fun H locs G => ?_)
      obtain ⟨h_56, eh_56⟩ : ∃ y : Hs, y = si h_38 6 a1.toNatClampNeg ((gi h_38 6 a1.toNatClampNeg) + 1) := ⟨_, rfl⟩
      rw [← eh_56] at G
      have hw := hw h_56 eh_56
      have G : okC D q A s b (n0) (eN q b) h_56 H _ := G
      refine lv_goto (tgt := 10) hx hb dX10_set_57 (by decide) ?_
      exact hw _ _ _ (lv_sub hl [1, 2, 0] rfl) G)
  exact hw _ _ _ (lv_sub hl [1, 2, 0] rfl) G
theorem cx_X10_51_c {R : Room} {s : State} {args : Array Value} (hts : ∀ w ∈ gW, w.before args s = true) (hR : rx_M_set_c.frames + 1 ≤ R.frames ∧ 8 + (6 + 11) + rx_M_set_c.locals ≤ R.locals) : CallW R s args RX10 RX10 51 yX10_set cX10_set 6 none (mw yX10_set cX10_set 6 none) rx_M_set_c 0 0 2 := cwV9 hts km_X10_51 ki_X10_set ks_X10_set kn_X10 kk_X10_set rfl rfl (by decide +kernel) hR
abbrev rx_Big_init : Room := { frames := 1, cells := 1, slots := 2000, locals := 21 }
set_option maxHeartbeats 4000000 in
set_option maxRecDepth 100000 in
theorem k_Big_init (l : Launch) (D : va_G) (q : Nat → ClassId) (A : Nat → Prop) (b : Nat) (a0 : Nat) (a1 : Int32) (k0 : kX a0 = 1) (h : Hs) (Q : Hs → Prop) (hw : i_Big_init a0 a1 h Q) : Met l yX0_init (mw yX0_init cX0_init 2 none) rx_Big_init (va_Pc [.ref (b + a0), .int a1] (pC D q A b (a0 + 1) (eC q b) h)) (va_Qv Q (fun h t => pC D q A b (a0 + 2) (eC q b) h t) A) 1 (2000 * 1) A := by
  refine met_c (Qp := Q) (mc := 1) (by decide) (Nat.le_of_ble_eq_true rfl) rfl rfl ?_
  intro p e R s m args below meth c Qm ls hR1 hR2 hR3 hR4 S hin RT hl G
  have hx := S.1
  have hb := S.2.1
  have hl : lv_has ls 2 [(0, .ref (b + a0)), (1, .int a1)] := hl
  unfold i_Big_init at hw
  refine lv_aload_n hx hb dX0_init_0 rfl (lv_at hl 0 rfl) ?_
  refine W.objInit hx hb S.2.2.2.1 (S.2.2.2.2 _ km_X0_1) (S.2.2.2.2 _ ki_obj) (S.2.2.2.2 _ kk_obj) rfl (hl.1.trans S.2.2.1.symm) rfl dX0_init_1 (Nat.le_trans (Nat.le_of_ble_eq_true rfl) hR1) (Nat.le_trans (Nat.le_of_ble_eq_true rfl) hR2) ?_
  refine W.eq (g2 := F0 m 4 ls []) rfl ?_
  refine lv_aload_n hx hb dX0_init_4 rfl (lv_at hl 0 rfl) ?_
  refine lv_iload_n hx hb dX0_init_5 rfl (lv_at hl 1 rfl) ?_
  refine lv_iconst (v := 1) hx hb dX0_init_6 (by decide) ?_
  refine va_mmax hx hb (S.2.2.1.trans hl.1.symm) S.2.2.2.1 (S.2.2.2.2 _ km_X0_7) (S.2.2.2.2 _ kt_J9_max_7cf53) (S.2.2.2.2 _ kn_J9) (S.2.2.2.2 _ kk_J9_max_7cf53) (Nat.le_trans (Nat.le_of_ble_eq_true rfl) hR1) (Nat.le_trans (Nat.le_of_ble_eq_true rfl) hR2) (Nat.le_trans (show _ ≤ 1 by omega) hR3) (Nat.le_trans (show _ ≤ 2000 * 1 by omega) hR4) dX0_init_7 ?_
  obtain ⟨kn_10, hw⟩ := hw
  obtain ⟨kl_10, hw⟩ := hw
  obtain ⟨y1_10, y2_10, hw⟩ := hw
  refine c_newa (N := (if a1 < 1 then 1 else a1).toNatClampNeg) S G 0 20 rfl rfl ka_int rfl (cz_20 kn_10 kl_10) (fun _ => rfl) y1_10 rfl (by show _ * 4 ≤ _; omega) (Nat.le_trans (Nat.le_of_ble_eq_true rfl) hR3) (Nat.le_trans (Nat.le_of_ble_eq_true rfl) hR4) y2_10 dX0_init_10 (fun H G => ?_)
  obtain ⟨h_10, eh_10⟩ : ∃ y : Hs, y = zr h (a0 + 1) 1 := ⟨_, rfl⟩
  rw [← eh_10] at G
  have hw := hw h_10 eh_10
  have G : okC D q A s b (a0 + 2) (eC q b) h_10 H _ := G
  refine c_putF (C := RX0) (T := TX0) (N := 2) S G inX0 tyX0 tyX0_ok nmX0 (ce_1 (o := a0) (by omega) k0) rfl 0 (by decide) kf_X0_13 rfl hin rfl rfl rfl (Nat.le_of_ble_eq_true rfl) (cp_1_0 k0) dX0_init_12 (fun H locs G => ?_)
  obtain ⟨h_12, eh_12⟩ : ∃ y : Hs, y = sr h_10 a0 0 ((a0 + 1) + 1) := ⟨_, rfl⟩
  rw [← eh_12] at G
  have hw := hw h_12 eh_12
  have G : okC D q A s b (a0 + 2) (eC q b) h_12 H _ := G
  refine W.widen (k := 1) (n := 2000 * 1) (by omega) (by omega) ?_
  exact RT _ _ _ _ _ G hw dX0_init_15
theorem cx_X1_20 {R : Room} {s : State} {args : Array Value} (hts : ∀ w ∈ gW, w.before args s = true) (hR : rx_Big_init.frames + 1 ≤ R.frames ∧ 8 + (2 + 11) + rx_Big_init.locals ≤ R.locals) : CallB R s args RX1 20 yX0_init cX0_init 2 none (mw yX0_init cX0_init 2 none) rx_Big_init 1 (2000 * 1) 1 ∧ yX0_init.name = "<init>" ∧ (Cond.instanceMethod yX0_init).before args s = true := cxI9 hts km_X1_20 ki_X0_init kn_X0 kk_X0_init rfl rfl rfl (by decide +kernel) hR
theorem cx_X2_11 {R : Room} {s : State} {args : Array Value} (hts : ∀ w ∈ gW, w.before args s = true) (hR : rx_Big_init.frames + 1 ≤ R.frames ∧ 8 + (2 + 11) + rx_Big_init.locals ≤ R.locals) : CallB R s args RX2 11 yX0_init cX0_init 2 none (mw yX0_init cX0_init 2 none) rx_Big_init 1 (2000 * 1) 1 ∧ yX0_init.name = "<init>" ∧ (Cond.instanceMethod yX0_init).before args s = true := cxI9 hts km_X2_11 ki_X0_init kn_X0 kk_X0_init rfl rfl rfl (by decide +kernel) hR
theorem cx_X8_41 {R : Room} {s : State} {args : Array Value} (hts : ∀ w ∈ gW, w.before args s = true) (hR : rx_Big_init.frames + 1 ≤ R.frames ∧ 8 + (2 + 11) + rx_Big_init.locals ≤ R.locals) : CallB R s args RX8 41 yX0_init cX0_init 2 none (mw yX0_init cX0_init 2 none) rx_Big_init 1 (2000 * 1) 1 ∧ yX0_init.name = "<init>" ∧ (Cond.instanceMethod yX0_init).before args s = true := cxI9 hts km_X8_41 ki_X0_init kn_X0 kk_X0_init rfl rfl rfl (by decide +kernel) hR
theorem cx_X9_54 {R : Room} {s : State} {args : Array Value} (hts : ∀ w ∈ gW, w.before args s = true) (hR : rx_Big_init.frames + 1 ≤ R.frames ∧ 8 + (2 + 11) + rx_Big_init.locals ≤ R.locals) : CallB R s args RX9 54 yX0_init cX0_init 2 none (mw yX0_init cX0_init 2 none) rx_Big_init 1 (2000 * 1) 1 ∧ yX0_init.name = "<init>" ∧ (Cond.instanceMethod yX0_init).before args s = true := cxI9 hts km_X9_54 ki_X0_init kn_X0 kk_X0_init rfl rfl rfl (by decide +kernel) hR
abbrev rx_Tale_init : Room := { frames := 1, cells := 2, slots := 4000, locals := 20 }
set_option maxHeartbeats 4000000 in
set_option maxRecDepth 100000 in
theorem k_Tale_init (l : Launch) (D : va_G) (q : Nat → ClassId) (A : Nat → Prop) (b : Nat) (a0 : Nat) (k0 : kX a0 = 7) (h : Hs) (Q : Hs → Prop) (hw : i_Tale_init a0 h Q) : Met l yX6_init (mw yX6_init cX6_init 1 none) rx_Tale_init (va_Pc [.ref (b + a0)] (pC D q A b (a0 + 1) (eC q b) h)) (va_Qv Q (fun h t => pC D q A b (a0 + 3) (eC q b) h t) A) 2 (2000 * 2) A := by
  refine met_c (Qp := Q) (mc := 2) (by decide) (Nat.le_of_ble_eq_true rfl) rfl rfl ?_
  intro p e R s m args below meth c Qm ls hR1 hR2 hR3 hR4 S hin RT hl G
  have hx := S.1
  have hb := S.2.1
  have hl : lv_has ls 1 [(0, .ref (b + a0))] := hl
  unfold i_Tale_init at hw
  refine lv_aload_n hx hb dX6_init_0 rfl (lv_at hl 0 rfl) ?_
  refine W.objInit hx hb S.2.2.2.1 (S.2.2.2.2 _ km_X6_3) (S.2.2.2.2 _ ki_obj) (S.2.2.2.2 _ kk_obj) rfl (hl.1.trans S.2.2.1.symm) rfl dX6_init_1 (Nat.le_trans (Nat.le_of_ble_eq_true rfl) hR1) (Nat.le_trans (Nat.le_of_ble_eq_true rfl) hR2) ?_
  refine W.eq (g2 := F0 m 4 ls []) rfl ?_
  refine lv_aload_n hx hb dX6_init_4 rfl (lv_at hl 0 rfl) ?_
  refine lv_bipush (v := 120) hx hb dX6_init_5 (by decide) ?_
  obtain ⟨kn_7, hw⟩ := hw
  obtain ⟨kl_7, hw⟩ := hw
  refine c_newa (N := 120) S G 0 20 rfl rfl ka_int rfl (cz_20 kn_7 kl_7) (fun _ => rfl) (by decide) rfl (Nat.le_of_ble_eq_true rfl) (Nat.le_trans (Nat.le_of_ble_eq_true rfl) hR3) (Nat.le_trans (Nat.le_of_ble_eq_true rfl) hR4) (Nat.le_of_ble_eq_true rfl) dX6_init_7 (fun H G => ?_)
  obtain ⟨h_7, eh_7⟩ : ∃ y : Hs, y = zr h (a0 + 1) 1 := ⟨_, rfl⟩
  rw [← eh_7] at G
  have hw := hw h_7 eh_7
  have G : okC D q A s b (a0 + 2) (eC q b) h_7 H _ := G
  refine c_putF (C := RX6) (T := TX6) (N := 8) S G inX6 tyX6 tyX6_ok nmX6 (ce_7 (o := a0) (by omega) k0) rfl 0 (by decide) kf_X6_9 rfl hin rfl rfl rfl (Nat.le_of_ble_eq_true rfl) (cp_7_0 k0) dX6_init_9 (fun H locs G => ?_)
  obtain ⟨h_9, eh_9⟩ : ∃ y : Hs, y = sr h_7 a0 0 ((a0 + 1) + 1) := ⟨_, rfl⟩
  rw [← eh_9] at G
  have hw := hw h_9 eh_9
  have G : okC D q A s b (a0 + 2) (eC q b) h_9 H _ := G
  refine lv_aload_n hx hb dX6_init_12 rfl (lv_at hl 0 rfl) ?_
  refine lv_bipush (v := 6) hx hb dX6_init_13 (by decide) ?_
  obtain ⟨kn_15, hw⟩ := hw
  obtain ⟨kl_15, hw⟩ := hw
  refine c_newa (N := 6) S G 0 20 rfl rfl ka_int rfl (cz_20 kn_15 kl_15) (fun _ => rfl) (by decide) rfl (Nat.le_of_ble_eq_true rfl) (Nat.le_trans (Nat.le_of_ble_eq_true rfl) hR3) (Nat.le_trans (Nat.le_of_ble_eq_true rfl) hR4) (Nat.le_of_ble_eq_true rfl) dX6_init_15 (fun H G => ?_)
  obtain ⟨h_15, eh_15⟩ : ∃ y : Hs, y = zr h_9 (a0 + 2) 1 := ⟨_, rfl⟩
  rw [← eh_15] at G
  have hw := hw h_15 eh_15
  have G : okC D q A s b (a0 + 3) (eC q b) h_15 H _ := G
  refine c_putF (C := RX6) (T := TX6) (N := 8) S G inX6 tyX6 tyX6_ok nmX6 (ce_7 (o := a0) (by omega) k0) rfl 1 (by decide) kf_X6_15 rfl hin rfl rfl rfl (Nat.le_of_ble_eq_true rfl) (cp_7_1 k0) dX6_init_17 (fun H locs G => ?_)
  obtain ⟨h_17, eh_17⟩ : ∃ y : Hs, y = sr h_15 a0 1 ((a0 + 2) + 1) := ⟨_, rfl⟩
  rw [← eh_17] at G
  have hw := hw h_17 eh_17
  have G : okC D q A s b (a0 + 3) (eC q b) h_17 H _ := G
  refine lv_aload_n hx hb dX6_init_20 rfl (lv_at hl 0 rfl) ?_
  refine lv_iconst (v := (-1)) hx hb dX6_init_21 (by decide) ?_
  refine c_put (C := RX6) (T := TX6) (N := 8) S G inX6 tyX6 tyX6_ok nmX6 (ce_7 (o := a0) (by omega) k0) rfl 2 (by decide) kf_X6_18 rfl rfl rfl (Nat.le_of_ble_eq_true rfl) (cp_7_2 k0) dX6_init_22 (fun H locs G => ?_)
  obtain ⟨h_22, eh_22⟩ : ∃ y : Hs, y = si h_17 a0 2 (-1) := ⟨_, rfl⟩
  rw [← eh_22] at G
  have hw := hw h_22 eh_22
  have G : okC D q A s b (a0 + 3) (eC q b) h_22 H _ := G
  refine lv_aload_n hx hb dX6_init_25 rfl (lv_at hl 0 rfl) ?_
  refine lv_iconst (v := (-1)) hx hb dX6_init_26 (by decide) ?_
  refine c_put (C := RX6) (T := TX6) (N := 8) S G inX6 tyX6 tyX6_ok nmX6 (ce_7 (o := a0) (by omega) k0) rfl 3 (by decide) kf_X6_22 rfl rfl rfl (Nat.le_of_ble_eq_true rfl) (cp_7_3 k0) dX6_init_27 (fun H locs G => ?_)
  obtain ⟨h_27, eh_27⟩ : ∃ y : Hs, y = si h_22 a0 3 (-1) := ⟨_, rfl⟩
  rw [← eh_27] at G
  have hw := hw h_27 eh_27
  have G : okC D q A s b (a0 + 3) (eC q b) h_27 H _ := G
  refine W.widen (k := 2) (n := 2000 * 2) (by omega) (by omega) ?_
  exact RT _ _ _ _ _ G hw dX6_init_30
theorem cx_X3_49 {R : Room} {s : State} {args : Array Value} (hN : va_Nw (.methodLinkNest RX3 49 yX6_init "WordOnPost") s) (hts : ∀ w ∈ gW, w.before args s = true) (hR : rx_Tale_init.frames + 1 ≤ R.frames ∧ 8 + (1 + 11) + rx_Tale_init.locals ≤ R.locals) : va_CN R s args RX3 49 yX6_init "WordOnPost" cX6_init 1 none (mw yX6_init cX6_init 1 none) rx_Tale_init 2 (2000 * 2) 0 ∧ yX6_init.name = "<init>" ∧ (Cond.instanceMethod yX6_init).before args s = true := cxN9 hts hN ki_X6_init kn_X6 kk_X6_init rfl rfl rfl (by decide +kernel) hR
abbrev rx_State_init : Room := { frames := 1, cells := 39, slots := 78000, locals := 23 }
set_option maxHeartbeats 4000000 in
set_option maxRecDepth 100000 in
theorem k_State_init (l : Launch) (D : va_G) (q : Nat → ClassId) (A : Nat → Prop) (b : Nat) (a0 : Nat) (k0 : kX a0 = 6) (h : Hs) (Q : Hs → Prop) (hw : i_State_init a0 h Q) : Met l yX5_init (mw yX5_init cX5_init 2 none) rx_State_init (va_Pc [.ref (b + a0)] (pC D q A b (a0 + 1) (eC q b) h)) (va_Qv Q (fun h t => pC D q A b (a0 + 40) (eC q b) h t) A) 39 (2000 * 39) A := by
  refine met_c (Qp := Q) (mc := 39) (by decide) (Nat.le_of_ble_eq_true rfl) rfl rfl ?_
  intro p e R s m args below meth c Qm ls hR1 hR2 hR3 hR4 S hin RT hl G
  have hx := S.1
  have hb := S.2.1
  have hl : lv_has ls 2 [(0, .ref (b + a0))] := hl
  unfold i_State_init at hw
  refine lv_aload_n hx hb dX5_init_0 rfl (lv_at hl 0 rfl) ?_
  refine W.objInit hx hb S.2.2.2.1 (S.2.2.2.2 _ km_X5_3) (S.2.2.2.2 _ ki_obj) (S.2.2.2.2 _ kk_obj) rfl (hl.1.trans S.2.2.1.symm) rfl dX5_init_1 (Nat.le_trans (Nat.le_of_ble_eq_true rfl) hR1) (Nat.le_trans (Nat.le_of_ble_eq_true rfl) hR2) ?_
  refine W.eq (g2 := F0 m 4 ls []) rfl ?_
  refine lv_aload_n hx hb dX5_init_4 rfl (lv_at hl 0 rfl) ?_
  refine lv_bipush (v := 6) hx hb dX5_init_5 (by decide) ?_
  obtain ⟨kn_7, hw⟩ := hw
  obtain ⟨kl_7, hw⟩ := hw
  refine c_newa (N := 6) S G 0 20 rfl rfl ka_int rfl (cz_20 kn_7 kl_7) (fun _ => rfl) (by decide) rfl (Nat.le_of_ble_eq_true rfl) (Nat.le_trans (Nat.le_of_ble_eq_true rfl) hR3) (Nat.le_trans (Nat.le_of_ble_eq_true rfl) hR4) (Nat.le_of_ble_eq_true rfl) dX5_init_7 (fun H G => ?_)
  obtain ⟨h_7, eh_7⟩ : ∃ y : Hs, y = zr h (a0 + 1) 1 := ⟨_, rfl⟩
  rw [← eh_7] at G
  have hw := hw h_7 eh_7
  have G : okC D q A s b (a0 + 2) (eC q b) h_7 H _ := G
  refine c_putF (C := RX5) (T := TX5) (N := 17) S G inX5 tyX5 tyX5_ok nmX5 (ce_6 (o := a0) (by omega) k0) rfl 4 (by decide) kf_X5_9 rfl hin rfl rfl rfl (Nat.le_of_ble_eq_true rfl) (cp_6_4 k0) dX5_init_9 (fun H locs G => ?_)
  obtain ⟨h_9, eh_9⟩ : ∃ y : Hs, y = sr h_7 a0 4 ((a0 + 1) + 1) := ⟨_, rfl⟩
  rw [← eh_9] at G
  have hw := hw h_9 eh_9
  have G : okC D q A s b (a0 + 2) (eC q b) h_9 H _ := G
  refine lv_aload_n hx hb dX5_init_12 rfl (lv_at hl 0 rfl) ?_
  refine lv_bipush (v := 10) hx hb dX5_init_13 (by decide) ?_
  obtain ⟨kn_15, hw⟩ := hw
  obtain ⟨kl_15, hw⟩ := hw
  refine c_newa (N := 10) S G 0 20 rfl rfl ka_int rfl (cz_20 kn_15 kl_15) (fun _ => rfl) (by decide) rfl (Nat.le_of_ble_eq_true rfl) (Nat.le_trans (Nat.le_of_ble_eq_true rfl) hR3) (Nat.le_trans (Nat.le_of_ble_eq_true rfl) hR4) (Nat.le_of_ble_eq_true rfl) dX5_init_15 (fun H G => ?_)
  obtain ⟨h_15, eh_15⟩ : ∃ y : Hs, y = zr h_9 (a0 + 2) 1 := ⟨_, rfl⟩
  rw [← eh_15] at G
  have hw := hw h_15 eh_15
  have G : okC D q A s b (a0 + 3) (eC q b) h_15 H _ := G
  refine c_putF (C := RX5) (T := TX5) (N := 17) S G inX5 tyX5 tyX5_ok nmX5 (ce_6 (o := a0) (by omega) k0) rfl 5 (by decide) kf_X5_15 rfl hin rfl rfl rfl (Nat.le_of_ble_eq_true rfl) (cp_6_5 k0) dX5_init_17 (fun H locs G => ?_)
  obtain ⟨h_17, eh_17⟩ : ∃ y : Hs, y = sr h_15 a0 5 ((a0 + 2) + 1) := ⟨_, rfl⟩
  rw [← eh_17] at G
  have hw := hw h_17 eh_17
  have G : okC D q A s b (a0 + 3) (eC q b) h_17 H _ := G
  refine lv_aload_n hx hb dX5_init_20 rfl (lv_at hl 0 rfl) ?_
  refine lv_iconst (v := 4) hx hb dX5_init_21 (by decide) ?_
  obtain ⟨kn_22, hw⟩ := hw
  obtain ⟨kl_22, hw⟩ := hw
  refine c_newa (N := 4) S G 0 20 rfl rfl ka_int rfl (cz_20 kn_22 kl_22) (fun _ => rfl) (by decide) rfl (Nat.le_of_ble_eq_true rfl) (Nat.le_trans (Nat.le_of_ble_eq_true rfl) hR3) (Nat.le_trans (Nat.le_of_ble_eq_true rfl) hR4) (Nat.le_of_ble_eq_true rfl) dX5_init_22 (fun H G => ?_)
  obtain ⟨h_22, eh_22⟩ : ∃ y : Hs, y = zr h_17 (a0 + 3) 1 := ⟨_, rfl⟩
  rw [← eh_22] at G
  have hw := hw h_22 eh_22
  have G : okC D q A s b (a0 + 4) (eC q b) h_22 H _ := G
  refine c_putF (C := RX5) (T := TX5) (N := 17) S G inX5 tyX5 tyX5_ok nmX5 (ce_6 (o := a0) (by omega) k0) rfl 6 (by decide) kf_X5_18 rfl hin rfl rfl rfl (Nat.le_of_ble_eq_true rfl) (cp_6_6 k0) dX5_init_24 (fun H locs G => ?_)
  obtain ⟨h_24, eh_24⟩ : ∃ y : Hs, y = sr h_22 a0 6 ((a0 + 3) + 1) := ⟨_, rfl⟩
  rw [← eh_24] at G
  have hw := hw h_24 eh_24
  have G : okC D q A s b (a0 + 4) (eC q b) h_24 H _ := G
  refine lv_aload_n hx hb dX5_init_27 rfl (lv_at hl 0 rfl) ?_
  refine lv_iconst (v := 2) hx hb dX5_init_28 (by decide) ?_
  obtain ⟨kn_29, hw⟩ := hw
  obtain ⟨kl_29, hw⟩ := hw
  refine c_newa (N := 2) S G 0 20 rfl rfl ka_int rfl (cz_20 kn_29 kl_29) (fun _ => rfl) (by decide) rfl (Nat.le_of_ble_eq_true rfl) (Nat.le_trans (Nat.le_of_ble_eq_true rfl) hR3) (Nat.le_trans (Nat.le_of_ble_eq_true rfl) hR4) (Nat.le_of_ble_eq_true rfl) dX5_init_29 (fun H G => ?_)
  obtain ⟨h_29, eh_29⟩ : ∃ y : Hs, y = zr h_24 (a0 + 4) 1 := ⟨_, rfl⟩
  rw [← eh_29] at G
  have hw := hw h_29 eh_29
  have G : okC D q A s b (a0 + 5) (eC q b) h_29 H _ := G
  refine c_putF (C := RX5) (T := TX5) (N := 17) S G inX5 tyX5 tyX5_ok nmX5 (ce_6 (o := a0) (by omega) k0) rfl 7 (by decide) kf_X5_21 rfl hin rfl rfl rfl (Nat.le_of_ble_eq_true rfl) (cp_6_7 k0) dX5_init_31 (fun H locs G => ?_)
  obtain ⟨h_31, eh_31⟩ : ∃ y : Hs, y = sr h_29 a0 7 ((a0 + 4) + 1) := ⟨_, rfl⟩
  rw [← eh_31] at G
  have hw := hw h_31 eh_31
  have G : okC D q A s b (a0 + 5) (eC q b) h_31 H _ := G
  refine lv_aload_n hx hb dX5_init_34 rfl (lv_at hl 0 rfl) ?_
  refine lv_iconst (v := 4) hx hb dX5_init_35 (by decide) ?_
  refine lv_iconst (v := 2) hx hb dX5_init_36 (by decide) ?_
  obtain ⟨kn_37, hw⟩ := hw
  obtain ⟨kl_37, hw⟩ := hw
  obtain ⟨k1_37, l1_37, hw⟩ := hw
  refine c_mna (N := 4) (K := 2) S G kq_X5_24 ka_int (cz_22 kn_37 kl_37) (fun i hi => cz_20 ((show ∀ i, i < 4 → kX ((a0 + 5) + 1 + 1 * i) = 20 from k1_37) i hi) ((show ∀ i, i < 4 → lX ((a0 + 5) + 1 + 1 * i) = 2 from l1_37) i hi)) (by decide) (by decide) rfl rfl (Nat.le_of_ble_eq_true rfl) (Nat.le_of_ble_eq_true rfl) (Nat.le_trans (Nat.le_of_ble_eq_true rfl) hR3) (Nat.le_trans (Nat.le_of_ble_eq_true rfl) hR4) dX5_init_37 (fun H G => ?_)
  obtain ⟨h_37, eh_37⟩ : ∃ y : Hs, y = zr h_31 (a0 + 5) (1 + 4) := ⟨_, rfl⟩
  rw [← eh_37] at G
  have hw := hw h_37 eh_37
  have G : okC D q A s b (a0 + 10) (eC q b) h_37 H _ := G
  refine c_putF (C := RX5) (T := TX5) (N := 17) S G inX5 tyX5 tyX5_ok nmX5 (ce_6 (o := a0) (by omega) k0) rfl 8 (by decide) kf_X5_26 rfl hin rfl rfl rfl (Nat.le_of_ble_eq_true rfl) (cp_6_8 k0) dX5_init_41 (fun H locs G => ?_)
  obtain ⟨h_41, eh_41⟩ : ∃ y : Hs, y = sr h_37 a0 8 ((a0 + 5) + 1) := ⟨_, rfl⟩
  rw [← eh_41] at G
  have hw := hw h_41 eh_41
  have G : okC D q A s b (a0 + 10) (eC q b) h_41 H _ := G
  refine lv_aload_n hx hb dX5_init_44 rfl (lv_at hl 0 rfl) ?_
  refine lv_iconst (v := 4) hx hb dX5_init_45 (by decide) ?_
  obtain ⟨kn_46, hw⟩ := hw
  obtain ⟨kl_46, hw⟩ := hw
  refine c_newa (N := 4) S G 0 20 rfl rfl ka_int rfl (cz_20 kn_46 kl_46) (fun _ => rfl) (by decide) rfl (Nat.le_of_ble_eq_true rfl) (Nat.le_trans (Nat.le_of_ble_eq_true rfl) hR3) (Nat.le_trans (Nat.le_of_ble_eq_true rfl) hR4) (Nat.le_of_ble_eq_true rfl) dX5_init_46 (fun H G => ?_)
  obtain ⟨h_46, eh_46⟩ : ∃ y : Hs, y = zr h_41 (a0 + 10) 1 := ⟨_, rfl⟩
  rw [← eh_46] at G
  have hw := hw h_46 eh_46
  have G : okC D q A s b (a0 + 11) (eC q b) h_46 H _ := G
  refine c_putF (C := RX5) (T := TX5) (N := 17) S G inX5 tyX5 tyX5_ok nmX5 (ce_6 (o := a0) (by omega) k0) rfl 9 (by decide) kf_X5_29 rfl hin rfl rfl rfl (Nat.le_of_ble_eq_true rfl) (cp_6_9 k0) dX5_init_48 (fun H locs G => ?_)
  obtain ⟨h_48, eh_48⟩ : ∃ y : Hs, y = sr h_46 a0 9 ((a0 + 10) + 1) := ⟨_, rfl⟩
  rw [← eh_48] at G
  have hw := hw h_48 eh_48
  have G : okC D q A s b (a0 + 11) (eC q b) h_48 H _ := G
  refine lv_aload_n hx hb dX5_init_51 rfl (lv_at hl 0 rfl) ?_
  refine lv_iconst (v := 4) hx hb dX5_init_52 (by decide) ?_
  obtain ⟨kn_53, hw⟩ := hw
  obtain ⟨kl_53, hw⟩ := hw
  refine c_newa (N := 4) S G 0 20 rfl rfl ka_int rfl (cz_20 kn_53 kl_53) (fun _ => rfl) (by decide) rfl (Nat.le_of_ble_eq_true rfl) (Nat.le_trans (Nat.le_of_ble_eq_true rfl) hR3) (Nat.le_trans (Nat.le_of_ble_eq_true rfl) hR4) (Nat.le_of_ble_eq_true rfl) dX5_init_53 (fun H G => ?_)
  obtain ⟨h_53, eh_53⟩ : ∃ y : Hs, y = zr h_48 (a0 + 11) 1 := ⟨_, rfl⟩
  rw [← eh_53] at G
  have hw := hw h_53 eh_53
  have G : okC D q A s b (a0 + 12) (eC q b) h_53 H _ := G
  refine c_putF (C := RX5) (T := TX5) (N := 17) S G inX5 tyX5 tyX5_ok nmX5 (ce_6 (o := a0) (by omega) k0) rfl 10 (by decide) kf_X5_32 rfl hin rfl rfl rfl (Nat.le_of_ble_eq_true rfl) (cp_6_10 k0) dX5_init_55 (fun H locs G => ?_)
  obtain ⟨h_55, eh_55⟩ : ∃ y : Hs, y = sr h_53 a0 10 ((a0 + 11) + 1) := ⟨_, rfl⟩
  rw [← eh_55] at G
  have hw := hw h_55 eh_55
  have G : okC D q A s b (a0 + 12) (eC q b) h_55 H _ := G
  refine lv_aload_n hx hb dX5_init_58 rfl (lv_at hl 0 rfl) ?_
  refine lv_iconst (v := 4) hx hb dX5_init_59 (by decide) ?_
  refine lv_bipush (v := 120) hx hb dX5_init_60 (by decide) ?_
  obtain ⟨kn_62, hw⟩ := hw
  obtain ⟨kl_62, hw⟩ := hw
  obtain ⟨k1_62, l1_62, hw⟩ := hw
  refine c_mna (N := 4) (K := 120) S G kq_X5_24 ka_int (cz_22 kn_62 kl_62) (fun i hi => cz_20 ((show ∀ i, i < 4 → kX ((a0 + 12) + 1 + 1 * i) = 20 from k1_62) i hi) ((show ∀ i, i < 4 → lX ((a0 + 12) + 1 + 1 * i) = 120 from l1_62) i hi)) (by decide) (by decide) rfl rfl (Nat.le_of_ble_eq_true rfl) (Nat.le_of_ble_eq_true rfl) (Nat.le_trans (Nat.le_of_ble_eq_true rfl) hR3) (Nat.le_trans (Nat.le_of_ble_eq_true rfl) hR4) dX5_init_62 (fun H G => ?_)
  obtain ⟨h_62, eh_62⟩ : ∃ y : Hs, y = zr h_55 (a0 + 12) (1 + 4) := ⟨_, rfl⟩
  rw [← eh_62] at G
  have hw := hw h_62 eh_62
  have G : okC D q A s b (a0 + 17) (eC q b) h_62 H _ := G
  refine c_putF (C := RX5) (T := TX5) (N := 17) S G inX5 tyX5 tyX5_ok nmX5 (ce_6 (o := a0) (by omega) k0) rfl 11 (by decide) kf_X5_35 rfl hin rfl rfl rfl (Nat.le_of_ble_eq_true rfl) (cp_6_11 k0) dX5_init_66 (fun H locs G => ?_)
  obtain ⟨h_66, eh_66⟩ : ∃ y : Hs, y = sr h_62 a0 11 ((a0 + 12) + 1) := ⟨_, rfl⟩
  rw [← eh_66] at G
  have hw := hw h_66 eh_66
  have G : okC D q A s b (a0 + 17) (eC q b) h_66 H _ := G
  refine lv_aload_n hx hb dX5_init_69 rfl (lv_at hl 0 rfl) ?_
  refine lv_bipush (v := 6) hx hb dX5_init_70 (by decide) ?_
  refine lv_iconst (v := 4) hx hb dX5_init_72 (by decide) ?_
  obtain ⟨kn_73, hw⟩ := hw
  obtain ⟨kl_73, hw⟩ := hw
  obtain ⟨k1_73, l1_73, hw⟩ := hw
  refine c_mna (N := 6) (K := 4) S G kq_X5_24 ka_int (cz_22 kn_73 kl_73) (fun i hi => cz_20 ((show ∀ i, i < 6 → kX ((a0 + 17) + 1 + 1 * i) = 20 from k1_73) i hi) ((show ∀ i, i < 6 → lX ((a0 + 17) + 1 + 1 * i) = 4 from l1_73) i hi)) (by decide) (by decide) rfl rfl (Nat.le_of_ble_eq_true rfl) (Nat.le_of_ble_eq_true rfl) (Nat.le_trans (Nat.le_of_ble_eq_true rfl) hR3) (Nat.le_trans (Nat.le_of_ble_eq_true rfl) hR4) dX5_init_73 (fun H G => ?_)
  obtain ⟨h_73, eh_73⟩ : ∃ y : Hs, y = zr h_66 (a0 + 17) (1 + 6) := ⟨_, rfl⟩
  rw [← eh_73] at G
  have hw := hw h_73 eh_73
  have G : okC D q A s b (a0 + 24) (eC q b) h_73 H _ := G
  refine c_putF (C := RX5) (T := TX5) (N := 17) S G inX5 tyX5 tyX5_ok nmX5 (ce_6 (o := a0) (by omega) k0) rfl 12 (by decide) kf_X5_38 rfl hin rfl rfl rfl (Nat.le_of_ble_eq_true rfl) (cp_6_12 k0) dX5_init_77 (fun H locs G => ?_)
  obtain ⟨h_77, eh_77⟩ : ∃ y : Hs, y = sr h_73 a0 12 ((a0 + 17) + 1) := ⟨_, rfl⟩
  rw [← eh_77] at G
  have hw := hw h_77 eh_77
  have G : okC D q A s b (a0 + 24) (eC q b) h_77 H _ := G
  refine lv_aload_n hx hb dX5_init_80 rfl (lv_at hl 0 rfl) ?_
  refine lv_iconst (v := 3) hx hb dX5_init_81 (by decide) ?_
  obtain ⟨kn_82, hw⟩ := hw
  obtain ⟨kl_82, hw⟩ := hw
  refine c_newa (N := 3) S G 0 20 rfl rfl ka_int rfl (cz_20 kn_82 kl_82) (fun _ => rfl) (by decide) rfl (Nat.le_of_ble_eq_true rfl) (Nat.le_trans (Nat.le_of_ble_eq_true rfl) hR3) (Nat.le_trans (Nat.le_of_ble_eq_true rfl) hR4) (Nat.le_of_ble_eq_true rfl) dX5_init_82 (fun H G => ?_)
  obtain ⟨h_82, eh_82⟩ : ∃ y : Hs, y = zr h_77 (a0 + 24) 1 := ⟨_, rfl⟩
  rw [← eh_82] at G
  have hw := hw h_82 eh_82
  have G : okC D q A s b (a0 + 25) (eC q b) h_82 H _ := G
  refine c_putF (C := RX5) (T := TX5) (N := 17) S G inX5 tyX5 tyX5_ok nmX5 (ce_6 (o := a0) (by omega) k0) rfl 13 (by decide) kf_X5_41 rfl hin rfl rfl rfl (Nat.le_of_ble_eq_true rfl) (cp_6_13 k0) dX5_init_84 (fun H locs G => ?_)
  obtain ⟨h_84, eh_84⟩ : ∃ y : Hs, y = sr h_82 a0 13 ((a0 + 24) + 1) := ⟨_, rfl⟩
  rw [← eh_84] at G
  have hw := hw h_84 eh_84
  have G : okC D q A s b (a0 + 25) (eC q b) h_84 H _ := G
  refine lv_aload_n hx hb dX5_init_87 rfl (lv_at hl 0 rfl) ?_
  refine lv_bipush (v := 6) hx hb dX5_init_88 (by decide) ?_
  refine lv_iconst (v := 5) hx hb dX5_init_90 (by decide) ?_
  obtain ⟨kn_91, hw⟩ := hw
  obtain ⟨kl_91, hw⟩ := hw
  obtain ⟨k1_91, l1_91, hw⟩ := hw
  refine c_mna (N := 6) (K := 5) S G kq_X5_24 ka_int (cz_22 kn_91 kl_91) (fun i hi => cz_20 ((show ∀ i, i < 6 → kX ((a0 + 25) + 1 + 1 * i) = 20 from k1_91) i hi) ((show ∀ i, i < 6 → lX ((a0 + 25) + 1 + 1 * i) = 5 from l1_91) i hi)) (by decide) (by decide) rfl rfl (Nat.le_of_ble_eq_true rfl) (Nat.le_of_ble_eq_true rfl) (Nat.le_trans (Nat.le_of_ble_eq_true rfl) hR3) (Nat.le_trans (Nat.le_of_ble_eq_true rfl) hR4) dX5_init_91 (fun H G => ?_)
  obtain ⟨h_91, eh_91⟩ : ∃ y : Hs, y = zr h_84 (a0 + 25) (1 + 6) := ⟨_, rfl⟩
  rw [← eh_91] at G
  have hw := hw h_91 eh_91
  have G : okC D q A s b (a0 + 32) (eC q b) h_91 H _ := G
  refine c_putF (C := RX5) (T := TX5) (N := 17) S G inX5 tyX5 tyX5_ok nmX5 (ce_6 (o := a0) (by omega) k0) rfl 14 (by decide) kf_X5_44 rfl hin rfl rfl rfl (Nat.le_of_ble_eq_true rfl) (cp_6_14 k0) dX5_init_95 (fun H locs G => ?_)
  obtain ⟨h_95, eh_95⟩ : ∃ y : Hs, y = sr h_91 a0 14 ((a0 + 25) + 1) := ⟨_, rfl⟩
  rw [← eh_95] at G
  have hw := hw h_95 eh_95
  have G : okC D q A s b (a0 + 32) (eC q b) h_95 H _ := G
  refine lv_aload_n hx hb dX5_init_98 rfl (lv_at hl 0 rfl) ?_
  refine lv_bipush (v := 6) hx hb dX5_init_99 (by decide) ?_
  refine lv_bipush (v := 6) hx hb dX5_init_101 (by decide) ?_
  obtain ⟨kn_103, hw⟩ := hw
  obtain ⟨kl_103, hw⟩ := hw
  obtain ⟨k1_103, l1_103, hw⟩ := hw
  refine c_mna (N := 6) (K := 6) S G kq_X5_24 ka_int (cz_22 kn_103 kl_103) (fun i hi => cz_20 ((show ∀ i, i < 6 → kX ((a0 + 32) + 1 + 1 * i) = 20 from k1_103) i hi) ((show ∀ i, i < 6 → lX ((a0 + 32) + 1 + 1 * i) = 6 from l1_103) i hi)) (by decide) (by decide) rfl rfl (Nat.le_of_ble_eq_true rfl) (Nat.le_of_ble_eq_true rfl) (Nat.le_trans (Nat.le_of_ble_eq_true rfl) hR3) (Nat.le_trans (Nat.le_of_ble_eq_true rfl) hR4) dX5_init_103 (fun H G => ?_)
  obtain ⟨h_103, eh_103⟩ : ∃ y : Hs, y = zr h_95 (a0 + 32) (1 + 6) := ⟨_, rfl⟩
  rw [← eh_103] at G
  have hw := hw h_103 eh_103
  have G : okC D q A s b (a0 + 39) (eC q b) h_103 H _ := G
  refine c_putF (C := RX5) (T := TX5) (N := 17) S G inX5 tyX5 tyX5_ok nmX5 (ce_6 (o := a0) (by omega) k0) rfl 15 (by decide) kf_X5_47 rfl hin rfl rfl rfl (Nat.le_of_ble_eq_true rfl) (cp_6_15 k0) dX5_init_107 (fun H locs G => ?_)
  obtain ⟨h_107, eh_107⟩ : ∃ y : Hs, y = sr h_103 a0 15 ((a0 + 32) + 1) := ⟨_, rfl⟩
  rw [← eh_107] at G
  have hw := hw h_107 eh_107
  have G : okC D q A s b (a0 + 39) (eC q b) h_107 H _ := G
  refine lv_aload_n hx hb dX5_init_110 rfl (lv_at hl 0 rfl) ?_
  refine lv_bipush (v := 60) hx hb dX5_init_111 (by decide) ?_
  obtain ⟨kn_113, hw⟩ := hw
  obtain ⟨kl_113, hw⟩ := hw
  refine c_newa (N := 60) S G 0 20 rfl rfl ka_int rfl (cz_20 kn_113 kl_113) (fun _ => rfl) (by decide) rfl (Nat.le_of_ble_eq_true rfl) (Nat.le_trans (Nat.le_of_ble_eq_true rfl) hR3) (Nat.le_trans (Nat.le_of_ble_eq_true rfl) hR4) (Nat.le_of_ble_eq_true rfl) dX5_init_113 (fun H G => ?_)
  obtain ⟨h_113, eh_113⟩ : ∃ y : Hs, y = zr h_107 (a0 + 39) 1 := ⟨_, rfl⟩
  rw [← eh_113] at G
  have hw := hw h_113 eh_113
  have G : okC D q A s b (a0 + 40) (eC q b) h_113 H _ := G
  refine c_putF (C := RX5) (T := TX5) (N := 17) S G inX5 tyX5 tyX5_ok nmX5 (ce_6 (o := a0) (by omega) k0) rfl 16 (by decide) kf_X5_50 rfl hin rfl rfl rfl (Nat.le_of_ble_eq_true rfl) (cp_6_16 k0) dX5_init_115 (fun H locs G => ?_)
  obtain ⟨h_115, eh_115⟩ : ∃ y : Hs, y = sr h_113 a0 16 ((a0 + 39) + 1) := ⟨_, rfl⟩
  rw [← eh_115] at G
  have hw := hw h_115 eh_115
  have G : okC D q A s b (a0 + 40) (eC q b) h_115 H _ := G
  refine lv_aload_n hx hb dX5_init_118 rfl (lv_at hl 0 rfl) ?_
  obtain ⟨gg_119, hw⟩ := hw
  refine x_get (C := RX5) (T := TX5) (n := 17) S G.1 inX5 (ce_6 (o := a0) (by omega) k0) rfl 5 (by decide) kf_X5_15 (congrArg (fun z => some (rfC b z)) gg_119) dX5_init_119 ?_
  refine lv_iconst (v := 5) hx hb dX5_init_122 (by decide) ?_
  refine c_S (mc := 0) S hl.1 G (k_Arr_fill_c l D q A b (a0 + 2) 5 (a0 + 40) ((kxr_6_2 _ (kX_lt k0) k0).1) (by omega) h_115 _ hw) (cx_X5_53_c S.2.2.2.2 ⟨Nat.le_trans (Nat.le_of_ble_eq_true rfl) hR1, Nat.le_trans (Nat.le_of_ble_eq_true rfl) hR2⟩) rfl rfl (Nat.le_of_ble_eq_true rfl) dX5_init_123 ⟨(Nat.le_trans (Nat.le_of_ble_eq_true rfl) hR3), (Nat.le_trans (Nat.le_of_ble_eq_true rfl) hR4)⟩ (fun h_123 H locs G hw => ?_)
  have G : okC D q A s b (a0 + 40) (eC q b) h_123 H _ := G
  refine lv_aload_n hx hb dX5_init_126 rfl (lv_at hl 0 rfl) ?_
  obtain ⟨gg_127, hw⟩ := hw
  refine x_get (C := RX5) (T := TX5) (n := 17) S G.1 inX5 (ce_6 (o := a0) (by omega) k0) rfl 9 (by decide) kf_X5_29 (congrArg (fun z => some (rfC b z)) gg_127) dX5_init_127 ?_
  refine lv_iconst (v := 1) hx hb dX5_init_130 (by decide) ?_
  refine c_S (mc := 0) S hl.1 G (k_Arr_fill_c l D q A b (a0 + 10) 1 (a0 + 40) ((kxr_6_10 _ (kX_lt k0) k0).1) (by omega) h_123 _ hw) (cx_X5_53_c S.2.2.2.2 ⟨Nat.le_trans (Nat.le_of_ble_eq_true rfl) hR1, Nat.le_trans (Nat.le_of_ble_eq_true rfl) hR2⟩) rfl rfl (Nat.le_of_ble_eq_true rfl) dX5_init_131 ⟨(Nat.le_trans (Nat.le_of_ble_eq_true rfl) hR3), (Nat.le_trans (Nat.le_of_ble_eq_true rfl) hR4)⟩ (fun h_131 H locs G hw => ?_)
  have G : okC D q A s b (a0 + 40) (eC q b) h_131 H _ := G
  refine lv_aload_n hx hb dX5_init_134 rfl (lv_at hl 0 rfl) ?_
  obtain ⟨gg_135, hw⟩ := hw
  refine x_get (C := RX5) (T := TX5) (n := 17) S G.1 inX5 (ce_6 (o := a0) (by omega) k0) rfl 7 (by decide) kf_X5_21 (congrArg (fun z => some (rfC b z)) gg_135) dX5_init_135 ?_
  refine lv_iconst (v := 0) hx hb dX5_init_138 (by decide) ?_
  refine lv_bipush (v := 6) hx hb dX5_init_139 (by decide) ?_
  refine c_iast (k := 0) S G (ce_20 (o := (a0 + 4)) (l := 2) (by omega) ((kxr_6_4 _ (kX_lt k0) k0).1) ((kxr_6_4 _ (kX_lt k0) k0).2)) (vpi (by decide)) rfl (cs_20 ((kxr_6_4 _ (kX_lt k0) k0).1) ((kxr_6_4 _ (kX_lt k0) k0).2)) dX5_init_141 (fun H locs G => ?_)
  obtain ⟨h_141, eh_141⟩ : ∃ y : Hs, y = si h_131 (a0 + 4) 0 6 := ⟨_, rfl⟩
  rw [← eh_141] at G
  have hw := hw h_141 eh_141
  have G : okC D q A s b (a0 + 40) (eC q b) h_141 H _ := G
  refine lv_aload_n hx hb dX5_init_142 rfl (lv_at hl 0 rfl) ?_
  obtain ⟨gg_143, hw⟩ := hw
  refine x_get (C := RX5) (T := TX5) (n := 17) S G.1 inX5 (ce_6 (o := a0) (by omega) k0) rfl 7 (by decide) kf_X5_21 (congrArg (fun z => some (rfC b z)) gg_143) dX5_init_143 ?_
  refine lv_iconst (v := 1) hx hb dX5_init_146 (by decide) ?_
  refine lv_bipush (v := 9) hx hb dX5_init_147 (by decide) ?_
  refine c_iast (k := 1) S G (ce_20 (o := (a0 + 4)) (l := 2) (by omega) ((kxr_6_4 _ (kX_lt k0) k0).1) ((kxr_6_4 _ (kX_lt k0) k0).2)) (vpi (by decide)) rfl (cs_20 ((kxr_6_4 _ (kX_lt k0) k0).1) ((kxr_6_4 _ (kX_lt k0) k0).2)) dX5_init_149 (fun H locs G => ?_)
  obtain ⟨h_149, eh_149⟩ : ∃ y : Hs, y = si h_141 (a0 + 4) 1 9 := ⟨_, rfl⟩
  rw [← eh_149] at G
  have hw := hw h_149 eh_149
  have G : okC D q A s b (a0 + 40) (eC q b) h_149 H _ := G
  refine lv_aload_n hx hb dX5_init_150 rfl (lv_at hl 0 rfl) ?_
  obtain ⟨gg_151, hw⟩ := hw
  refine x_get (C := RX5) (T := TX5) (n := 17) S G.1 inX5 (ce_6 (o := a0) (by omega) k0) rfl 13 (by decide) kf_X5_41 (congrArg (fun z => some (rfC b z)) gg_151) dX5_init_151 ?_
  refine lv_iconst (v := 1) hx hb dX5_init_154 (by decide) ?_
  refine lv_iconst (v := (-1)) hx hb dX5_init_155 (by decide) ?_
  refine c_iast (k := 1) S G (ce_20 (o := (a0 + 24)) (l := 3) (by omega) ((kxr_6_24 _ (kX_lt k0) k0).1) ((kxr_6_24 _ (kX_lt k0) k0).2)) (vpi (by decide)) rfl (cs_20 ((kxr_6_24 _ (kX_lt k0) k0).1) ((kxr_6_24 _ (kX_lt k0) k0).2)) dX5_init_156 (fun H locs G => ?_)
  obtain ⟨h_156, eh_156⟩ : ∃ y : Hs, y = si h_149 (a0 + 24) 1 (-1) := ⟨_, rfl⟩
  rw [← eh_156] at G
  have hw := hw h_156 eh_156
  have G : okC D q A s b (a0 + 40) (eC q b) h_156 H _ := G
  refine lv_iconst (v := 0) hx hb dX5_init_157 (by decide) ?_
  refine lv_istore_n (lv' := [(1, .int 0), (0, .ref (b + a0))]) hx hb dX5_init_158 rfl hl (by decide) rfl (fun ls hl => ?_)
  have hw := hw (fun (b1_159 : Int32) (g_159 : Hs) => ∀ (ls : Array Slot) (H : Heap) (locs : List Loc), lv_has ls 2 [(0, .ref (b + a0)), (1, .int b1_159)] → okC D q A s b (a0 + 40) (eC q b) g_159 H locs → W p l e R s m args below meth c H locs 39 (2000 * 39) Qm (F0 m 159 ls [])) (by
    intro b1_159 g_159 hw ls H locs hl G
    refine lv_iload_n hx hb dX5_init_159 rfl (lv_at hl 1 rfl) ?_
    refine lv_iconst (v := 4) hx hb dX5_init_160 (by decide) ?_
    refine lv_icmp_ge (tgt := 180) hx hb dX5_init_161 (by decide) (fun c_161 => ?_) (fun c_161 => ?_)
    · have hw := hw.1 c_161
      refine W.widen (k := 39) (n := 2000 * 39) (by omega) (by omega) ?_
      exact RT _ _ _ _ _ G hw dX5_init_180
    · have hw := hw.2 c_161
      refine lv_aload_n hx hb dX5_init_164 rfl (lv_at hl 0 rfl) ?_
      obtain ⟨gg_165, hw⟩ := hw
      refine x_get (C := RX5) (T := TX5) (n := 17) S G.1 inX5 (ce_6 (o := a0) (by omega) k0) rfl 8 (by decide) kf_X5_26 (congrArg (fun z => some (rfC b z)) gg_165) dX5_init_165 ?_
      refine lv_iload_n hx hb dX5_init_168 rfl (lv_at hl 1 rfl) ?_
      obtain ⟨i_169, hw⟩ := hw
      refine x_aald (k := b1_159.toNatClampNeg) S G.1 2 (ce_22 (o := (a0 + 5)) (l := 4) (by omega) ((kxr_6_5 _ (kX_lt k0) k0).1) ((kxr_6_5 _ (kX_lt k0) k0).2)) rfl rfl i_169 rfl (if_pos (vpl i_169)) dX5_init_169 ?_
      have q_169 : ((a0 + 5) + 1 + 1 * b1_159.toNatClampNeg) < (a0 + 40) := by have := vpl i_169; omega
      refine lv_iconst (v := 0) hx hb dX5_init_170 (by decide) ?_
      refine lv_bipush (v := 100) hx hb dX5_init_171 (by decide) ?_
      obtain ⟨i_173, hw⟩ := hw
      refine c_iast (k := 0) S G (ce_20 (o := ((a0 + 5) + 1 + 1 * b1_159.toNatClampNeg)) (by omega) (kxe22 _ (kX_lt ((kxr_6_5 _ (kX_lt k0) k0).1)) ((kxr_6_5 _ (kX_lt k0) k0).1) _ (by rw [(kxr_6_5 _ (kX_lt k0) k0).2]; exact vpl i_169)) rfl) i_173 rfl (cs_20 (kxe22 _ (kX_lt ((kxr_6_5 _ (kX_lt k0) k0).1)) ((kxr_6_5 _ (kX_lt k0) k0).1) _ (by rw [(kxr_6_5 _ (kX_lt k0) k0).2]; exact vpl i_169)) rfl) dX5_init_173 (fun H locs G => ?_)
      obtain ⟨h_173, eh_173⟩ : ∃ y : Hs, y = si g_159 ((a0 + 5) + 1 + 1 * b1_159.toNatClampNeg) 0 100 := ⟨_, rfl⟩
      rw [← eh_173] at G
      have hw := hw h_173 eh_173
      have G : okC D q A s b (a0 + 40) (eC q b) h_173 H _ := G
      obtain ⟨a1_174, ea1_174⟩ : ∃ y : Int32, y = b1_159 + 1 := ⟨_, rfl⟩
      have hw := hw a1_174 ea1_174
      refine lv_iinc (v := a1_174) (lv' := [(1, .int a1_174), (0, .ref (b + a0))]) hx hb dX5_init_174 hl (k := 1) rfl (by rw [ea1_174]; rfl) (by decide) rfl (fun ls hl => ?_)
      refine lv_goto (tgt := 159) hx hb dX5_init_177 (by decide) ?_
      exact hw _ _ _ (lv_sub hl [1, 0] rfl) G)
  exact hw _ _ _ (lv_sub hl [1, 0] rfl) G
theorem cx_X3_11 {R : Room} {s : State} {args : Array Value} (hts : ∀ w ∈ gW, w.before args s = true) (hR : rx_State_init.frames + 1 ≤ R.frames ∧ 8 + (2 + 11) + rx_State_init.locals ≤ R.locals) : CallB R s args RX3 11 yX5_init cX5_init 2 none (mw yX5_init cX5_init 2 none) rx_State_init 39 (2000 * 39) 0 ∧ yX5_init.name = "<init>" ∧ (Cond.instanceMethod yX5_init).before args s = true := cxI9 hts km_X3_11 ki_X5_init kn_X5 kk_X5_init rfl rfl rfl (by decide +kernel) hR
theorem cx_X9_64 {R : Room} {s : State} {args : Array Value} (hts : ∀ w ∈ gW, w.before args s = true) (hR : rx_State_init.frames + 1 ≤ R.frames ∧ 8 + (2 + 11) + rx_State_init.locals ≤ R.locals) : CallB R s args RX9 64 yX5_init cX5_init 2 none (mw yX5_init cX5_init 2 none) rx_State_init 39 (2000 * 39) 0 ∧ yX5_init.name = "<init>" ∧ (Cond.instanceMethod yX5_init).before args s = true := cxI9 hts km_X9_64 ki_X5_init kn_X5 kk_X5_init rfl rfl rfl (by decide +kernel) hR
abbrev rx_Tokens_init : Room := { frames := 1, cells := 3, slots := 6000, locals := 20 }
set_option maxHeartbeats 4000000 in
set_option maxRecDepth 100000 in
theorem k_Tokens_init (l : Launch) (D : va_G) (q : Nat → ClassId) (A : Nat → Prop) (b : Nat) (h : Hs) (Q : Hs → Prop) (hw : i_Tokens_init h Q) : Met l yX7_init (mw yX7_init cX7_init 1 none) rx_Tokens_init (va_Pc [.ref (b + 43)] (pC D q A b 44 (eC q b) h)) (va_Qv Q (fun h t => pC D q A b 47 (eC q b) h t) A) 3 (2000 * 3) A := by
  refine met_c (Qp := Q) (mc := 3) (by decide) (Nat.le_of_ble_eq_true rfl) rfl rfl ?_
  intro p e R s m args below meth c Qm ls hR1 hR2 hR3 hR4 S hin RT hl G
  have hx := S.1
  have hb := S.2.1
  have hl : lv_has ls 1 [(0, .ref (b + 43))] := hl
  unfold i_Tokens_init at hw
  refine lv_aload_n hx hb dX7_init_0 rfl (lv_at hl 0 rfl) ?_
  refine W.objInit hx hb S.2.2.2.1 (S.2.2.2.2 _ km_X7_3) (S.2.2.2.2 _ ki_obj) (S.2.2.2.2 _ kk_obj) rfl (hl.1.trans S.2.2.1.symm) rfl dX7_init_1 (Nat.le_trans (Nat.le_of_ble_eq_true rfl) hR1) (Nat.le_trans (Nat.le_of_ble_eq_true rfl) hR2) ?_
  refine W.eq (g2 := F0 m 4 ls []) rfl ?_
  refine lv_aload_n hx hb dX7_init_4 rfl (lv_at hl 0 rfl) ?_
  refine lv_bipush (v := 121) hx hb dX7_init_5 (by decide) ?_
  refine c_newa (N := 121) S G 0 20 rfl rfl ka_int rfl (cz_20 (by decide +kernel) (by decide +kernel)) (fun _ => rfl) (by decide) rfl (Nat.le_of_ble_eq_true rfl) (Nat.le_trans (Nat.le_of_ble_eq_true rfl) hR3) (Nat.le_trans (Nat.le_of_ble_eq_true rfl) hR4) (Nat.le_of_ble_eq_true rfl) dX7_init_7 (fun H G => ?_)
  obtain ⟨h_7, eh_7⟩ : ∃ y : Hs, y = zr h 44 1 := ⟨_, rfl⟩
  rw [← eh_7] at G
  have hw := hw h_7 eh_7
  have G : okC D q A s b 45 (eC q b) h_7 H _ := G
  refine c_putF (C := RX7) (T := TX7) (N := 5) S G inX7 tyX7 tyX7_ok nmX7 (ce_8 (o := 43) (by decide) kx_43) rfl 0 (by decide) kf_X7_9 rfl hin rfl rfl rfl (Nat.le_of_ble_eq_true rfl) (cp_8_0 kx_43) dX7_init_9 (fun H locs G => ?_)
  obtain ⟨h_9, eh_9⟩ : ∃ y : Hs, y = sr h_7 43 0 (44 + 1) := ⟨_, rfl⟩
  rw [← eh_9] at G
  have hw := hw h_9 eh_9
  have G : okC D q A s b 45 (eC q b) h_9 H _ := G
  refine lv_aload_n hx hb dX7_init_12 rfl (lv_at hl 0 rfl) ?_
  refine lv_bipush (v := 121) hx hb dX7_init_13 (by decide) ?_
  refine c_newa (N := 121) S G 0 20 rfl rfl ka_int rfl (cz_20 (by decide +kernel) (by decide +kernel)) (fun _ => rfl) (by decide) rfl (Nat.le_of_ble_eq_true rfl) (Nat.le_trans (Nat.le_of_ble_eq_true rfl) hR3) (Nat.le_trans (Nat.le_of_ble_eq_true rfl) hR4) (Nat.le_of_ble_eq_true rfl) dX7_init_15 (fun H G => ?_)
  obtain ⟨h_15, eh_15⟩ : ∃ y : Hs, y = zr h_9 45 1 := ⟨_, rfl⟩
  rw [← eh_15] at G
  have hw := hw h_15 eh_15
  have G : okC D q A s b 46 (eC q b) h_15 H _ := G
  refine c_putF (C := RX7) (T := TX7) (N := 5) S G inX7 tyX7 tyX7_ok nmX7 (ce_8 (o := 43) (by decide) kx_43) rfl 1 (by decide) kf_X7_15 rfl hin rfl rfl rfl (Nat.le_of_ble_eq_true rfl) (cp_8_1 kx_43) dX7_init_17 (fun H locs G => ?_)
  obtain ⟨h_17, eh_17⟩ : ∃ y : Hs, y = sr h_15 43 1 (45 + 1) := ⟨_, rfl⟩
  rw [← eh_17] at G
  have hw := hw h_17 eh_17
  have G : okC D q A s b 46 (eC q b) h_17 H _ := G
  refine lv_aload_n hx hb dX7_init_20 rfl (lv_at hl 0 rfl) ?_
  refine lv_bipush (v := 121) hx hb dX7_init_21 (by decide) ?_
  refine c_newa (N := 121) S G 0 20 rfl rfl ka_int rfl (cz_20 (by decide +kernel) (by decide +kernel)) (fun _ => rfl) (by decide) rfl (Nat.le_of_ble_eq_true rfl) (Nat.le_trans (Nat.le_of_ble_eq_true rfl) hR3) (Nat.le_trans (Nat.le_of_ble_eq_true rfl) hR4) (Nat.le_of_ble_eq_true rfl) dX7_init_23 (fun H G => ?_)
  obtain ⟨h_23, eh_23⟩ : ∃ y : Hs, y = zr h_17 46 1 := ⟨_, rfl⟩
  rw [← eh_23] at G
  have hw := hw h_23 eh_23
  have G : okC D q A s b 47 (eC q b) h_23 H _ := G
  refine c_putF (C := RX7) (T := TX7) (N := 5) S G inX7 tyX7 tyX7_ok nmX7 (ce_8 (o := 43) (by decide) kx_43) rfl 2 (by decide) kf_X7_18 rfl hin rfl rfl rfl (Nat.le_of_ble_eq_true rfl) (cp_8_2 kx_43) dX7_init_25 (fun H locs G => ?_)
  obtain ⟨h_25, eh_25⟩ : ∃ y : Hs, y = sr h_23 43 2 (46 + 1) := ⟨_, rfl⟩
  rw [← eh_25] at G
  have hw := hw h_25 eh_25
  have G : okC D q A s b 47 (eC q b) h_25 H _ := G
  refine W.widen (k := 3) (n := 2000 * 3) (by omega) (by omega) ?_
  exact RT _ _ _ _ _ G hw dX7_init_28
theorem cx_X3_20 {R : Room} {s : State} {args : Array Value} (hN : va_Nw (.methodLinkNest RX3 20 yX7_init "WordOnPost") s) (hts : ∀ w ∈ gW, w.before args s = true) (hR : rx_Tokens_init.frames + 1 ≤ R.frames ∧ 8 + (1 + 11) + rx_Tokens_init.locals ≤ R.locals) : va_CN R s args RX3 20 yX7_init "WordOnPost" cX7_init 1 none (mw yX7_init cX7_init 1 none) rx_Tokens_init 3 (2000 * 3) 0 ∧ yX7_init.name = "<init>" ∧ (Cond.instanceMethod yX7_init).before args s = true := cxN9 hts hN ki_X7_init kn_X7 kk_X7_init rfl rfl rfl (by decide +kernel) hR
abbrev rx_Ship_init : Room := { frames := 1, cells := 2, slots := 4000, locals := 20 }
set_option maxHeartbeats 4000000 in
set_option maxRecDepth 100000 in
theorem k_Ship_init (l : Launch) (D : va_G) (q : Nat → ClassId) (A : Nat → Prop) (b : Nat) (h : Hs) (Q : Hs → Prop) (hw : i_Ship_init h Q) : Met l yX4_init (mw yX4_init cX4_init 1 none) rx_Ship_init (va_Pc [.ref (b + 417)] (pC D q A b 418 (eC q b) h)) (va_Qv Q (fun h t => pC D q A b 420 (eC q b) h t) A) 2 (2000 * 2) A := by
  refine met_c (Qp := Q) (mc := 2) (by decide) (Nat.le_of_ble_eq_true rfl) rfl rfl ?_
  intro p e R s m args below meth c Qm ls hR1 hR2 hR3 hR4 S hin RT hl G
  have hx := S.1
  have hb := S.2.1
  have hl : lv_has ls 1 [(0, .ref (b + 417))] := hl
  unfold i_Ship_init at hw
  refine lv_aload_n hx hb dX4_init_0 rfl (lv_at hl 0 rfl) ?_
  refine W.objInit hx hb S.2.2.2.1 (S.2.2.2.2 _ km_X4_3) (S.2.2.2.2 _ ki_obj) (S.2.2.2.2 _ kk_obj) rfl (hl.1.trans S.2.2.1.symm) rfl dX4_init_1 (Nat.le_trans (Nat.le_of_ble_eq_true rfl) hR1) (Nat.le_trans (Nat.le_of_ble_eq_true rfl) hR2) ?_
  refine W.eq (g2 := F0 m 4 ls []) rfl ?_
  refine lv_aload_n hx hb dX4_init_4 rfl (lv_at hl 0 rfl) ?_
  refine lv_bipush (v := 6) hx hb dX4_init_5 (by decide) ?_
  refine c_newa (N := 6) S G 0 20 rfl rfl ka_int rfl (cz_20 (by decide +kernel) (by decide +kernel)) (fun _ => rfl) (by decide) rfl (Nat.le_of_ble_eq_true rfl) (Nat.le_trans (Nat.le_of_ble_eq_true rfl) hR3) (Nat.le_trans (Nat.le_of_ble_eq_true rfl) hR4) (Nat.le_of_ble_eq_true rfl) dX4_init_7 (fun H G => ?_)
  obtain ⟨h_7, eh_7⟩ : ∃ y : Hs, y = zr h 418 1 := ⟨_, rfl⟩
  rw [← eh_7] at G
  have hw := hw h_7 eh_7
  have G : okC D q A s b 419 (eC q b) h_7 H _ := G
  refine c_putF (C := RX4) (T := TX4) (N := 2) S G inX4 tyX4 tyX4_ok nmX4 (ce_5 (o := 417) (by decide) kx_417) rfl 0 (by decide) kf_X4_9 rfl hin rfl rfl rfl (Nat.le_of_ble_eq_true rfl) (cp_5_0 kx_417) dX4_init_9 (fun H locs G => ?_)
  obtain ⟨h_9, eh_9⟩ : ∃ y : Hs, y = sr h_7 417 0 (418 + 1) := ⟨_, rfl⟩
  rw [← eh_9] at G
  have hw := hw h_9 eh_9
  have G : okC D q A s b 419 (eC q b) h_9 H _ := G
  refine lv_aload_n hx hb dX4_init_12 rfl (lv_at hl 0 rfl) ?_
  refine lv_bipush (v := 6) hx hb dX4_init_13 (by decide) ?_
  refine c_newa (N := 6) S G 0 20 rfl rfl ka_int rfl (cz_20 (by decide +kernel) (by decide +kernel)) (fun _ => rfl) (by decide) rfl (Nat.le_of_ble_eq_true rfl) (Nat.le_trans (Nat.le_of_ble_eq_true rfl) hR3) (Nat.le_trans (Nat.le_of_ble_eq_true rfl) hR4) (Nat.le_of_ble_eq_true rfl) dX4_init_15 (fun H G => ?_)
  obtain ⟨h_15, eh_15⟩ : ∃ y : Hs, y = zr h_9 419 1 := ⟨_, rfl⟩
  rw [← eh_15] at G
  have hw := hw h_15 eh_15
  have G : okC D q A s b 420 (eC q b) h_15 H _ := G
  refine c_putF (C := RX4) (T := TX4) (N := 2) S G inX4 tyX4 tyX4_ok nmX4 (ce_5 (o := 417) (by decide) kx_417) rfl 1 (by decide) kf_X4_15 rfl hin rfl rfl rfl (Nat.le_of_ble_eq_true rfl) (cp_5_1 kx_417) dX4_init_17 (fun H locs G => ?_)
  obtain ⟨h_17, eh_17⟩ : ∃ y : Hs, y = sr h_15 417 1 (419 + 1) := ⟨_, rfl⟩
  rw [← eh_17] at G
  have hw := hw h_17 eh_17
  have G : okC D q A s b 420 (eC q b) h_17 H _ := G
  refine W.widen (k := 2) (n := 2000 * 2) (by omega) (by omega) ?_
  exact RT _ _ _ _ _ G hw dX4_init_20
theorem cx_X9_47 {R : Room} {s : State} {args : Array Value} (hN : va_Nw (.methodLinkNest RX9 47 yX4_init "WordOnPost") s) (hts : ∀ w ∈ gW, w.before args s = true) (hR : rx_Ship_init.frames + 1 ≤ R.frames ∧ 8 + (1 + 11) + rx_Ship_init.locals ≤ R.locals) : va_CN R s args RX9 47 yX4_init "WordOnPost" cX4_init 1 none (mw yX4_init cX4_init 1 none) rx_Ship_init 2 (2000 * 2) 0 ∧ yX4_init.name = "<init>" ∧ (Cond.instanceMethod yX4_init).before args s = true := cxN9 hts hN ki_X4_init kn_X4 kk_X4_init rfl rfl rfl (by decide +kernel) hR
abbrev rx_Lives_init : Room := { frames := 2, cells := 68, slots := 136000, locals := 44 }
set_option maxHeartbeats 4000000 in
set_option maxRecDepth 100000 in
theorem k_Lives_init (l : Launch) (D : va_G) (q : Nat → ClassId) (A : Nat → Prop) (b : Nat) (h : Hs) (Q : Hs → Prop) (hw : i_Lives_init h Q) : Met l yX3_init (mw yX3_init cX3_init 2 none) rx_Lives_init (va_Pc [.ref (b + 2)] (pC D q A b 3 (eC q b) h)) (va_Qv Q (fun h t => pC D q A b 71 (eC q b) h t) A) 68 (2000 * 68) A := by
  refine met_c (Qp := Q) (mc := 68) (by decide) (Nat.le_of_ble_eq_true rfl) rfl rfl ?_
  intro p e R s m args below meth c Qm ls hR1 hR2 hR3 hR4 S hin RT hl G
  have hx := S.1
  have hb := S.2.1
  have hl : lv_has ls 2 [(0, .ref (b + 2))] := hl
  unfold i_Lives_init at hw
  refine lv_aload_n hx hb dX3_init_0 rfl (lv_at hl 0 rfl) ?_
  refine W.objInit hx hb S.2.2.2.1 (S.2.2.2.2 _ km_X3_3) (S.2.2.2.2 _ ki_obj) (S.2.2.2.2 _ kk_obj) rfl (hl.1.trans S.2.2.1.symm) rfl dX3_init_1 (Nat.le_trans (Nat.le_of_ble_eq_true rfl) hR1) (Nat.le_trans (Nat.le_of_ble_eq_true rfl) hR2) ?_
  refine W.eq (g2 := F0 m 4 ls []) rfl ?_
  refine lv_aload_n hx hb dX3_init_4 rfl (lv_at hl 0 rfl) ?_
  refine c_new (C := RX5) (T := TX5) (N := 17) S G inX5 tyX5 tyX5_ok kq_X3_9 kj_X5 kn_X5 rfl (cz_6 (by decide +kernel)) cf_6 (Nat.le_trans (Nat.le_of_ble_eq_true rfl) hR3) (Nat.le_trans (Nat.le_of_ble_eq_true rfl) hR4) (Nat.le_of_ble_eq_true rfl) dX3_init_5 (fun H G => ?_)
  obtain ⟨h_5, eh_5⟩ : ∃ y : Hs, y = zr h 3 1 := ⟨_, rfl⟩
  rw [← eh_5] at G
  have hw := hw h_5 eh_5
  have G : okC D q A s b 4 (eC q b) h_5 H _ := G
  refine lv_dup hx hb dX3_init_8 rfl ?_
  refine c_I (mc := 39) S hl.1 G (k_State_init l D q A b 3 (by decide +kernel) h_5 _ hw) (cx_X3_11 S.2.2.2.2 ⟨Nat.le_trans (Nat.le_of_ble_eq_true rfl) hR1, Nat.le_trans (Nat.le_of_ble_eq_true rfl) hR2⟩) rfl rfl (Nat.le_of_ble_eq_true rfl) dX3_init_9 ⟨(Nat.le_trans (Nat.le_of_ble_eq_true rfl) hR3), (Nat.le_trans (Nat.le_of_ble_eq_true rfl) hR4)⟩ (fun h_9 H locs G hw => ?_)
  have G : okC D q A s b 43 (eC q b) h_9 H _ := G
  refine c_putF (C := RX3) (T := TX3) (N := 10) S G inX3 tyX3 tyX3_ok nmX3 (ce_4 (o := 2) (by decide) kx_2) rfl 0 (by decide) kf_X3_12 rfl hin rfl rfl rfl (Nat.le_of_ble_eq_true rfl) (cp_4_0 kx_2) dX3_init_12 (fun H locs G => ?_)
  obtain ⟨h_12, eh_12⟩ : ∃ y : Hs, y = sr h_9 2 0 (3 + 1) := ⟨_, rfl⟩
  rw [← eh_12] at G
  have hw := hw h_12 eh_12
  have G : okC D q A s b 43 (eC q b) h_12 H _ := G
  refine lv_aload_n hx hb dX3_init_15 rfl (lv_at hl 0 rfl) ?_
  refine c_new (C := RX7) (T := TX7) (N := 5) S G inX7 tyX7 tyX7_ok kq_X3_18 kj_X7 kn_X7 rfl (cz_8 (by decide +kernel)) cf_8 (Nat.le_trans (Nat.le_of_ble_eq_true rfl) hR3) (Nat.le_trans (Nat.le_of_ble_eq_true rfl) hR4) (Nat.le_of_ble_eq_true rfl) dX3_init_16 (fun H G => ?_)
  obtain ⟨h_16, eh_16⟩ : ∃ y : Hs, y = zr h_12 43 1 := ⟨_, rfl⟩
  rw [← eh_16] at G
  have hw := hw h_16 eh_16
  have G : okC D q A s b 44 (eC q b) h_16 H _ := G
  refine lv_dup hx hb dX3_init_19 rfl ?_
  refine c_IN (mc := 3) S hl.1 G (k_Tokens_init l D q A b h_16 _ hw) (cx_X3_20 G.2.2.1.1.1 S.2.2.2.2 ⟨Nat.le_trans (Nat.le_of_ble_eq_true rfl) hR1, Nat.le_trans (Nat.le_of_ble_eq_true rfl) hR2⟩) rfl rfl (Nat.le_of_ble_eq_true rfl) dX3_init_20 ⟨(Nat.le_trans (Nat.le_of_ble_eq_true rfl) hR3), (Nat.le_trans (Nat.le_of_ble_eq_true rfl) hR4)⟩ (fun h_20 H locs G hw => ?_)
  have G : okC D q A s b 47 (eC q b) h_20 H _ := G
  refine c_putF (C := RX3) (T := TX3) (N := 10) S G inX3 tyX3 tyX3_ok nmX3 (ce_4 (o := 2) (by decide) kx_2) rfl 1 (by decide) kf_X3_21 rfl hin rfl rfl rfl (Nat.le_of_ble_eq_true rfl) (cp_4_1 kx_2) dX3_init_23 (fun H locs G => ?_)
  obtain ⟨h_23, eh_23⟩ : ∃ y : Hs, y = sr h_20 2 1 (43 + 1) := ⟨_, rfl⟩
  rw [← eh_23] at G
  have hw := hw h_23 eh_23
  have G : okC D q A s b 47 (eC q b) h_23 H _ := G
  refine lv_aload_n hx hb dX3_init_26 rfl (lv_at hl 0 rfl) ?_
  refine lv_iconst (v := 4) hx hb dX3_init_27 (by decide) ?_
  refine c_anew (N := 4) S G 4 24 rfl G.2.2.1.2.2.1 kq_X3_25 (cz_24 (by decide +kernel) (by decide +kernel)) (fun _ => ite_self _) (by decide) rfl (Nat.le_trans (Nat.le_of_ble_eq_true rfl) hR3) (Nat.le_trans (Nat.le_of_ble_eq_true rfl) hR4) (Nat.le_of_ble_eq_true rfl) dX3_init_28 (fun H G => ?_)
  obtain ⟨h_28, eh_28⟩ : ∃ y : Hs, y = zr h_23 47 1 := ⟨_, rfl⟩
  rw [← eh_28] at G
  have hw := hw h_28 eh_28
  have G : okC D q A s b 48 (eC q b) h_28 H _ := G
  refine c_putF (C := RX3) (T := TX3) (N := 10) S G inX3 tyX3 tyX3_ok nmX3 (ce_4 (o := 2) (by decide) kx_2) rfl 2 (by decide) kf_X3_27 rfl hin rfl rfl rfl (Nat.le_of_ble_eq_true rfl) (cp_4_2 kx_2) dX3_init_31 (fun H locs G => ?_)
  obtain ⟨h_31, eh_31⟩ : ∃ y : Hs, y = sr h_28 2 2 (47 + 1) := ⟨_, rfl⟩
  rw [← eh_31] at G
  have hw := hw h_31 eh_31
  have G : okC D q A s b 48 (eC q b) h_31 H _ := G
  refine lv_aload_n hx hb dX3_init_34 rfl (lv_at hl 0 rfl) ?_
  refine lv_iconst (v := 4) hx hb dX3_init_35 (by decide) ?_
  refine c_newa (N := 4) S G 0 20 rfl rfl ka_int rfl (cz_20 (by decide +kernel) (by decide +kernel)) (fun _ => rfl) (by decide) rfl (Nat.le_of_ble_eq_true rfl) (Nat.le_trans (Nat.le_of_ble_eq_true rfl) hR3) (Nat.le_trans (Nat.le_of_ble_eq_true rfl) hR4) (Nat.le_of_ble_eq_true rfl) dX3_init_36 (fun H G => ?_)
  obtain ⟨h_36, eh_36⟩ : ∃ y : Hs, y = zr h_31 48 1 := ⟨_, rfl⟩
  rw [← eh_36] at G
  have hw := hw h_36 eh_36
  have G : okC D q A s b 49 (eC q b) h_36 H _ := G
  refine c_putF (C := RX3) (T := TX3) (N := 10) S G inX3 tyX3 tyX3_ok nmX3 (ce_4 (o := 2) (by decide) kx_2) rfl 3 (by decide) kf_X3_31 rfl hin rfl rfl rfl (Nat.le_of_ble_eq_true rfl) (cp_4_3 kx_2) dX3_init_38 (fun H locs G => ?_)
  obtain ⟨h_38, eh_38⟩ : ∃ y : Hs, y = sr h_36 2 3 (48 + 1) := ⟨_, rfl⟩
  rw [← eh_38] at G
  have hw := hw h_38 eh_38
  have G : okC D q A s b 49 (eC q b) h_38 H _ := G
  refine lv_aload_n hx hb dX3_init_41 rfl (lv_at hl 0 rfl) ?_
  refine lv_bipush (v := 120) hx hb dX3_init_42 (by decide) ?_
  refine c_newa (N := 120) S G 0 20 rfl rfl ka_int rfl (cz_20 (by decide +kernel) (by decide +kernel)) (fun _ => rfl) (by decide) rfl (Nat.le_of_ble_eq_true rfl) (Nat.le_trans (Nat.le_of_ble_eq_true rfl) hR3) (Nat.le_trans (Nat.le_of_ble_eq_true rfl) hR4) (Nat.le_of_ble_eq_true rfl) dX3_init_44 (fun H G => ?_)
  obtain ⟨h_44, eh_44⟩ : ∃ y : Hs, y = zr h_38 49 1 := ⟨_, rfl⟩
  rw [← eh_44] at G
  have hw := hw h_44 eh_44
  have G : okC D q A s b 50 (eC q b) h_44 H _ := G
  refine c_putF (C := RX3) (T := TX3) (N := 10) S G inX3 tyX3 tyX3_ok nmX3 (ce_4 (o := 2) (by decide) kx_2) rfl 4 (by decide) kf_X3_35 rfl hin rfl rfl rfl (Nat.le_of_ble_eq_true rfl) (cp_4_4 kx_2) dX3_init_46 (fun H locs G => ?_)
  obtain ⟨h_46, eh_46⟩ : ∃ y : Hs, y = sr h_44 2 4 (49 + 1) := ⟨_, rfl⟩
  rw [← eh_46] at G
  have hw := hw h_46 eh_46
  have G : okC D q A s b 50 (eC q b) h_46 H _ := G
  refine lv_aload_n hx hb dX3_init_49 rfl (lv_at hl 0 rfl) ?_
  refine lv_bipush (v := 6) hx hb dX3_init_50 (by decide) ?_
  refine c_newa (N := 6) S G 0 20 rfl rfl ka_int rfl (cz_20 (by decide +kernel) (by decide +kernel)) (fun _ => rfl) (by decide) rfl (Nat.le_of_ble_eq_true rfl) (Nat.le_trans (Nat.le_of_ble_eq_true rfl) hR3) (Nat.le_trans (Nat.le_of_ble_eq_true rfl) hR4) (Nat.le_of_ble_eq_true rfl) dX3_init_52 (fun H G => ?_)
  obtain ⟨h_52, eh_52⟩ : ∃ y : Hs, y = zr h_46 50 1 := ⟨_, rfl⟩
  rw [← eh_52] at G
  have hw := hw h_52 eh_52
  have G : okC D q A s b 51 (eC q b) h_52 H _ := G
  refine c_putF (C := RX3) (T := TX3) (N := 10) S G inX3 tyX3 tyX3_ok nmX3 (ce_4 (o := 2) (by decide) kx_2) rfl 6 (by decide) kf_X3_38 rfl hin rfl rfl rfl (Nat.le_of_ble_eq_true rfl) (cp_4_6 kx_2) dX3_init_54 (fun H locs G => ?_)
  obtain ⟨h_54, eh_54⟩ : ∃ y : Hs, y = sr h_52 2 6 (50 + 1) := ⟨_, rfl⟩
  rw [← eh_54] at G
  have hw := hw h_54 eh_54
  have G : okC D q A s b 51 (eC q b) h_54 H _ := G
  refine lv_aload_n hx hb dX3_init_57 rfl (lv_at hl 0 rfl) ?_
  refine lv_bipush (v := 6) hx hb dX3_init_58 (by decide) ?_
  refine c_newa (N := 6) S G 0 20 rfl rfl ka_int rfl (cz_20 (by decide +kernel) (by decide +kernel)) (fun _ => rfl) (by decide) rfl (Nat.le_of_ble_eq_true rfl) (Nat.le_trans (Nat.le_of_ble_eq_true rfl) hR3) (Nat.le_trans (Nat.le_of_ble_eq_true rfl) hR4) (Nat.le_of_ble_eq_true rfl) dX3_init_60 (fun H G => ?_)
  obtain ⟨h_60, eh_60⟩ : ∃ y : Hs, y = zr h_54 51 1 := ⟨_, rfl⟩
  rw [← eh_60] at G
  have hw := hw h_60 eh_60
  have G : okC D q A s b 52 (eC q b) h_60 H _ := G
  refine c_putF (C := RX3) (T := TX3) (N := 10) S G inX3 tyX3 tyX3_ok nmX3 (ce_4 (o := 2) (by decide) kx_2) rfl 7 (by decide) kf_X3_41 rfl hin rfl rfl rfl (Nat.le_of_ble_eq_true rfl) (cp_4_7 kx_2) dX3_init_62 (fun H locs G => ?_)
  obtain ⟨h_62, eh_62⟩ : ∃ y : Hs, y = sr h_60 2 7 (51 + 1) := ⟨_, rfl⟩
  rw [← eh_62] at G
  have hw := hw h_62 eh_62
  have G : okC D q A s b 52 (eC q b) h_62 H _ := G
  refine lv_aload_n hx hb dX3_init_65 rfl (lv_at hl 0 rfl) ?_
  refine lv_bipush (v := 6) hx hb dX3_init_66 (by decide) ?_
  refine lv_bipush (v := 10) hx hb dX3_init_68 (by decide) ?_
  refine c_mna (N := 6) (K := 10) S G kq_X3_44 ka_int (cz_22 (by decide +kernel) (by decide +kernel)) (fun i hi => cz_20 ((show ∀ i, i < 6 → kX (52 + 1 + 1 * i) = 20 from (by decide +kernel)) i hi) ((show ∀ i, i < 6 → lX (52 + 1 + 1 * i) = 10 from (by decide +kernel)) i hi)) (by decide) (by decide) rfl rfl (Nat.le_of_ble_eq_true rfl) (Nat.le_of_ble_eq_true rfl) (Nat.le_trans (Nat.le_of_ble_eq_true rfl) hR3) (Nat.le_trans (Nat.le_of_ble_eq_true rfl) hR4) dX3_init_70 (fun H G => ?_)
  obtain ⟨h_70, eh_70⟩ : ∃ y : Hs, y = zr h_62 52 (1 + 6) := ⟨_, rfl⟩
  rw [← eh_70] at G
  have hw := hw h_70 eh_70
  have G : okC D q A s b 59 (eC q b) h_70 H _ := G
  refine c_putF (C := RX3) (T := TX3) (N := 10) S G inX3 tyX3 tyX3_ok nmX3 (ce_4 (o := 2) (by decide) kx_2) rfl 8 (by decide) kf_X3_46 rfl hin rfl rfl rfl (Nat.le_of_ble_eq_true rfl) (cp_4_8 kx_2) dX3_init_74 (fun H locs G => ?_)
  obtain ⟨h_74, eh_74⟩ : ∃ y : Hs, y = sr h_70 2 8 (52 + 1) := ⟨_, rfl⟩
  rw [← eh_74] at G
  have hw := hw h_74 eh_74
  have G : okC D q A s b 59 (eC q b) h_74 H _ := G
  refine lv_iconst (v := 0) hx hb dX3_init_77 (by decide) ?_
  refine lv_istore_n (lv' := [(1, .int 0), (0, .ref (b + 2))]) hx hb dX3_init_78 rfl hl (by decide) rfl (fun ls hl => ?_)
  have hw := hw (fun (b1_79 : Int32) (d_79 : Nat) (g_79 : Hs) => ∀ (ls : Array Slot) (H : Heap) (locs : List Loc), lv_has ls 2 [(0, .ref (b + 2)), (1, .int b1_79)] → okC D q A s b (3 + d_79) (eC q b) g_79 H locs → W p l e R s m args below meth c H locs d_79 (2000 * d_79) Qm (F0 m 79 ls [])) (by
    intro b1_79 d_79 g_79 hw ls H locs hl G
    obtain ⟨dm_79, hw⟩ := hw
    refine lv_iload_n hx hb dX3_init_79 rfl (lv_at hl 1 rfl) ?_
    refine lv_iconst (v := 4) hx hb dX3_init_80 (by decide) ?_
    refine lv_icmp_ge (tgt := 103) hx hb dX3_init_81 (by decide) (fun c_81 => ?_) (fun c_81 => ?_)
    · have hw := hw.1 c_81
      obtain ⟨ed, hz9⟩ := hw
      subst ed
      refine W.widen (k := 68) (n := 2000 * 68) (by omega) (by omega) ?_
      exact RT _ _ _ _ _ G hz9 dX3_init_103
    · have hw := hw.2 c_81
      refine lv_aload_n hx hb dX3_init_84 rfl (lv_at hl 0 rfl) ?_
      obtain ⟨gg_85, hw⟩ := hw
      refine x_get (C := RX3) (T := TX3) (n := 10) S G.1 inX3 (ce_4 (o := 2) (by omega) kx_2) rfl 2 (by decide) kf_X3_27 (congrArg (fun z => some (rfC b z)) gg_85) dX3_init_85 ?_
      refine lv_iload_n hx hb dX3_init_88 rfl (lv_at hl 1 rfl) ?_
      obtain ⟨kn_89, hw⟩ := hw
      obtain ⟨w_89, hw⟩ := hw
      refine c_new (C := RX6) (T := TX6) (N := 8) S G inX6 tyX6 tyX6_ok kq_X3_25 kj_X6 kn_X6 rfl (cz_7 kn_89) cf_7 (Nat.le_trans (show _ ≤ 68 by omega) hR3) (Nat.le_trans (show _ ≤ 2000 * 68 by omega) hR4) (Nat.le_of_ble_eq_true rfl) dX3_init_89 (fun H G => ?_)
      obtain ⟨h_89, eh_89⟩ : ∃ y : Hs, y = zr g_79 (3 + d_79) 1 := ⟨_, rfl⟩
      rw [← eh_89] at G
      have hw := hw h_89 eh_89
      have G : okC D q A s b (3 + d_79 + 1) (eC q b) h_89 H _ := G
      refine lv_dup hx hb dX3_init_92 rfl ?_
      obtain ⟨w_93, hw⟩ := hw
      refine c_IN (mc := 2) S hl.1 G (k_Tale_init l D q A b (3 + d_79) kn_89 h_89 _ hw) (cx_X3_49 G.2.2.1.1.2.1 S.2.2.2.2 ⟨Nat.le_trans (Nat.le_of_ble_eq_true rfl) hR1, Nat.le_trans (Nat.le_of_ble_eq_true rfl) hR2⟩) rfl rfl (Nat.le_of_ble_eq_true rfl) dX3_init_93 ⟨(Nat.le_trans (show _ ≤ 68 by omega) hR3), (Nat.le_trans (show _ ≤ 2000 * 68 by omega) hR4)⟩ (fun h_93 H locs G hw => ?_)
      have G : okC D q A s b (3 + d_79 + 3) (eC q b) h_93 H _ := G
      obtain ⟨i_96, hw⟩ := hw
      refine c_aast S G 4 (ce_24 (o := 47) (l := 4) (by omega) (by decide +kernel) (by decide +kernel)) rfl (ce_7 (o := (3 + d_79)) (by omega) kn_89) rfl i_96 (cs_24 (by decide +kernel) (by decide +kernel) (vpl i_96)) dX3_init_96 (fun H locs G => ?_)
      obtain ⟨h_96, eh_96⟩ : ∃ y : Hs, y = sr h_93 47 b1_79.toNatClampNeg ((3 + d_79) + 1) := ⟨_, rfl⟩
      rw [← eh_96] at G
      have hw := hw h_96 eh_96
      have G : okC D q A s b (3 + d_79 + 3) (eC q b) h_96 H _ := G
      obtain ⟨a1_97, ea1_97⟩ : ∃ y : Int32, y = b1_79 + 1 := ⟨_, rfl⟩
      have hw := hw a1_97 ea1_97
      refine lv_iinc (v := a1_97) (lv' := [(1, .int a1_97), (0, .ref (b + 2))]) hx hb dX3_init_97 hl (k := 1) rfl (by rw [ea1_97]; rfl) (by decide) rfl (fun ls hl => ?_)
      refine lv_goto (tgt := 79) hx hb dX3_init_100 (by decide) ?_
      exact hw _ _ _ (lv_sub hl [1, 0] rfl) G)
  exact hw _ _ _ (lv_sub hl [1, 0] rfl) G
theorem cx_X8_11 {R : Room} {s : State} {args : Array Value} (hts : ∀ w ∈ gW, w.before args s = true) (hR : rx_Lives_init.frames + 1 ≤ R.frames ∧ 8 + (2 + 11) + rx_Lives_init.locals ≤ R.locals) : CallB R s args RX8 11 yX3_init cX3_init 2 none (mw yX3_init cX3_init 2 none) rx_Lives_init 68 (2000 * 68) 0 ∧ yX3_init.name = "<init>" ∧ (Cond.instanceMethod yX3_init).before args s = true := cxI9 hts km_X8_11 ki_X3_init kn_X3 kk_X3_init rfl rfl rfl (by decide +kernel) hR
abbrev rx_Chances_init : Room := { frames := 2, cells := 277, slots := 554000, locals := 42 }
set_option maxHeartbeats 4000000 in
set_option maxRecDepth 100000 in
theorem k_Chances_init (l : Launch) (D : va_G) (q : Nat → ClassId) (A : Nat → Prop) (b : Nat) (h : Hs) (Q : Hs → Prop) (hw : i_Chances_init h Q) : Met l yX1_init (mw yX1_init cX1_init 2 none) rx_Chances_init (va_Pc [.ref (b + 71)] (pC D q A b 72 (eC q b) h)) (va_Qv Q (fun h t => pC D q A b 349 (eC q b) h t) A) 277 (2000 * 277) A := by
  refine met_c (Qp := Q) (mc := 277) (by decide) (Nat.le_of_ble_eq_true rfl) rfl rfl ?_
  intro p e R s m args below meth c Qm ls hR1 hR2 hR3 hR4 S hin RT hl G
  have hx := S.1
  have hb := S.2.1
  have hl : lv_has ls 2 [(0, .ref (b + 71))] := hl
  unfold i_Chances_init at hw
  refine lv_aload_n hx hb dX1_init_0 rfl (lv_at hl 0 rfl) ?_
  refine W.objInit hx hb S.2.2.2.1 (S.2.2.2.2 _ km_X1_3) (S.2.2.2.2 _ ki_obj) (S.2.2.2.2 _ kk_obj) rfl (hl.1.trans S.2.2.1.symm) rfl dX1_init_1 (Nat.le_trans (Nat.le_of_ble_eq_true rfl) hR1) (Nat.le_trans (Nat.le_of_ble_eq_true rfl) hR2) ?_
  refine W.eq (g2 := F0 m 4 ls []) rfl ?_
  refine lv_aload_n hx hb dX1_init_4 rfl (lv_at hl 0 rfl) ?_
  refine lv_bipush (v := 126) hx hb dX1_init_5 (by decide) ?_
  refine c_anew (N := 126) S G 3 23 rfl G.2.2.1.2.1 kq_X1_9 (cz_23 (by decide +kernel) (by decide +kernel)) (fun _ => ite_self _) (by decide) rfl (Nat.le_trans (Nat.le_of_ble_eq_true rfl) hR3) (Nat.le_trans (Nat.le_of_ble_eq_true rfl) hR4) (Nat.le_of_ble_eq_true rfl) dX1_init_7 (fun H G => ?_)
  obtain ⟨h_7, eh_7⟩ : ∃ y : Hs, y = zr h 72 1 := ⟨_, rfl⟩
  rw [← eh_7] at G
  have hw := hw h_7 eh_7
  have G : okC D q A s b 73 (eC q b) h_7 H _ := G
  refine c_putF (C := RX1) (T := TX1) (N := 4) S G inX1 tyX1 tyX1_ok nmX1 (ce_2 (o := 71) (by decide) kx_71) rfl 0 (by decide) kf_X1_11 rfl hin rfl rfl rfl (Nat.le_of_ble_eq_true rfl) (cp_2_0 kx_71) dX1_init_10 (fun H locs G => ?_)
  obtain ⟨h_10, eh_10⟩ : ∃ y : Hs, y = sr h_7 71 0 (72 + 1) := ⟨_, rfl⟩
  rw [← eh_10] at G
  have hw := hw h_10 eh_10
  have G : okC D q A s b 73 (eC q b) h_10 H _ := G
  refine lv_aload_n hx hb dX1_init_13 rfl (lv_at hl 0 rfl) ?_
  refine lv_bipush (v := 10) hx hb dX1_init_14 (by decide) ?_
  refine c_anew (N := 10) S G 3 23 rfl G.2.2.1.2.1 kq_X1_9 (cz_23 (by decide +kernel) (by decide +kernel)) (fun _ => ite_self _) (by decide) rfl (Nat.le_trans (Nat.le_of_ble_eq_true rfl) hR3) (Nat.le_trans (Nat.le_of_ble_eq_true rfl) hR4) (Nat.le_of_ble_eq_true rfl) dX1_init_16 (fun H G => ?_)
  obtain ⟨h_16, eh_16⟩ : ∃ y : Hs, y = zr h_10 73 1 := ⟨_, rfl⟩
  rw [← eh_16] at G
  have hw := hw h_16 eh_16
  have G : okC D q A s b 74 (eC q b) h_16 H _ := G
  refine c_putF (C := RX1) (T := TX1) (N := 4) S G inX1 tyX1 tyX1_ok nmX1 (ce_2 (o := 71) (by decide) kx_71) rfl 1 (by decide) kf_X1_17 rfl hin rfl rfl rfl (Nat.le_of_ble_eq_true rfl) (cp_2_1 kx_71) dX1_init_19 (fun H locs G => ?_)
  obtain ⟨h_19, eh_19⟩ : ∃ y : Hs, y = sr h_16 71 1 (73 + 1) := ⟨_, rfl⟩
  rw [← eh_19] at G
  have hw := hw h_19 eh_19
  have G : okC D q A s b 74 (eC q b) h_19 H _ := G
  refine lv_aload_n hx hb dX1_init_22 rfl (lv_at hl 0 rfl) ?_
  refine c_new (C := RX0) (T := TX0) (N := 2) S G inX0 tyX0 tyX0_ok kq_X1_9 kj_X0 kn_X0 rfl (cz_1 (by decide +kernel)) cf_1 (Nat.le_trans (Nat.le_of_ble_eq_true rfl) hR3) (Nat.le_trans (Nat.le_of_ble_eq_true rfl) hR4) (Nat.le_of_ble_eq_true rfl) dX1_init_23 (fun H G => ?_)
  obtain ⟨h_23, eh_23⟩ : ∃ y : Hs, y = zr h_19 74 1 := ⟨_, rfl⟩
  rw [← eh_23] at G
  have hw := hw h_23 eh_23
  have G : okC D q A s b 75 (eC q b) h_23 H _ := G
  refine lv_dup hx hb dX1_init_26 rfl ?_
  refine lv_iconst (v := 5) hx hb dX1_init_27 (by decide) ?_
  refine c_I (mc := 1) S hl.1 G (k_Big_init l D q A b 74 5 (by decide +kernel) h_23 _ hw) (cx_X1_20 S.2.2.2.2 ⟨Nat.le_trans (Nat.le_of_ble_eq_true rfl) hR1, Nat.le_trans (Nat.le_of_ble_eq_true rfl) hR2⟩) rfl rfl (Nat.le_of_ble_eq_true rfl) dX1_init_28 ⟨(Nat.le_trans (Nat.le_of_ble_eq_true rfl) hR3), (Nat.le_trans (Nat.le_of_ble_eq_true rfl) hR4)⟩ (fun h_28 H locs G hw => ?_)
  have G : okC D q A s b 76 (eC q b) h_28 H _ := G
  refine c_putF (C := RX1) (T := TX1) (N := 4) S G inX1 tyX1 tyX1_ok nmX1 (ce_2 (o := 71) (by decide) kx_71) rfl 2 (by decide) kf_X1_23 rfl hin rfl rfl rfl (Nat.le_of_ble_eq_true rfl) (cp_2_2 kx_71) dX1_init_31 (fun H locs G => ?_)
  obtain ⟨h_31, eh_31⟩ : ∃ y : Hs, y = sr h_28 71 2 (74 + 1) := ⟨_, rfl⟩
  rw [← eh_31] at G
  have hw := hw h_31 eh_31
  have G : okC D q A s b 76 (eC q b) h_31 H _ := G
  refine lv_aload_n hx hb dX1_init_34 rfl (lv_at hl 0 rfl) ?_
  refine lv_bipush (v := 6) hx hb dX1_init_35 (by decide) ?_
  refine c_newa (N := 6) S G 0 20 rfl rfl ka_int rfl (cz_20 (by decide +kernel) (by decide +kernel)) (fun _ => rfl) (by decide) rfl (Nat.le_of_ble_eq_true rfl) (Nat.le_trans (Nat.le_of_ble_eq_true rfl) hR3) (Nat.le_trans (Nat.le_of_ble_eq_true rfl) hR4) (Nat.le_of_ble_eq_true rfl) dX1_init_37 (fun H G => ?_)
  obtain ⟨h_37, eh_37⟩ : ∃ y : Hs, y = zr h_31 76 1 := ⟨_, rfl⟩
  rw [← eh_37] at G
  have hw := hw h_37 eh_37
  have G : okC D q A s b 77 (eC q b) h_37 H _ := G
  refine c_putF (C := RX1) (T := TX1) (N := 4) S G inX1 tyX1 tyX1_ok nmX1 (ce_2 (o := 71) (by decide) kx_71) rfl 3 (by decide) kf_X1_27 rfl hin rfl rfl rfl (Nat.le_of_ble_eq_true rfl) (cp_2_3 kx_71) dX1_init_39 (fun H locs G => ?_)
  obtain ⟨h_39, eh_39⟩ : ∃ y : Hs, y = sr h_37 71 3 (76 + 1) := ⟨_, rfl⟩
  rw [← eh_39] at G
  have hw := hw h_39 eh_39
  have G : okC D q A s b 77 (eC q b) h_39 H _ := G
  refine lv_iconst (v := 0) hx hb dX1_init_42 (by decide) ?_
  refine lv_istore_n (lv' := [(1, .int 0), (0, .ref (b + 71))]) hx hb dX1_init_43 rfl hl (by decide) rfl (fun ls hl => ?_)
  have hw := hw (fun (b1_44 : Int32) (d_44 : Nat) (g_44 : Hs) => ∀ (ls : Array Slot) (H : Heap) (locs : List Loc), lv_has ls 2 [(0, .ref (b + 71)), (1, .int b1_44)] → okC D q A s b (72 + d_44) (eC q b) g_44 H locs → W p l e R s m args below meth c H locs d_44 (2000 * d_44) Qm (F0 m 44 ls [])) (by
    intro b1_44 d_44 g_44 hw ls H locs hl G
    obtain ⟨dm_44, hw⟩ := hw
    refine lv_iload_n hx hb dX1_init_44 rfl (lv_at hl 1 rfl) ?_
    refine lv_aload_n hx hb dX1_init_45 rfl (lv_at hl 0 rfl) ?_
    obtain ⟨gg_46, hw⟩ := hw
    refine x_get (C := RX1) (T := TX1) (n := 4) S G.1 inX1 (ce_2 (o := 71) (by omega) kx_71) rfl 0 (by decide) kf_X1_11 (congrArg (fun z => some (rfC b z)) gg_46) dX1_init_46 ?_
    refine x_alen (v := 126) S G.1 3 (ce_23 (o := 72) (l := 126) (by omega) (by decide +kernel) (by decide +kernel)) rfl rfl dX1_init_49 ?_
    refine lv_icmp_ge (tgt := 73) hx hb dX1_init_50 (by decide) (fun c_50 => ?_) (fun c_50 => ?_)
    · have hw := hw.1 c_50
      refine lv_iconst (v := 0) hx hb dX1_init_73 (by decide) ?_
      refine lv_istore_n (lv' := [(1, .int 0), (0, .ref (b + 71))]) hx hb dX1_init_74 rfl hl (by decide) rfl (fun ls hl => ?_)
      have hw := hw (fun (b1_75 : Int32) (d_75 : Nat) (g_75 : Hs) => ∀ (ls : Array Slot) (H : Heap) (locs : List Loc), lv_has ls 2 [(0, .ref (b + 71)), (1, .int b1_75)] → okC D q A s b (72 + d_75) (eC q b) g_75 H locs → W p l e R s m args below meth c H locs d_75 (2000 * d_75) Qm (F0 m 75 ls [])) (by
        intro b1_75 d_75 g_75 hw ls H locs hl G
        obtain ⟨dm_75, hw⟩ := hw
        refine lv_iload_n hx hb dX1_init_75 rfl (lv_at hl 1 rfl) ?_
        refine lv_aload_n hx hb dX1_init_76 rfl (lv_at hl 0 rfl) ?_
        obtain ⟨gg_77, hw⟩ := hw
        refine x_get (C := RX1) (T := TX1) (n := 4) S G.1 inX1 (ce_2 (o := 71) (by omega) kx_71) rfl 1 (by decide) kf_X1_17 (congrArg (fun z => some (rfC b z)) gg_77) dX1_init_77 ?_
        refine x_alen (v := 10) S G.1 3 (ce_23 (o := 73) (l := 10) (by omega) (by decide +kernel) (by decide +kernel)) rfl rfl dX1_init_80 ?_
        refine lv_icmp_ge (tgt := 104) hx hb dX1_init_81 (by decide) (fun c_81 => ?_) (fun c_81 => ?_)
        · have hw := hw.1 c_81
          obtain ⟨ed, hz9⟩ := hw
          subst ed
          refine W.widen (k := 277) (n := 2000 * 277) (by omega) (by omega) ?_
          exact RT _ _ _ _ _ G hz9 dX1_init_104
        · have hw := hw.2 c_81
          refine lv_aload_n hx hb dX1_init_84 rfl (lv_at hl 0 rfl) ?_
          obtain ⟨gg_85, hw⟩ := hw
          refine x_get (C := RX1) (T := TX1) (n := 4) S G.1 inX1 (ce_2 (o := 71) (by omega) kx_71) rfl 1 (by decide) kf_X1_17 (congrArg (fun z => some (rfC b z)) gg_85) dX1_init_85 ?_
          refine lv_iload_n hx hb dX1_init_88 rfl (lv_at hl 1 rfl) ?_
          obtain ⟨kn_89, hw⟩ := hw
          obtain ⟨w_89, hw⟩ := hw
          refine c_new (C := RX0) (T := TX0) (N := 2) S G inX0 tyX0 tyX0_ok kq_X1_9 kj_X0 kn_X0 rfl (cz_1 kn_89) cf_1 (Nat.le_trans (show _ ≤ 277 by omega) hR3) (Nat.le_trans (show _ ≤ 2000 * 277 by omega) hR4) (Nat.le_of_ble_eq_true rfl) dX1_init_89 (fun H G => ?_)
          obtain ⟨h_89, eh_89⟩ : ∃ y : Hs, y = zr g_75 (72 + d_75) 1 := ⟨_, rfl⟩
          rw [← eh_89] at G
          have hw := hw h_89 eh_89
          have G : okC D q A s b (72 + d_75 + 1) (eC q b) h_89 H _ := G
          refine lv_dup hx hb dX1_init_92 rfl ?_
          refine lv_iconst (v := 5) hx hb dX1_init_93 (by decide) ?_
          obtain ⟨w_94, hw⟩ := hw
          refine c_I (mc := 1) S hl.1 G (k_Big_init l D q A b (72 + d_75) 5 kn_89 h_89 _ hw) (cx_X1_20 S.2.2.2.2 ⟨Nat.le_trans (Nat.le_of_ble_eq_true rfl) hR1, Nat.le_trans (Nat.le_of_ble_eq_true rfl) hR2⟩) rfl rfl (Nat.le_of_ble_eq_true rfl) dX1_init_94 ⟨(Nat.le_trans (show _ ≤ 277 by omega) hR3), (Nat.le_trans (show _ ≤ 2000 * 277 by omega) hR4)⟩ (fun h_94 H locs G hw => ?_)
          have G : okC D q A s b (72 + d_75 + 2) (eC q b) h_94 H _ := G
          obtain ⟨i_97, hw⟩ := hw
          refine c_aast S G 3 (ce_23 (o := 73) (l := 10) (by omega) (by decide +kernel) (by decide +kernel)) rfl (ce_1 (o := (72 + d_75)) (by omega) kn_89) rfl i_97 (cs_23 (by decide +kernel) (by decide +kernel) (vpl i_97)) dX1_init_97 (fun H locs G => ?_)
          obtain ⟨h_97, eh_97⟩ : ∃ y : Hs, y = sr h_94 73 b1_75.toNatClampNeg ((72 + d_75) + 1) := ⟨_, rfl⟩
          rw [← eh_97] at G
          have hw := hw h_97 eh_97
          have G : okC D q A s b (72 + d_75 + 2) (eC q b) h_97 H _ := G
          obtain ⟨a1_98, ea1_98⟩ : ∃ y : Int32, y = b1_75 + 1 := ⟨_, rfl⟩
          have hw := hw a1_98 ea1_98
          refine lv_iinc (v := a1_98) (lv' := [(1, .int a1_98), (0, .ref (b + 71))]) hx hb dX1_init_98 hl (k := 1) rfl (by rw [ea1_98]; rfl) (by decide) rfl (fun ls hl => ?_)
          refine lv_goto (tgt := 75) hx hb dX1_init_101 (by decide) ?_
          exact hw _ _ _ (lv_sub hl [1, 0] rfl) G)
      exact hw _ _ _ (lv_sub hl [1, 0] rfl) G
    · have hw := hw.2 c_50
      refine lv_aload_n hx hb dX1_init_53 rfl (lv_at hl 0 rfl) ?_
      obtain ⟨gg_54, hw⟩ := hw
      refine x_get (C := RX1) (T := TX1) (n := 4) S G.1 inX1 (ce_2 (o := 71) (by omega) kx_71) rfl 0 (by decide) kf_X1_11 (congrArg (fun z => some (rfC b z)) gg_54) dX1_init_54 ?_
      refine lv_iload_n hx hb dX1_init_57 rfl (lv_at hl 1 rfl) ?_
      obtain ⟨kn_58, hw⟩ := hw
      obtain ⟨w_58, hw⟩ := hw
      refine c_new (C := RX0) (T := TX0) (N := 2) S G inX0 tyX0 tyX0_ok kq_X1_9 kj_X0 kn_X0 rfl (cz_1 kn_58) cf_1 (Nat.le_trans (show _ ≤ 277 by omega) hR3) (Nat.le_trans (show _ ≤ 2000 * 277 by omega) hR4) (Nat.le_of_ble_eq_true rfl) dX1_init_58 (fun H G => ?_)
      obtain ⟨h_58, eh_58⟩ : ∃ y : Hs, y = zr g_44 (72 + d_44) 1 := ⟨_, rfl⟩
      rw [← eh_58] at G
      have hw := hw h_58 eh_58
      have G : okC D q A s b (72 + d_44 + 1) (eC q b) h_58 H _ := G
      refine lv_dup hx hb dX1_init_61 rfl ?_
      refine lv_iconst (v := 5) hx hb dX1_init_62 (by decide) ?_
      obtain ⟨w_63, hw⟩ := hw
      refine c_I (mc := 1) S hl.1 G (k_Big_init l D q A b (72 + d_44) 5 kn_58 h_58 _ hw) (cx_X1_20 S.2.2.2.2 ⟨Nat.le_trans (Nat.le_of_ble_eq_true rfl) hR1, Nat.le_trans (Nat.le_of_ble_eq_true rfl) hR2⟩) rfl rfl (Nat.le_of_ble_eq_true rfl) dX1_init_63 ⟨(Nat.le_trans (show _ ≤ 277 by omega) hR3), (Nat.le_trans (show _ ≤ 2000 * 277 by omega) hR4)⟩ (fun h_63 H locs G hw => ?_)
      have G : okC D q A s b (72 + d_44 + 2) (eC q b) h_63 H _ := G
      obtain ⟨i_66, hw⟩ := hw
      refine c_aast S G 3 (ce_23 (o := 72) (l := 126) (by omega) (by decide +kernel) (by decide +kernel)) rfl (ce_1 (o := (72 + d_44)) (by omega) kn_58) rfl i_66 (cs_23 (by decide +kernel) (by decide +kernel) (vpl i_66)) dX1_init_66 (fun H locs G => ?_)
      obtain ⟨h_66, eh_66⟩ : ∃ y : Hs, y = sr h_63 72 b1_44.toNatClampNeg ((72 + d_44) + 1) := ⟨_, rfl⟩
      rw [← eh_66] at G
      have hw := hw h_66 eh_66
      have G : okC D q A s b (72 + d_44 + 2) (eC q b) h_66 H _ := G
      obtain ⟨a1_67, ea1_67⟩ : ∃ y : Int32, y = b1_44 + 1 := ⟨_, rfl⟩
      have hw := hw a1_67 ea1_67
      refine lv_iinc (v := a1_67) (lv' := [(1, .int a1_67), (0, .ref (b + 71))]) hx hb dX1_init_67 hl (k := 1) rfl (by rw [ea1_67]; rfl) (by decide) rfl (fun ls hl => ?_)
      refine lv_goto (tgt := 44) hx hb dX1_init_70 (by decide) ?_
      exact hw _ _ _ (lv_sub hl [1, 0] rfl) G)
  exact hw _ _ _ (lv_sub hl [1, 0] rfl) G
theorem cx_X8_25 {R : Room} {s : State} {args : Array Value} (hts : ∀ w ∈ gW, w.before args s = true) (hR : rx_Chances_init.frames + 1 ≤ R.frames ∧ 8 + (2 + 11) + rx_Chances_init.locals ≤ R.locals) : CallB R s args RX8 25 yX1_init cX1_init 2 none (mw yX1_init cX1_init 2 none) rx_Chances_init 277 (2000 * 277) 0 ∧ yX1_init.name = "<init>" ∧ (Cond.instanceMethod yX1_init).before args s = true := cxI9 hts km_X8_25 ki_X1_init kn_X1 kk_X1_init rfl rfl rfl (by decide +kernel) hR
abbrev rx_Fraction_init : Room := { frames := 2, cells := 10, slots := 20000, locals := 42 }
set_option maxHeartbeats 4000000 in
set_option maxRecDepth 100000 in
theorem k_Fraction_init (l : Launch) (D : va_G) (q : Nat → ClassId) (A : Nat → Prop) (b : Nat) (h : Hs) (Q : Hs → Prop) (hw : i_Fraction_init h Q) : Met l yX2_init (mw yX2_init cX2_init 1 none) rx_Fraction_init (va_Pc [.ref (b + 406)] (pC D q A b 407 (eC q b) h)) (va_Qv Q (fun h t => pC D q A b 417 (eC q b) h t) A) 10 (2000 * 10) A := by
  refine met_c (Qp := Q) (mc := 10) (by decide) (Nat.le_of_ble_eq_true rfl) rfl rfl ?_
  intro p e R s m args below meth c Qm ls hR1 hR2 hR3 hR4 S hin RT hl G
  have hx := S.1
  have hb := S.2.1
  have hl : lv_has ls 1 [(0, .ref (b + 406))] := hl
  unfold i_Fraction_init at hw
  refine lv_aload_n hx hb dX2_init_0 rfl (lv_at hl 0 rfl) ?_
  refine W.objInit hx hb S.2.2.2.1 (S.2.2.2.2 _ km_X2_3) (S.2.2.2.2 _ ki_obj) (S.2.2.2.2 _ kk_obj) rfl (hl.1.trans S.2.2.1.symm) rfl dX2_init_1 (Nat.le_trans (Nat.le_of_ble_eq_true rfl) hR1) (Nat.le_trans (Nat.le_of_ble_eq_true rfl) hR2) ?_
  refine W.eq (g2 := F0 m 4 ls []) rfl ?_
  refine lv_aload_n hx hb dX2_init_4 rfl (lv_at hl 0 rfl) ?_
  refine c_new (C := RX0) (T := TX0) (N := 2) S G inX0 tyX0 tyX0_ok kq_X2_9 kj_X0 kn_X0 rfl (cz_1 (by decide +kernel)) cf_1 (Nat.le_trans (Nat.le_of_ble_eq_true rfl) hR3) (Nat.le_trans (Nat.le_of_ble_eq_true rfl) hR4) (Nat.le_of_ble_eq_true rfl) dX2_init_5 (fun H G => ?_)
  obtain ⟨h_5, eh_5⟩ : ∃ y : Hs, y = zr h 407 1 := ⟨_, rfl⟩
  rw [← eh_5] at G
  have hw := hw h_5 eh_5
  have G : okC D q A s b 408 (eC q b) h_5 H _ := G
  refine lv_dup hx hb dX2_init_8 rfl ?_
  refine lv_bipush (v := 32) hx hb dX2_init_9 (by decide) ?_
  refine c_I (mc := 1) S hl.1 G (k_Big_init l D q A b 407 32 (by decide +kernel) h_5 _ hw) (cx_X2_11 S.2.2.2.2 ⟨Nat.le_trans (Nat.le_of_ble_eq_true rfl) hR1, Nat.le_trans (Nat.le_of_ble_eq_true rfl) hR2⟩) rfl rfl (Nat.le_of_ble_eq_true rfl) dX2_init_11 ⟨(Nat.le_trans (Nat.le_of_ble_eq_true rfl) hR3), (Nat.le_trans (Nat.le_of_ble_eq_true rfl) hR4)⟩ (fun h_11 H locs G hw => ?_)
  have G : okC D q A s b 409 (eC q b) h_11 H _ := G
  refine c_putF (C := RX2) (T := TX2) (N := 5) S G inX2 tyX2 tyX2_ok nmX2 (ce_3 (o := 406) (by decide) kx_406) rfl 0 (by decide) kf_X2_14 rfl hin rfl rfl rfl (Nat.le_of_ble_eq_true rfl) (cp_3_0 kx_406) dX2_init_14 (fun H locs G => ?_)
  obtain ⟨h_14, eh_14⟩ : ∃ y : Hs, y = sr h_11 406 0 (407 + 1) := ⟨_, rfl⟩
  rw [← eh_14] at G
  have hw := hw h_14 eh_14
  have G : okC D q A s b 409 (eC q b) h_14 H _ := G
  refine lv_aload_n hx hb dX2_init_17 rfl (lv_at hl 0 rfl) ?_
  refine c_new (C := RX0) (T := TX0) (N := 2) S G inX0 tyX0 tyX0_ok kq_X2_9 kj_X0 kn_X0 rfl (cz_1 (by decide +kernel)) cf_1 (Nat.le_trans (Nat.le_of_ble_eq_true rfl) hR3) (Nat.le_trans (Nat.le_of_ble_eq_true rfl) hR4) (Nat.le_of_ble_eq_true rfl) dX2_init_18 (fun H G => ?_)
  obtain ⟨h_18, eh_18⟩ : ∃ y : Hs, y = zr h_14 409 1 := ⟨_, rfl⟩
  rw [← eh_18] at G
  have hw := hw h_18 eh_18
  have G : okC D q A s b 410 (eC q b) h_18 H _ := G
  refine lv_dup hx hb dX2_init_21 rfl ?_
  refine lv_bipush (v := 32) hx hb dX2_init_22 (by decide) ?_
  refine c_I (mc := 1) S hl.1 G (k_Big_init l D q A b 409 32 (by decide +kernel) h_18 _ hw) (cx_X2_11 S.2.2.2.2 ⟨Nat.le_trans (Nat.le_of_ble_eq_true rfl) hR1, Nat.le_trans (Nat.le_of_ble_eq_true rfl) hR2⟩) rfl rfl (Nat.le_of_ble_eq_true rfl) dX2_init_24 ⟨(Nat.le_trans (Nat.le_of_ble_eq_true rfl) hR3), (Nat.le_trans (Nat.le_of_ble_eq_true rfl) hR4)⟩ (fun h_24 H locs G hw => ?_)
  have G : okC D q A s b 411 (eC q b) h_24 H _ := G
  refine c_putF (C := RX2) (T := TX2) (N := 5) S G inX2 tyX2 tyX2_ok nmX2 (ce_3 (o := 406) (by decide) kx_406) rfl 1 (by decide) kf_X2_20 rfl hin rfl rfl rfl (Nat.le_of_ble_eq_true rfl) (cp_3_1 kx_406) dX2_init_27 (fun H locs G => ?_)
  obtain ⟨h_27, eh_27⟩ : ∃ y : Hs, y = sr h_24 406 1 (409 + 1) := ⟨_, rfl⟩
  rw [← eh_27] at G
  have hw := hw h_27 eh_27
  have G : okC D q A s b 411 (eC q b) h_27 H _ := G
  refine lv_aload_n hx hb dX2_init_30 rfl (lv_at hl 0 rfl) ?_
  refine c_new (C := RX0) (T := TX0) (N := 2) S G inX0 tyX0 tyX0_ok kq_X2_9 kj_X0 kn_X0 rfl (cz_1 (by decide +kernel)) cf_1 (Nat.le_trans (Nat.le_of_ble_eq_true rfl) hR3) (Nat.le_trans (Nat.le_of_ble_eq_true rfl) hR4) (Nat.le_of_ble_eq_true rfl) dX2_init_31 (fun H G => ?_)
  obtain ⟨h_31, eh_31⟩ : ∃ y : Hs, y = zr h_27 411 1 := ⟨_, rfl⟩
  rw [← eh_31] at G
  have hw := hw h_31 eh_31
  have G : okC D q A s b 412 (eC q b) h_31 H _ := G
  refine lv_dup hx hb dX2_init_34 rfl ?_
  refine lv_bipush (v := 32) hx hb dX2_init_35 (by decide) ?_
  refine c_I (mc := 1) S hl.1 G (k_Big_init l D q A b 411 32 (by decide +kernel) h_31 _ hw) (cx_X2_11 S.2.2.2.2 ⟨Nat.le_trans (Nat.le_of_ble_eq_true rfl) hR1, Nat.le_trans (Nat.le_of_ble_eq_true rfl) hR2⟩) rfl rfl (Nat.le_of_ble_eq_true rfl) dX2_init_37 ⟨(Nat.le_trans (Nat.le_of_ble_eq_true rfl) hR3), (Nat.le_trans (Nat.le_of_ble_eq_true rfl) hR4)⟩ (fun h_37 H locs G hw => ?_)
  have G : okC D q A s b 413 (eC q b) h_37 H _ := G
  refine c_putF (C := RX2) (T := TX2) (N := 5) S G inX2 tyX2 tyX2_ok nmX2 (ce_3 (o := 406) (by decide) kx_406) rfl 2 (by decide) kf_X2_23 rfl hin rfl rfl rfl (Nat.le_of_ble_eq_true rfl) (cp_3_2 kx_406) dX2_init_40 (fun H locs G => ?_)
  obtain ⟨h_40, eh_40⟩ : ∃ y : Hs, y = sr h_37 406 2 (411 + 1) := ⟨_, rfl⟩
  rw [← eh_40] at G
  have hw := hw h_40 eh_40
  have G : okC D q A s b 413 (eC q b) h_40 H _ := G
  refine lv_aload_n hx hb dX2_init_43 rfl (lv_at hl 0 rfl) ?_
  refine c_new (C := RX0) (T := TX0) (N := 2) S G inX0 tyX0 tyX0_ok kq_X2_9 kj_X0 kn_X0 rfl (cz_1 (by decide +kernel)) cf_1 (Nat.le_trans (Nat.le_of_ble_eq_true rfl) hR3) (Nat.le_trans (Nat.le_of_ble_eq_true rfl) hR4) (Nat.le_of_ble_eq_true rfl) dX2_init_44 (fun H G => ?_)
  obtain ⟨h_44, eh_44⟩ : ∃ y : Hs, y = zr h_40 413 1 := ⟨_, rfl⟩
  rw [← eh_44] at G
  have hw := hw h_44 eh_44
  have G : okC D q A s b 414 (eC q b) h_44 H _ := G
  refine lv_dup hx hb dX2_init_47 rfl ?_
  refine lv_bipush (v := 32) hx hb dX2_init_48 (by decide) ?_
  refine c_I (mc := 1) S hl.1 G (k_Big_init l D q A b 413 32 (by decide +kernel) h_44 _ hw) (cx_X2_11 S.2.2.2.2 ⟨Nat.le_trans (Nat.le_of_ble_eq_true rfl) hR1, Nat.le_trans (Nat.le_of_ble_eq_true rfl) hR2⟩) rfl rfl (Nat.le_of_ble_eq_true rfl) dX2_init_50 ⟨(Nat.le_trans (Nat.le_of_ble_eq_true rfl) hR3), (Nat.le_trans (Nat.le_of_ble_eq_true rfl) hR4)⟩ (fun h_50 H locs G hw => ?_)
  have G : okC D q A s b 415 (eC q b) h_50 H _ := G
  refine c_put (C := RX2) (T := TX2) (N := 5) S G inX2 tyX2 tyX2_ok nmX2 (ce_3 (o := 406) (by decide) kx_406) rfl 3 (by decide) kf_X2_26 rfl rfl rfl (Nat.le_of_ble_eq_true rfl) (cp_3_3 kx_406) dX2_init_53 (fun H locs G => ?_)
  obtain ⟨h_53, eh_53⟩ : ∃ y : Hs, y = sr h_50 406 3 (413 + 1) := ⟨_, rfl⟩
  rw [← eh_53] at G
  have hw := hw h_53 eh_53
  have G : okC D q A s b 415 (eC q b) h_53 H _ := G
  refine lv_aload_n hx hb dX2_init_56 rfl (lv_at hl 0 rfl) ?_
  refine c_new (C := RX0) (T := TX0) (N := 2) S G inX0 tyX0 tyX0_ok kq_X2_9 kj_X0 kn_X0 rfl (cz_1 (by decide +kernel)) cf_1 (Nat.le_trans (Nat.le_of_ble_eq_true rfl) hR3) (Nat.le_trans (Nat.le_of_ble_eq_true rfl) hR4) (Nat.le_of_ble_eq_true rfl) dX2_init_57 (fun H G => ?_)
  obtain ⟨h_57, eh_57⟩ : ∃ y : Hs, y = zr h_53 415 1 := ⟨_, rfl⟩
  rw [← eh_57] at G
  have hw := hw h_57 eh_57
  have G : okC D q A s b 416 (eC q b) h_57 H _ := G
  refine lv_dup hx hb dX2_init_60 rfl ?_
  refine lv_bipush (v := 32) hx hb dX2_init_61 (by decide) ?_
  refine c_I (mc := 1) S hl.1 G (k_Big_init l D q A b 415 32 (by decide +kernel) h_57 _ hw) (cx_X2_11 S.2.2.2.2 ⟨Nat.le_trans (Nat.le_of_ble_eq_true rfl) hR1, Nat.le_trans (Nat.le_of_ble_eq_true rfl) hR2⟩) rfl rfl (Nat.le_of_ble_eq_true rfl) dX2_init_63 ⟨(Nat.le_trans (Nat.le_of_ble_eq_true rfl) hR3), (Nat.le_trans (Nat.le_of_ble_eq_true rfl) hR4)⟩ (fun h_63 H locs G hw => ?_)
  have G : okC D q A s b 417 (eC q b) h_63 H _ := G
  refine c_put (C := RX2) (T := TX2) (N := 5) S G inX2 tyX2 tyX2_ok nmX2 (ce_3 (o := 406) (by decide) kx_406) rfl 4 (by decide) kf_X2_29 rfl rfl rfl (Nat.le_of_ble_eq_true rfl) (cp_3_4 kx_406) dX2_init_66 (fun H locs G => ?_)
  obtain ⟨h_66, eh_66⟩ : ∃ y : Hs, y = sr h_63 406 4 (415 + 1) := ⟨_, rfl⟩
  rw [← eh_66] at G
  have hw := hw h_66 eh_66
  have G : okC D q A s b 417 (eC q b) h_66 H _ := G
  refine lv_aload_n hx hb dX2_init_69 rfl (lv_at hl 0 rfl) ?_
  obtain ⟨gg_70, hw⟩ := hw
  refine x_get (C := RX2) (T := TX2) (n := 5) S G.1 inX2 (ce_3 (o := 406) (by decide) kx_406) rfl 1 (by decide) kf_X2_20 (congrArg (fun z => some (rfC b z)) gg_70) dX2_init_70 ?_
  refine lv_lconst (v := 1) hx hb dX2_init_73 (by decide) ?_
  refine c_V (mc := 0) S hl.1 G (k_Big_become_c l D q A b 409 1 417 (by decide +kernel) (by omega) (by omega) h_66 _ hw) (cx_X2_32_c S.2.2.2.2 ⟨Nat.le_trans (Nat.le_of_ble_eq_true rfl) hR1, Nat.le_trans (Nat.le_of_ble_eq_true rfl) hR2⟩) (ce_1 (o := 409) (by decide) (by decide +kernel)) rfl rfl rfl (Nat.le_of_ble_eq_true rfl) dX2_init_74 ⟨(Nat.le_trans (Nat.le_of_ble_eq_true rfl) hR3), (Nat.le_trans (Nat.le_of_ble_eq_true rfl) hR4)⟩ (fun h_74 H locs G hw => ?_)
  have G : okC D q A s b 417 (eC q b) h_74 H _ := G
  refine W.widen (k := 10) (n := 2000 * 10) (by omega) (by omega) ?_
  exact RT _ _ _ _ _ G hw dX2_init_77
theorem cx_X9_40 {R : Room} {s : State} {args : Array Value} (hts : ∀ w ∈ gW, w.before args s = true) (hR : rx_Fraction_init.frames + 1 ≤ R.frames ∧ 8 + (1 + 11) + rx_Fraction_init.locals ≤ R.locals) : CallB R s args RX9 40 yX2_init cX2_init 1 none (mw yX2_init cX2_init 1 none) rx_Fraction_init 10 (2000 * 10) 0 ∧ yX2_init.name = "<init>" ∧ (Cond.instanceMethod yX2_init).before args s = true := cxI9 hts km_X9_40 ki_X2_init kn_X2 kk_X2_init rfl rfl rfl (by decide +kernel) hR
abbrev rx_Worlds_init : Room := { frames := 3, cells := 402, slots := 804000, locals := 65 }
set_option maxHeartbeats 4000000 in
set_option maxRecDepth 100000 in
theorem k_Worlds_init (l : Launch) (D : va_G) (q : Nat → ClassId) (A : Nat → Prop) (b : Nat) (h : Hs) (Q : Hs → Prop) (hw : i_Worlds_init h Q) : Met l yX8_init (mw yX8_init cX8_init 2 none) rx_Worlds_init (va_Pc [.ref (b + 1)] (pC D q A b 2 (eC q b) h)) (va_Qv Q (fun h t => pC D q A b 404 (eC q b) h t) A) 402 (2000 * 402) A := by
  refine met_c (Qp := Q) (mc := 402) (by decide) (Nat.le_of_ble_eq_true rfl) rfl rfl ?_
  intro p e R s m args below meth c Qm ls hR1 hR2 hR3 hR4 S hin RT hl G
  have hx := S.1
  have hb := S.2.1
  have hl : lv_has ls 2 [(0, .ref (b + 1))] := hl
  unfold i_Worlds_init at hw
  refine lv_aload_n hx hb dX8_init_0 rfl (lv_at hl 0 rfl) ?_
  refine W.objInit hx hb S.2.2.2.1 (S.2.2.2.2 _ km_X8_3) (S.2.2.2.2 _ ki_obj) (S.2.2.2.2 _ kk_obj) rfl (hl.1.trans S.2.2.1.symm) rfl dX8_init_1 (Nat.le_trans (Nat.le_of_ble_eq_true rfl) hR1) (Nat.le_trans (Nat.le_of_ble_eq_true rfl) hR2) ?_
  refine W.eq (g2 := F0 m 4 ls []) rfl ?_
  refine lv_aload_n hx hb dX8_init_4 rfl (lv_at hl 0 rfl) ?_
  refine c_new (C := RX3) (T := TX3) (N := 10) S G inX3 tyX3 tyX3_ok kq_X8_9 kj_X3 kn_X3 rfl (cz_4 (by decide +kernel)) cf_4 (Nat.le_trans (Nat.le_of_ble_eq_true rfl) hR3) (Nat.le_trans (Nat.le_of_ble_eq_true rfl) hR4) (Nat.le_of_ble_eq_true rfl) dX8_init_5 (fun H G => ?_)
  obtain ⟨h_5, eh_5⟩ : ∃ y : Hs, y = zr h 2 1 := ⟨_, rfl⟩
  rw [← eh_5] at G
  have hw := hw h_5 eh_5
  have G : okC D q A s b 3 (eC q b) h_5 H _ := G
  refine lv_dup hx hb dX8_init_8 rfl ?_
  refine c_I (mc := 68) S hl.1 G (k_Lives_init l D q A b h_5 _ hw) (cx_X8_11 S.2.2.2.2 ⟨Nat.le_trans (Nat.le_of_ble_eq_true rfl) hR1, Nat.le_trans (Nat.le_of_ble_eq_true rfl) hR2⟩) rfl rfl (Nat.le_of_ble_eq_true rfl) dX8_init_9 ⟨(Nat.le_trans (Nat.le_of_ble_eq_true rfl) hR3), (Nat.le_trans (Nat.le_of_ble_eq_true rfl) hR4)⟩ (fun h_9 H locs G hw => ?_)
  have G : okC D q A s b 71 (eC q b) h_9 H _ := G
  refine c_putF (C := RX8) (T := TX8) (N := 12) S G inX8 tyX8 tyX8_ok nmX8 (ce_9 (o := 1) (by decide) kx_1) rfl 0 (by decide) kf_X8_12 rfl hin rfl rfl rfl (Nat.le_of_ble_eq_true rfl) (cp_9_0 kx_1) dX8_init_12 (fun H locs G => ?_)
  obtain ⟨h_12, eh_12⟩ : ∃ y : Hs, y = sr h_9 1 0 (2 + 1) := ⟨_, rfl⟩
  rw [← eh_12] at G
  have hw := hw h_12 eh_12
  have G : okC D q A s b 71 (eC q b) h_12 H _ := G
  refine lv_aload_n hx hb dX8_init_15 rfl (lv_at hl 0 rfl) ?_
  refine lv_aload_n hx hb dX8_init_16 rfl (lv_at hl 0 rfl) ?_
  obtain ⟨gg_17, hw⟩ := hw
  refine x_get (C := RX8) (T := TX8) (n := 12) S G.1 inX8 (ce_9 (o := 1) (by decide) kx_1) rfl 0 (by decide) kf_X8_12 (congrArg (fun z => some (rfC b z)) gg_17) dX8_init_17 ?_
  obtain ⟨gg_20, hw⟩ := hw
  refine x_get (C := RX3) (T := TX3) (n := 10) S G.1 inX3 (ce_4 (o := 2) (by decide) (by decide +kernel)) rfl 0 (by decide) kf_X8_18 (congrArg (fun z => some (rfC b z)) gg_20) dX8_init_20 ?_
  refine c_putF (C := RX8) (T := TX8) (N := 12) S G inX8 tyX8 tyX8_ok nmX8 (ce_9 (o := 1) (by decide) kx_1) rfl 1 (by decide) kf_X8_22 rfl hin rfl rfl rfl (Nat.le_of_ble_eq_true rfl) (cp_9_1 kx_1) dX8_init_23 (fun H locs G => ?_)
  obtain ⟨h_23, eh_23⟩ : ∃ y : Hs, y = sr h_12 1 1 (3 + 1) := ⟨_, rfl⟩
  rw [← eh_23] at G
  have hw := hw h_23 eh_23
  have G : okC D q A s b 71 (eC q b) h_23 H _ := G
  refine lv_aload_n hx hb dX8_init_26 rfl (lv_at hl 0 rfl) ?_
  refine c_new (C := RX1) (T := TX1) (N := 4) S G inX1 tyX1 tyX1_ok kq_X8_23 kj_X1 kn_X1 rfl (cz_2 (by decide +kernel)) cf_2 (Nat.le_trans (Nat.le_of_ble_eq_true rfl) hR3) (Nat.le_trans (Nat.le_of_ble_eq_true rfl) hR4) (Nat.le_of_ble_eq_true rfl) dX8_init_27 (fun H G => ?_)
  obtain ⟨h_27, eh_27⟩ : ∃ y : Hs, y = zr h_23 71 1 := ⟨_, rfl⟩
  rw [← eh_27] at G
  have hw := hw h_27 eh_27
  have G : okC D q A s b 72 (eC q b) h_27 H _ := G
  refine lv_dup hx hb dX8_init_30 rfl ?_
  refine c_I (mc := 277) S hl.1 G (k_Chances_init l D q A b h_27 _ hw) (cx_X8_25 S.2.2.2.2 ⟨Nat.le_trans (Nat.le_of_ble_eq_true rfl) hR1, Nat.le_trans (Nat.le_of_ble_eq_true rfl) hR2⟩) rfl rfl (Nat.le_of_ble_eq_true rfl) dX8_init_31 ⟨(Nat.le_trans (Nat.le_of_ble_eq_true rfl) hR3), (Nat.le_trans (Nat.le_of_ble_eq_true rfl) hR4)⟩ (fun h_31 H locs G hw => ?_)
  have G : okC D q A s b 349 (eC q b) h_31 H _ := G
  refine c_putF (C := RX8) (T := TX8) (N := 12) S G inX8 tyX8 tyX8_ok nmX8 (ce_9 (o := 1) (by decide) kx_1) rfl 2 (by decide) kf_X8_26 rfl hin rfl rfl rfl (Nat.le_of_ble_eq_true rfl) (cp_9_2 kx_1) dX8_init_34 (fun H locs G => ?_)
  obtain ⟨h_34, eh_34⟩ : ∃ y : Hs, y = sr h_31 1 2 (71 + 1) := ⟨_, rfl⟩
  rw [← eh_34] at G
  have hw := hw h_34 eh_34
  have G : okC D q A s b 349 (eC q b) h_34 H _ := G
  refine lv_aload_n hx hb dX8_init_37 rfl (lv_at hl 0 rfl) ?_
  refine lv_iconst (v := 4) hx hb dX8_init_38 (by decide) ?_
  refine lv_iconst (v := 4) hx hb dX8_init_39 (by decide) ?_
  refine c_mna (N := 4) (K := 4) S G kq_X8_30 ka_int (cz_22 (by decide +kernel) (by decide +kernel)) (fun i hi => cz_20 ((show ∀ i, i < 4 → kX (349 + 1 + 1 * i) = 20 from (by decide +kernel)) i hi) ((show ∀ i, i < 4 → lX (349 + 1 + 1 * i) = 4 from (by decide +kernel)) i hi)) (by decide) (by decide) rfl rfl (Nat.le_of_ble_eq_true rfl) (Nat.le_of_ble_eq_true rfl) (Nat.le_trans (Nat.le_of_ble_eq_true rfl) hR3) (Nat.le_trans (Nat.le_of_ble_eq_true rfl) hR4) dX8_init_40 (fun H G => ?_)
  obtain ⟨h_40, eh_40⟩ : ∃ y : Hs, y = zr h_34 349 (1 + 4) := ⟨_, rfl⟩
  rw [← eh_40] at G
  have hw := hw h_40 eh_40
  have G : okC D q A s b 354 (eC q b) h_40 H _ := G
  refine c_putF (C := RX8) (T := TX8) (N := 12) S G inX8 tyX8 tyX8_ok nmX8 (ce_9 (o := 1) (by decide) kx_1) rfl 3 (by decide) kf_X8_32 rfl hin rfl rfl rfl (Nat.le_of_ble_eq_true rfl) (cp_9_3 kx_1) dX8_init_44 (fun H locs G => ?_)
  obtain ⟨h_44, eh_44⟩ : ∃ y : Hs, y = sr h_40 1 3 (349 + 1) := ⟨_, rfl⟩
  rw [← eh_44] at G
  have hw := hw h_44 eh_44
  have G : okC D q A s b 354 (eC q b) h_44 H _ := G
  refine lv_aload_n hx hb dX8_init_47 rfl (lv_at hl 0 rfl) ?_
  refine lv_bipush (v := 16) hx hb dX8_init_48 (by decide) ?_
  refine c_anew (N := 16) S G 3 23 rfl G.2.2.1.2.1 kq_X8_35 (cz_23 (by decide +kernel) (by decide +kernel)) (fun _ => ite_self _) (by decide) rfl (Nat.le_trans (Nat.le_of_ble_eq_true rfl) hR3) (Nat.le_trans (Nat.le_of_ble_eq_true rfl) hR4) (Nat.le_of_ble_eq_true rfl) dX8_init_50 (fun H G => ?_)
  obtain ⟨h_50, eh_50⟩ : ∃ y : Hs, y = zr h_44 354 1 := ⟨_, rfl⟩
  rw [← eh_50] at G
  have hw := hw h_50 eh_50
  have G : okC D q A s b 355 (eC q b) h_50 H _ := G
  refine c_putF (C := RX8) (T := TX8) (N := 12) S G inX8 tyX8 tyX8_ok nmX8 (ce_9 (o := 1) (by decide) kx_1) rfl 4 (by decide) kf_X8_37 rfl hin rfl rfl rfl (Nat.le_of_ble_eq_true rfl) (cp_9_4 kx_1) dX8_init_53 (fun H locs G => ?_)
  obtain ⟨h_53, eh_53⟩ : ∃ y : Hs, y = sr h_50 1 4 (354 + 1) := ⟨_, rfl⟩
  rw [← eh_53] at G
  have hw := hw h_53 eh_53
  have G : okC D q A s b 355 (eC q b) h_53 H _ := G
  refine lv_aload_n hx hb dX8_init_56 rfl (lv_at hl 0 rfl) ?_
  refine c_new (C := RX0) (T := TX0) (N := 2) S G inX0 tyX0 tyX0_ok kq_X8_35 kj_X0 kn_X0 rfl (cz_1 (by decide +kernel)) cf_1 (Nat.le_trans (Nat.le_of_ble_eq_true rfl) hR3) (Nat.le_trans (Nat.le_of_ble_eq_true rfl) hR4) (Nat.le_of_ble_eq_true rfl) dX8_init_57 (fun H G => ?_)
  obtain ⟨h_57, eh_57⟩ : ∃ y : Hs, y = zr h_53 355 1 := ⟨_, rfl⟩
  rw [← eh_57] at G
  have hw := hw h_57 eh_57
  have G : okC D q A s b 356 (eC q b) h_57 H _ := G
  refine lv_dup hx hb dX8_init_60 rfl ?_
  refine lv_bipush (v := 32) hx hb dX8_init_61 (by decide) ?_
  refine c_I (mc := 1) S hl.1 G (k_Big_init l D q A b 355 32 (by decide +kernel) h_57 _ hw) (cx_X8_41 S.2.2.2.2 ⟨Nat.le_trans (Nat.le_of_ble_eq_true rfl) hR1, Nat.le_trans (Nat.le_of_ble_eq_true rfl) hR2⟩) rfl rfl (Nat.le_of_ble_eq_true rfl) dX8_init_63 ⟨(Nat.le_trans (Nat.le_of_ble_eq_true rfl) hR3), (Nat.le_trans (Nat.le_of_ble_eq_true rfl) hR4)⟩ (fun h_63 H locs G hw => ?_)
  have G : okC D q A s b 357 (eC q b) h_63 H _ := G
  refine c_putF (C := RX8) (T := TX8) (N := 12) S G inX8 tyX8 tyX8_ok nmX8 (ce_9 (o := 1) (by decide) kx_1) rfl 5 (by decide) kf_X8_44 rfl hin rfl rfl rfl (Nat.le_of_ble_eq_true rfl) (cp_9_5 kx_1) dX8_init_66 (fun H locs G => ?_)
  obtain ⟨h_66, eh_66⟩ : ∃ y : Hs, y = sr h_63 1 5 (355 + 1) := ⟨_, rfl⟩
  rw [← eh_66] at G
  have hw := hw h_66 eh_66
  have G : okC D q A s b 357 (eC q b) h_66 H _ := G
  refine lv_aload_n hx hb dX8_init_69 rfl (lv_at hl 0 rfl) ?_
  refine c_new (C := RX0) (T := TX0) (N := 2) S G inX0 tyX0 tyX0_ok kq_X8_35 kj_X0 kn_X0 rfl (cz_1 (by decide +kernel)) cf_1 (Nat.le_trans (Nat.le_of_ble_eq_true rfl) hR3) (Nat.le_trans (Nat.le_of_ble_eq_true rfl) hR4) (Nat.le_of_ble_eq_true rfl) dX8_init_70 (fun H G => ?_)
  obtain ⟨h_70, eh_70⟩ : ∃ y : Hs, y = zr h_66 357 1 := ⟨_, rfl⟩
  rw [← eh_70] at G
  have hw := hw h_70 eh_70
  have G : okC D q A s b 358 (eC q b) h_70 H _ := G
  refine lv_dup hx hb dX8_init_73 rfl ?_
  refine lv_bipush (v := 32) hx hb dX8_init_74 (by decide) ?_
  refine c_I (mc := 1) S hl.1 G (k_Big_init l D q A b 357 32 (by decide +kernel) h_70 _ hw) (cx_X8_41 S.2.2.2.2 ⟨Nat.le_trans (Nat.le_of_ble_eq_true rfl) hR1, Nat.le_trans (Nat.le_of_ble_eq_true rfl) hR2⟩) rfl rfl (Nat.le_of_ble_eq_true rfl) dX8_init_76 ⟨(Nat.le_trans (Nat.le_of_ble_eq_true rfl) hR3), (Nat.le_trans (Nat.le_of_ble_eq_true rfl) hR4)⟩ (fun h_76 H locs G hw => ?_)
  have G : okC D q A s b 359 (eC q b) h_76 H _ := G
  refine c_put (C := RX8) (T := TX8) (N := 12) S G inX8 tyX8 tyX8_ok nmX8 (ce_9 (o := 1) (by decide) kx_1) rfl 6 (by decide) kf_X8_48 rfl rfl rfl (Nat.le_of_ble_eq_true rfl) (cp_9_6 kx_1) dX8_init_79 (fun H locs G => ?_)
  obtain ⟨h_79, eh_79⟩ : ∃ y : Hs, y = sr h_76 1 6 (357 + 1) := ⟨_, rfl⟩
  rw [← eh_79] at G
  have hw := hw h_79 eh_79
  have G : okC D q A s b 359 (eC q b) h_79 H _ := G
  refine lv_aload_n hx hb dX8_init_82 rfl (lv_at hl 0 rfl) ?_
  refine c_new (C := RX0) (T := TX0) (N := 2) S G inX0 tyX0 tyX0_ok kq_X8_35 kj_X0 kn_X0 rfl (cz_1 (by decide +kernel)) cf_1 (Nat.le_trans (Nat.le_of_ble_eq_true rfl) hR3) (Nat.le_trans (Nat.le_of_ble_eq_true rfl) hR4) (Nat.le_of_ble_eq_true rfl) dX8_init_83 (fun H G => ?_)
  obtain ⟨h_83, eh_83⟩ : ∃ y : Hs, y = zr h_79 359 1 := ⟨_, rfl⟩
  rw [← eh_83] at G
  have hw := hw h_83 eh_83
  have G : okC D q A s b 360 (eC q b) h_83 H _ := G
  refine lv_dup hx hb dX8_init_86 rfl ?_
  refine lv_bipush (v := 32) hx hb dX8_init_87 (by decide) ?_
  refine c_I (mc := 1) S hl.1 G (k_Big_init l D q A b 359 32 (by decide +kernel) h_83 _ hw) (cx_X8_41 S.2.2.2.2 ⟨Nat.le_trans (Nat.le_of_ble_eq_true rfl) hR1, Nat.le_trans (Nat.le_of_ble_eq_true rfl) hR2⟩) rfl rfl (Nat.le_of_ble_eq_true rfl) dX8_init_89 ⟨(Nat.le_trans (Nat.le_of_ble_eq_true rfl) hR3), (Nat.le_trans (Nat.le_of_ble_eq_true rfl) hR4)⟩ (fun h_89 H locs G hw => ?_)
  have G : okC D q A s b 361 (eC q b) h_89 H _ := G
  refine c_put (C := RX8) (T := TX8) (N := 12) S G inX8 tyX8 tyX8_ok nmX8 (ce_9 (o := 1) (by decide) kx_1) rfl 7 (by decide) kf_X8_51 rfl rfl rfl (Nat.le_of_ble_eq_true rfl) (cp_9_7 kx_1) dX8_init_92 (fun H locs G => ?_)
  obtain ⟨h_92, eh_92⟩ : ∃ y : Hs, y = sr h_89 1 7 (359 + 1) := ⟨_, rfl⟩
  rw [← eh_92] at G
  have hw := hw h_92 eh_92
  have G : okC D q A s b 361 (eC q b) h_92 H _ := G
  refine lv_aload_n hx hb dX8_init_95 rfl (lv_at hl 0 rfl) ?_
  refine lv_iconst (v := 4) hx hb dX8_init_96 (by decide) ?_
  refine c_anew (N := 4) S G 3 23 rfl G.2.2.1.2.1 kq_X8_35 (cz_23 (by decide +kernel) (by decide +kernel)) (fun _ => ite_self _) (by decide) rfl (Nat.le_trans (Nat.le_of_ble_eq_true rfl) hR3) (Nat.le_trans (Nat.le_of_ble_eq_true rfl) hR4) (Nat.le_of_ble_eq_true rfl) dX8_init_97 (fun H G => ?_)
  obtain ⟨h_97, eh_97⟩ : ∃ y : Hs, y = zr h_92 361 1 := ⟨_, rfl⟩
  rw [← eh_97] at G
  have hw := hw h_97 eh_97
  have G : okC D q A s b 362 (eC q b) h_97 H _ := G
  refine c_putF (C := RX8) (T := TX8) (N := 12) S G inX8 tyX8 tyX8_ok nmX8 (ce_9 (o := 1) (by decide) kx_1) rfl 9 (by decide) kf_X8_54 rfl hin rfl rfl rfl (Nat.le_of_ble_eq_true rfl) (cp_9_9 kx_1) dX8_init_100 (fun H locs G => ?_)
  obtain ⟨h_100, eh_100⟩ : ∃ y : Hs, y = sr h_97 1 9 (361 + 1) := ⟨_, rfl⟩
  rw [← eh_100] at G
  have hw := hw h_100 eh_100
  have G : okC D q A s b 362 (eC q b) h_100 H _ := G
  refine lv_aload_n hx hb dX8_init_103 rfl (lv_at hl 0 rfl) ?_
  refine c_new (C := RX0) (T := TX0) (N := 2) S G inX0 tyX0 tyX0_ok kq_X8_35 kj_X0 kn_X0 rfl (cz_1 (by decide +kernel)) cf_1 (Nat.le_trans (Nat.le_of_ble_eq_true rfl) hR3) (Nat.le_trans (Nat.le_of_ble_eq_true rfl) hR4) (Nat.le_of_ble_eq_true rfl) dX8_init_104 (fun H G => ?_)
  obtain ⟨h_104, eh_104⟩ : ∃ y : Hs, y = zr h_100 362 1 := ⟨_, rfl⟩
  rw [← eh_104] at G
  have hw := hw h_104 eh_104
  have G : okC D q A s b 363 (eC q b) h_104 H _ := G
  refine lv_dup hx hb dX8_init_107 rfl ?_
  refine lv_bipush (v := 32) hx hb dX8_init_108 (by decide) ?_
  refine c_I (mc := 1) S hl.1 G (k_Big_init l D q A b 362 32 (by decide +kernel) h_104 _ hw) (cx_X8_41 S.2.2.2.2 ⟨Nat.le_trans (Nat.le_of_ble_eq_true rfl) hR1, Nat.le_trans (Nat.le_of_ble_eq_true rfl) hR2⟩) rfl rfl (Nat.le_of_ble_eq_true rfl) dX8_init_110 ⟨(Nat.le_trans (Nat.le_of_ble_eq_true rfl) hR3), (Nat.le_trans (Nat.le_of_ble_eq_true rfl) hR4)⟩ (fun h_110 H locs G hw => ?_)
  have G : okC D q A s b 364 (eC q b) h_110 H _ := G
  refine c_putF (C := RX8) (T := TX8) (N := 12) S G inX8 tyX8 tyX8_ok nmX8 (ce_9 (o := 1) (by decide) kx_1) rfl 10 (by decide) kf_X8_57 rfl hin rfl rfl rfl (Nat.le_of_ble_eq_true rfl) (cp_9_10 kx_1) dX8_init_113 (fun H locs G => ?_)
  obtain ⟨h_113, eh_113⟩ : ∃ y : Hs, y = sr h_110 1 10 (362 + 1) := ⟨_, rfl⟩
  rw [← eh_113] at G
  have hw := hw h_113 eh_113
  have G : okC D q A s b 364 (eC q b) h_113 H _ := G
  refine lv_iconst (v := 0) hx hb dX8_init_116 (by decide) ?_
  refine lv_istore_n (lv' := [(1, .int 0), (0, .ref (b + 1))]) hx hb dX8_init_117 rfl hl (by decide) rfl (fun ls hl => ?_)
  have hw := hw (fun (b1_118 : Int32) (d_118 : Nat) (g_118 : Hs) => ∀ (ls : Array Slot) (H : Heap) (locs : List Loc), lv_has ls 2 [(0, .ref (b + 1)), (1, .int b1_118)] → okC D q A s b (2 + d_118) (eC q b) g_118 H locs → W p l e R s m args below meth c H locs d_118 (2000 * d_118) Qm (F0 m 118 ls [])) (by
    intro b1_118 d_118 g_118 hw ls H locs hl G
    obtain ⟨dm_118, hw⟩ := hw
    refine lv_iload_n hx hb dX8_init_118 rfl (lv_at hl 1 rfl) ?_
    refine lv_aload_n hx hb dX8_init_119 rfl (lv_at hl 0 rfl) ?_
    obtain ⟨gg_120, hw⟩ := hw
    refine x_get (C := RX8) (T := TX8) (n := 12) S G.1 inX8 (ce_9 (o := 1) (by omega) kx_1) rfl 4 (by decide) kf_X8_37 (congrArg (fun z => some (rfC b z)) gg_120) dX8_init_120 ?_
    refine x_alen (v := 16) S G.1 3 (ce_23 (o := 354) (l := 16) (by omega) (by decide +kernel) (by decide +kernel)) rfl rfl dX8_init_123 ?_
    refine lv_icmp_ge (tgt := 148) hx hb dX8_init_124 (by decide) (fun c_124 => ?_) (fun c_124 => ?_)
    · have hw := hw.1 c_124
      refine lv_iconst (v := 0) hx hb dX8_init_148 (by decide) ?_
      refine lv_istore_n (lv' := [(1, .int 0), (0, .ref (b + 1))]) hx hb dX8_init_149 rfl hl (by decide) rfl (fun ls hl => ?_)
      have hw := hw (fun (b1_150 : Int32) (d_150 : Nat) (g_150 : Hs) => ∀ (ls : Array Slot) (H : Heap) (locs : List Loc), lv_has ls 2 [(0, .ref (b + 1)), (1, .int b1_150)] → okC D q A s b (2 + d_150) (eC q b) g_150 H locs → W p l e R s m args below meth c H locs d_150 (2000 * d_150) Qm (F0 m 150 ls [])) (by
        intro b1_150 d_150 g_150 hw ls H locs hl G
        obtain ⟨dm_150, hw⟩ := hw
        refine lv_iload_n hx hb dX8_init_150 rfl (lv_at hl 1 rfl) ?_
        refine lv_iconst (v := 4) hx hb dX8_init_151 (by decide) ?_
        refine lv_icmp_ge (tgt := 176) hx hb dX8_init_152 (by decide) (fun c_152 => ?_) (fun c_152 => ?_)
        · have hw := hw.1 c_152
          obtain ⟨ed, hz9⟩ := hw
          subst ed
          refine W.widen (k := 402) (n := 2000 * 402) (by omega) (by omega) ?_
          exact RT _ _ _ _ _ G hz9 dX8_init_176
        · have hw := hw.2 c_152
          refine lv_aload_n hx hb dX8_init_155 rfl (lv_at hl 0 rfl) ?_
          obtain ⟨gg_156, hw⟩ := hw
          refine x_get (C := RX8) (T := TX8) (n := 12) S G.1 inX8 (ce_9 (o := 1) (by omega) kx_1) rfl 9 (by decide) kf_X8_54 (congrArg (fun z => some (rfC b z)) gg_156) dX8_init_156 ?_
          refine lv_iload_n hx hb dX8_init_159 rfl (lv_at hl 1 rfl) ?_
          obtain ⟨kn_160, hw⟩ := hw
          obtain ⟨w_160, hw⟩ := hw
          refine c_new (C := RX0) (T := TX0) (N := 2) S G inX0 tyX0 tyX0_ok kq_X8_35 kj_X0 kn_X0 rfl (cz_1 kn_160) cf_1 (Nat.le_trans (show _ ≤ 402 by omega) hR3) (Nat.le_trans (show _ ≤ 2000 * 402 by omega) hR4) (Nat.le_of_ble_eq_true rfl) dX8_init_160 (fun H G => ?_)
          obtain ⟨h_160, eh_160⟩ : ∃ y : Hs, y = zr g_150 (2 + d_150) 1 := ⟨_, rfl⟩
          rw [← eh_160] at G
          have hw := hw h_160 eh_160
          have G : okC D q A s b (2 + d_150 + 1) (eC q b) h_160 H _ := G
          refine lv_dup hx hb dX8_init_163 rfl ?_
          refine lv_bipush (v := 32) hx hb dX8_init_164 (by decide) ?_
          obtain ⟨w_166, hw⟩ := hw
          refine c_I (mc := 1) S hl.1 G (k_Big_init l D q A b (2 + d_150) 32 kn_160 h_160 _ hw) (cx_X8_41 S.2.2.2.2 ⟨Nat.le_trans (Nat.le_of_ble_eq_true rfl) hR1, Nat.le_trans (Nat.le_of_ble_eq_true rfl) hR2⟩) rfl rfl (Nat.le_of_ble_eq_true rfl) dX8_init_166 ⟨(Nat.le_trans (show _ ≤ 402 by omega) hR3), (Nat.le_trans (show _ ≤ 2000 * 402 by omega) hR4)⟩ (fun h_166 H locs G hw => ?_)
          have G : okC D q A s b (2 + d_150 + 2) (eC q b) h_166 H _ := G
          obtain ⟨i_169, hw⟩ := hw
          refine c_aast S G 3 (ce_23 (o := 361) (l := 4) (by omega) (by decide +kernel) (by decide +kernel)) rfl (ce_1 (o := (2 + d_150)) (by omega) kn_160) rfl i_169 (cs_23 (by decide +kernel) (by decide +kernel) (vpl i_169)) dX8_init_169 (fun H locs G => ?_)
          obtain ⟨h_169, eh_169⟩ : ∃ y : Hs, y = sr h_166 361 b1_150.toNatClampNeg ((2 + d_150) + 1) := ⟨_, rfl⟩
          rw [← eh_169] at G
          have hw := hw h_169 eh_169
          have G : okC D q A s b (2 + d_150 + 2) (eC q b) h_169 H _ := G
          obtain ⟨a1_170, ea1_170⟩ : ∃ y : Int32, y = b1_150 + 1 := ⟨_, rfl⟩
          have hw := hw a1_170 ea1_170
          refine lv_iinc (v := a1_170) (lv' := [(1, .int a1_170), (0, .ref (b + 1))]) hx hb dX8_init_170 hl (k := 1) rfl (by rw [ea1_170]; rfl) (by decide) rfl (fun ls hl => ?_)
          refine lv_goto (tgt := 150) hx hb dX8_init_173 (by decide) ?_
          exact hw _ _ _ (lv_sub hl [1, 0] rfl) G)
      exact hw _ _ _ (lv_sub hl [1, 0] rfl) G
    · have hw := hw.2 c_124
      refine lv_aload_n hx hb dX8_init_127 rfl (lv_at hl 0 rfl) ?_
      obtain ⟨gg_128, hw⟩ := hw
      refine x_get (C := RX8) (T := TX8) (n := 12) S G.1 inX8 (ce_9 (o := 1) (by omega) kx_1) rfl 4 (by decide) kf_X8_37 (congrArg (fun z => some (rfC b z)) gg_128) dX8_init_128 ?_
      refine lv_iload_n hx hb dX8_init_131 rfl (lv_at hl 1 rfl) ?_
      obtain ⟨kn_132, hw⟩ := hw
      obtain ⟨w_132, hw⟩ := hw
      refine c_new (C := RX0) (T := TX0) (N := 2) S G inX0 tyX0 tyX0_ok kq_X8_35 kj_X0 kn_X0 rfl (cz_1 kn_132) cf_1 (Nat.le_trans (show _ ≤ 402 by omega) hR3) (Nat.le_trans (show _ ≤ 2000 * 402 by omega) hR4) (Nat.le_of_ble_eq_true rfl) dX8_init_132 (fun H G => ?_)
      obtain ⟨h_132, eh_132⟩ : ∃ y : Hs, y = zr g_118 (2 + d_118) 1 := ⟨_, rfl⟩
      rw [← eh_132] at G
      have hw := hw h_132 eh_132
      have G : okC D q A s b (2 + d_118 + 1) (eC q b) h_132 H _ := G
      refine lv_dup hx hb dX8_init_135 rfl ?_
      refine lv_bipush (v := 32) hx hb dX8_init_136 (by decide) ?_
      obtain ⟨w_138, hw⟩ := hw
      refine c_I (mc := 1) S hl.1 G (k_Big_init l D q A b (2 + d_118) 32 kn_132 h_132 _ hw) (cx_X8_41 S.2.2.2.2 ⟨Nat.le_trans (Nat.le_of_ble_eq_true rfl) hR1, Nat.le_trans (Nat.le_of_ble_eq_true rfl) hR2⟩) rfl rfl (Nat.le_of_ble_eq_true rfl) dX8_init_138 ⟨(Nat.le_trans (show _ ≤ 402 by omega) hR3), (Nat.le_trans (show _ ≤ 2000 * 402 by omega) hR4)⟩ (fun h_138 H locs G hw => ?_)
      have G : okC D q A s b (2 + d_118 + 2) (eC q b) h_138 H _ := G
      obtain ⟨i_141, hw⟩ := hw
      refine c_aast S G 3 (ce_23 (o := 354) (l := 16) (by omega) (by decide +kernel) (by decide +kernel)) rfl (ce_1 (o := (2 + d_118)) (by omega) kn_132) rfl i_141 (cs_23 (by decide +kernel) (by decide +kernel) (vpl i_141)) dX8_init_141 (fun H locs G => ?_)
      obtain ⟨h_141, eh_141⟩ : ∃ y : Hs, y = sr h_138 354 b1_118.toNatClampNeg ((2 + d_118) + 1) := ⟨_, rfl⟩
      rw [← eh_141] at G
      have hw := hw h_141 eh_141
      have G : okC D q A s b (2 + d_118 + 2) (eC q b) h_141 H _ := G
      obtain ⟨a1_142, ea1_142⟩ : ∃ y : Int32, y = b1_118 + 1 := ⟨_, rfl⟩
      have hw := hw a1_142 ea1_142
      refine lv_iinc (v := a1_142) (lv' := [(1, .int a1_142), (0, .ref (b + 1))]) hx hb dX8_init_142 hl (k := 1) rfl (by rw [ea1_142]; rfl) (by decide) rfl (fun ls hl => ?_)
      refine lv_goto (tgt := 118) hx hb dX8_init_145 (by decide) ?_
      exact hw _ _ _ (lv_sub hl [1, 0] rfl) G)
  exact hw _ _ _ (lv_sub hl [1, 0] rfl) G
theorem cx_X9_9 {R : Room} {s : State} {args : Array Value} (hts : ∀ w ∈ gW, w.before args s = true) (hR : rx_Worlds_init.frames + 1 ≤ R.frames ∧ 8 + (2 + 11) + rx_Worlds_init.locals ≤ R.locals) : CallB R s args RX9 9 yX8_init cX8_init 2 none (mw yX8_init cX8_init 2 none) rx_Worlds_init 402 (2000 * 402) 0 ∧ yX8_init.name = "<init>" ∧ (Cond.instanceMethod yX8_init).before args s = true := cxI9 hts km_X9_9 ki_X8_init kn_X8 kk_X8_init rfl rfl rfl (by decide +kernel) hR
abbrev rx_X_init : Room := { frames := 4, cells := 503, slots := 1006000, locals := 86 }
set_option maxHeartbeats 4000000 in
set_option maxRecDepth 100000 in
theorem k_X_init (l : Launch) (D : va_G) (q : Nat → ClassId) (A : Nat → Prop) (b : Nat) (h : Hs) (Q : Hs → Prop) (hw : i_X_init h Q) : Met l yX9_init (mw yX9_init cX9_init 2 none) rx_X_init (va_Pc [.ref (b + 0)] (pC D q A b 1 (eC q b) h)) (va_Qv Q (fun h t => pC D q A b 504 (eC q b) h t) A) 503 (2000 * 503) A := by
  refine met_c (Qp := Q) (mc := 503) (by decide) (Nat.le_of_ble_eq_true rfl) rfl rfl ?_
  intro p e R s m args below meth c Qm ls hR1 hR2 hR3 hR4 S hin RT hl G
  have hx := S.1
  have hb := S.2.1
  have hl : lv_has ls 2 [(0, .ref (b + 0))] := hl
  unfold i_X_init at hw
  refine lv_aload_n hx hb dX9_init_0 rfl (lv_at hl 0 rfl) ?_
  refine W.objInit hx hb S.2.2.2.1 (S.2.2.2.2 _ km_X9_1) (S.2.2.2.2 _ ki_obj) (S.2.2.2.2 _ kk_obj) rfl (hl.1.trans S.2.2.1.symm) rfl dX9_init_1 (Nat.le_trans (Nat.le_of_ble_eq_true rfl) hR1) (Nat.le_trans (Nat.le_of_ble_eq_true rfl) hR2) ?_
  refine W.eq (g2 := F0 m 4 ls []) rfl ?_
  refine lv_aload_n hx hb dX9_init_4 rfl (lv_at hl 0 rfl) ?_
  refine c_new (C := RX8) (T := TX8) (N := 12) S G inX8 tyX8 tyX8_ok kq_X9_7 kj_X8 kn_X8 rfl (cz_9 (by decide +kernel)) cf_9 (Nat.le_trans (Nat.le_of_ble_eq_true rfl) hR3) (Nat.le_trans (Nat.le_of_ble_eq_true rfl) hR4) (Nat.le_of_ble_eq_true rfl) dX9_init_5 (fun H G => ?_)
  obtain ⟨h_5, eh_5⟩ : ∃ y : Hs, y = zr h 1 1 := ⟨_, rfl⟩
  rw [← eh_5] at G
  have hw := hw h_5 eh_5
  have G : okC D q A s b 2 (eC q b) h_5 H _ := G
  refine lv_dup hx hb dX9_init_8 rfl ?_
  refine c_I (mc := 402) S hl.1 G (k_Worlds_init l D q A b h_5 _ hw) (cx_X9_9 S.2.2.2.2 ⟨Nat.le_trans (Nat.le_of_ble_eq_true rfl) hR1, Nat.le_trans (Nat.le_of_ble_eq_true rfl) hR2⟩) rfl rfl (Nat.le_of_ble_eq_true rfl) dX9_init_9 ⟨(Nat.le_trans (Nat.le_of_ble_eq_true rfl) hR3), (Nat.le_trans (Nat.le_of_ble_eq_true rfl) hR4)⟩ (fun h_9 H locs G hw => ?_)
  have G : okC D q A s b 404 (eC q b) h_9 H _ := G
  refine c_putF (C := RX9) (T := TX9) (N := 12) S G inX9 tyX9 tyX9_ok nmX9 (ce_10 (o := 0) (by decide) kx_0) rfl 0 (by decide) kf_X9_10 rfl hin rfl rfl rfl (Nat.le_of_ble_eq_true rfl) (cp_10_0 kx_0) dX9_init_12 (fun H locs G => ?_)
  obtain ⟨h_12, eh_12⟩ : ∃ y : Hs, y = sr h_9 0 0 (1 + 1) := ⟨_, rfl⟩
  rw [← eh_12] at G
  have hw := hw h_12 eh_12
  have G : okC D q A s b 404 (eC q b) h_12 H _ := G
  refine lv_aload_n hx hb dX9_init_15 rfl (lv_at hl 0 rfl) ?_
  refine lv_aload_n hx hb dX9_init_16 rfl (lv_at hl 0 rfl) ?_
  obtain ⟨gg_17, hw⟩ := hw
  refine x_get (C := RX9) (T := TX9) (n := 12) S G.1 inX9 (ce_10 (o := 0) (by decide) kx_0) rfl 0 (by decide) kf_X9_10 (congrArg (fun z => some (rfC b z)) gg_17) dX9_init_17 ?_
  obtain ⟨gg_20, hw⟩ := hw
  refine x_get (C := RX8) (T := TX8) (n := 12) S G.1 inX8 (ce_9 (o := 1) (by decide) (by decide +kernel)) rfl 0 (by decide) kf_X9_16 (congrArg (fun z => some (rfC b z)) gg_20) dX9_init_20 ?_
  refine c_putF (C := RX9) (T := TX9) (N := 12) S G inX9 tyX9 tyX9_ok nmX9 (ce_10 (o := 0) (by decide) kx_0) rfl 1 (by decide) kf_X9_20 rfl hin rfl rfl rfl (Nat.le_of_ble_eq_true rfl) (cp_10_1 kx_0) dX9_init_23 (fun H locs G => ?_)
  obtain ⟨h_23, eh_23⟩ : ∃ y : Hs, y = sr h_12 0 1 (2 + 1) := ⟨_, rfl⟩
  rw [← eh_23] at G
  have hw := hw h_23 eh_23
  have G : okC D q A s b 404 (eC q b) h_23 H _ := G
  refine lv_aload_n hx hb dX9_init_26 rfl (lv_at hl 0 rfl) ?_
  refine lv_aload_n hx hb dX9_init_27 rfl (lv_at hl 0 rfl) ?_
  obtain ⟨gg_28, hw⟩ := hw
  refine x_get (C := RX9) (T := TX9) (n := 12) S G.1 inX9 (ce_10 (o := 0) (by decide) kx_0) rfl 1 (by decide) kf_X9_20 (congrArg (fun z => some (rfC b z)) gg_28) dX9_init_28 ?_
  obtain ⟨gg_31, hw⟩ := hw
  refine x_get (C := RX3) (T := TX3) (n := 10) S G.1 inX3 (ce_4 (o := 2) (by decide) (by decide +kernel)) rfl 0 (by decide) kf_X9_21 (congrArg (fun z => some (rfC b z)) gg_31) dX9_init_31 ?_
  refine c_putF (C := RX9) (T := TX9) (N := 12) S G inX9 tyX9 tyX9_ok nmX9 (ce_10 (o := 0) (by decide) kx_0) rfl 2 (by decide) kf_X9_27 rfl hin rfl rfl rfl (Nat.le_of_ble_eq_true rfl) (cp_10_2 kx_0) dX9_init_34 (fun H locs G => ?_)
  obtain ⟨h_34, eh_34⟩ : ∃ y : Hs, y = sr h_23 0 2 (3 + 1) := ⟨_, rfl⟩
  rw [← eh_34] at G
  have hw := hw h_34 eh_34
  have G : okC D q A s b 404 (eC q b) h_34 H _ := G
  refine lv_aload_n hx hb dX9_init_37 rfl (lv_at hl 0 rfl) ?_
  refine lv_iconst (v := 2) hx hb dX9_init_38 (by decide) ?_
  refine c_anew (N := 2) S G 5 25 rfl G.2.2.1.2.2.2.1 kq_X9_28 (cz_25 (by decide +kernel) (by decide +kernel)) (fun _ => ite_self _) (by decide) rfl (Nat.le_trans (Nat.le_of_ble_eq_true rfl) hR3) (Nat.le_trans (Nat.le_of_ble_eq_true rfl) hR4) (Nat.le_of_ble_eq_true rfl) dX9_init_39 (fun H G => ?_)
  obtain ⟨h_39, eh_39⟩ : ∃ y : Hs, y = zr h_34 404 1 := ⟨_, rfl⟩
  rw [← eh_39] at G
  have hw := hw h_39 eh_39
  have G : okC D q A s b 405 (eC q b) h_39 H _ := G
  refine c_putF (C := RX9) (T := TX9) (N := 12) S G inX9 tyX9 tyX9_ok nmX9 (ce_10 (o := 0) (by decide) kx_0) rfl 3 (by decide) kf_X9_30 rfl hin rfl rfl rfl (Nat.le_of_ble_eq_true rfl) (cp_10_3 kx_0) dX9_init_42 (fun H locs G => ?_)
  obtain ⟨h_42, eh_42⟩ : ∃ y : Hs, y = sr h_39 0 3 (404 + 1) := ⟨_, rfl⟩
  rw [← eh_42] at G
  have hw := hw h_42 eh_42
  have G : okC D q A s b 405 (eC q b) h_42 H _ := G
  refine lv_aload_n hx hb dX9_init_45 rfl (lv_at hl 0 rfl) ?_
  refine lv_iconst (v := 2) hx hb dX9_init_46 (by decide) ?_
  refine c_newa (N := 2) S G 1 21 rfl rfl ka_boolean rfl (cz_21 (by decide +kernel) (by decide +kernel)) (fun _ => rfl) (by decide) rfl (Nat.le_of_ble_eq_true rfl) (Nat.le_trans (Nat.le_of_ble_eq_true rfl) hR3) (Nat.le_trans (Nat.le_of_ble_eq_true rfl) hR4) (Nat.le_of_ble_eq_true rfl) dX9_init_47 (fun H G => ?_)
  obtain ⟨h_47, eh_47⟩ : ∃ y : Hs, y = zr h_42 405 1 := ⟨_, rfl⟩
  rw [← eh_47] at G
  have hw := hw h_47 eh_47
  have G : okC D q A s b 406 (eC q b) h_47 H _ := G
  refine c_putF (C := RX9) (T := TX9) (N := 12) S G inX9 tyX9 tyX9_ok nmX9 (ce_10 (o := 0) (by decide) kx_0) rfl 4 (by decide) kf_X9_34 rfl hin rfl rfl rfl (Nat.le_of_ble_eq_true rfl) (cp_10_4 kx_0) dX9_init_49 (fun H locs G => ?_)
  obtain ⟨h_49, eh_49⟩ : ∃ y : Hs, y = sr h_47 0 4 (405 + 1) := ⟨_, rfl⟩
  rw [← eh_49] at G
  have hw := hw h_49 eh_49
  have G : okC D q A s b 406 (eC q b) h_49 H _ := G
  refine lv_aload_n hx hb dX9_init_52 rfl (lv_at hl 0 rfl) ?_
  refine c_new (C := RX2) (T := TX2) (N := 5) S G inX2 tyX2 tyX2_ok kq_X9_38 kj_X2 kn_X2 rfl (cz_3 (by decide +kernel)) cf_3 (Nat.le_trans (Nat.le_of_ble_eq_true rfl) hR3) (Nat.le_trans (Nat.le_of_ble_eq_true rfl) hR4) (Nat.le_of_ble_eq_true rfl) dX9_init_53 (fun H G => ?_)
  obtain ⟨h_53, eh_53⟩ : ∃ y : Hs, y = zr h_49 406 1 := ⟨_, rfl⟩
  rw [← eh_53] at G
  have hw := hw h_53 eh_53
  have G : okC D q A s b 407 (eC q b) h_53 H _ := G
  refine lv_dup hx hb dX9_init_56 rfl ?_
  refine c_I (mc := 10) S hl.1 G (k_Fraction_init l D q A b h_53 _ hw) (cx_X9_40 S.2.2.2.2 ⟨Nat.le_trans (Nat.le_of_ble_eq_true rfl) hR1, Nat.le_trans (Nat.le_of_ble_eq_true rfl) hR2⟩) rfl rfl (Nat.le_of_ble_eq_true rfl) dX9_init_57 ⟨(Nat.le_trans (Nat.le_of_ble_eq_true rfl) hR3), (Nat.le_trans (Nat.le_of_ble_eq_true rfl) hR4)⟩ (fun h_57 H locs G hw => ?_)
  have G : okC D q A s b 417 (eC q b) h_57 H _ := G
  refine c_putF (C := RX9) (T := TX9) (N := 12) S G inX9 tyX9 tyX9_ok nmX9 (ce_10 (o := 0) (by decide) kx_0) rfl 5 (by decide) kf_X9_41 rfl hin rfl rfl rfl (Nat.le_of_ble_eq_true rfl) (cp_10_5 kx_0) dX9_init_60 (fun H locs G => ?_)
  obtain ⟨h_60, eh_60⟩ : ∃ y : Hs, y = sr h_57 0 5 (406 + 1) := ⟨_, rfl⟩
  rw [← eh_60] at G
  have hw := hw h_60 eh_60
  have G : okC D q A s b 417 (eC q b) h_60 H _ := G
  refine lv_aload_n hx hb dX9_init_63 rfl (lv_at hl 0 rfl) ?_
  refine c_new (C := RX4) (T := TX4) (N := 2) S G inX4 tyX4 tyX4_ok kq_X9_45 kj_X4 kn_X4 rfl (cz_5 (by decide +kernel)) cf_5 (Nat.le_trans (Nat.le_of_ble_eq_true rfl) hR3) (Nat.le_trans (Nat.le_of_ble_eq_true rfl) hR4) (Nat.le_of_ble_eq_true rfl) dX9_init_64 (fun H G => ?_)
  obtain ⟨h_64, eh_64⟩ : ∃ y : Hs, y = zr h_60 417 1 := ⟨_, rfl⟩
  rw [← eh_64] at G
  have hw := hw h_64 eh_64
  have G : okC D q A s b 418 (eC q b) h_64 H _ := G
  refine lv_dup hx hb dX9_init_67 rfl ?_
  refine c_IN (mc := 2) S hl.1 G (k_Ship_init l D q A b h_64 _ hw) (cx_X9_47 G.2.2.1.1.2.2 S.2.2.2.2 ⟨Nat.le_trans (Nat.le_of_ble_eq_true rfl) hR1, Nat.le_trans (Nat.le_of_ble_eq_true rfl) hR2⟩) rfl rfl (Nat.le_of_ble_eq_true rfl) dX9_init_68 ⟨(Nat.le_trans (Nat.le_of_ble_eq_true rfl) hR3), (Nat.le_trans (Nat.le_of_ble_eq_true rfl) hR4)⟩ (fun h_68 H locs G hw => ?_)
  have G : okC D q A s b 420 (eC q b) h_68 H _ := G
  refine c_putF (C := RX9) (T := TX9) (N := 12) S G inX9 tyX9 tyX9_ok nmX9 (ce_10 (o := 0) (by decide) kx_0) rfl 6 (by decide) kf_X9_48 rfl hin rfl rfl rfl (Nat.le_of_ble_eq_true rfl) (cp_10_6 kx_0) dX9_init_71 (fun H locs G => ?_)
  obtain ⟨h_71, eh_71⟩ : ∃ y : Hs, y = sr h_68 0 6 (417 + 1) := ⟨_, rfl⟩
  rw [← eh_71] at G
  have hw := hw h_71 eh_71
  have G : okC D q A s b 420 (eC q b) h_71 H _ := G
  refine lv_aload_n hx hb dX9_init_74 rfl (lv_at hl 0 rfl) ?_
  refine c_new (C := RX0) (T := TX0) (N := 2) S G inX0 tyX0 tyX0_ok kq_X9_52 kj_X0 kn_X0 rfl (cz_1 (by decide +kernel)) cf_1 (Nat.le_trans (Nat.le_of_ble_eq_true rfl) hR3) (Nat.le_trans (Nat.le_of_ble_eq_true rfl) hR4) (Nat.le_of_ble_eq_true rfl) dX9_init_75 (fun H G => ?_)
  obtain ⟨h_75, eh_75⟩ : ∃ y : Hs, y = zr h_71 420 1 := ⟨_, rfl⟩
  rw [← eh_75] at G
  have hw := hw h_75 eh_75
  have G : okC D q A s b 421 (eC q b) h_75 H _ := G
  refine lv_dup hx hb dX9_init_78 rfl ?_
  refine lv_iconst (v := 5) hx hb dX9_init_79 (by decide) ?_
  refine c_I (mc := 1) S hl.1 G (k_Big_init l D q A b 420 5 (by decide +kernel) h_75 _ hw) (cx_X9_54 S.2.2.2.2 ⟨Nat.le_trans (Nat.le_of_ble_eq_true rfl) hR1, Nat.le_trans (Nat.le_of_ble_eq_true rfl) hR2⟩) rfl rfl (Nat.le_of_ble_eq_true rfl) dX9_init_80 ⟨(Nat.le_trans (Nat.le_of_ble_eq_true rfl) hR3), (Nat.le_trans (Nat.le_of_ble_eq_true rfl) hR4)⟩ (fun h_80 H locs G hw => ?_)
  have G : okC D q A s b 422 (eC q b) h_80 H _ := G
  refine c_putF (C := RX9) (T := TX9) (N := 12) S G inX9 tyX9 tyX9_ok nmX9 (ce_10 (o := 0) (by decide) kx_0) rfl 7 (by decide) kf_X9_57 rfl hin rfl rfl rfl (Nat.le_of_ble_eq_true rfl) (cp_10_7 kx_0) dX9_init_83 (fun H locs G => ?_)
  obtain ⟨h_83, eh_83⟩ : ∃ y : Hs, y = sr h_80 0 7 (420 + 1) := ⟨_, rfl⟩
  rw [← eh_83] at G
  have hw := hw h_83 eh_83
  have G : okC D q A s b 422 (eC q b) h_83 H _ := G
  refine lv_aload_n hx hb dX9_init_86 rfl (lv_at hl 0 rfl) ?_
  refine c_new (C := RX0) (T := TX0) (N := 2) S G inX0 tyX0 tyX0_ok kq_X9_52 kj_X0 kn_X0 rfl (cz_1 (by decide +kernel)) cf_1 (Nat.le_trans (Nat.le_of_ble_eq_true rfl) hR3) (Nat.le_trans (Nat.le_of_ble_eq_true rfl) hR4) (Nat.le_of_ble_eq_true rfl) dX9_init_87 (fun H G => ?_)
  obtain ⟨h_87, eh_87⟩ : ∃ y : Hs, y = zr h_83 422 1 := ⟨_, rfl⟩
  rw [← eh_87] at G
  have hw := hw h_87 eh_87
  have G : okC D q A s b 423 (eC q b) h_87 H _ := G
  refine lv_dup hx hb dX9_init_90 rfl ?_
  refine lv_iconst (v := 5) hx hb dX9_init_91 (by decide) ?_
  refine c_I (mc := 1) S hl.1 G (k_Big_init l D q A b 422 5 (by decide +kernel) h_87 _ hw) (cx_X9_54 S.2.2.2.2 ⟨Nat.le_trans (Nat.le_of_ble_eq_true rfl) hR1, Nat.le_trans (Nat.le_of_ble_eq_true rfl) hR2⟩) rfl rfl (Nat.le_of_ble_eq_true rfl) dX9_init_92 ⟨(Nat.le_trans (Nat.le_of_ble_eq_true rfl) hR3), (Nat.le_trans (Nat.le_of_ble_eq_true rfl) hR4)⟩ (fun h_92 H locs G hw => ?_)
  have G : okC D q A s b 424 (eC q b) h_92 H _ := G
  refine c_putF (C := RX9) (T := TX9) (N := 12) S G inX9 tyX9 tyX9_ok nmX9 (ce_10 (o := 0) (by decide) kx_0) rfl 8 (by decide) kf_X9_61 rfl hin rfl rfl rfl (Nat.le_of_ble_eq_true rfl) (cp_10_8 kx_0) dX9_init_95 (fun H locs G => ?_)
  obtain ⟨h_95, eh_95⟩ : ∃ y : Hs, y = sr h_92 0 8 (422 + 1) := ⟨_, rfl⟩
  rw [← eh_95] at G
  have hw := hw h_95 eh_95
  have G : okC D q A s b 424 (eC q b) h_95 H _ := G
  refine lv_iconst (v := 0) hx hb dX9_init_98 (by decide) ?_
  refine lv_istore_n (lv' := [(1, .int 0), (0, .ref (b + 0))]) hx hb dX9_init_99 rfl hl (by decide) rfl (fun ls hl => ?_)
  have hw := hw (fun (b1_100 : Int32) (d_100 : Nat) (g_100 : Hs) => ∀ (ls : Array Slot) (H : Heap) (locs : List Loc), lv_has ls 2 [(0, .ref (b + 0)), (1, .int b1_100)] → okC D q A s b (1 + d_100) (eC q b) g_100 H locs → W p l e R s m args below meth c H locs d_100 (2000 * d_100) Qm (F0 m 100 ls [])) (by
    intro b1_100 d_100 g_100 hw ls H locs hl G
    obtain ⟨dm_100, hw⟩ := hw
    refine lv_iload_n hx hb dX9_init_100 rfl (lv_at hl 1 rfl) ?_
    refine lv_iconst (v := 2) hx hb dX9_init_101 (by decide) ?_
    refine lv_icmp_ge (tgt := 124) hx hb dX9_init_102 (by decide) (fun c_102 => ?_) (fun c_102 => ?_)
    · have hw := hw.1 c_102
      obtain ⟨ed, hz9⟩ := hw
      subst ed
      refine W.widen (k := 503) (n := 2000 * 503) (by omega) (by omega) ?_
      exact RT _ _ _ _ _ G hz9 dX9_init_124
    · have hw := hw.2 c_102
      refine lv_aload_n hx hb dX9_init_105 rfl (lv_at hl 0 rfl) ?_
      obtain ⟨gg_106, hw⟩ := hw
      refine x_get (C := RX9) (T := TX9) (n := 12) S G.1 inX9 (ce_10 (o := 0) (by omega) kx_0) rfl 3 (by decide) kf_X9_30 (congrArg (fun z => some (rfC b z)) gg_106) dX9_init_106 ?_
      refine lv_iload_n hx hb dX9_init_109 rfl (lv_at hl 1 rfl) ?_
      obtain ⟨kn_110, hw⟩ := hw
      obtain ⟨w_110, hw⟩ := hw
      refine c_new (C := RX5) (T := TX5) (N := 17) S G inX5 tyX5 tyX5_ok kq_X9_28 kj_X5 kn_X5 rfl (cz_6 kn_110) cf_6 (Nat.le_trans (show _ ≤ 503 by omega) hR3) (Nat.le_trans (show _ ≤ 2000 * 503 by omega) hR4) (Nat.le_of_ble_eq_true rfl) dX9_init_110 (fun H G => ?_)
      obtain ⟨h_110, eh_110⟩ : ∃ y : Hs, y = zr g_100 (1 + d_100) 1 := ⟨_, rfl⟩
      rw [← eh_110] at G
      have hw := hw h_110 eh_110
      have G : okC D q A s b (1 + d_100 + 1) (eC q b) h_110 H _ := G
      refine lv_dup hx hb dX9_init_113 rfl ?_
      obtain ⟨w_114, hw⟩ := hw
      refine c_I (mc := 39) S hl.1 G (k_State_init l D q A b (1 + d_100) kn_110 h_110 _ hw) (cx_X9_64 S.2.2.2.2 ⟨Nat.le_trans (Nat.le_of_ble_eq_true rfl) hR1, Nat.le_trans (Nat.le_of_ble_eq_true rfl) hR2⟩) rfl rfl (Nat.le_of_ble_eq_true rfl) dX9_init_114 ⟨(Nat.le_trans (show _ ≤ 503 by omega) hR3), (Nat.le_trans (show _ ≤ 2000 * 503 by omega) hR4)⟩ (fun h_114 H locs G hw => ?_)
      have G : okC D q A s b (1 + d_100 + 40) (eC q b) h_114 H _ := G
      obtain ⟨i_117, hw⟩ := hw
      refine c_aast S G 5 (ce_25 (o := 404) (l := 2) (by omega) (by decide +kernel) (by decide +kernel)) rfl (ce_6 (o := (1 + d_100)) (by omega) kn_110) rfl i_117 (cs_25 (by decide +kernel) (by decide +kernel) (vpl i_117)) dX9_init_117 (fun H locs G => ?_)
      obtain ⟨h_117, eh_117⟩ : ∃ y : Hs, y = sr h_114 404 b1_100.toNatClampNeg ((1 + d_100) + 1) := ⟨_, rfl⟩
      rw [← eh_117] at G
      have hw := hw h_117 eh_117
      have G : okC D q A s b (1 + d_100 + 40) (eC q b) h_117 H _ := G
      obtain ⟨a1_118, ea1_118⟩ : ∃ y : Int32, y = b1_100 + 1 := ⟨_, rfl⟩
      have hw := hw a1_118 ea1_118
      refine lv_iinc (v := a1_118) (lv' := [(1, .int a1_118), (0, .ref (b + 0))]) hx hb dX9_init_118 hl (k := 1) rfl (by rw [ea1_118]; rfl) (by decide) rfl (fun ls hl => ?_)
      refine lv_goto (tgt := 100) hx hb dX9_init_121 (by decide) ?_
      exact hw _ _ _ (lv_sub hl [1, 0] rfl) G)
  exact hw _ _ _ (lv_sub hl [1, 0] rfl) G

abbrev rx_M_init : Room := { frames := 1, cells := 13, slots := 26000, locals := 25 }
set_option maxHeartbeats 4000000 in
set_option maxRecDepth 100000 in
theorem k_M_init (l : Launch) (D : va_G) (q : Nat → ClassId) (A : Nat → Prop) (b : Nat) (h : Hs) (Q : Hs → Prop) (hw : i_M_init h Q) : Met l yX10_init (mw yX10_init cX10_init 2 none) rx_M_init (va_Pc [.ref (b + 0)] (pC D q A b 1 (eN q b) h)) (va_Qv Q (fun h t => pC D q A b 14 (eN q b) h t) A) 13 (2000 * 13) A := by
  refine met_c (Qp := Q) (mc := 13) (by decide) (Nat.le_of_ble_eq_true rfl) rfl rfl ?_
  intro p e R s m args below meth c Qm ls hR1 hR2 hR3 hR4 S hin RT hl G
  have hx := S.1
  have hb := S.2.1
  have hl : lv_has ls 2 [(0, .ref (b + 0))] := hl
  unfold i_M_init at hw
  refine lv_aload_n hx hb dX10_init_0 rfl (lv_at hl 0 rfl) ?_
  refine W.objInit hx hb S.2.2.2.1 (S.2.2.2.2 _ km_X10_1) (S.2.2.2.2 _ ki_obj) (S.2.2.2.2 _ kk_obj) rfl (hl.1.trans S.2.2.1.symm) rfl dX10_init_1 (Nat.le_trans (Nat.le_of_ble_eq_true rfl) hR1) (Nat.le_trans (Nat.le_of_ble_eq_true rfl) hR2) ?_
  refine W.eq (g2 := F0 m 4 ls []) rfl ?_
  refine lv_aload_n hx hb dX10_init_4 rfl (lv_at hl 0 rfl) ?_
  refine lv_sipush (v := 675) hx hb dX10_init_5 (by decide) ?_
  refine c_newa (N := 675) S G 0 20 rfl rfl ka_int rfl (nz_20 (by decide +kernel) (by decide +kernel)) (fun _ => rfl) (by decide) rfl (Nat.le_of_ble_eq_true rfl) (Nat.le_trans (Nat.le_of_ble_eq_true rfl) hR3) (Nat.le_trans (Nat.le_of_ble_eq_true rfl) hR4) (Nat.le_of_ble_eq_true rfl) dX10_init_8 (fun H G => ?_)
  obtain ⟨h_8, eh_8⟩ : ∃ y : Hs, y = zr h 1 1 := ⟨_, rfl⟩
  rw [← eh_8] at G
  have hw := hw h_8 eh_8
  have G : okC D q A s b 2 (eN q b) h_8 H _ := G
  refine c_putF (C := RX10) (T := TX10) (N := 21) S G inX10 tyX10 tyX10_ok nmX10 (ne_11 (o := 0) (by decide) km_0) rfl 0 (by decide) kf_X10_7 rfl hin rfl rfl rfl (Nat.le_of_ble_eq_true rfl) (np_11_0 km_0) dX10_init_10 (fun H locs G => ?_)
  obtain ⟨h_10, eh_10⟩ : ∃ y : Hs, y = sr h_8 0 0 (1 + 1) := ⟨_, rfl⟩
  rw [← eh_10] at G
  have hw := hw h_10 eh_10
  have G : okC D q A s b 2 (eN q b) h_10 H _ := G
  refine lv_aload_n hx hb dX10_init_13 rfl (lv_at hl 0 rfl) ?_
  refine lv_sipush (v := 1350) hx hb dX10_init_14 (by decide) ?_
  refine c_newa (N := 1350) S G 0 20 rfl rfl ka_int rfl (nz_20 (by decide +kernel) (by decide +kernel)) (fun _ => rfl) (by decide) rfl (Nat.le_of_ble_eq_true rfl) (Nat.le_trans (Nat.le_of_ble_eq_true rfl) hR3) (Nat.le_trans (Nat.le_of_ble_eq_true rfl) hR4) (Nat.le_of_ble_eq_true rfl) dX10_init_17 (fun H G => ?_)
  obtain ⟨h_17, eh_17⟩ : ∃ y : Hs, y = zr h_10 2 1 := ⟨_, rfl⟩
  rw [← eh_17] at G
  have hw := hw h_17 eh_17
  have G : okC D q A s b 3 (eN q b) h_17 H _ := G
  refine c_putF (C := RX10) (T := TX10) (N := 21) S G inX10 tyX10 tyX10_ok nmX10 (ne_11 (o := 0) (by decide) km_0) rfl 1 (by decide) kf_X10_13 rfl hin rfl rfl rfl (Nat.le_of_ble_eq_true rfl) (np_11_1 km_0) dX10_init_19 (fun H locs G => ?_)
  obtain ⟨h_19, eh_19⟩ : ∃ y : Hs, y = sr h_17 0 1 (2 + 1) := ⟨_, rfl⟩
  rw [← eh_19] at G
  have hw := hw h_19 eh_19
  have G : okC D q A s b 3 (eN q b) h_19 H _ := G
  refine lv_aload_n hx hb dX10_init_22 rfl (lv_at hl 0 rfl) ?_
  refine lv_iconst (v := 2) hx hb dX10_init_23 (by decide) ?_
  refine c_newa (N := 2) S G 1 21 rfl rfl ka_boolean rfl (nz_21 (by decide +kernel) (by decide +kernel)) (fun _ => rfl) (by decide) rfl (Nat.le_of_ble_eq_true rfl) (Nat.le_trans (Nat.le_of_ble_eq_true rfl) hR3) (Nat.le_trans (Nat.le_of_ble_eq_true rfl) hR4) (Nat.le_of_ble_eq_true rfl) dX10_init_24 (fun H G => ?_)
  obtain ⟨h_24, eh_24⟩ : ∃ y : Hs, y = zr h_19 3 1 := ⟨_, rfl⟩
  rw [← eh_24] at G
  have hw := hw h_24 eh_24
  have G : okC D q A s b 4 (eN q b) h_24 H _ := G
  refine c_putF (C := RX10) (T := TX10) (N := 21) S G inX10 tyX10 tyX10_ok nmX10 (ne_11 (o := 0) (by decide) km_0) rfl 2 (by decide) kf_X10_16 rfl hin rfl rfl rfl (Nat.le_of_ble_eq_true rfl) (np_11_2 km_0) dX10_init_26 (fun H locs G => ?_)
  obtain ⟨h_26, eh_26⟩ : ∃ y : Hs, y = sr h_24 0 2 (3 + 1) := ⟨_, rfl⟩
  rw [← eh_26] at G
  have hw := hw h_26 eh_26
  have G : okC D q A s b 4 (eN q b) h_26 H _ := G
  refine lv_aload_n hx hb dX10_init_29 rfl (lv_at hl 0 rfl) ?_
  refine lv_iconst (v := 3) hx hb dX10_init_30 (by decide) ?_
  refine c_newa (N := 3) S G 0 20 rfl rfl ka_int rfl (nz_20 (by decide +kernel) (by decide +kernel)) (fun _ => rfl) (by decide) rfl (Nat.le_of_ble_eq_true rfl) (Nat.le_trans (Nat.le_of_ble_eq_true rfl) hR3) (Nat.le_trans (Nat.le_of_ble_eq_true rfl) hR4) (Nat.le_of_ble_eq_true rfl) dX10_init_31 (fun H G => ?_)
  obtain ⟨h_31, eh_31⟩ : ∃ y : Hs, y = zr h_26 4 1 := ⟨_, rfl⟩
  rw [← eh_31] at G
  have hw := hw h_31 eh_31
  have G : okC D q A s b 5 (eN q b) h_31 H _ := G
  refine c_putF (C := RX10) (T := TX10) (N := 21) S G inX10 tyX10 tyX10_ok nmX10 (ne_11 (o := 0) (by decide) km_0) rfl 3 (by decide) kf_X10_20 rfl hin rfl rfl rfl (Nat.le_of_ble_eq_true rfl) (np_11_3 km_0) dX10_init_33 (fun H locs G => ?_)
  obtain ⟨h_33, eh_33⟩ : ∃ y : Hs, y = sr h_31 0 3 (4 + 1) := ⟨_, rfl⟩
  rw [← eh_33] at G
  have hw := hw h_33 eh_33
  have G : okC D q A s b 5 (eN q b) h_33 H _ := G
  refine lv_aload_n hx hb dX10_init_36 rfl (lv_at hl 0 rfl) ?_
  refine lv_sipush (v := 768) hx hb dX10_init_37 (by decide) ?_
  refine c_newa (N := 768) S G 6 26 rfl rfl ka_long rfl (nz_26 (by decide +kernel) (by decide +kernel)) (fun _ => rfl) (by decide) rfl (Nat.le_of_ble_eq_true rfl) (Nat.le_trans (Nat.le_of_ble_eq_true rfl) hR3) (Nat.le_trans (Nat.le_of_ble_eq_true rfl) hR4) (Nat.le_of_ble_eq_true rfl) dX10_init_40 (fun H G => ?_)
  obtain ⟨h_40, eh_40⟩ : ∃ y : Hs, y = zr h_33 5 1 := ⟨_, rfl⟩
  rw [← eh_40] at G
  have hw := hw h_40 eh_40
  have G : okC D q A s b 6 (eN q b) h_40 H _ := G
  refine c_putF (C := RX10) (T := TX10) (N := 21) S G inX10 tyX10 tyX10_ok nmX10 (ne_11 (o := 0) (by decide) km_0) rfl 4 (by decide) kf_X10_23 rfl hin rfl rfl rfl (Nat.le_of_ble_eq_true rfl) (np_11_4 km_0) dX10_init_42 (fun H locs G => ?_)
  obtain ⟨h_42, eh_42⟩ : ∃ y : Hs, y = sr h_40 0 4 (5 + 1) := ⟨_, rfl⟩
  rw [← eh_42] at G
  have hw := hw h_42 eh_42
  have G : okC D q A s b 6 (eN q b) h_42 H _ := G
  refine lv_aload_n hx hb dX10_init_45 rfl (lv_at hl 0 rfl) ?_
  refine lv_bipush (v := 12) hx hb dX10_init_46 (by decide) ?_
  refine c_newa (N := 12) S G 0 20 rfl rfl ka_int rfl (nz_20 (by decide +kernel) (by decide +kernel)) (fun _ => rfl) (by decide) rfl (Nat.le_of_ble_eq_true rfl) (Nat.le_trans (Nat.le_of_ble_eq_true rfl) hR3) (Nat.le_trans (Nat.le_of_ble_eq_true rfl) hR4) (Nat.le_of_ble_eq_true rfl) dX10_init_48 (fun H G => ?_)
  obtain ⟨h_48, eh_48⟩ : ∃ y : Hs, y = zr h_42 6 1 := ⟨_, rfl⟩
  rw [← eh_48] at G
  have hw := hw h_48 eh_48
  have G : okC D q A s b 7 (eN q b) h_48 H _ := G
  refine c_putF (C := RX10) (T := TX10) (N := 21) S G inX10 tyX10 tyX10_ok nmX10 (ne_11 (o := 0) (by decide) km_0) rfl 5 (by decide) kf_X10_27 rfl hin rfl rfl rfl (Nat.le_of_ble_eq_true rfl) (np_11_5 km_0) dX10_init_50 (fun H locs G => ?_)
  obtain ⟨h_50, eh_50⟩ : ∃ y : Hs, y = sr h_48 0 5 (6 + 1) := ⟨_, rfl⟩
  rw [← eh_50] at G
  have hw := hw h_50 eh_50
  have G : okC D q A s b 7 (eN q b) h_50 H _ := G
  refine lv_aload_n hx hb dX10_init_53 rfl (lv_at hl 0 rfl) ?_
  refine lv_sipush (v := 480) hx hb dX10_init_54 (by decide) ?_
  refine c_newa (N := 480) S G 0 20 rfl rfl ka_int rfl (nz_20 (by decide +kernel) (by decide +kernel)) (fun _ => rfl) (by decide) rfl (Nat.le_of_ble_eq_true rfl) (Nat.le_trans (Nat.le_of_ble_eq_true rfl) hR3) (Nat.le_trans (Nat.le_of_ble_eq_true rfl) hR4) (Nat.le_of_ble_eq_true rfl) dX10_init_57 (fun H G => ?_)
  obtain ⟨h_57, eh_57⟩ : ∃ y : Hs, y = zr h_50 7 1 := ⟨_, rfl⟩
  rw [← eh_57] at G
  have hw := hw h_57 eh_57
  have G : okC D q A s b 8 (eN q b) h_57 H _ := G
  refine c_putF (C := RX10) (T := TX10) (N := 21) S G inX10 tyX10 tyX10_ok nmX10 (ne_11 (o := 0) (by decide) km_0) rfl 12 (by decide) kf_X10_30 rfl hin rfl rfl rfl (Nat.le_of_ble_eq_true rfl) (np_11_12 km_0) dX10_init_59 (fun H locs G => ?_)
  obtain ⟨h_59, eh_59⟩ : ∃ y : Hs, y = sr h_57 0 12 (7 + 1) := ⟨_, rfl⟩
  rw [← eh_59] at G
  have hw := hw h_59 eh_59
  have G : okC D q A s b 8 (eN q b) h_59 H _ := G
  refine lv_aload_n hx hb dX10_init_62 rfl (lv_at hl 0 rfl) ?_
  refine lv_iconst (v := 4) hx hb dX10_init_63 (by decide) ?_
  refine c_newa (N := 4) S G 0 20 rfl rfl ka_int rfl (nz_20 (by decide +kernel) (by decide +kernel)) (fun _ => rfl) (by decide) rfl (Nat.le_of_ble_eq_true rfl) (Nat.le_trans (Nat.le_of_ble_eq_true rfl) hR3) (Nat.le_trans (Nat.le_of_ble_eq_true rfl) hR4) (Nat.le_of_ble_eq_true rfl) dX10_init_64 (fun H G => ?_)
  obtain ⟨h_64, eh_64⟩ : ∃ y : Hs, y = zr h_59 8 1 := ⟨_, rfl⟩
  rw [← eh_64] at G
  have hw := hw h_64 eh_64
  have G : okC D q A s b 9 (eN q b) h_64 H _ := G
  refine c_putF (C := RX10) (T := TX10) (N := 21) S G inX10 tyX10 tyX10_ok nmX10 (ne_11 (o := 0) (by decide) km_0) rfl 13 (by decide) kf_X10_33 rfl hin rfl rfl rfl (Nat.le_of_ble_eq_true rfl) (np_11_13 km_0) dX10_init_66 (fun H locs G => ?_)
  obtain ⟨h_66, eh_66⟩ : ∃ y : Hs, y = sr h_64 0 13 (8 + 1) := ⟨_, rfl⟩
  rw [← eh_66] at G
  have hw := hw h_66 eh_66
  have G : okC D q A s b 9 (eN q b) h_66 H _ := G
  refine lv_aload_n hx hb dX10_init_69 rfl (lv_at hl 0 rfl) ?_
  refine lv_iconst (v := 4) hx hb dX10_init_70 (by decide) ?_
  refine c_newa (N := 4) S G 1 21 rfl rfl ka_boolean rfl (nz_21 (by decide +kernel) (by decide +kernel)) (fun _ => rfl) (by decide) rfl (Nat.le_of_ble_eq_true rfl) (Nat.le_trans (Nat.le_of_ble_eq_true rfl) hR3) (Nat.le_trans (Nat.le_of_ble_eq_true rfl) hR4) (Nat.le_of_ble_eq_true rfl) dX10_init_71 (fun H G => ?_)
  obtain ⟨h_71, eh_71⟩ : ∃ y : Hs, y = zr h_66 9 1 := ⟨_, rfl⟩
  rw [← eh_71] at G
  have hw := hw h_71 eh_71
  have G : okC D q A s b 10 (eN q b) h_71 H _ := G
  refine c_putF (C := RX10) (T := TX10) (N := 21) S G inX10 tyX10 tyX10_ok nmX10 (ne_11 (o := 0) (by decide) km_0) rfl 14 (by decide) kf_X10_36 rfl hin rfl rfl rfl (Nat.le_of_ble_eq_true rfl) (np_11_14 km_0) dX10_init_73 (fun H locs G => ?_)
  obtain ⟨h_73, eh_73⟩ : ∃ y : Hs, y = sr h_71 0 14 (9 + 1) := ⟨_, rfl⟩
  rw [← eh_73] at G
  have hw := hw h_73 eh_73
  have G : okC D q A s b 10 (eN q b) h_73 H _ := G
  refine lv_aload_n hx hb dX10_init_76 rfl (lv_at hl 0 rfl) ?_
  refine lv_iconst (v := 4) hx hb dX10_init_77 (by decide) ?_
  refine c_newa (N := 4) S G 1 21 rfl rfl ka_boolean rfl (nz_21 (by decide +kernel) (by decide +kernel)) (fun _ => rfl) (by decide) rfl (Nat.le_of_ble_eq_true rfl) (Nat.le_trans (Nat.le_of_ble_eq_true rfl) hR3) (Nat.le_trans (Nat.le_of_ble_eq_true rfl) hR4) (Nat.le_of_ble_eq_true rfl) dX10_init_78 (fun H G => ?_)
  obtain ⟨h_78, eh_78⟩ : ∃ y : Hs, y = zr h_73 10 1 := ⟨_, rfl⟩
  rw [← eh_78] at G
  have hw := hw h_78 eh_78
  have G : okC D q A s b 11 (eN q b) h_78 H _ := G
  refine c_putF (C := RX10) (T := TX10) (N := 21) S G inX10 tyX10 tyX10_ok nmX10 (ne_11 (o := 0) (by decide) km_0) rfl 15 (by decide) kf_X10_39 rfl hin rfl rfl rfl (Nat.le_of_ble_eq_true rfl) (np_11_15 km_0) dX10_init_80 (fun H locs G => ?_)
  obtain ⟨h_80, eh_80⟩ : ∃ y : Hs, y = sr h_78 0 15 (10 + 1) := ⟨_, rfl⟩
  rw [← eh_80] at G
  have hw := hw h_80 eh_80
  have G : okC D q A s b 11 (eN q b) h_80 H _ := G
  refine lv_aload_n hx hb dX10_init_83 rfl (lv_at hl 0 rfl) ?_
  refine lv_iconst (v := 4) hx hb dX10_init_84 (by decide) ?_
  refine c_newa (N := 4) S G 0 20 rfl rfl ka_int rfl (nz_20 (by decide +kernel) (by decide +kernel)) (fun _ => rfl) (by decide) rfl (Nat.le_of_ble_eq_true rfl) (Nat.le_trans (Nat.le_of_ble_eq_true rfl) hR3) (Nat.le_trans (Nat.le_of_ble_eq_true rfl) hR4) (Nat.le_of_ble_eq_true rfl) dX10_init_85 (fun H G => ?_)
  obtain ⟨h_85, eh_85⟩ : ∃ y : Hs, y = zr h_80 11 1 := ⟨_, rfl⟩
  rw [← eh_85] at G
  have hw := hw h_85 eh_85
  have G : okC D q A s b 12 (eN q b) h_85 H _ := G
  refine c_putF (C := RX10) (T := TX10) (N := 21) S G inX10 tyX10 tyX10_ok nmX10 (ne_11 (o := 0) (by decide) km_0) rfl 18 (by decide) kf_X10_42 rfl hin rfl rfl rfl (Nat.le_of_ble_eq_true rfl) (np_11_18 km_0) dX10_init_87 (fun H locs G => ?_)
  obtain ⟨h_87, eh_87⟩ : ∃ y : Hs, y = sr h_85 0 18 (11 + 1) := ⟨_, rfl⟩
  rw [← eh_87] at G
  have hw := hw h_87 eh_87
  have G : okC D q A s b 12 (eN q b) h_87 H _ := G
  refine lv_aload_n hx hb dX10_init_90 rfl (lv_at hl 0 rfl) ?_
  refine lv_iconst (v := 4) hx hb dX10_init_91 (by decide) ?_
  refine c_newa (N := 4) S G 1 21 rfl rfl ka_boolean rfl (nz_21 (by decide +kernel) (by decide +kernel)) (fun _ => rfl) (by decide) rfl (Nat.le_of_ble_eq_true rfl) (Nat.le_trans (Nat.le_of_ble_eq_true rfl) hR3) (Nat.le_trans (Nat.le_of_ble_eq_true rfl) hR4) (Nat.le_of_ble_eq_true rfl) dX10_init_92 (fun H G => ?_)
  obtain ⟨h_92, eh_92⟩ : ∃ y : Hs, y = zr h_87 12 1 := ⟨_, rfl⟩
  rw [← eh_92] at G
  have hw := hw h_92 eh_92
  have G : okC D q A s b 13 (eN q b) h_92 H _ := G
  refine c_putF (C := RX10) (T := TX10) (N := 21) S G inX10 tyX10 tyX10_ok nmX10 (ne_11 (o := 0) (by decide) km_0) rfl 19 (by decide) kf_X10_45 rfl hin rfl rfl rfl (Nat.le_of_ble_eq_true rfl) (np_11_19 km_0) dX10_init_94 (fun H locs G => ?_)
  obtain ⟨h_94, eh_94⟩ : ∃ y : Hs, y = sr h_92 0 19 (12 + 1) := ⟨_, rfl⟩
  rw [← eh_94] at G
  have hw := hw h_94 eh_94
  have G : okC D q A s b 13 (eN q b) h_94 H _ := G
  refine lv_aload_n hx hb dX10_init_97 rfl (lv_at hl 0 rfl) ?_
  refine lv_bipush (v := 6) hx hb dX10_init_98 (by decide) ?_
  refine c_newa (N := 6) S G 0 20 rfl rfl ka_int rfl (nz_20 (by decide +kernel) (by decide +kernel)) (fun _ => rfl) (by decide) rfl (Nat.le_of_ble_eq_true rfl) (Nat.le_trans (Nat.le_of_ble_eq_true rfl) hR3) (Nat.le_trans (Nat.le_of_ble_eq_true rfl) hR4) (Nat.le_of_ble_eq_true rfl) dX10_init_100 (fun H G => ?_)
  obtain ⟨h_100, eh_100⟩ : ∃ y : Hs, y = zr h_94 13 1 := ⟨_, rfl⟩
  rw [← eh_100] at G
  have hw := hw h_100 eh_100
  have G : okC D q A s b 14 (eN q b) h_100 H _ := G
  refine c_putF (C := RX10) (T := TX10) (N := 21) S G inX10 tyX10 tyX10_ok nmX10 (ne_11 (o := 0) (by decide) km_0) rfl 20 (by decide) kf_X10_48 rfl hin rfl rfl rfl (Nat.le_of_ble_eq_true rfl) (np_11_20 km_0) dX10_init_102 (fun H locs G => ?_)
  obtain ⟨h_102, eh_102⟩ : ∃ y : Hs, y = sr h_100 0 20 (13 + 1) := ⟨_, rfl⟩
  rw [← eh_102] at G
  have hw := hw h_102 eh_102
  have G : okC D q A s b 14 (eN q b) h_102 H _ := G
  refine lv_iconst (v := 0) hx hb dX10_init_105 (by decide) ?_
  refine lv_istore_n (lv' := [(1, .int 0), (0, .ref (b + 0))]) hx hb dX10_init_106 rfl hl (by decide) rfl (fun ls hl => ?_)
  have hw := hw (fun (b1_107 : Int32) (g_107 : Hs) => ∀ (ls : Array Slot) (H : Heap) (locs : List Loc), lv_has ls 2 [(0, .ref (b + 0)), (1, .int b1_107)] → okC D q A s b 14 (eN q b) g_107 H locs → W p l e R s m args below meth c H locs 13 (2000 * 13) Qm (F0 m 107 ls [])) (by
    intro b1_107 g_107 hw ls H locs hl G
    refine lv_iload_n hx hb dX10_init_107 rfl (lv_at hl 1 rfl) ?_
    refine lv_bipush (v := 10) hx hb dX10_init_108 (by decide) ?_
    refine lv_icmp_ge (tgt := 129) hx hb dX10_init_110 (by decide) (fun c_110 => ?_) (fun c_110 => ?_)
    · have hw := hw.1 c_110
      refine lv_aload_n hx hb dX10_init_129 rfl (lv_at hl 0 rfl) ?_
      obtain ⟨gg_130, hw⟩ := hw
      refine x_get (C := RX10) (T := TX10) (n := 21) S G.1 inX10 (ne_11 (o := 0) (by decide) km_0) rfl 0 (by decide) kf_X10_7 (congrArg (fun z => some (rfC b z)) gg_130) dX10_init_130 ?_
      refine lv_bipush (v := 20) hx hb dX10_init_133 (by decide) ?_
      refine lv_bipush (v := 6) hx hb dX10_init_135 (by decide) ?_
      refine c_iast (k := 20) S G (ne_20 (o := 1) (l := 675) (by decide) (by decide +kernel) (by decide +kernel)) (vpi (by decide)) rfl (ns_20 (by decide +kernel) (by decide +kernel)) dX10_init_137 (fun H locs G => ?_)
      obtain ⟨h_137, eh_137⟩ : ∃ y : Hs, y = si g_107 1 20 6 := ⟨_, rfl⟩
      rw [← eh_137] at G
      have hw := hw h_137 eh_137
      have G : okC D q A s b 14 (eN q b) h_137 H _ := G
      refine lv_aload_n hx hb dX10_init_138 rfl (lv_at hl 0 rfl) ?_
      obtain ⟨gg_139, hw⟩ := hw
      refine x_get (C := RX10) (T := TX10) (n := 21) S G.1 inX10 (ne_11 (o := 0) (by decide) km_0) rfl 0 (by decide) kf_X10_7 (congrArg (fun z => some (rfC b z)) gg_139) dX10_init_139 ?_
      refine lv_bipush (v := 21) hx hb dX10_init_142 (by decide) ?_
      refine lv_bipush (v := 9) hx hb dX10_init_144 (by decide) ?_
      refine c_iast (k := 21) S G (ne_20 (o := 1) (l := 675) (by decide) (by decide +kernel) (by decide +kernel)) (vpi (by decide)) rfl (ns_20 (by decide +kernel) (by decide +kernel)) dX10_init_146 (fun H locs G => ?_)
      obtain ⟨h_146, eh_146⟩ : ∃ y : Hs, y = si h_137 1 21 9 := ⟨_, rfl⟩
      rw [← eh_146] at G
      have hw := hw h_146 eh_146
      have G : okC D q A s b 14 (eN q b) h_146 H _ := G
      refine lv_iconst (v := 0) hx hb dX10_init_147 (by decide) ?_
      refine lv_istore_n (lv' := [(1, .int 0), (0, .ref (b + 0))]) hx hb dX10_init_148 rfl hl (by decide) rfl (fun ls hl => ?_)
      have hw := hw (fun (b1_149 : Int32) (g_149 : Hs) => ∀ (ls : Array Slot) (H : Heap) (locs : List Loc), lv_has ls 2 [(0, .ref (b + 0)), (1, .int b1_149)] → okC D q A s b 14 (eN q b) g_149 H locs → W p l e R s m args below meth c H locs 13 (2000 * 13) Qm (F0 m 149 ls [])) (by
        intro b1_149 g_149 hw ls H locs hl G
        refine lv_iload_n hx hb dX10_init_149 rfl (lv_at hl 1 rfl) ?_
        refine lv_iconst (v := 4) hx hb dX10_init_150 (by decide) ?_
        refine lv_icmp_ge (tgt := 181) hx hb dX10_init_151 (by decide) (fun c_151 => ?_) (fun c_151 => ?_)
        · have hw := hw.1 c_151
          refine lv_aload_n hx hb dX10_init_181 rfl (lv_at hl 0 rfl) ?_
          obtain ⟨gg_182, hw⟩ := hw
          refine x_get (C := RX10) (T := TX10) (n := 21) S G.1 inX10 (ne_11 (o := 0) (by decide) km_0) rfl 0 (by decide) kf_X10_7 (congrArg (fun z => some (rfC b z)) gg_182) dX10_init_182 ?_
          refine lv_sipush (v := 543) hx hb dX10_init_185 (by decide) ?_
          refine lv_iconst (v := (-1)) hx hb dX10_init_188 (by decide) ?_
          refine c_iast (k := 543) S G (ne_20 (o := 1) (l := 675) (by decide) (by decide +kernel) (by decide +kernel)) (vpi (by decide)) rfl (ns_20 (by decide +kernel) (by decide +kernel)) dX10_init_189 (fun H locs G => ?_)
          obtain ⟨h_189, eh_189⟩ : ∃ y : Hs, y = si g_149 1 543 (-1) := ⟨_, rfl⟩
          rw [← eh_189] at G
          have hw := hw h_189 eh_189
          have G : okC D q A s b 14 (eN q b) h_189 H _ := G
          refine lv_aload_n hx hb dX10_init_190 rfl (lv_at hl 0 rfl) ?_
          refine lv_iconst (v := 1) hx hb dX10_init_191 (by decide) ?_
          refine lv_lconst (v := 1) hx hb dX10_init_192 (by decide) ?_
          refine c_V (mc := 0) S hl.1 G (k_M_set_c l D q A b 1 1 14 rfl h_189 _ hw) (cx_X10_51_c S.2.2.2.2 ⟨Nat.le_trans (Nat.le_of_ble_eq_true rfl) hR1, Nat.le_trans (Nat.le_of_ble_eq_true rfl) hR2⟩) (ne_11 (o := 0) (by decide) km_0) rfl rfl rfl (Nat.le_of_ble_eq_true rfl) dX10_init_193 ⟨(Nat.le_trans (Nat.le_of_ble_eq_true rfl) hR3), (Nat.le_trans (Nat.le_of_ble_eq_true rfl) hR4)⟩ (fun h_193 H locs G hw => ?_)
          have G : okC D q A s b 14 (eN q b) h_193 H _ := G
          refine W.widen (k := 13) (n := 2000 * 13) (by omega) (by omega) ?_
          exact RT _ _ _ _ _ G hw dX10_init_196
        · have hw := hw.2 c_151
          refine lv_aload_n hx hb dX10_init_154 rfl (lv_at hl 0 rfl) ?_
          obtain ⟨gg_155, hw⟩ := hw
          refine x_get (C := RX10) (T := TX10) (n := 21) S G.1 inX10 (ne_11 (o := 0) (by decide) km_0) rfl 0 (by decide) kf_X10_7 (congrArg (fun z => some (rfC b z)) gg_155) dX10_init_155 ?_
          refine lv_bipush (v := 22) hx hb dX10_init_158 (by decide) ?_
          refine lv_iload_n hx hb dX10_init_160 rfl (lv_at hl 1 rfl) ?_
          refine lv_iadd hx hb dX10_init_161 ?_
          refine lv_bipush (v := 100) hx hb dX10_init_162 (by decide) ?_
          obtain ⟨i_164, hw⟩ := hw
          refine c_iast (k := (22 + b1_149).toNatClampNeg) S G (ne_20 (o := 1) (l := 675) (by decide) (by decide +kernel) (by decide +kernel)) i_164 rfl (ns_20 (by decide +kernel) (by decide +kernel)) dX10_init_164 (fun H locs G => ?_)
          obtain ⟨h_164, eh_164⟩ : ∃ y : Hs, y = si g_149 1 ((22 + b1_149).toNatClampNeg) 100 := ⟨_, rfl⟩
          rw [← eh_164] at G
          have hw := hw h_164 eh_164
          have G : okC D q A s b 14 (eN q b) h_164 H _ := G
          refine lv_aload_n hx hb dX10_init_165 rfl (lv_at hl 0 rfl) ?_
          obtain ⟨gg_166, hw⟩ := hw
          refine x_get (C := RX10) (T := TX10) (n := 21) S G.1 inX10 (ne_11 (o := 0) (by decide) km_0) rfl 0 (by decide) kf_X10_7 (congrArg (fun z => some (rfC b z)) gg_166) dX10_init_166 ?_
          refine lv_bipush (v := 30) hx hb dX10_init_169 (by decide) ?_
          refine lv_iload_n hx hb dX10_init_171 rfl (lv_at hl 1 rfl) ?_
          refine lv_iadd hx hb dX10_init_172 ?_
          refine lv_iconst (v := 1) hx hb dX10_init_173 (by decide) ?_
          obtain ⟨i_174, hw⟩ := hw
          refine c_iast (k := (30 + b1_149).toNatClampNeg) S G (ne_20 (o := 1) (l := 675) (by decide) (by decide +kernel) (by decide +kernel)) i_174 rfl (ns_20 (by decide +kernel) (by decide +kernel)) dX10_init_174 (fun H locs G => ?_)
          obtain ⟨h_174, eh_174⟩ : ∃ y : Hs, y = si h_164 1 ((30 + b1_149).toNatClampNeg) 1 := ⟨_, rfl⟩
          rw [← eh_174] at G
          have hw := hw h_174 eh_174
          have G : okC D q A s b 14 (eN q b) h_174 H _ := G
          obtain ⟨a1_175, ea1_175⟩ : ∃ y : Int32, y = b1_149 + 1 := ⟨_, rfl⟩
          have hw := hw a1_175 ea1_175
          refine lv_iinc (v := a1_175) (lv' := [(1, .int a1_175), (0, .ref (b + 0))]) hx hb dX10_init_175 hl (k := 1) rfl (by rw [ea1_175]; rfl) (by decide) rfl (fun ls hl => ?_)
          refine lv_goto (tgt := 149) hx hb dX10_init_178 (by decide) ?_
          exact hw _ _ _ (lv_sub hl [1, 0] rfl) G)
      exact hw _ _ _ (lv_sub hl [1, 0] rfl) G
    · have hw := hw.2 c_110
      refine lv_aload_n hx hb dX10_init_113 rfl (lv_at hl 0 rfl) ?_
      obtain ⟨gg_114, hw⟩ := hw
      refine x_get (C := RX10) (T := TX10) (n := 21) S G.1 inX10 (ne_11 (o := 0) (by decide) km_0) rfl 0 (by decide) kf_X10_7 (congrArg (fun z => some (rfC b z)) gg_114) dX10_init_114 ?_
      refine lv_bipush (v := 6) hx hb dX10_init_117 (by decide) ?_
      refine lv_iload_n hx hb dX10_init_119 rfl (lv_at hl 1 rfl) ?_
      refine lv_iadd hx hb dX10_init_120 ?_
      refine lv_iconst (v := 5) hx hb dX10_init_121 (by decide) ?_
      obtain ⟨i_122, hw⟩ := hw
      refine c_iast (k := (6 + b1_107).toNatClampNeg) S G (ne_20 (o := 1) (l := 675) (by decide) (by decide +kernel) (by decide +kernel)) i_122 rfl (ns_20 (by decide +kernel) (by decide +kernel)) dX10_init_122 (fun H locs G => ?_)
      obtain ⟨h_122, eh_122⟩ : ∃ y : Hs, y = si g_107 1 ((6 + b1_107).toNatClampNeg) 5 := ⟨_, rfl⟩
      rw [← eh_122] at G
      have hw := hw h_122 eh_122
      have G : okC D q A s b 14 (eN q b) h_122 H _ := G
      obtain ⟨a1_123, ea1_123⟩ : ∃ y : Int32, y = b1_107 + 1 := ⟨_, rfl⟩
      have hw := hw a1_123 ea1_123
      refine lv_iinc (v := a1_123) (lv' := [(1, .int a1_123), (0, .ref (b + 0))]) hx hb dX10_init_123 hl (k := 1) rfl (by rw [ea1_123]; rfl) (by decide) rfl (fun ls hl => ?_)
      refine lv_goto (tgt := 107) hx hb dX10_init_126 (by decide) ?_
      exact hw _ _ _ (lv_sub hl [1, 0] rfl) G)
  exact hw _ _ _ (lv_sub hl [1, 0] rfl) G

