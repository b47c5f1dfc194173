abbrev rm_Chances_of : Room := { frames := 0, cells := 0, slots := 0, locals := 0 }
set_option maxHeartbeats 4000000 in
set_option maxRecDepth 100000 in
theorem c_Chances_of (l : Launch) (D : va_G) (q : Nat → ClassId) (A : Nat → Prop) (ad : Nat → Nat) (a1 : Int32) (a2 : Int32) (h : Hs) (Q : Nat → Prop) (hw : p_Chances_of a1 a2 h Q) : Met l yX1_of (mw yX1_of cX1_of 3 (some (.object "WordOnPost$Big"))) rm_Chances_of (va_Pc [.ref (ad 71), .int a1, .int a2] (pW D q A (wX q ad h))) (va_Qr (Qrf (fun r h9 => h9 = h ∧ Q r)) (Brf D q A 504 (eX q ad) ad) A) 0 0 A := by
  refine met_r (Qp := (fun r h9 => h9 = h ∧ Q r)) (Or.inl ⟨_, rfl⟩) (by decide) (Nat.le_of_ble_eq_true rfl) ?_
  intro p e R s m args below meth c Qm ls hR1 hR2 S RT hl G
  have hx := S.1
  have hb := S.2.1
  have hl : lv_has ls 3 [(0, .ref (ad 71)), (1, .int a1), (2, .int a2)] := hl
  unfold p_Chances_of at hw
  refine lv_aload_n hx hb dX1_of_0 rfl (lv_at hl 0 rfl) ?_
  refine x_get (C := RX1) (T := TX1) (n := 4) S G inX1 (xe_2 kx_71) rfl 0 (by decide) kf_X1_11 rfl dX1_of_1 ?_
  refine lv_iload_n hx hb dX1_of_4 rfl (lv_at hl 1 rfl) ?_
  refine lv_bipush (v := 21) hx hb dX1_of_5 (by decide) ?_
  refine lv_imul hx hb dX1_of_7 ?_
  refine lv_iload_n hx hb dX1_of_8 rfl (lv_at hl 2 rfl) ?_
  refine lv_iadd hx hb dX1_of_9 ?_
  obtain ⟨i_10, hw⟩ := hw
  refine x_aald (k := ((a1 * 21) + a2).toNatClampNeg) S G 3 (xe_23 kx_72 lx_72 rfl) rfl rfl i_10 rfl (if_pos (vpl i_10)) dX1_of_10 ?_
  exact RT _ _ _ _ _ _ G ⟨rfl, hw⟩ dX1_of_11
theorem cw_X1_52 {R : Room} {s : State} {args : Array Value} (hts : ∀ w ∈ gW, w.before args s = true) (hR : rm_Chances_of.frames + 1 ≤ R.frames ∧ 8 + (3 + 11) + rm_Chances_of.locals ≤ R.locals) : CallW R s args RX1 RX1 52 yX1_of cX1_of 3 (some (.object "WordOnPost$Big")) (mw yX1_of cX1_of 3 (some (.object "WordOnPost$Big"))) rm_Chances_of 0 0 2 := cwV9 hts km_X1_52 ki_X1_of ks_X1_of kn_X1 kk_X1_of rfl rfl (by decide +kernel) hR
theorem cw_X8_166 {R : Room} {s : State} {args : Array Value} (hts : ∀ w ∈ gW, w.before args s = true) (hR : rm_Chances_of.frames + 1 ≤ R.frames ∧ 8 + (3 + 11) + rm_Chances_of.locals ≤ R.locals) : CallW R s args RX8 RX1 166 yX1_of cX1_of 3 (some (.object "WordOnPost$Big")) (mw yX1_of cX1_of 3 (some (.object "WordOnPost$Big"))) rm_Chances_of 0 0 2 := cwV9 hts km_X8_166 ki_X1_of ks_X1_of kn_X1 kk_X1_of rfl rfl (by decide +kernel) hR
abbrev rm_Chances_carry : Room := { frames := 1, cells := 0, slots := 0, locals := 24 }
set_option maxHeartbeats 4000000 in
set_option maxRecDepth 100000 in
theorem c_Chances_carry (l : Launch) (D : va_G) (q : Nat → ClassId) (A : Nat → Prop) (ad : Nat → Nat) (a1 : Int32) (a2 : Int32) (h : Hs) (Q : Hs → Prop) (hw : p_Chances_carry a1 a2 h Q) : Met l yX1_carry (mw yX1_carry cX1_carry 6 none) rm_Chances_carry (va_Pc [.ref (ad 71), .int a1, .int a2] (pW D q A (wX q ad h))) (va_Qv Q (fun h t => pW D q A (wX q ad h) t) A) 0 0 A := by
  refine met_v (Qp := Q) (by decide) (Nat.le_of_ble_eq_true rfl) ?_
  intro p e R s m args below meth c Qm ls hR1 hR2 S RT hl G
  have hx := S.1
  have hb := S.2.1
  have hl : lv_has ls 6 [(0, .ref (ad 71)), (1, .int a1), (2, .int a2)] := hl
  unfold p_Chances_carry at hw
  refine lv_lconst (v := 1) hx hb dX1_carry_0 (by decide) ?_
  refine lv_lstore_n (lv' := [(3, .long 1), (0, .ref (ad 71)), (1, .int a1), (2, .int a2)]) hx hb dX1_carry_1 rfl hl (by decide) rfl (fun ls hl => ?_)
  refine lv_iconst (v := 0) hx hb dX1_carry_2 (by decide) ?_
  refine lv_istore (lv' := [(5, .int 0), (3, .long 1), (0, .ref (ad 71)), (1, .int a1), (2, .int a2)]) hx hb dX1_carry_3 hl (by decide) rfl (fun ls hl => ?_)
  have hw := hw (fun (b3_5 : Int64) (b5_5 : Int32) (g_5 : Hs) => ∀ (ls : Array Slot) (H : Heap) (locs : List Loc), lv_has ls 6 [(0, .ref (ad 71)), (1, .int a1), (2, .int a2), (3, .long b3_5), (5, .int b5_5)] → okW D q A s (wX q ad g_5) H locs → W p l e R s m args below meth c H locs 0 0 Qm (F0 m 5 ls [])) (by
    intro b3_5 b5_5 g_5 hw ls H locs hl G
    refine lv_iload hx hb dX1_carry_5 (lv_at hl 4 rfl) ?_
    refine lv_iload_n hx hb dX1_carry_7 rfl (lv_at hl 1 rfl) ?_
    refine lv_icmp_gt (tgt := 33) hx hb dX1_carry_8 (by decide) (fun c_8 => ?_) (fun c_8 => ?_)
    · have hw := hw.1 c_8
      exact RT _ _ _ _ _ G hw dX1_carry_33
    · have hw := hw.2 c_8
      refine lv_aload_n hx hb dX1_carry_11 rfl (lv_at hl 0 rfl) ?_
      refine x_get (C := RX1) (T := TX1) (n := 4) S G inX1 (xe_2 kx_71) rfl 1 (by decide) kf_X1_17 rfl dX1_carry_12 ?_
      refine lv_iload hx hb dX1_carry_15 (lv_at hl 4 rfl) ?_
      obtain ⟨i_17, hw⟩ := hw
      refine x_aald (k := b5_5.toNatClampNeg) S G 3 (xe_23 kx_73 lx_73 rfl) rfl rfl i_17 rfl (if_pos (vpl i_17)) dX1_carry_17 ?_
      refine lv_lload_n hx hb dX1_carry_18 rfl (lv_at hl 3 rfl) ?_
      refine x_Vv S hl.1 G (c_Big_become l D q A ad (329 + 2 * b5_5.toNatClampNeg) b3_5 (kxe_73 _ (vpl i_17)) g_5 _ hw) (cw_X1_69 S.2.2.2.2 ⟨Nat.le_trans (Nat.le_of_ble_eq_true rfl) hR1, Nat.le_trans (Nat.le_of_ble_eq_true rfl) hR2⟩) (xe_1 (kxe_73 _ (vpl i_17))) rfl rfl rfl (Nat.le_of_ble_eq_true rfl) dX1_carry_19 (fun h_19 H locs G hw => ?_)
      refine lv_lload_n hx hb dX1_carry_22 rfl (lv_at hl 3 rfl) ?_
      refine lv_iload_n hx hb dX1_carry_23 rfl (lv_at hl 2 rfl) ?_
      refine lv_i2l hx hb dX1_carry_24 rfl ?_
      refine lv_lmul hx hb dX1_carry_25 ?_
      refine lv_topl (fun a3_26 ea3_26 => ?_)
      have hw := hw a3_26 ea3_26
      refine lv_lstore_n (lv' := [(3, .long a3_26), (0, .ref (ad 71)), (1, .int a1), (2, .int a2), (5, .int b5_5)]) hx hb dX1_carry_26 rfl hl (by decide) rfl (fun ls hl => ?_)
      obtain ⟨a5_27, ea5_27⟩ : ∃ y : Int32, y = b5_5 + 1 := ⟨_, rfl⟩
      have hw := hw a5_27 ea5_27
      refine lv_iinc (v := a5_27) (lv' := [(5, .int a5_27), (3, .long a3_26), (0, .ref (ad 71)), (1, .int a1), (2, .int a2)]) hx hb dX1_carry_27 hl (k := 4) rfl (by rw [ea5_27]; rfl) (by decide) rfl (fun ls hl => ?_)
      refine lv_goto (tgt := 5) hx hb dX1_carry_30 (by decide) ?_
      exact hw _ _ _ (lv_sub hl [2, 3, 4, 1, 0] rfl) G)
  exact hw _ _ _ (lv_sub hl [2, 3, 4, 1, 0] rfl) G
theorem cw_X1_48 {R : Room} {s : State} {args : Array Value} (hts : ∀ w ∈ gW, w.before args s = true) (hR : rm_Chances_carry.frames + 1 ≤ R.frames ∧ 8 + (6 + 11) + rm_Chances_carry.locals ≤ R.locals) : CallW R s args RX1 RX1 48 yX1_carry cX1_carry 6 none (mw yX1_carry cX1_carry 6 none) rm_Chances_carry 0 0 2 := cwV9 hts km_X1_48 ki_X1_carry ks_X1_carry kn_X1 kk_X1_carry rfl rfl (by decide +kernel) hR
abbrev rm_Chances_weighSign : Room := { frames := 2, cells := 0, slots := 0, locals := 49 }
set_option maxHeartbeats 4000000 in
set_option maxRecDepth 100000 in
theorem c_Chances_weighSign (l : Launch) (D : va_G) (q : Nat → ClassId) (A : Nat → Prop) (ad : Nat → Nat) (a1 : Int32) (a2 : Int32) (a3 : Int32) (a4 : Int32) (h : Hs) (Q : Hs → Prop) (hw : p_Chances_weighSign a1 a2 a3 a4 h Q) : Met l yX1_weighSign (mw yX1_weighSign cX1_weighSign 8 none) rm_Chances_weighSign (va_Pc [.ref (ad 71), .int a1, .int a2, .int a3, .int a4] (pW D q A (wX q ad h))) (va_Qv Q (fun h t => pW D q A (wX q ad h) t) A) 0 0 A := by
  refine met_v (Qp := Q) (by decide) (Nat.le_of_ble_eq_true rfl) ?_
  intro p e R s m args below meth c Qm ls hR1 hR2 S RT hl G
  have hx := S.1
  have hb := S.2.1
  have hl : lv_has ls 8 [(0, .ref (ad 71)), (1, .int a1), (2, .int a2), (3, .int a3), (4, .int a4)] := hl
  unfold p_Chances_weighSign at hw
  refine lv_aload_n hx hb dX1_weighSign_0 rfl (lv_at hl 0 rfl) ?_
  refine lv_iload_n hx hb dX1_weighSign_1 rfl (lv_at hl 2 rfl) ?_
  refine lv_iload hx hb dX1_weighSign_2 (lv_at hl 4 rfl) ?_
  refine x_Vv S hl.1 G (c_Chances_carry l D q A ad a2 a4 h _ hw) (cw_X1_48 S.2.2.2.2 ⟨Nat.le_trans (Nat.le_of_ble_eq_true rfl) hR1, Nat.le_trans (Nat.le_of_ble_eq_true rfl) hR2⟩) (xe_2 kx_71) rfl rfl rfl (Nat.le_of_ble_eq_true rfl) dX1_weighSign_4 (fun h_4 H locs G hw => ?_)
  refine lv_iconst (v := 0) hx hb dX1_weighSign_7 (by decide) ?_
  refine lv_istore (lv' := [(5, .int 0), (0, .ref (ad 71)), (1, .int a1), (2, .int a2), (3, .int a3), (4, .int a4)]) hx hb dX1_weighSign_8 hl (by decide) rfl (fun ls hl => ?_)
  have hw := hw (fun (b5_10 : Int32) (g_10 : Hs) => ∀ (ls : Array Slot) (H : Heap) (locs : List Loc), lv_has ls 8 [(0, .ref (ad 71)), (1, .int a1), (2, .int a2), (3, .int a3), (5, .int b5_10)] → okW D q A s (wX q ad g_10) H locs → W p l e R s m args below meth c H locs 0 0 Qm (F0 m 10 ls [])) (by
    intro b5_10 g_10 hw ls H locs hl G
    refine lv_iload hx hb dX1_weighSign_10 (lv_at hl 4 rfl) ?_
    refine lv_bipush (v := 20) hx hb dX1_weighSign_12 (by decide) ?_
    refine lv_icmp_gt (tgt := 137) hx hb dX1_weighSign_14 (by decide) (fun c_14 => ?_) (fun c_14 => ?_)
    · have hw := hw.1 c_14
      exact RT _ _ _ _ _ G hw dX1_weighSign_137
    · have hw := hw.2 c_14
      refine lv_aload_n hx hb dX1_weighSign_17 rfl (lv_at hl 0 rfl) ?_
      refine lv_iload_n hx hb dX1_weighSign_18 rfl (lv_at hl 1 rfl) ?_
      refine lv_iload hx hb dX1_weighSign_19 (lv_at hl 4 rfl) ?_
      refine x_VrP S hl.1 G (c_Chances_of l D q A ad a1 b5_10 g_10 _ hw) (cw_X1_52 S.2.2.2.2 ⟨Nat.le_trans (Nat.le_of_ble_eq_true rfl) hR1, Nat.le_trans (Nat.le_of_ble_eq_true rfl) hR2⟩) (xe_2 kx_71) rfl rfl rfl (Nat.le_of_ble_eq_true rfl) dX1_weighSign_21 (fun r_21 H locs G hw => ?_)
      obtain ⟨kr_21, hw⟩ := hw
      refine lv_astore (lv' := [(6, .ref (ad r_21)), (0, .ref (ad 71)), (1, .int a1), (2, .int a2), (3, .int a3), (5, .int b5_10)]) hx hb dX1_weighSign_24 hl (by decide) rfl (fun ls hl => ?_)
      refine lv_aload hx hb dX1_weighSign_26 (lv_at hl 0 rfl) ?_
      refine lv_aload_n hx hb dX1_weighSign_28 rfl (lv_at hl 1 rfl) ?_
      refine x_get (C := RX1) (T := TX1) (n := 4) S G inX1 (xe_2 kx_71) rfl 1 (by decide) kf_X1_17 rfl dX1_weighSign_29 ?_
      refine lv_iload_n hx hb dX1_weighSign_32 rfl (lv_at hl 3 rfl) ?_
      obtain ⟨i_33, hw⟩ := hw
      refine x_aald (k := a2.toNatClampNeg) S G 3 (xe_23 kx_73 lx_73 rfl) rfl rfl i_33 rfl (if_pos (vpl i_33)) dX1_weighSign_33 ?_
      refine x_Vv S hl.1 G (c_Big_copy l D q A ad r_21 (329 + 2 * a2.toNatClampNeg) kr_21 (kxe_73 _ (vpl i_33)) g_10 _ hw) (cw_X1_56 S.2.2.2.2 ⟨Nat.le_trans (Nat.le_of_ble_eq_true rfl) hR1, Nat.le_trans (Nat.le_of_ble_eq_true rfl) hR2⟩) (xe_1 kr_21) rfl rfl rfl (Nat.le_of_ble_eq_true rfl) dX1_weighSign_34 (fun h_34 H locs G hw => ?_)
      refine lv_aload hx hb dX1_weighSign_37 (lv_at hl 0 rfl) ?_
      refine lv_bipush (v := 10) hx hb dX1_weighSign_39 (by decide) ?_
      refine lv_bipush (v := 20) hx hb dX1_weighSign_41 (by decide) ?_
      refine lv_iload hx hb dX1_weighSign_43 (lv_at hl 5 rfl) ?_
      refine lv_isub hx hb dX1_weighSign_45 ?_
      refine x_Vv S hl.1 G (c_Big_timesPower l D q A ad r_21 10 (20 - b5_10) kr_21 h_34 _ hw) (cw_X1_60 S.2.2.2.2 ⟨Nat.le_trans (Nat.le_of_ble_eq_true rfl) hR1, Nat.le_trans (Nat.le_of_ble_eq_true rfl) hR2⟩) (xe_1 kr_21) rfl rfl rfl (Nat.le_of_ble_eq_true rfl) dX1_weighSign_46 (fun h_46 H locs G hw => ?_)
      refine lv_iload_n hx hb dX1_weighSign_49 rfl (lv_at hl 3 rfl) ?_
      refine lv_istore (lv' := [(7, .int a2), (6, .ref (ad r_21)), (0, .ref (ad 71)), (1, .int a1), (2, .int a2), (3, .int a3), (5, .int b5_10)]) hx hb dX1_weighSign_50 hl (by decide) rfl (fun ls hl => ?_)
      have hw := hw (fun (b7_52 : Int32) (g_52 : Hs) => ∀ (ls : Array Slot) (H : Heap) (locs : List Loc), lv_has ls 8 [(0, .ref (ad 71)), (1, .int a1), (2, .int a2), (3, .int a3), (5, .int b5_10), (7, .int b7_52)] → okW D q A s (wX q ad g_52) H locs → W p l e R s m args below meth c H locs 0 0 Qm (F0 m 52 ls [])) (by
        intro b7_52 g_52 hw ls H locs hl G
        refine lv_iload hx hb dX1_weighSign_52 (lv_at hl 5 rfl) ?_
        refine lv_if_le (tgt := 118) hx hb dX1_weighSign_54 (by decide) (fun c_54 => ?_) (fun c_54 => ?_)
        · have hw := hw.1 c_54
          refine lv_aload_n hx hb dX1_weighSign_118 rfl (lv_at hl 0 rfl) ?_
          refine x_get (C := RX1) (T := TX1) (n := 4) S G inX1 (xe_2 kx_71) rfl 1 (by decide) kf_X1_17 rfl dX1_weighSign_119 ?_
          refine lv_iconst (v := 0) hx hb dX1_weighSign_122 (by decide) ?_
          refine x_aald (k := 0) S G 3 (xe_23 kx_73 lx_73 rfl) rfl rfl (vpi (by decide)) rfl (if_pos (by decide)) dX1_weighSign_123 ?_
          refine lv_bipush (v := 10) hx hb dX1_weighSign_124 (by decide) ?_
          refine lv_iload_n hx hb dX1_weighSign_126 rfl (lv_at hl 3 rfl) ?_
          refine lv_isub hx hb dX1_weighSign_127 ?_
          refine x_Vv S hl.1 G (c_Big_times l D q A ad (329 + 2 * 0) (10 - a3) (kxe_73 0 (by decide)) g_52 _ hw) (cw_X1_63 S.2.2.2.2 ⟨Nat.le_trans (Nat.le_of_ble_eq_true rfl) hR1, Nat.le_trans (Nat.le_of_ble_eq_true rfl) hR2⟩) (xe_1 (kxe_73 0 (by decide))) rfl rfl rfl (Nat.le_of_ble_eq_true rfl) dX1_weighSign_128 (fun h_128 H locs G hw => ?_)
          obtain ⟨a5_131, ea5_131⟩ : ∃ y : Int32, y = b5_10 + 1 := ⟨_, rfl⟩
          have hw := hw a5_131 ea5_131
          refine lv_iinc (v := a5_131) (lv' := [(5, .int a5_131), (0, .ref (ad 71)), (1, .int a1), (2, .int a2), (3, .int a3), (7, .int b7_52)]) hx hb dX1_weighSign_131 hl (k := 4) rfl (by rw [ea5_131]; rfl) (by decide) rfl (fun ls hl => ?_)
          refine lv_goto (tgt := 10) hx hb dX1_weighSign_134 (by decide) ?_
          exact hw _ _ _ (lv_sub hl [1, 2, 3, 4, 0] rfl) G
        · have hw := hw.2 c_54
          refine lv_aload_n hx hb dX1_weighSign_57 rfl (lv_at hl 0 rfl) ?_
          refine x_get (C := RX1) (T := TX1) (n := 4) S G inX1 (xe_2 kx_71) rfl 2 (by decide) kf_X1_23 rfl dX1_weighSign_58 ?_
          refine lv_aload_n hx hb dX1_weighSign_61 rfl (lv_at hl 0 rfl) ?_
          refine x_get (C := RX1) (T := TX1) (n := 4) S G inX1 (xe_2 kx_71) rfl 1 (by decide) kf_X1_17 rfl dX1_weighSign_62 ?_
          refine lv_iload hx hb dX1_weighSign_65 (lv_at hl 5 rfl) ?_
          refine lv_iconst (v := 1) hx hb dX1_weighSign_67 (by decide) ?_
          refine lv_isub hx hb dX1_weighSign_68 ?_
          obtain ⟨i_69, hw⟩ := hw
          refine x_aald (k := (b7_52 - 1).toNatClampNeg) S G 3 (xe_23 kx_73 lx_73 rfl) rfl rfl i_69 rfl (if_pos (vpl i_69)) dX1_weighSign_69 ?_
          refine x_Vv S hl.1 G (c_Big_copy l D q A ad 74 (329 + 2 * ((b7_52 - 1).toNatClampNeg)) kx_74 (kxe_73 _ (vpl i_69)) g_52 _ hw) (cw_X1_56 S.2.2.2.2 ⟨Nat.le_trans (Nat.le_of_ble_eq_true rfl) hR1, Nat.le_trans (Nat.le_of_ble_eq_true rfl) hR2⟩) (xe_1 kx_74) rfl rfl rfl (Nat.le_of_ble_eq_true rfl) dX1_weighSign_70 (fun h_70 H locs G hw => ?_)
          refine lv_aload_n hx hb dX1_weighSign_73 rfl (lv_at hl 0 rfl) ?_
          refine x_get (C := RX1) (T := TX1) (n := 4) S G inX1 (xe_2 kx_71) rfl 2 (by decide) kf_X1_23 rfl dX1_weighSign_74 ?_
          refine lv_bipush (v := 10) hx hb dX1_weighSign_77 (by decide) ?_
          refine lv_iload_n hx hb dX1_weighSign_79 rfl (lv_at hl 3 rfl) ?_
          refine lv_imul hx hb dX1_weighSign_80 ?_
          refine x_Vv S hl.1 G (c_Big_times l D q A ad 74 (10 * a3) kx_74 h_70 _ hw) (cw_X1_63 S.2.2.2.2 ⟨Nat.le_trans (Nat.le_of_ble_eq_true rfl) hR1, Nat.le_trans (Nat.le_of_ble_eq_true rfl) hR2⟩) (xe_1 kx_74) rfl rfl rfl (Nat.le_of_ble_eq_true rfl) dX1_weighSign_81 (fun h_81 H locs G hw => ?_)
          refine lv_aload_n hx hb dX1_weighSign_84 rfl (lv_at hl 0 rfl) ?_
          refine x_get (C := RX1) (T := TX1) (n := 4) S G inX1 (xe_2 kx_71) rfl 1 (by decide) kf_X1_17 rfl dX1_weighSign_85 ?_
          refine lv_iload hx hb dX1_weighSign_88 (lv_at hl 5 rfl) ?_
          obtain ⟨i_90, hw⟩ := hw
          refine x_aald (k := b7_52.toNatClampNeg) S G 3 (xe_23 kx_73 lx_73 rfl) rfl rfl i_90 rfl (if_pos (vpl i_90)) dX1_weighSign_90 ?_
          refine lv_bipush (v := 10) hx hb dX1_weighSign_91 (by decide) ?_
          refine lv_iload_n hx hb dX1_weighSign_93 rfl (lv_at hl 3 rfl) ?_
          refine lv_isub hx hb dX1_weighSign_94 ?_
          refine x_Vv S hl.1 G (c_Big_times l D q A ad (329 + 2 * b7_52.toNatClampNeg) (10 - a3) (kxe_73 _ (vpl i_90)) h_81 _ hw) (cw_X1_63 S.2.2.2.2 ⟨Nat.le_trans (Nat.le_of_ble_eq_true rfl) hR1, Nat.le_trans (Nat.le_of_ble_eq_true rfl) hR2⟩) (xe_1 (kxe_73 _ (vpl i_90))) rfl rfl rfl (Nat.le_of_ble_eq_true rfl) dX1_weighSign_95 (fun h_95 H locs G hw => ?_)
          refine lv_aload_n hx hb dX1_weighSign_98 rfl (lv_at hl 0 rfl) ?_
          refine x_get (C := RX1) (T := TX1) (n := 4) S G inX1 (xe_2 kx_71) rfl 1 (by decide) kf_X1_17 rfl dX1_weighSign_99 ?_
          refine lv_iload hx hb dX1_weighSign_102 (lv_at hl 5 rfl) ?_
          obtain ⟨i_104, hw⟩ := hw
          refine x_aald (k := b7_52.toNatClampNeg) S G 3 (xe_23 kx_73 lx_73 rfl) rfl rfl i_104 rfl (if_pos (vpl i_104)) dX1_weighSign_104 ?_
          refine lv_aload_n hx hb dX1_weighSign_105 rfl (lv_at hl 0 rfl) ?_
          refine x_get (C := RX1) (T := TX1) (n := 4) S G inX1 (xe_2 kx_71) rfl 2 (by decide) kf_X1_23 rfl dX1_weighSign_106 ?_
          refine x_Vv S hl.1 G (c_Big_plus l D q A ad (329 + 2 * b7_52.toNatClampNeg) 74 (kxe_73 _ (vpl i_104)) kx_74 h_95 _ hw) (cw_X1_66 S.2.2.2.2 ⟨Nat.le_trans (Nat.le_of_ble_eq_true rfl) hR1, Nat.le_trans (Nat.le_of_ble_eq_true rfl) hR2⟩) (xe_1 (kxe_73 _ (vpl i_104))) rfl rfl rfl (Nat.le_of_ble_eq_true rfl) dX1_weighSign_109 (fun h_109 H locs G hw => ?_)
          obtain ⟨a7_112, ea7_112⟩ : ∃ y : Int32, y = b7_52 + (-1) := ⟨_, rfl⟩
          have hw := hw a7_112 ea7_112
          refine lv_iinc (v := a7_112) (lv' := [(7, .int a7_112), (0, .ref (ad 71)), (1, .int a1), (2, .int a2), (3, .int a3), (5, .int b5_10)]) hx hb dX1_weighSign_112 hl (k := 5) rfl (by rw [ea7_112]; rfl) (by decide) rfl (fun ls hl => ?_)
          refine lv_goto (tgt := 52) hx hb dX1_weighSign_115 (by decide) ?_
          exact hw _ _ _ (lv_sub hl [1, 2, 3, 4, 5, 0] rfl) G)
      exact hw _ _ _ (lv_sub hl [2, 3, 4, 5, 6, 0] rfl) G)
  exact hw _ _ _ (lv_sub hl [1, 2, 3, 4, 0] rfl) G
theorem cw_X1_44 {R : Room} {s : State} {args : Array Value} (hts : ∀ w ∈ gW, w.before args s = true) (hR : rm_Chances_weighSign.frames + 1 ≤ R.frames ∧ 8 + (8 + 11) + rm_Chances_weighSign.locals ≤ R.locals) : CallW R s args RX1 RX1 44 yX1_weighSign cX1_weighSign 8 none (mw yX1_weighSign cX1_weighSign 8 none) rm_Chances_weighSign 0 0 4 := cwV9 hts km_X1_44 ki_X1_weighSign ks_X1_weighSign kn_X1 kk_X1_weighSign rfl rfl (by decide +kernel) hR
abbrev rm_Chances_refresh : Room := { frames := 3, cells := 0, slots := 0, locals := 76 }
set_option maxHeartbeats 4000000 in
set_option maxRecDepth 100000 in
theorem c_Chances_refresh (l : Launch) (D : va_G) (q : Nat → ClassId) (A : Nat → Prop) (ad : Nat → Nat) (h : Hs) (Q : Hs → Prop) (hw : p_Chances_refresh h Q) : Met l yX1_refresh (mw yX1_refresh cX1_refresh 6 none) rm_Chances_refresh (va_Pc [.ref (ad 71), .ref (ad 3)] (pW D q A (wX q ad h))) (va_Qv Q (fun h t => pW D q A (wX q ad h) t) A) 0 0 A := by
  refine met_v (Qp := Q) (by decide) (Nat.le_of_ble_eq_true rfl) ?_
  intro p e R s m args below meth c Qm ls hR1 hR2 S RT hl G
  have hx := S.1
  have hb := S.2.1
  have hl : lv_has ls 6 [(0, .ref (ad 71)), (1, .ref (ad 3))] := hl
  unfold p_Chances_refresh at hw
  refine lv_iconst (v := 0) hx hb dX1_refresh_0 (by decide) ?_
  refine lv_istore_n (lv' := [(2, .int 0), (0, .ref (ad 71)), (1, .ref (ad 3))]) hx hb dX1_refresh_1 rfl hl (by decide) rfl (fun ls hl => ?_)
  have hw := hw (fun (b2_2 : Int32) (g_2 : Hs) => ∀ (ls : Array Slot) (H : Heap) (locs : List Loc), lv_has ls 6 [(0, .ref (ad 71)), (1, .ref (ad 3)), (2, .int b2_2)] → okW D q A s (wX q ad g_2) H locs → W p l e R s m args below meth c H locs 0 0 Qm (F0 m 2 ls [])) (by
    intro b2_2 g_2 hw ls H locs hl G
    refine lv_iload_n hx hb dX1_refresh_2 rfl (lv_at hl 2 rfl) ?_
    refine lv_aload_n hx hb dX1_refresh_3 rfl (lv_at hl 1 rfl) ?_
    refine x_get (C := RX5) (T := TX5) (n := 17) S G inX5 (xe_6 kx_3) rfl 2 (by decide) kf_X1_31 rfl dX1_refresh_4 ?_
    refine lv_icmp_ge (tgt := 90) hx hb dX1_refresh_7 (by decide) (fun c_7 => ?_) (fun c_7 => ?_)
    · have hw := hw.1 c_7
      exact RT _ _ _ _ _ G hw dX1_refresh_90
    · have hw := hw.2 c_7
      refine lv_aload_n hx hb dX1_refresh_10 rfl (lv_at hl 1 rfl) ?_
      refine x_get (C := RX5) (T := TX5) (n := 17) S G inX5 (xe_6 kx_3) rfl 12 (by decide) kf_X1_37 rfl dX1_refresh_11 ?_
      refine lv_iload_n hx hb dX1_refresh_14 rfl (lv_at hl 2 rfl) ?_
      obtain ⟨i_15, hw⟩ := hw
      refine x_aald (k := b2_2.toNatClampNeg) S G 2 (xe_22 kx_20 lx_20) rfl rfl i_15 rfl (if_pos (vpl i_15)) dX1_refresh_15 ?_
      refine lv_astore_n (lv' := [(3, .ref (ad (20 + 1 + 1 * b2_2.toNatClampNeg))), (0, .ref (ad 71)), (1, .ref (ad 3)), (2, .int b2_2)]) hx hb dX1_refresh_16 rfl hl (by decide) rfl (fun ls hl => ?_)
      refine lv_aload_n hx hb dX1_refresh_17 rfl (lv_at hl 2 rfl) ?_
      refine x_get (C := RX5) (T := TX5) (n := 17) S G inX5 (xe_6 kx_3) rfl 8 (by decide) kf_X1_41 rfl dX1_refresh_18 ?_
      refine lv_aload_n hx hb dX1_refresh_21 rfl (lv_at hl 0 rfl) ?_
      refine lv_iconst (v := 1) hx hb dX1_refresh_22 (by decide) ?_
      refine x_iald (k := 1) S G (xe_20 (kxe_20 _ (vpl i_15)) (lxe_20 _ (vpl i_15))) (vpi (by decide)) rfl rfl dX1_refresh_23 ?_
      obtain ⟨i_24, hw⟩ := hw
      refine x_aald (k := (gi g_2 (20 + 1 + 1 * b2_2.toNatClampNeg) 1).toNatClampNeg) S G 2 (xe_22 kx_8 lx_8) rfl rfl i_24 rfl (if_pos (vpl i_24)) dX1_refresh_24 ?_
      refine lv_iconst (v := 1) hx hb dX1_refresh_25 (by decide) ?_
      refine x_iald (k := 1) S G (xe_20 (kxe_8 _ (vpl i_24)) (lxe_8 _ (vpl i_24))) (vpi (by decide)) rfl rfl dX1_refresh_26 ?_
      refine lv_topi (fun a4_27 ea4_27 => ?_)
      have hw := hw a4_27 ea4_27
      refine lv_istore (lv' := [(4, .int a4_27), (3, .ref (ad (20 + 1 + 1 * b2_2.toNatClampNeg))), (0, .ref (ad 71)), (1, .ref (ad 3)), (2, .int b2_2)]) hx hb dX1_refresh_27 hl (by decide) rfl (fun ls hl => ?_)
      refine lv_sipush (v := 10000) hx hb dX1_refresh_29 (by decide) ?_
      refine lv_sipush (v := 1000) hx hb dX1_refresh_32 (by decide) ?_
      refine lv_aload_n hx hb dX1_refresh_35 rfl (lv_at hl 1 rfl) ?_
      refine lv_iconst (v := 2) hx hb dX1_refresh_36 (by decide) ?_
      refine x_iald (k := 2) S G (xe_20 (kxe_20 _ (vpl i_15)) (lxe_20 _ (vpl i_15))) (vpi (by decide)) rfl rfl dX1_refresh_37 ?_
      refine lv_imul hx hb dX1_refresh_38 ?_
      refine lv_iadd hx hb dX1_refresh_39 ?_
      refine lv_bipush (v := 10) hx hb dX1_refresh_40 (by decide) ?_
      refine lv_aload_n hx hb dX1_refresh_42 rfl (lv_at hl 1 rfl) ?_
      refine lv_iconst (v := 3) hx hb dX1_refresh_43 (by decide) ?_
      refine x_iald (k := 3) S G (xe_20 (kxe_20 _ (vpl i_15)) (lxe_20 _ (vpl i_15))) (vpi (by decide)) rfl rfl dX1_refresh_44 ?_
      refine lv_imul hx hb dX1_refresh_45 ?_
      refine lv_iadd hx hb dX1_refresh_46 ?_
      refine lv_iload hx hb dX1_refresh_47 (lv_at hl 0 rfl) ?_
      refine lv_iadd hx hb dX1_refresh_49 ?_
      refine lv_topi (fun a5_50 ea5_50 => ?_)
      have hw := hw a5_50 ea5_50
      refine lv_istore (lv' := [(5, .int a5_50), (4, .int a4_27), (3, .ref (ad (20 + 1 + 1 * b2_2.toNatClampNeg))), (0, .ref (ad 71)), (1, .ref (ad 3)), (2, .int b2_2)]) hx hb dX1_refresh_50 hl (by decide) rfl (fun ls hl => ?_)
      refine lv_aload_n hx hb dX1_refresh_52 rfl (lv_at hl 3 rfl) ?_
      refine x_get (C := RX1) (T := TX1) (n := 4) S G inX1 (xe_2 kx_71) rfl 3 (by decide) kf_X1_27 rfl dX1_refresh_53 ?_
      refine lv_iload_n hx hb dX1_refresh_56 rfl (lv_at hl 5 rfl) ?_
      obtain ⟨i_57, hw⟩ := hw
      refine x_iald (k := b2_2.toNatClampNeg) S G (xe_20 kx_76 lx_76) i_57 rfl rfl dX1_refresh_57 ?_
      refine lv_iload hx hb dX1_refresh_58 (lv_at hl 0 rfl) ?_
      have hw := hw (fun (g_84 : Hs) => ∀ (ls : Array Slot) (H : Heap) (locs : List Loc), lv_has ls 6 [(0, .ref (ad 71)), (1, .ref (ad 3)), (2, .int b2_2)] → okW D q A s (wX q ad g_84) H locs → W p l e R s m args below meth c H locs 0 0 Qm (F0 m 84 ls [])) (by
        intro g_84 hw ls H locs hl G
        obtain ⟨a2_84, ea2_84⟩ : ∃ y : Int32, y = b2_2 + 1 := ⟨_, rfl⟩
        have hw := hw a2_84 ea2_84
        refine lv_iinc (v := a2_84) (lv' := [(2, .int a2_84), (0, .ref (ad 71)), (1, .ref (ad 3))]) hx hb dX1_refresh_84 hl (k := 2) rfl (by rw [ea2_84]; rfl) (by decide) rfl (fun ls hl => ?_)
        refine lv_goto (tgt := 2) hx hb dX1_refresh_87 (by decide) ?_
        exact hw _ _ _ (lv_sub hl [1, 2, 0] rfl) G)
      refine lv_icmp_eq (tgt := 84) hx hb dX1_refresh_60 (by decide) (fun c_60 => ?_) (fun c_60 => ?_)
      · have hw := hw.1 c_60
        exact hw _ _ _ (lv_sub hl [3, 4, 5] rfl) G
      · have hw := hw.2 c_60
        refine lv_aload_n hx hb dX1_refresh_63 rfl (lv_at hl 3 rfl) ?_
        refine x_get (C := RX1) (T := TX1) (n := 4) S G inX1 (xe_2 kx_71) rfl 3 (by decide) kf_X1_27 rfl dX1_refresh_64 ?_
        refine lv_iload_n hx hb dX1_refresh_67 rfl (lv_at hl 5 rfl) ?_
        refine lv_iload hx hb dX1_refresh_68 (lv_at hl 0 rfl) ?_
        obtain ⟨i_70, hw⟩ := hw
        refine x_iast (k := b2_2.toNatClampNeg) S G (xe_20 kx_76 lx_76) i_70 rfl (xs_20 kx_76 lx_76) dX1_refresh_70 (fun H locs G => ?_)
        obtain ⟨h_70, eh_70⟩ : ∃ y : Hs, y = si g_2 76 b2_2.toNatClampNeg a5_50 := ⟨_, rfl⟩
        rw [← eh_70] at G
        have hw := hw h_70 eh_70
        refine lv_aload_n hx hb dX1_refresh_71 rfl (lv_at hl 3 rfl) ?_
        refine lv_iload_n hx hb dX1_refresh_72 rfl (lv_at hl 5 rfl) ?_
        refine lv_aload_n hx hb dX1_refresh_73 rfl (lv_at hl 2 rfl) ?_
        refine lv_iconst (v := 2) hx hb dX1_refresh_74 (by decide) ?_
        refine x_iald (k := 2) S G (xe_20 (kxe_20 _ (vpl i_15)) (lxe_20 _ (vpl i_15))) (vpi (by decide)) rfl rfl dX1_refresh_75 ?_
        refine lv_aload_n hx hb dX1_refresh_76 rfl (lv_at hl 2 rfl) ?_
        refine lv_iconst (v := 3) hx hb dX1_refresh_77 (by decide) ?_
        refine x_iald (k := 3) S G (xe_20 (kxe_20 _ (vpl i_15)) (lxe_20 _ (vpl i_15))) (vpi (by decide)) rfl rfl dX1_refresh_78 ?_
        refine lv_iload hx hb dX1_refresh_79 (lv_at hl 1 rfl) ?_
        refine x_Vv S hl.1 G (c_Chances_weighSign l D q A ad b2_2 (gi h_70 (20 + 1 + 1 * b2_2.toNatClampNeg) 2) (gi h_70 (20 + 1 + 1 * b2_2.toNatClampNeg) 3) a4_27 h_70 _ hw) (cw_X1_44 S.2.2.2.2 ⟨Nat.le_trans (Nat.le_of_ble_eq_true rfl) hR1, Nat.le_trans (Nat.le_of_ble_eq_true rfl) hR2⟩) (xe_2 kx_71) rfl rfl rfl (Nat.le_of_ble_eq_true rfl) dX1_refresh_81 (fun h_81 H locs G hw => ?_)
        exact hw _ _ _ (lv_sub hl [3, 4, 5] rfl) G)
  exact hw _ _ _ (lv_sub hl [1, 2, 0] rfl) G
theorem cw_X8_70 {R : Room} {s : State} {args : Array Value} (hts : ∀ w ∈ gW, w.before args s = true) (hR : rm_Chances_refresh.frames + 1 ≤ R.frames ∧ 8 + (6 + 11) + rm_Chances_refresh.locals ≤ R.locals) : CallW R s args RX8 RX1 70 yX1_refresh cX1_refresh 6 none (mw yX1_refresh cX1_refresh 6 none) rm_Chances_refresh 0 0 1 := cwV9 hts km_X8_70 ki_X1_refresh ks_X1_refresh kn_X1 kk_X1_refresh rfl rfl (by decide +kernel) hR
abbrev rm_Fraction_findDivisor : Room := { frames := 3, cells := 0, slots := 0, locals := 77 }
set_option maxHeartbeats 4000000 in
set_option maxRecDepth 100000 in
theorem c_Fraction_findDivisor (l : Launch) (D : va_G) (q : Nat → ClassId) (A : Nat → Prop) (ad : Nat → Nat) (h : Hs) (Q : Hs → Prop) (hw : p_Fraction_findDivisor h Q) : Met l yX2_findDivisor (mw yX2_findDivisor cX2_findDivisor 3 none) rm_Fraction_findDivisor (va_Pc [.ref (ad 406)] (pW D q A (wX q ad h))) (va_Qv Q (fun h t => pW D q A (wX q ad h) t) A) 0 0 A := by
  refine met_v (Qp := Q) (by decide) (Nat.le_of_ble_eq_true rfl) ?_
  intro p e R s m args below meth c Qm ls hR1 hR2 S RT hl G
  have hx := S.1
  have hb := S.2.1
  have hl : lv_has ls 3 [(0, .ref (ad 406))] := hl
  unfold p_Fraction_findDivisor at hw
  refine lv_iconst (v := 0) hx hb dX2_findDivisor_0 (by decide) ?_
  refine lv_istore_n (lv' := [(1, .int 0), (0, .ref (ad 406))]) hx hb dX2_findDivisor_1 rfl hl (by decide) rfl (fun ls hl => ?_)
  have hw := hw (fun (b1_2 : Int32) (g_2 : Hs) => ∀ (ls : Array Slot) (H : Heap) (locs : List Loc), lv_has ls 3 [(0, .ref (ad 406)), (1, .int b1_2)] → okW D q A s (wX q ad g_2) H locs → W p l e R s m args below meth c H locs 0 0 Qm (F0 m 2 ls [])) (by
    intro b1_2 g_2 hw ls H locs hl G
    refine lv_iload_n hx hb dX2_findDivisor_2 rfl (lv_at hl 1 rfl) ?_
    refine lv_ldc (v := 1000000) hx hb S.2.2.2.1 (S.2.2.2.2 _ kc_X2_47) dX2_findDivisor_3 ?_
    have hw := hw (∀ (ls : Array Slot) (H : Heap) (locs : List Loc), lv_has ls 3 [] → okW D q A s (wX q ad g_2) H locs → W p l e R s m args below meth c H locs 0 0 Qm (F0 m 57 ls [])) (by
      intro hw ls H locs hl G
      exact RT _ _ _ _ _ G hw dX2_findDivisor_57)
    refine lv_icmp_ge (tgt := 57) hx hb dX2_findDivisor_5 (by decide) (fun c_5 => ?_) (fun c_5 => ?_)
    · have hw := hw.1 c_5
      exact hw _ _ _ (lv_sub hl [] rfl) G
    · have hw := hw.2 c_5
      refine lv_aload_n hx hb dX2_findDivisor_8 rfl (lv_at hl 0 rfl) ?_
      refine x_get (C := RX2) (T := TX2) (n := 5) S G inX2 (xe_3 kx_406) rfl 4 (by decide) kf_X2_29 rfl dX2_findDivisor_9 ?_
      obtain ⟨kz_9, hw⟩ := hw
      refine x_VzP S hl.1 G (c_Big_isZero l D q A ad (gr g_2 406 4) kz_9 g_2 _ hw) (cw_X2_48 S.2.2.2.2 ⟨Nat.le_trans (Nat.le_of_ble_eq_true rfl) hR1, Nat.le_trans (Nat.le_of_ble_eq_true rfl) hR2⟩) (xe_1 kz_9) rfl rfl rfl (Nat.le_of_ble_eq_true rfl) dX2_findDivisor_12 (fun r_12 H locs G z_12 hw => ?_)
      refine lv_if_ne (tgt := 57) hx hb dX2_findDivisor_15 (by decide) (fun c_15 => ?_) (fun c_15 => ?_)
      · have hw := hw.1 c_15
        exact hw _ _ _ (lv_sub hl [] rfl) G
      · have hw := hw.2 c_15
        refine lv_aload_n hx hb dX2_findDivisor_18 rfl (lv_at hl 0 rfl) ?_
        refine x_get (C := RX2) (T := TX2) (n := 5) S G inX2 (xe_3 kx_406) rfl 3 (by decide) kf_X2_26 rfl dX2_findDivisor_19 ?_
        obtain ⟨kz_19, hw⟩ := hw
        refine lv_aload_n hx hb dX2_findDivisor_22 rfl (lv_at hl 0 rfl) ?_
        refine x_get (C := RX2) (T := TX2) (n := 5) S G inX2 (xe_3 kx_406) rfl 4 (by decide) kf_X2_29 rfl dX2_findDivisor_23 ?_
        obtain ⟨kz_23, hw⟩ := hw
        refine lv_aload_n hx hb dX2_findDivisor_26 rfl (lv_at hl 0 rfl) ?_
        refine x_get (C := RX2) (T := TX2) (n := 5) S G inX2 (xe_3 kx_406) rfl 2 (by decide) kf_X2_23 rfl dX2_findDivisor_27 ?_
        refine x_Vv S hl.1 G (c_Big_divide l D q A ad (gr g_2 406 3) (gr g_2 406 4) 411 kz_19 kz_23 kx_411 g_2 _ hw) (cw_X2_43 S.2.2.2.2 ⟨Nat.le_trans (Nat.le_of_ble_eq_true rfl) hR1, Nat.le_trans (Nat.le_of_ble_eq_true rfl) hR2⟩) (xe_1 kz_19) rfl rfl rfl (Nat.le_of_ble_eq_true rfl) dX2_findDivisor_30 (fun h_30 H locs G hw => ?_)
        refine lv_aload_n hx hb dX2_findDivisor_33 rfl (lv_at hl 0 rfl) ?_
        refine x_get (C := RX2) (T := TX2) (n := 5) S G inX2 (xe_3 kx_406) rfl 3 (by decide) kf_X2_26 rfl dX2_findDivisor_34 ?_
        obtain ⟨kz_34, hw⟩ := hw
        refine lv_astore_n (lv' := [(2, .ref (ad (gr h_30 406 3))), (0, .ref (ad 406)), (1, .int b1_2)]) hx hb dX2_findDivisor_37 rfl hl (by decide) rfl (fun ls hl => ?_)
        refine lv_aload_n hx hb dX2_findDivisor_38 rfl (lv_at hl 1 rfl) ?_
        refine lv_aload_n hx hb dX2_findDivisor_39 rfl (lv_at hl 1 rfl) ?_
        refine x_get (C := RX2) (T := TX2) (n := 5) S G inX2 (xe_3 kx_406) rfl 4 (by decide) kf_X2_29 rfl dX2_findDivisor_40 ?_
        obtain ⟨kz_40, hw⟩ := hw
        refine x_put (C := RX2) (T := TX2) (n := 5) S G inX2 tyX2 tyX2_ok nmX2 (xe_3 kx_406) rfl 3 (by decide) kf_X2_26 rfl rfl rfl (Nat.le_of_ble_eq_true rfl) (xp_3_3 kx_406) dX2_findDivisor_43 (fun H locs G => ?_)
        obtain ⟨h_43, eh_43⟩ : ∃ y : Hs, y = sr h_30 406 3 (gr h_30 406 4) := ⟨_, rfl⟩
        rw [← eh_43] at G
        have hw := hw h_43 eh_43
        refine lv_aload_n hx hb dX2_findDivisor_46 rfl (lv_at hl 1 rfl) ?_
        refine lv_aload_n hx hb dX2_findDivisor_47 rfl (lv_at hl 0 rfl) ?_
        refine x_put (C := RX2) (T := TX2) (n := 5) S G inX2 tyX2 tyX2_ok nmX2 (xe_3 kx_406) rfl 4 (by decide) kf_X2_29 rfl rfl rfl (Nat.le_of_ble_eq_true rfl) (xp_3_4 kx_406) dX2_findDivisor_48 (fun H locs G => ?_)
        obtain ⟨h_48, eh_48⟩ : ∃ y : Hs, y = sr h_43 406 4 (gr h_30 406 3) := ⟨_, rfl⟩
        rw [← eh_48] at G
        have hw := hw h_48 eh_48
        obtain ⟨a1_51, ea1_51⟩ : ∃ y : Int32, y = b1_2 + 1 := ⟨_, rfl⟩
        have hw := hw a1_51 ea1_51
        refine lv_iinc (v := a1_51) (lv' := [(1, .int a1_51), (2, .ref (ad (gr h_30 406 3))), (0, .ref (ad 406))]) hx hb dX2_findDivisor_51 hl (k := 2) rfl (by rw [ea1_51]; rfl) (by decide) rfl (fun ls hl => ?_)
        refine lv_goto (tgt := 2) hx hb dX2_findDivisor_54 (by decide) ?_
        exact hw _ _ _ (lv_sub hl [2, 0] rfl) G)
  exact hw _ _ _ (lv_sub hl [1, 0] rfl) G
theorem cw_X2_40 {R : Room} {s : State} {args : Array Value} (hts : ∀ w ∈ gW, w.before args s = true) (hR : rm_Fraction_findDivisor.frames + 1 ≤ R.frames ∧ 8 + (3 + 11) + rm_Fraction_findDivisor.locals ≤ R.locals) : CallW R s args RX2 RX2 40 yX2_findDivisor cX2_findDivisor 3 none (mw yX2_findDivisor cX2_findDivisor 3 none) rm_Fraction_findDivisor 0 0 0 := cwV9 hts km_X2_40 ki_X2_findDivisor ks_X2_findDivisor kn_X2 kk_X2_findDivisor rfl rfl (by decide +kernel) hR
abbrev rm_Fraction_become : Room := { frames := 4, cells := 0, slots := 0, locals := 99 }
set_option maxHeartbeats 4000000 in
set_option maxRecDepth 100000 in
theorem c_Fraction_become (l : Launch) (D : va_G) (q : Nat → ClassId) (A : Nat → Prop) (ad : Nat → Nat) (a1 : Nat) (a2 : Nat) (k1 : kX a1 = 1) (k2 : kX a2 = 1) (h : Hs) (Q : Hs → Prop) (hw : p_Fraction_become a1 a2 h Q) : Met l yX2_become (mw yX2_become cX2_become 3 none) rm_Fraction_become (va_Pc [.ref (ad 406), .ref (ad a1), .ref (ad a2)] (pW D q A (wX q ad h))) (va_Qv Q (fun h t => pW D q A (wX q ad h) t) A) 0 0 A := by
  refine met_v (Qp := Q) (by decide) (Nat.le_of_ble_eq_true rfl) ?_
  intro p e R s m args below meth c Qm ls hR1 hR2 S RT hl G
  have hx := S.1
  have hb := S.2.1
  have hl : lv_has ls 3 [(0, .ref (ad 406)), (1, .ref (ad a1)), (2, .ref (ad a2))] := hl
  unfold p_Fraction_become at hw
  refine lv_aload_n hx hb dX2_become_0 rfl (lv_at hl 0 rfl) ?_
  refine x_get (C := RX2) (T := TX2) (n := 5) S G inX2 (xe_3 kx_406) rfl 3 (by decide) kf_X2_26 rfl dX2_become_1 ?_
  obtain ⟨kz_1, hw⟩ := hw
  refine lv_aload_n hx hb dX2_become_4 rfl (lv_at hl 2 rfl) ?_
  refine x_Vv S hl.1 G (c_Big_copy l D q A ad (gr h 406 3) a2 kz_1 k2 h _ hw) (cw_X2_36 S.2.2.2.2 ⟨Nat.le_trans (Nat.le_of_ble_eq_true rfl) hR1, Nat.le_trans (Nat.le_of_ble_eq_true rfl) hR2⟩) (xe_1 kz_1) rfl rfl rfl (Nat.le_of_ble_eq_true rfl) dX2_become_5 (fun h_5 H locs G hw => ?_)
  refine lv_aload_n hx hb dX2_become_8 rfl (lv_at hl 0 rfl) ?_
  refine x_get (C := RX2) (T := TX2) (n := 5) S G inX2 (xe_3 kx_406) rfl 4 (by decide) kf_X2_29 rfl dX2_become_9 ?_
  obtain ⟨kz_9, hw⟩ := hw
  refine lv_aload_n hx hb dX2_become_12 rfl (lv_at hl 1 rfl) ?_
  refine x_Vv S hl.1 G (c_Big_copy l D q A ad (gr h_5 406 4) a1 kz_9 k1 h_5 _ hw) (cw_X2_36 S.2.2.2.2 ⟨Nat.le_trans (Nat.le_of_ble_eq_true rfl) hR1, Nat.le_trans (Nat.le_of_ble_eq_true rfl) hR2⟩) (xe_1 kz_9) rfl rfl rfl (Nat.le_of_ble_eq_true rfl) dX2_become_13 (fun h_13 H locs G hw => ?_)
  refine lv_aload_n hx hb dX2_become_16 rfl (lv_at hl 0 rfl) ?_
  refine x_Vv S hl.1 G (c_Fraction_findDivisor l D q A ad h_13 _ hw) (cw_X2_40 S.2.2.2.2 ⟨Nat.le_trans (Nat.le_of_ble_eq_true rfl) hR1, Nat.le_trans (Nat.le_of_ble_eq_true rfl) hR2⟩) (xe_3 kx_406) rfl rfl rfl (Nat.le_of_ble_eq_true rfl) dX2_become_17 (fun h_17 H locs G hw => ?_)
  refine lv_aload_n hx hb dX2_become_20 rfl (lv_at hl 0 rfl) ?_
  refine x_get (C := RX2) (T := TX2) (n := 5) S G inX2 (xe_3 kx_406) rfl 4 (by decide) kf_X2_29 rfl dX2_become_21 ?_
  obtain ⟨kz_21, hw⟩ := hw
  refine lv_aload_n hx hb dX2_become_24 rfl (lv_at hl 1 rfl) ?_
  refine x_Vv S hl.1 G (c_Big_copy l D q A ad (gr h_17 406 4) a1 kz_21 k1 h_17 _ hw) (cw_X2_36 S.2.2.2.2 ⟨Nat.le_trans (Nat.le_of_ble_eq_true rfl) hR1, Nat.le_trans (Nat.le_of_ble_eq_true rfl) hR2⟩) (xe_1 kz_21) rfl rfl rfl (Nat.le_of_ble_eq_true rfl) dX2_become_25 (fun h_25 H locs G hw => ?_)
  refine lv_aload_n hx hb dX2_become_28 rfl (lv_at hl 0 rfl) ?_
  refine x_get (C := RX2) (T := TX2) (n := 5) S G inX2 (xe_3 kx_406) rfl 4 (by decide) kf_X2_29 rfl dX2_become_29 ?_
  obtain ⟨kz_29, hw⟩ := hw
  refine lv_aload_n hx hb dX2_become_32 rfl (lv_at hl 0 rfl) ?_
  refine x_get (C := RX2) (T := TX2) (n := 5) S G inX2 (xe_3 kx_406) rfl 3 (by decide) kf_X2_26 rfl dX2_become_33 ?_
  obtain ⟨kz_33, hw⟩ := hw
  refine lv_aload_n hx hb dX2_become_36 rfl (lv_at hl 0 rfl) ?_
  refine x_get (C := RX2) (T := TX2) (n := 5) S G inX2 (xe_3 kx_406) rfl 0 (by decide) kf_X2_14 rfl dX2_become_37 ?_
  refine x_Vv S hl.1 G (c_Big_divide l D q A ad (gr h_25 406 4) (gr h_25 406 3) 407 kz_29 kz_33 kx_407 h_25 _ hw) (cw_X2_43 S.2.2.2.2 ⟨Nat.le_trans (Nat.le_of_ble_eq_true rfl) hR1, Nat.le_trans (Nat.le_of_ble_eq_true rfl) hR2⟩) (xe_1 kz_29) rfl rfl rfl (Nat.le_of_ble_eq_true rfl) dX2_become_40 (fun h_40 H locs G hw => ?_)
  refine lv_aload_n hx hb dX2_become_43 rfl (lv_at hl 0 rfl) ?_
  refine x_get (C := RX2) (T := TX2) (n := 5) S G inX2 (xe_3 kx_406) rfl 4 (by decide) kf_X2_29 rfl dX2_become_44 ?_
  obtain ⟨kz_44, hw⟩ := hw
  refine lv_aload_n hx hb dX2_become_47 rfl (lv_at hl 2 rfl) ?_
  refine x_Vv S hl.1 G (c_Big_copy l D q A ad (gr h_40 406 4) a2 kz_44 k2 h_40 _ hw) (cw_X2_36 S.2.2.2.2 ⟨Nat.le_trans (Nat.le_of_ble_eq_true rfl) hR1, Nat.le_trans (Nat.le_of_ble_eq_true rfl) hR2⟩) (xe_1 kz_44) rfl rfl rfl (Nat.le_of_ble_eq_true rfl) dX2_become_48 (fun h_48 H locs G hw => ?_)
  refine lv_aload_n hx hb dX2_become_51 rfl (lv_at hl 0 rfl) ?_
  refine x_get (C := RX2) (T := TX2) (n := 5) S G inX2 (xe_3 kx_406) rfl 4 (by decide) kf_X2_29 rfl dX2_become_52 ?_
  obtain ⟨kz_52, hw⟩ := hw
  refine lv_aload_n hx hb dX2_become_55 rfl (lv_at hl 0 rfl) ?_
  refine x_get (C := RX2) (T := TX2) (n := 5) S G inX2 (xe_3 kx_406) rfl 3 (by decide) kf_X2_26 rfl dX2_become_56 ?_
  obtain ⟨kz_56, hw⟩ := hw
  refine lv_aload_n hx hb dX2_become_59 rfl (lv_at hl 0 rfl) ?_
  refine x_get (C := RX2) (T := TX2) (n := 5) S G inX2 (xe_3 kx_406) rfl 1 (by decide) kf_X2_20 rfl dX2_become_60 ?_
  refine x_Vv S hl.1 G (c_Big_divide l D q A ad (gr h_48 406 4) (gr h_48 406 3) 409 kz_52 kz_56 kx_409 h_48 _ hw) (cw_X2_43 S.2.2.2.2 ⟨Nat.le_trans (Nat.le_of_ble_eq_true rfl) hR1, Nat.le_trans (Nat.le_of_ble_eq_true rfl) hR2⟩) (xe_1 kz_52) rfl rfl rfl (Nat.le_of_ble_eq_true rfl) dX2_become_63 (fun h_63 H locs G hw => ?_)
  exact RT _ _ _ _ _ G hw dX2_become_66
theorem cw_X9_231 {R : Room} {s : State} {args : Array Value} (hts : ∀ w ∈ gW, w.before args s = true) (hR : rm_Fraction_become.frames + 1 ≤ R.frames ∧ 8 + (3 + 11) + rm_Fraction_become.locals ≤ R.locals) : CallW R s args RX9 RX2 231 yX2_become cX2_become 3 none (mw yX2_become cX2_become 3 none) rm_Fraction_become 0 0 2 := cwV9 hts km_X9_231 ki_X2_become ks_X2_become kn_X2 kk_X2_become rfl rfl (by decide +kernel) hR
abbrev rm_Tokens_isLetter : Room := { frames := 0, cells := 0, slots := 0, locals := 0 }
set_option maxHeartbeats 4000000 in
set_option maxRecDepth 100000 in
theorem c_Tokens_isLetter (l : Launch) (D : va_G) (q : Nat → ClassId) (A : Nat → Prop) (ad : Nat → Nat) (a0 : Int32) (h : Hs) (Q : Int32 → Prop) (hw : p_Tokens_isLetter a0 h Q) : Met l yX7_isLetter (mw yX7_isLetter cX7_isLetter 1 (some .boolean)) rm_Tokens_isLetter (va_Pc [.int a0] (pW D q A (wX q ad h))) (va_Qi (fun r h9 => zb r ∧ h9 = h ∧ Q r) (fun h t => pW D q A (wX q ad h) t) A) 0 0 A := by
  refine met_z (Qp := (fun r h9 => h9 = h ∧ Q r)) (by decide) (Nat.le_of_ble_eq_true rfl) ?_
  intro p e R s m args below meth c Qm ls hR1 hR2 S RT hl G
  have hx := S.1
  have hb := S.2.1
  have hl : lv_has ls 1 [(0, .int a0)] := hl
  unfold p_Tokens_isLetter at hw
  refine lv_iload_n hx hb dX7_isLetter_0 rfl (lv_at hl 0 rfl) ?_
  refine lv_bipush (v := 97) hx hb dX7_isLetter_1 (by decide) ?_
  have hw := hw (fun (t0_17 : Int32) => ∀ (ls : Array Slot) (H : Heap) (locs : List Loc), lv_has ls 1 [] → okW D q A s (wX q ad h) H locs → W p l e R s m args below meth c H locs 0 0 Qm (F0 m 17 ls [.int t0_17])) (by
    intro t0_17 hw ls H locs hl G
    obtain ⟨z_17, hw⟩ := hw
    exact RT _ _ _ _ _ _ G z_17 ⟨rfl, hw⟩ dX7_isLetter_17)
  have hw := hw (∀ (ls : Array Slot) (H : Heap) (locs : List Loc), lv_has ls 1 [] → okW D q A s (wX q ad h) H locs → W p l e R s m args below meth c H locs 0 0 Qm (F0 m 16 ls [])) (by
    intro hw ls H locs hl G
    refine lv_iconst (v := 0) hx hb dX7_isLetter_16 (by decide) ?_
    exact hw _ _ _ (lv_sub hl [] rfl) G)
  refine lv_icmp_lt (tgt := 16) hx hb dX7_isLetter_3 (by decide) (fun c_3 => ?_) (fun c_3 => ?_)
  · have hw := hw.1 c_3
    exact hw _ _ _ (lv_sub hl [] rfl) G
  · have hw := hw.2 c_3
    refine lv_iload_n hx hb dX7_isLetter_6 rfl (lv_at hl 0 rfl) ?_
    refine lv_bipush (v := 122) hx hb dX7_isLetter_7 (by decide) ?_
    refine lv_icmp_gt (tgt := 16) hx hb dX7_isLetter_9 (by decide) (fun c_9 => ?_) (fun c_9 => ?_)
    · have hw := hw.1 c_9
      exact hw _ _ _ (lv_sub hl [] rfl) G
    · have hw := hw.2 c_9
      refine lv_iconst (v := 1) hx hb dX7_isLetter_12 (by decide) ?_
      refine lv_goto (tgt := 17) hx hb dX7_isLetter_13 (by decide) ?_
      exact hw _ _ _ (lv_sub hl [] rfl) G
theorem cw_X7_28 {R : Room} {s : State} {args : Array Value} (hts : ∀ w ∈ gW, w.before args s = true) (hR : rm_Tokens_isLetter.frames + 1 ≤ R.frames ∧ 8 + (1 + 11) + rm_Tokens_isLetter.locals ≤ R.locals) : CallB R s args RX7 28 yX7_isLetter cX7_isLetter 1 (some .boolean) (mw yX7_isLetter cX7_isLetter 1 (some .boolean)) rm_Tokens_isLetter 0 0 1 ∧ (Cond.static yX7_isLetter).before args s = true := cwS9 hts km_X7_28 kt_X7_isLetter kn_X7 kk_X7_isLetter rfl rfl (by decide +kernel) hR
abbrev rm_Tokens_wordOf : Room := { frames := 0, cells := 0, slots := 0, locals := 0 }
set_option maxHeartbeats 4000000 in
set_option maxRecDepth 100000 in
theorem c_Tokens_wordOf (l : Launch) (D : va_G) (q : Nat → ClassId) (A : Nat → Prop) (ad : Nat → Nat) (a0 : Int64) (h : Hs) (Q : Int32 → Prop) (hw : p_Tokens_wordOf a0 h Q) : Met l yX7_wordOf (mw yX7_wordOf cX7_wordOf 2 (some .int)) rm_Tokens_wordOf (va_Pc [.long a0] (pW D q A (wX q ad h))) (va_Qi (fun r h9 => h9 = h ∧ Q r) (fun h t => pW D q A (wX q ad h) t) A) 0 0 A := by
  refine met_i (Qp := (fun r h9 => h9 = h ∧ Q r)) (by decide) (Nat.le_of_ble_eq_true rfl) ?_
  intro p e R s m args below meth c Qm ls hR1 hR2 S RT hl G
  have hx := S.1
  have hb := S.2.1
  have hl : lv_has ls 2 [(0, .long a0)] := hl
  unfold p_Tokens_wordOf at hw
  refine lv_lload_n hx hb dX7_wordOf_0 rfl (lv_at hl 0 rfl) ?_
  refine lv_ldc2 (v := 26479) hx hb S.2.2.2.1 (S.2.2.2.2 _ kl_X7_50) dX7_wordOf_1 ?_
  refine W.lcmp hx hb dX7_wordOf_4 ?_
  refine lv_if_ne (tgt := 10) hx hb dX7_wordOf_5 (by decide) (fun c_5 => ?_) (fun c_5 => ?_)
  · have hw := hw.1 c_5
    refine lv_lload_n hx hb dX7_wordOf_10 rfl (lv_at hl 0 rfl) ?_
    refine lv_ldc2 (v := 1785686382) hx hb S.2.2.2.1 (S.2.2.2.2 _ kl_X7_52) dX7_wordOf_11 ?_
    refine W.lcmp hx hb dX7_wordOf_14 ?_
    refine lv_if_ne (tgt := 20) hx hb dX7_wordOf_15 (by decide) (fun c_15 => ?_) (fun c_15 => ?_)
    · have hw := hw.1 c_15
      refine lv_lload_n hx hb dX7_wordOf_20 rfl (lv_at hl 0 rfl) ?_
      refine lv_ldc2 (v := 6580581) hx hb S.2.2.2.1 (S.2.2.2.2 _ kl_X7_54) dX7_wordOf_21 ?_
      refine W.lcmp hx hb dX7_wordOf_24 ?_
      refine lv_if_ne (tgt := 31) hx hb dX7_wordOf_25 (by decide) (fun c_25 => ?_) (fun c_25 => ?_)
      · have hw := hw.1 c_25
        refine lv_lload_n hx hb dX7_wordOf_31 rfl (lv_at hl 0 rfl) ?_
        refine lv_ldc2 (v := 2003792484) hx hb S.2.2.2.1 (S.2.2.2.2 _ kl_X7_56) dX7_wordOf_32 ?_
        refine W.lcmp hx hb dX7_wordOf_35 ?_
        refine lv_if_ne (tgt := 42) hx hb dX7_wordOf_36 (by decide) (fun c_36 => ?_) (fun c_36 => ?_)
        · have hw := hw.1 c_36
          refine lv_lload_n hx hb dX7_wordOf_42 rfl (lv_at hl 0 rfl) ?_
          refine lv_ldc2 (v := 427121668979) hx hb S.2.2.2.1 (S.2.2.2.2 _ kl_X7_58) dX7_wordOf_43 ?_
          refine W.lcmp hx hb dX7_wordOf_46 ?_
          have hw := hw (fun (t0_56 : Int32) => ∀ (ls : Array Slot) (H : Heap) (locs : List Loc), lv_has ls 2 [] → okW D q A s (wX q ad h) H locs → W p l e R s m args below meth c H locs 0 0 Qm (F0 m 56 ls [.int t0_56])) (by
            intro t0_56 hw ls H locs hl G
            exact RT _ _ _ _ _ _ G ⟨rfl, hw⟩ dX7_wordOf_56)
          refine lv_if_ne (tgt := 55) hx hb dX7_wordOf_47 (by decide) (fun c_47 => ?_) (fun c_47 => ?_)
          · have hw := hw.1 c_47
            refine lv_iconst (v := 3) hx hb dX7_wordOf_55 (by decide) ?_
            exact hw _ _ _ (lv_sub hl [] rfl) G
          · have hw := hw.2 c_47
            refine lv_bipush (v := 8) hx hb dX7_wordOf_50 (by decide) ?_
            refine lv_goto (tgt := 56) hx hb dX7_wordOf_52 (by decide) ?_
            exact hw _ _ _ (lv_sub hl [] rfl) G
        · have hw := hw.2 c_36
          refine lv_bipush (v := 7) hx hb dX7_wordOf_39 (by decide) ?_
          exact RT _ _ _ _ _ _ G ⟨rfl, hw⟩ dX7_wordOf_41
      · have hw := hw.2 c_25
        refine lv_bipush (v := 6) hx hb dX7_wordOf_28 (by decide) ?_
        exact RT _ _ _ _ _ _ G ⟨rfl, hw⟩ dX7_wordOf_30
    · have hw := hw.2 c_15
      refine lv_iconst (v := 5) hx hb dX7_wordOf_18 (by decide) ?_
      exact RT _ _ _ _ _ _ G ⟨rfl, hw⟩ dX7_wordOf_19
  · have hw := hw.2 c_5
    refine lv_iconst (v := 4) hx hb dX7_wordOf_8 (by decide) ?_
    exact RT _ _ _ _ _ _ G ⟨rfl, hw⟩ dX7_wordOf_9
theorem cw_X7_46 {R : Room} {s : State} {args : Array Value} (hts : ∀ w ∈ gW, w.before args s = true) (hR : rm_Tokens_wordOf.frames + 1 ≤ R.frames ∧ 8 + (2 + 11) + rm_Tokens_wordOf.locals ≤ R.locals) : CallB R s args RX7 46 yX7_wordOf cX7_wordOf 2 (some .int) (mw yX7_wordOf cX7_wordOf 2 (some .int)) rm_Tokens_wordOf 0 0 1 ∧ (Cond.static yX7_wordOf).before args s = true := cwS9 hts km_X7_46 kt_X7_wordOf kn_X7 kk_X7_wordOf rfl rfl (by decide +kernel) hR
abbrev rm_Tokens_keep : Room := { frames := 0, cells := 0, slots := 0, locals := 0 }
set_option maxHeartbeats 4000000 in
set_option maxRecDepth 100000 in
theorem c_Tokens_keep (l : Launch) (D : va_G) (q : Nat → ClassId) (A : Nat → Prop) (ad : Nat → Nat) (a1 : Int32) (a2 : Int32) (a3 : Int32) (h : Hs) (Q : Hs → Prop) (hw : p_Tokens_keep a1 a2 a3 h Q) : Met l yX7_keep (mw yX7_keep cX7_keep 4 none) rm_Tokens_keep (va_Pc [.ref (ad 43), .int a1, .int a2, .int a3] (pW D q A (wX q ad h))) (va_Qv Q (fun h t => pW D q A (wX q ad h) t) A) 0 0 A := by
  refine met_v (Qp := Q) (by decide) (Nat.le_of_ble_eq_true rfl) ?_
  intro p e R s m args below meth c Qm ls hR1 hR2 S RT hl G
  have hx := S.1
  have hb := S.2.1
  have hl : lv_has ls 4 [(0, .ref (ad 43)), (1, .int a1), (2, .int a2), (3, .int a3)] := hl
  unfold p_Tokens_keep at hw
  refine lv_aload_n hx hb dX7_keep_0 rfl (lv_at hl 0 rfl) ?_
  refine x_get (C := RX7) (T := TX7) (n := 5) S G inX7 (xe_8 kx_43) rfl 3 (by decide) kf_X7_21 rfl dX7_keep_1 ?_
  refine lv_aload_n hx hb dX7_keep_4 rfl (lv_at hl 0 rfl) ?_
  refine x_get (C := RX7) (T := TX7) (n := 5) S G inX7 (xe_8 kx_43) rfl 1 (by decide) kf_X7_15 rfl dX7_keep_5 ?_
  refine x_alen (v := 121) S G 0 (xe_20 kx_45 lx_45) rfl rfl dX7_keep_8 ?_
  have hw := hw (fun (g_52 : Hs) => ∀ (ls : Array Slot) (H : Heap) (locs : List Loc), lv_has ls 4 [] → okW D q A s (wX q ad g_52) H locs → W p l e R s m args below meth c H locs 0 0 Qm (F0 m 52 ls [])) (by
    intro g_52 hw ls H locs hl G
    exact RT _ _ _ _ _ G hw dX7_keep_52)
  refine lv_icmp_ge (tgt := 52) hx hb dX7_keep_9 (by decide) (fun c_9 => ?_) (fun c_9 => ?_)
  · have hw := hw.1 c_9
    exact hw _ _ _ (lv_sub hl [] rfl) G
  · have hw := hw.2 c_9
    refine lv_aload_n hx hb dX7_keep_12 rfl (lv_at hl 0 rfl) ?_
    refine x_get (C := RX7) (T := TX7) (n := 5) S G inX7 (xe_8 kx_43) rfl 0 (by decide) kf_X7_9 rfl dX7_keep_13 ?_
    refine lv_aload_n hx hb dX7_keep_16 rfl (lv_at hl 0 rfl) ?_
    refine x_get (C := RX7) (T := TX7) (n := 5) S G inX7 (xe_8 kx_43) rfl 3 (by decide) kf_X7_21 rfl dX7_keep_17 ?_
    refine lv_iload_n hx hb dX7_keep_20 rfl (lv_at hl 1 rfl) ?_
    obtain ⟨i_21, hw⟩ := hw
    refine x_iast (k := (gi h 43 3).toNatClampNeg) S G (xe_20 kx_44 lx_44) i_21 rfl (xs_20 kx_44 lx_44) dX7_keep_21 (fun H locs G => ?_)
    obtain ⟨h_21, eh_21⟩ : ∃ y : Hs, y = si h 44 ((gi h 43 3).toNatClampNeg) a1 := ⟨_, rfl⟩
    rw [← eh_21] at G
    have hw := hw h_21 eh_21
    refine lv_aload_n hx hb dX7_keep_22 rfl (lv_at hl 0 rfl) ?_
    refine x_get (C := RX7) (T := TX7) (n := 5) S G inX7 (xe_8 kx_43) rfl 1 (by decide) kf_X7_15 rfl dX7_keep_23 ?_
    refine lv_aload_n hx hb dX7_keep_26 rfl (lv_at hl 0 rfl) ?_
    refine x_get (C := RX7) (T := TX7) (n := 5) S G inX7 (xe_8 kx_43) rfl 3 (by decide) kf_X7_21 rfl dX7_keep_27 ?_
    refine lv_iload_n hx hb dX7_keep_30 rfl (lv_at hl 2 rfl) ?_
    obtain ⟨i_31, hw⟩ := hw
    refine x_iast (k := (gi h_21 43 3).toNatClampNeg) S G (xe_20 kx_45 lx_45) i_31 rfl (xs_20 kx_45 lx_45) dX7_keep_31 (fun H locs G => ?_)
    obtain ⟨h_31, eh_31⟩ : ∃ y : Hs, y = si h_21 45 ((gi h_21 43 3).toNatClampNeg) a2 := ⟨_, rfl⟩
    rw [← eh_31] at G
    have hw := hw h_31 eh_31
    refine lv_aload_n hx hb dX7_keep_32 rfl (lv_at hl 0 rfl) ?_
    refine x_get (C := RX7) (T := TX7) (n := 5) S G inX7 (xe_8 kx_43) rfl 2 (by decide) kf_X7_18 rfl dX7_keep_33 ?_
    refine lv_aload_n hx hb dX7_keep_36 rfl (lv_at hl 0 rfl) ?_
    refine x_get (C := RX7) (T := TX7) (n := 5) S G inX7 (xe_8 kx_43) rfl 3 (by decide) kf_X7_21 rfl dX7_keep_37 ?_
    refine lv_iload_n hx hb dX7_keep_40 rfl (lv_at hl 3 rfl) ?_
    obtain ⟨i_41, hw⟩ := hw
    refine x_iast (k := (gi h_31 43 3).toNatClampNeg) S G (xe_20 kx_46 lx_46) i_41 rfl (xs_20 kx_46 lx_46) dX7_keep_41 (fun H locs G => ?_)
    obtain ⟨h_41, eh_41⟩ : ∃ y : Hs, y = si h_31 46 ((gi h_31 43 3).toNatClampNeg) a3 := ⟨_, rfl⟩
    rw [← eh_41] at G
    have hw := hw h_41 eh_41
    refine lv_aload_n hx hb dX7_keep_42 rfl (lv_at hl 0 rfl) ?_
    refine lv_dup hx hb dX7_keep_43 rfl ?_
    refine x_get (C := RX7) (T := TX7) (n := 5) S G inX7 (xe_8 kx_43) rfl 3 (by decide) kf_X7_21 rfl dX7_keep_44 ?_
    refine lv_iconst (v := 1) hx hb dX7_keep_47 (by decide) ?_
    refine lv_iadd hx hb dX7_keep_48 ?_
    refine x_put (C := RX7) (T := TX7) (n := 5) S G inX7 tyX7 tyX7_ok nmX7 (xe_8 kx_43) rfl 3 (by decide) kf_X7_21 rfl rfl rfl (Nat.le_of_ble_eq_true rfl) (xp_8_3 kx_43) dX7_keep_49 (fun H locs G => ?_)
    obtain ⟨h_49, eh_49⟩ : ∃ y : Hs, y = si h_41 43 3 ((gi h_41 43 3) + 1) := ⟨_, rfl⟩
    rw [← eh_49] at G
    have hw := hw h_49 eh_49
    exact hw _ _ _ (lv_sub hl [] rfl) G
theorem cw_X7_42 {R : Room} {s : State} {args : Array Value} (hts : ∀ w ∈ gW, w.before args s = true) (hR : rm_Tokens_keep.frames + 1 ≤ R.frames ∧ 8 + (4 + 11) + rm_Tokens_keep.locals ≤ R.locals) : CallW R s args RX7 RX7 42 yX7_keep cX7_keep 4 none (mw yX7_keep cX7_keep 4 none) rm_Tokens_keep 0 0 3 := cwV9 hts km_X7_42 ki_X7_keep ks_X7_keep kn_X7 kk_X7_keep rfl rfl (by decide +kernel) hR
abbrev rm_Tokens_readLetters : Room := { frames := 1, cells := 0, slots := 0, locals := 23 }
set_option maxHeartbeats 4000000 in
set_option maxRecDepth 100000 in
theorem c_Tokens_readLetters (l : Launch) (D : va_G) (q : Nat → ClassId) (A : Nat → Prop) (ad : Nat → Nat) (a1 : Nat) (a2 : Int32) (a3 : Int32) (k1 : kX a1 = 20) (h : Hs) (Q : Hs → Prop) (hw : p_Tokens_readLetters a1 a2 a3 h Q) : Met l yX7_readLetters (mw yX7_readLetters cX7_readLetters 6 none) rm_Tokens_readLetters (va_Pc [.ref (ad 43), .ref (ad a1), .int a2, .int a3] (pW D q A (wX q ad h))) (va_Qv Q (fun h t => pW D q A (wX q ad h) t) A) 0 0 A := by
  refine met_v (Qp := Q) (by decide) (Nat.le_of_ble_eq_true rfl) ?_
  intro p e R s m args below meth c Qm ls hR1 hR2 S RT hl G
  have hx := S.1
  have hb := S.2.1
  have hl : lv_has ls 6 [(0, .ref (ad 43)), (1, .ref (ad a1)), (2, .int a2), (3, .int a3)] := hl
  unfold p_Tokens_readLetters at hw
  refine lv_aload_n hx hb dX7_readLetters_0 rfl (lv_at hl 1 rfl) ?_
  refine lv_iload_n hx hb dX7_readLetters_1 rfl (lv_at hl 3 rfl) ?_
  obtain ⟨i_2, hw⟩ := hw
  refine x_iald (k := a3.toNatClampNeg) S G (xe_20 k1 rfl) i_2 rfl rfl dX7_readLetters_2 ?_
  refine lv_i2l hx hb dX7_readLetters_3 rfl ?_
  refine lv_topl (fun a4_4 ea4_4 => ?_)
  have hw := hw a4_4 ea4_4
  refine lv_lstore (lv' := [(4, .long a4_4), (0, .ref (ad 43)), (1, .ref (ad a1)), (2, .int a2), (3, .int a3)]) hx hb dX7_readLetters_4 hl (by decide) rfl (fun ls hl => ?_)
  have hw := hw (fun (b4_6 : Int64) (g_6 : Hs) => ∀ (ls : Array Slot) (H : Heap) (locs : List Loc), lv_has ls 6 [(0, .ref (ad 43)), (1, .ref (ad a1)), (2, .int a2), (3, .int a3), (4, .long b4_6)] → okW D q A s (wX q ad g_6) H locs → W p l e R s m args below meth c H locs 0 0 Qm (F0 m 6 ls [])) (by
    intro b4_6 g_6 hw ls H locs hl G
    refine lv_aload_n hx hb dX7_readLetters_6 rfl (lv_at hl 0 rfl) ?_
    refine x_get (C := RX7) (T := TX7) (n := 5) S G inX7 (xe_8 kx_43) rfl 4 (by decide) kf_X7_25 rfl dX7_readLetters_7 ?_
    refine lv_iload_n hx hb dX7_readLetters_10 rfl (lv_at hl 2 rfl) ?_
    have hw := hw (∀ (ls : Array Slot) (H : Heap) (locs : List Loc), lv_has ls 6 [(0, .ref (ad 43)), (3, .int a3), (4, .long b4_6)] → okW D q A s (wX q ad g_6) H locs → W p l e R s m args below meth c H locs 0 0 Qm (F0 m 54 ls [])) (by
      intro hw ls H locs hl G
      refine lv_aload_n hx hb dX7_readLetters_54 rfl (lv_at hl 0 rfl) ?_
      refine lv_iload_n hx hb dX7_readLetters_55 rfl (lv_at hl 1 rfl) ?_
      refine lv_lload hx hb dX7_readLetters_56 (lv_at hl 2 rfl) ?_
      refine x_SiP S hl.1 G (c_Tokens_wordOf l D q A ad b4_6 g_6 _ hw) (cw_X7_46 S.2.2.2.2 ⟨Nat.le_trans (Nat.le_of_ble_eq_true rfl) hR1, Nat.le_trans (Nat.le_of_ble_eq_true rfl) hR2⟩) rfl rfl (Nat.le_of_ble_eq_true rfl) dX7_readLetters_58 (fun r_58 H locs G hw => ?_)
      refine lv_iconst (v := 0) hx hb dX7_readLetters_61 (by decide) ?_
      refine x_Vv S hl.1 G (c_Tokens_keep l D q A ad a3 r_58 0 g_6 _ hw) (cw_X7_42 S.2.2.2.2 ⟨Nat.le_trans (Nat.le_of_ble_eq_true rfl) hR1, Nat.le_trans (Nat.le_of_ble_eq_true rfl) hR2⟩) (xe_8 kx_43) rfl rfl rfl (Nat.le_of_ble_eq_true rfl) dX7_readLetters_62 (fun h_62 H locs G hw => ?_)
      exact RT _ _ _ _ _ G hw dX7_readLetters_65)
    refine lv_icmp_ge (tgt := 54) hx hb dX7_readLetters_11 (by decide) (fun c_11 => ?_) (fun c_11 => ?_)
    · have hw := hw.1 c_11
      exact hw _ _ _ (lv_sub hl [0, 3, 4] rfl) G
    · have hw := hw.2 c_11
      refine lv_aload_n hx hb dX7_readLetters_14 rfl (lv_at hl 1 rfl) ?_
      refine lv_aload_n hx hb dX7_readLetters_15 rfl (lv_at hl 0 rfl) ?_
      refine x_get (C := RX7) (T := TX7) (n := 5) S G inX7 (xe_8 kx_43) rfl 4 (by decide) kf_X7_25 rfl dX7_readLetters_16 ?_
      obtain ⟨i_19, hw⟩ := hw
      refine x_iald (k := (gi g_6 43 4).toNatClampNeg) S G (xe_20 k1 rfl) i_19 rfl rfl dX7_readLetters_19 ?_
      refine x_SzP S hl.1 G (c_Tokens_isLetter l D q A ad (gi g_6 a1 ((gi g_6 43 4).toNatClampNeg)) g_6 _ hw) (cw_X7_28 S.2.2.2.2 ⟨Nat.le_trans (Nat.le_of_ble_eq_true rfl) hR1, Nat.le_trans (Nat.le_of_ble_eq_true rfl) hR2⟩) rfl rfl (Nat.le_of_ble_eq_true rfl) dX7_readLetters_20 (fun r_20 H locs G z_20 hw => ?_)
      refine lv_if_eq (tgt := 54) hx hb dX7_readLetters_23 (by decide) (fun c_23 => ?_) (fun c_23 => ?_)
      · have hw := hw.1 c_23
        exact hw _ _ _ (lv_sub hl [0, 3, 4] rfl) G
      · have hw := hw.2 c_23
        refine lv_lload hx hb dX7_readLetters_26 (lv_at hl 4 rfl) ?_
        refine lv_bipush (v := 8) hx hb dX7_readLetters_28 (by decide) ?_
        refine lv_lshl hx hb dX7_readLetters_30 rfl ?_
        refine lv_aload_n hx hb dX7_readLetters_31 rfl (lv_at hl 1 rfl) ?_
        refine lv_aload_n hx hb dX7_readLetters_32 rfl (lv_at hl 0 rfl) ?_
        refine x_get (C := RX7) (T := TX7) (n := 5) S G inX7 (xe_8 kx_43) rfl 4 (by decide) kf_X7_25 rfl dX7_readLetters_33 ?_
        obtain ⟨i_36, hw⟩ := hw
        refine x_iald (k := (gi g_6 43 4).toNatClampNeg) S G (xe_20 k1 rfl) i_36 rfl rfl dX7_readLetters_36 ?_
        refine lv_i2l hx hb dX7_readLetters_37 rfl ?_
        refine lv_lor hx hb dX7_readLetters_38 ?_
        refine lv_topl (fun a4_39 ea4_39 => ?_)
        have hw := hw a4_39 ea4_39
        refine lv_lstore (lv' := [(4, .long a4_39), (0, .ref (ad 43)), (1, .ref (ad a1)), (2, .int a2), (3, .int a3)]) hx hb dX7_readLetters_39 hl (by decide) rfl (fun ls hl => ?_)
        refine lv_aload_n hx hb dX7_readLetters_41 rfl (lv_at hl 1 rfl) ?_
        refine lv_dup hx hb dX7_readLetters_42 rfl ?_
        refine x_get (C := RX7) (T := TX7) (n := 5) S G inX7 (xe_8 kx_43) rfl 4 (by decide) kf_X7_25 rfl dX7_readLetters_43 ?_
        refine lv_iconst (v := 1) hx hb dX7_readLetters_46 (by decide) ?_
        refine lv_iadd hx hb dX7_readLetters_47 ?_
        refine x_put (C := RX7) (T := TX7) (n := 5) S G inX7 tyX7 tyX7_ok nmX7 (xe_8 kx_43) rfl 4 (by decide) kf_X7_25 rfl rfl rfl (Nat.le_of_ble_eq_true rfl) (xp_8_4 kx_43) dX7_readLetters_48 (fun H locs G => ?_)
        obtain ⟨h_48, eh_48⟩ : ∃ y : Hs, y = si g_6 43 4 ((gi g_6 43 4) + 1) := ⟨_, rfl⟩
        rw [← eh_48] at G
        have hw := hw h_48 eh_48
        refine lv_goto (tgt := 6) hx hb dX7_readLetters_51 (by decide) ?_
        exact hw _ _ _ (lv_sub hl [1, 2, 3, 4, 0] rfl) G)
  exact hw _ _ _ (lv_sub hl [1, 2, 3, 4, 0] rfl) G
theorem cw_X7_32 {R : Room} {s : State} {args : Array Value} (hts : ∀ w ∈ gW, w.before args s = true) (hR : rm_Tokens_readLetters.frames + 1 ≤ R.frames ∧ 8 + (6 + 11) + rm_Tokens_readLetters.locals ≤ R.locals) : CallW R s args RX7 RX7 32 yX7_readLetters cX7_readLetters 6 none (mw yX7_readLetters cX7_readLetters 6 none) rm_Tokens_readLetters 0 0 3 := cwV9 hts km_X7_32 ki_X7_readLetters ks_X7_readLetters kn_X7 kk_X7_readLetters rfl rfl (by decide +kernel) hR
abbrev rm_Tokens_isFigure : Room := { frames := 0, cells := 0, slots := 0, locals := 0 }
set_option maxHeartbeats 4000000 in
set_option maxRecDepth 100000 in
theorem c_Tokens_isFigure (l : Launch) (D : va_G) (q : Nat → ClassId) (A : Nat → Prop) (ad : Nat → Nat) (a0 : Int32) (h : Hs) (Q : Int32 → Prop) (hw : p_Tokens_isFigure a0 h Q) : Met l yX7_isFigure (mw yX7_isFigure cX7_isFigure 1 (some .boolean)) rm_Tokens_isFigure (va_Pc [.int a0] (pW D q A (wX q ad h))) (va_Qi (fun r h9 => zb r ∧ h9 = h ∧ Q r) (fun h t => pW D q A (wX q ad h) t) A) 0 0 A := by
  refine met_z (Qp := (fun r h9 => h9 = h ∧ Q r)) (by decide) (Nat.le_of_ble_eq_true rfl) ?_
  intro p e R s m args below meth c Qm ls hR1 hR2 S RT hl G
  have hx := S.1
  have hb := S.2.1
  have hl : lv_has ls 1 [(0, .int a0)] := hl
  unfold p_Tokens_isFigure at hw
  refine lv_iload_n hx hb dX7_isFigure_0 rfl (lv_at hl 0 rfl) ?_
  refine lv_bipush (v := 48) hx hb dX7_isFigure_1 (by decide) ?_
  have hw := hw (fun (t0_17 : Int32) => ∀ (ls : Array Slot) (H : Heap) (locs : List Loc), lv_has ls 1 [] → okW D q A s (wX q ad h) H locs → W p l e R s m args below meth c H locs 0 0 Qm (F0 m 17 ls [.int t0_17])) (by
    intro t0_17 hw ls H locs hl G
    obtain ⟨z_17, hw⟩ := hw
    exact RT _ _ _ _ _ _ G z_17 ⟨rfl, hw⟩ dX7_isFigure_17)
  have hw := hw (∀ (ls : Array Slot) (H : Heap) (locs : List Loc), lv_has ls 1 [] → okW D q A s (wX q ad h) H locs → W p l e R s m args below meth c H locs 0 0 Qm (F0 m 16 ls [])) (by
    intro hw ls H locs hl G
    refine lv_iconst (v := 0) hx hb dX7_isFigure_16 (by decide) ?_
    exact hw _ _ _ (lv_sub hl [] rfl) G)
  refine lv_icmp_lt (tgt := 16) hx hb dX7_isFigure_3 (by decide) (fun c_3 => ?_) (fun c_3 => ?_)
  · have hw := hw.1 c_3
    exact hw _ _ _ (lv_sub hl [] rfl) G
  · have hw := hw.2 c_3
    refine lv_iload_n hx hb dX7_isFigure_6 rfl (lv_at hl 0 rfl) ?_
    refine lv_bipush (v := 57) hx hb dX7_isFigure_7 (by decide) ?_
    refine lv_icmp_gt (tgt := 16) hx hb dX7_isFigure_9 (by decide) (fun c_9 => ?_) (fun c_9 => ?_)
    · have hw := hw.1 c_9
      exact hw _ _ _ (lv_sub hl [] rfl) G
    · have hw := hw.2 c_9
      refine lv_iconst (v := 1) hx hb dX7_isFigure_12 (by decide) ?_
      refine lv_goto (tgt := 17) hx hb dX7_isFigure_13 (by decide) ?_
      exact hw _ _ _ (lv_sub hl [] rfl) G
theorem cw_X7_36 {R : Room} {s : State} {args : Array Value} (hts : ∀ w ∈ gW, w.before args s = true) (hR : rm_Tokens_isFigure.frames + 1 ≤ R.frames ∧ 8 + (1 + 11) + rm_Tokens_isFigure.locals ≤ R.locals) : CallB R s args RX7 36 yX7_isFigure cX7_isFigure 1 (some .boolean) (mw yX7_isFigure cX7_isFigure 1 (some .boolean)) rm_Tokens_isFigure 0 0 1 ∧ (Cond.static yX7_isFigure).before args s = true := cwS9 hts km_X7_36 kt_X7_isFigure kn_X7 kk_X7_isFigure rfl rfl (by decide +kernel) hR
abbrev rm_Tokens_readFigures : Room := { frames := 1, cells := 0, slots := 0, locals := 23 }
set_option maxHeartbeats 4000000 in
set_option maxRecDepth 100000 in
theorem c_Tokens_readFigures (l : Launch) (D : va_G) (q : Nat → ClassId) (A : Nat → Prop) (ad : Nat → Nat) (a1 : Nat) (a2 : Int32) (a3 : Int32) (k1 : kX a1 = 20) (h : Hs) (Q : Hs → Prop) (hw : p_Tokens_readFigures a1 a2 a3 h Q) : Met l yX7_readFigures (mw yX7_readFigures cX7_readFigures 5 none) rm_Tokens_readFigures (va_Pc [.ref (ad 43), .ref (ad a1), .int a2, .int a3] (pW D q A (wX q ad h))) (va_Qv Q (fun h t => pW D q A (wX q ad h) t) A) 0 0 A := by
  refine met_v (Qp := Q) (by decide) (Nat.le_of_ble_eq_true rfl) ?_
  intro p e R s m args below meth c Qm ls hR1 hR2 S RT hl G
  have hx := S.1
  have hb := S.2.1
  have hl : lv_has ls 5 [(0, .ref (ad 43)), (1, .ref (ad a1)), (2, .int a2), (3, .int a3)] := hl
  unfold p_Tokens_readFigures at hw
  refine lv_aload_n hx hb dX7_readFigures_0 rfl (lv_at hl 1 rfl) ?_
  refine lv_iload_n hx hb dX7_readFigures_1 rfl (lv_at hl 3 rfl) ?_
  obtain ⟨i_2, hw⟩ := hw
  refine x_iald (k := a3.toNatClampNeg) S G (xe_20 k1 rfl) i_2 rfl rfl dX7_readFigures_2 ?_
  refine lv_bipush (v := 48) hx hb dX7_readFigures_3 (by decide) ?_
  refine lv_isub hx hb dX7_readFigures_5 ?_
  refine lv_topi (fun a4_6 ea4_6 => ?_)
  have hw := hw a4_6 ea4_6
  refine lv_istore (lv' := [(4, .int a4_6), (0, .ref (ad 43)), (1, .ref (ad a1)), (2, .int a2), (3, .int a3)]) hx hb dX7_readFigures_6 hl (by decide) rfl (fun ls hl => ?_)
  have hw := hw (fun (b4_8 : Int32) (g_8 : Hs) => ∀ (ls : Array Slot) (H : Heap) (locs : List Loc), lv_has ls 5 [(0, .ref (ad 43)), (1, .ref (ad a1)), (2, .int a2), (3, .int a3), (4, .int b4_8)] → okW D q A s (wX q ad g_8) H locs → W p l e R s m args below meth c H locs 0 0 Qm (F0 m 8 ls [])) (by
    intro b4_8 g_8 hw ls H locs hl G
    refine lv_aload_n hx hb dX7_readFigures_8 rfl (lv_at hl 0 rfl) ?_
    refine x_get (C := RX7) (T := TX7) (n := 5) S G inX7 (xe_8 kx_43) rfl 4 (by decide) kf_X7_25 rfl dX7_readFigures_9 ?_
    refine lv_iload_n hx hb dX7_readFigures_12 rfl (lv_at hl 2 rfl) ?_
    have hw := hw (∀ (ls : Array Slot) (H : Heap) (locs : List Loc), lv_has ls 5 [(0, .ref (ad 43)), (3, .int a3), (4, .int b4_8)] → okW D q A s (wX q ad g_8) H locs → W p l e R s m args below meth c H locs 0 0 Qm (F0 m 68 ls [])) (by
      intro hw ls H locs hl G
      refine lv_aload_n hx hb dX7_readFigures_68 rfl (lv_at hl 0 rfl) ?_
      refine lv_iload_n hx hb dX7_readFigures_69 rfl (lv_at hl 1 rfl) ?_
      refine lv_aload_n hx hb dX7_readFigures_70 rfl (lv_at hl 0 rfl) ?_
      refine x_get (C := RX7) (T := TX7) (n := 5) S G inX7 (xe_8 kx_43) rfl 4 (by decide) kf_X7_25 rfl dX7_readFigures_71 ?_
      refine lv_iload_n hx hb dX7_readFigures_74 rfl (lv_at hl 1 rfl) ?_
      refine lv_isub hx hb dX7_readFigures_75 ?_
      refine lv_iconst (v := 3) hx hb dX7_readFigures_76 (by decide) ?_
      have hw := hw (fun (t2_85 : Int32) => ∀ (ls : Array Slot) (H : Heap) (locs : List Loc), lv_has ls 5 [(4, .int b4_8)] → okW D q A s (wX q ad g_8) H locs → W p l e R s m args below meth c H locs 0 0 Qm (F0 m 85 ls [.int t2_85, .int a3, .ref (ad 43)])) (by
        intro t2_85 hw ls H locs hl G
        refine lv_iload hx hb dX7_readFigures_85 (lv_at hl 0 rfl) ?_
        refine x_Vv S hl.1 G (c_Tokens_keep l D q A ad a3 t2_85 b4_8 g_8 _ hw) (cw_X7_42 S.2.2.2.2 ⟨Nat.le_trans (Nat.le_of_ble_eq_true rfl) hR1, Nat.le_trans (Nat.le_of_ble_eq_true rfl) hR2⟩) (xe_8 kx_43) rfl rfl rfl (Nat.le_of_ble_eq_true rfl) dX7_readFigures_87 (fun h_87 H locs G hw => ?_)
        exact RT _ _ _ _ _ G hw dX7_readFigures_90)
      refine lv_icmp_gt (tgt := 84) hx hb dX7_readFigures_77 (by decide) (fun c_77 => ?_) (fun c_77 => ?_)
      · have hw := hw.1 c_77
        refine lv_iconst (v := 3) hx hb dX7_readFigures_84 (by decide) ?_
        exact hw _ _ _ (lv_sub hl [2] rfl) G
      · have hw := hw.2 c_77
        refine lv_iconst (v := 1) hx hb dX7_readFigures_80 (by decide) ?_
        refine lv_goto (tgt := 85) hx hb dX7_readFigures_81 (by decide) ?_
        exact hw _ _ _ (lv_sub hl [2] rfl) G)
    refine lv_icmp_ge (tgt := 68) hx hb dX7_readFigures_13 (by decide) (fun c_13 => ?_) (fun c_13 => ?_)
    · have hw := hw.1 c_13
      exact hw _ _ _ (lv_sub hl [0, 3, 4] rfl) G
    · have hw := hw.2 c_13
      refine lv_aload_n hx hb dX7_readFigures_16 rfl (lv_at hl 1 rfl) ?_
      refine lv_aload_n hx hb dX7_readFigures_17 rfl (lv_at hl 0 rfl) ?_
      refine x_get (C := RX7) (T := TX7) (n := 5) S G inX7 (xe_8 kx_43) rfl 4 (by decide) kf_X7_25 rfl dX7_readFigures_18 ?_
      obtain ⟨i_21, hw⟩ := hw
      refine x_iald (k := (gi g_8 43 4).toNatClampNeg) S G (xe_20 k1 rfl) i_21 rfl rfl dX7_readFigures_21 ?_
      refine x_SzP S hl.1 G (c_Tokens_isFigure l D q A ad (gi g_8 a1 ((gi g_8 43 4).toNatClampNeg)) g_8 _ hw) (cw_X7_36 S.2.2.2.2 ⟨Nat.le_trans (Nat.le_of_ble_eq_true rfl) hR1, Nat.le_trans (Nat.le_of_ble_eq_true rfl) hR2⟩) rfl rfl (Nat.le_of_ble_eq_true rfl) dX7_readFigures_22 (fun r_22 H locs G z_22 hw => ?_)
      refine lv_if_eq (tgt := 68) hx hb dX7_readFigures_25 (by decide) (fun c_25 => ?_) (fun c_25 => ?_)
      · have hw := hw.1 c_25
        exact hw _ _ _ (lv_sub hl [0, 3, 4] rfl) G
      · have hw := hw.2 c_25
        refine lv_aload_n hx hb dX7_readFigures_28 rfl (lv_at hl 0 rfl) ?_
        refine x_get (C := RX7) (T := TX7) (n := 5) S G inX7 (xe_8 kx_43) rfl 4 (by decide) kf_X7_25 rfl dX7_readFigures_29 ?_
        refine lv_iload_n hx hb dX7_readFigures_32 rfl (lv_at hl 3 rfl) ?_
        refine lv_isub hx hb dX7_readFigures_33 ?_
        refine lv_iconst (v := 3) hx hb dX7_readFigures_34 (by decide) ?_
        have hw := hw (fun (b4_55 : Int32) => ∀ (ls : Array Slot) (H : Heap) (locs : List Loc), lv_has ls 5 [(0, .ref (ad 43)), (1, .ref (ad a1)), (2, .int a2), (3, .int a3), (4, .int b4_55)] → okW D q A s (wX q ad g_8) H locs → W p l e R s m args below meth c H locs 0 0 Qm (F0 m 55 ls [])) (by
          intro b4_55 hw ls H locs hl G
          refine lv_aload_n hx hb dX7_readFigures_55 rfl (lv_at hl 0 rfl) ?_
          refine lv_dup hx hb dX7_readFigures_56 rfl ?_
          refine x_get (C := RX7) (T := TX7) (n := 5) S G inX7 (xe_8 kx_43) rfl 4 (by decide) kf_X7_25 rfl dX7_readFigures_57 ?_
          refine lv_iconst (v := 1) hx hb dX7_readFigures_60 (by decide) ?_
          refine lv_iadd hx hb dX7_readFigures_61 ?_
          refine x_put (C := RX7) (T := TX7) (n := 5) S G inX7 tyX7 tyX7_ok nmX7 (xe_8 kx_43) rfl 4 (by decide) kf_X7_25 rfl rfl rfl (Nat.le_of_ble_eq_true rfl) (xp_8_4 kx_43) dX7_readFigures_62 (fun H locs G => ?_)
          obtain ⟨h_62, eh_62⟩ : ∃ y : Hs, y = si g_8 43 4 ((gi g_8 43 4) + 1) := ⟨_, rfl⟩
          rw [← eh_62] at G
          have hw := hw h_62 eh_62
          refine lv_goto (tgt := 8) hx hb dX7_readFigures_65 (by decide) ?_
          exact hw _ _ _ (lv_sub hl [0, 1, 2, 3, 4] rfl) G)
        refine lv_icmp_ge (tgt := 55) hx hb dX7_readFigures_35 (by decide) (fun c_35 => ?_) (fun c_35 => ?_)
        · have hw := hw.1 c_35
          exact hw _ _ _ (lv_sub hl [0, 1, 2, 3, 4] rfl) G
        · have hw := hw.2 c_35
          refine lv_bipush (v := 10) hx hb dX7_readFigures_38 (by decide) ?_
          refine lv_iload hx hb dX7_readFigures_40 (lv_at hl 4 rfl) ?_
          refine lv_imul hx hb dX7_readFigures_42 ?_
          refine lv_aload_n hx hb dX7_readFigures_43 rfl (lv_at hl 1 rfl) ?_
          refine lv_aload_n hx hb dX7_readFigures_44 rfl (lv_at hl 0 rfl) ?_
          refine x_get (C := RX7) (T := TX7) (n := 5) S G inX7 (xe_8 kx_43) rfl 4 (by decide) kf_X7_25 rfl dX7_readFigures_45 ?_
          obtain ⟨i_48, hw⟩ := hw
          refine x_iald (k := (gi g_8 43 4).toNatClampNeg) S G (xe_20 k1 rfl) i_48 rfl rfl dX7_readFigures_48 ?_
          refine lv_iadd hx hb dX7_readFigures_49 ?_
          refine lv_bipush (v := 48) hx hb dX7_readFigures_50 (by decide) ?_
          refine lv_isub hx hb dX7_readFigures_52 ?_
          refine lv_topi (fun a4_53 ea4_53 => ?_)
          have hw := hw a4_53 ea4_53
          refine lv_istore (lv' := [(4, .int a4_53), (0, .ref (ad 43)), (1, .ref (ad a1)), (2, .int a2), (3, .int a3)]) hx hb dX7_readFigures_53 hl (by decide) rfl (fun ls hl => ?_)
          exact hw _ _ _ (lv_sub hl [1, 2, 3, 4, 0] rfl) G)
  exact hw _ _ _ (lv_sub hl [1, 2, 3, 4, 0] rfl) G
theorem cw_X7_39 {R : Room} {s : State} {args : Array Value} (hts : ∀ w ∈ gW, w.before args s = true) (hR : rm_Tokens_readFigures.frames + 1 ≤ R.frames ∧ 8 + (5 + 11) + rm_Tokens_readFigures.locals ≤ R.locals) : CallW R s args RX7 RX7 39 yX7_readFigures cX7_readFigures 5 none (mw yX7_readFigures cX7_readFigures 5 none) rm_Tokens_readFigures 0 0 3 := cwV9 hts km_X7_39 ki_X7_readFigures ks_X7_readFigures kn_X7 kk_X7_readFigures rfl rfl (by decide +kernel) hR
abbrev rm_Tokens_read : Room := { frames := 2, cells := 0, slots := 0, locals := 48 }
set_option maxHeartbeats 4000000 in
set_option maxRecDepth 100000 in
theorem c_Tokens_read (l : Launch) (D : va_G) (q : Nat → ClassId) (A : Nat → Prop) (ad : Nat → Nat) (a1 : Nat) (a2 : Int32) (k1 : kX a1 = 20) (h : Hs) (Q : Hs → Prop) (hw : p_Tokens_read a1 a2 h Q) : Met l yX7_read (mw yX7_read cX7_read 5 none) rm_Tokens_read (va_Pc [.ref (ad 43), .ref (ad a1), .int a2] (pW D q A (wX q ad h))) (va_Qv Q (fun h t => pW D q A (wX q ad h) t) A) 0 0 A := by
  refine met_v (Qp := Q) (by decide) (Nat.le_of_ble_eq_true rfl) ?_
  intro p e R s m args below meth c Qm ls hR1 hR2 S RT hl G
  have hx := S.1
  have hb := S.2.1
  have hl : lv_has ls 5 [(0, .ref (ad 43)), (1, .ref (ad a1)), (2, .int a2)] := hl
  unfold p_Tokens_read at hw
  refine lv_aload_n hx hb dX7_read_0 rfl (lv_at hl 0 rfl) ?_
  refine lv_iconst (v := 0) hx hb dX7_read_1 (by decide) ?_
  refine x_put (C := RX7) (T := TX7) (n := 5) S G inX7 tyX7 tyX7_ok nmX7 (xe_8 kx_43) rfl 3 (by decide) kf_X7_21 rfl rfl rfl (Nat.le_of_ble_eq_true rfl) (xp_8_3 kx_43) dX7_read_2 (fun H locs G => ?_)
  obtain ⟨h_2, eh_2⟩ : ∃ y : Hs, y = si h 43 3 0 := ⟨_, rfl⟩
  rw [← eh_2] at G
  have hw := hw h_2 eh_2
  refine lv_aload_n hx hb dX7_read_5 rfl (lv_at hl 0 rfl) ?_
  refine lv_iconst (v := 0) hx hb dX7_read_6 (by decide) ?_
  refine x_put (C := RX7) (T := TX7) (n := 5) S G inX7 tyX7 tyX7_ok nmX7 (xe_8 kx_43) rfl 4 (by decide) kf_X7_25 rfl rfl rfl (Nat.le_of_ble_eq_true rfl) (xp_8_4 kx_43) dX7_read_7 (fun H locs G => ?_)
  obtain ⟨h_7, eh_7⟩ : ∃ y : Hs, y = si h_2 43 4 0 := ⟨_, rfl⟩
  rw [← eh_7] at G
  have hw := hw h_7 eh_7
  have hw := hw (fun (g_10 : Hs) => ∀ (ls : Array Slot) (H : Heap) (locs : List Loc), lv_has ls 5 [(0, .ref (ad 43)), (1, .ref (ad a1)), (2, .int a2)] → okW D q A s (wX q ad g_10) H locs → W p l e R s m args below meth c H locs 0 0 Qm (F0 m 10 ls [])) (by
    intro g_10 hw ls H locs hl G
    refine lv_aload_n hx hb dX7_read_10 rfl (lv_at hl 0 rfl) ?_
    refine x_get (C := RX7) (T := TX7) (n := 5) S G inX7 (xe_8 kx_43) rfl 4 (by decide) kf_X7_25 rfl dX7_read_11 ?_
    refine lv_iload_n hx hb dX7_read_14 rfl (lv_at hl 2 rfl) ?_
    have hw := hw (∀ (ls : Array Slot) (H : Heap) (locs : List Loc), lv_has ls 5 [(0, .ref (ad 43)), (2, .int a2)] → okW D q A s (wX q ad g_10) H locs → W p l e R s m args below meth c H locs 0 0 Qm (F0 m 113 ls [])) (by
      intro hw ls H locs hl G
      refine lv_aload_n hx hb dX7_read_113 rfl (lv_at hl 0 rfl) ?_
      refine lv_iload_n hx hb dX7_read_114 rfl (lv_at hl 1 rfl) ?_
      refine lv_iconst (v := 0) hx hb dX7_read_115 (by decide) ?_
      refine lv_iconst (v := 0) hx hb dX7_read_116 (by decide) ?_
      refine x_Vv S hl.1 G (c_Tokens_keep l D q A ad a2 0 0 g_10 _ hw) (cw_X7_42 S.2.2.2.2 ⟨Nat.le_trans (Nat.le_of_ble_eq_true rfl) hR1, Nat.le_trans (Nat.le_of_ble_eq_true rfl) hR2⟩) (xe_8 kx_43) rfl rfl rfl (Nat.le_of_ble_eq_true rfl) dX7_read_117 (fun h_117 H locs G hw => ?_)
      exact RT _ _ _ _ _ G hw dX7_read_120)
    refine lv_icmp_ge (tgt := 113) hx hb dX7_read_15 (by decide) (fun c_15 => ?_) (fun c_15 => ?_)
    · have hw := hw.1 c_15
      exact hw _ _ _ (lv_sub hl [0, 2] rfl) G
    · have hw := hw.2 c_15
      refine lv_aload_n hx hb dX7_read_18 rfl (lv_at hl 0 rfl) ?_
      refine x_get (C := RX7) (T := TX7) (n := 5) S G inX7 (xe_8 kx_43) rfl 4 (by decide) kf_X7_25 rfl dX7_read_19 ?_
      refine lv_aload_n hx hb dX7_read_22 rfl (lv_at hl 1 rfl) ?_
      refine x_alen (v := nI (lX a1)) S G 0 (xe_20 k1 rfl) rfl rfl dX7_read_23 ?_
      refine lv_icmp_ge (tgt := 113) hx hb dX7_read_24 (by decide) (fun c_24 => ?_) (fun c_24 => ?_)
      · have hw := hw.1 c_24
        exact hw _ _ _ (lv_sub hl [0, 2] rfl) G
      · have hw := hw.2 c_24
        refine lv_aload_n hx hb dX7_read_27 rfl (lv_at hl 1 rfl) ?_
        refine lv_aload_n hx hb dX7_read_28 rfl (lv_at hl 0 rfl) ?_
        refine x_get (C := RX7) (T := TX7) (n := 5) S G inX7 (xe_8 kx_43) rfl 4 (by decide) kf_X7_25 rfl dX7_read_29 ?_
        obtain ⟨i_32, hw⟩ := hw
        refine x_iald (k := (gi g_10 43 4).toNatClampNeg) S G (xe_20 k1 rfl) i_32 rfl rfl dX7_read_32 ?_
        refine lv_topi (fun a3_33 ea3_33 => ?_)
        have hw := hw a3_33 ea3_33
        refine lv_istore_n (lv' := [(3, .int a3_33), (0, .ref (ad 43)), (1, .ref (ad a1)), (2, .int a2)]) hx hb dX7_read_33 rfl hl (by decide) rfl (fun ls hl => ?_)
        refine lv_aload_n hx hb dX7_read_34 rfl (lv_at hl 1 rfl) ?_
        refine x_get (C := RX7) (T := TX7) (n := 5) S G inX7 (xe_8 kx_43) rfl 4 (by decide) kf_X7_25 rfl dX7_read_35 ?_
        refine lv_topi (fun a4_38 ea4_38 => ?_)
        have hw := hw a4_38 ea4_38
        refine lv_istore (lv' := [(4, .int a4_38), (3, .int a3_33), (0, .ref (ad 43)), (1, .ref (ad a1)), (2, .int a2)]) hx hb dX7_read_38 hl (by decide) rfl (fun ls hl => ?_)
        refine lv_aload_n hx hb dX7_read_40 rfl (lv_at hl 2 rfl) ?_
        refine lv_dup hx hb dX7_read_41 rfl ?_
        refine x_get (C := RX7) (T := TX7) (n := 5) S G inX7 (xe_8 kx_43) rfl 4 (by decide) kf_X7_25 rfl dX7_read_42 ?_
        refine lv_iconst (v := 1) hx hb dX7_read_45 (by decide) ?_
        refine lv_iadd hx hb dX7_read_46 ?_
        refine x_put (C := RX7) (T := TX7) (n := 5) S G inX7 tyX7 tyX7_ok nmX7 (xe_8 kx_43) rfl 4 (by decide) kf_X7_25 rfl rfl rfl (Nat.le_of_ble_eq_true rfl) (xp_8_4 kx_43) dX7_read_47 (fun H locs G => ?_)
        obtain ⟨h_47, eh_47⟩ : ∃ y : Hs, y = si g_10 43 4 ((gi g_10 43 4) + 1) := ⟨_, rfl⟩
        rw [← eh_47] at G
        have hw := hw h_47 eh_47
        refine lv_iload_n hx hb dX7_read_50 rfl (lv_at hl 1 rfl) ?_
        refine x_SzP S hl.1 G (c_Tokens_isLetter l D q A ad a3_33 h_47 _ hw) (cw_X7_28 S.2.2.2.2 ⟨Nat.le_trans (Nat.le_of_ble_eq_true rfl) hR1, Nat.le_trans (Nat.le_of_ble_eq_true rfl) hR2⟩) rfl rfl (Nat.le_of_ble_eq_true rfl) dX7_read_51 (fun r_51 H locs G z_51 hw => ?_)
        have hw := hw (fun (g_110 : Hs) => ∀ (ls : Array Slot) (H : Heap) (locs : List Loc), lv_has ls 5 [(0, .ref (ad 43)), (1, .ref (ad a1)), (2, .int a2)] → okW D q A s (wX q ad g_110) H locs → W p l e R s m args below meth c H locs 0 0 Qm (F0 m 110 ls [])) (by
          intro g_110 hw ls H locs hl G
          refine lv_goto (tgt := 10) hx hb dX7_read_110 (by decide) ?_
          exact hw _ _ _ (lv_sub hl [0, 1, 2] rfl) G)
        refine lv_if_eq (tgt := 68) hx hb dX7_read_54 (by decide) (fun c_54 => ?_) (fun c_54 => ?_)
        · have hw := hw.1 c_54
          refine lv_iload_n hx hb dX7_read_68 rfl (lv_at hl 1 rfl) ?_
          refine x_SzP S hl.1 G (c_Tokens_isFigure l D q A ad a3_33 h_47 _ hw) (cw_X7_36 S.2.2.2.2 ⟨Nat.le_trans (Nat.le_of_ble_eq_true rfl) hR1, Nat.le_trans (Nat.le_of_ble_eq_true rfl) hR2⟩) rfl rfl (Nat.le_of_ble_eq_true rfl) dX7_read_69 (fun r_69 H locs G z_69 hw => ?_)
          refine lv_if_eq (tgt := 86) hx hb dX7_read_72 (by decide) (fun c_72 => ?_) (fun c_72 => ?_)
          · have hw := hw.1 c_72
            refine lv_iload_n hx hb dX7_read_86 rfl (lv_at hl 1 rfl) ?_
            refine lv_bipush (v := 32) hx hb dX7_read_87 (by decide) ?_
            refine lv_icmp_eq (tgt := 110) hx hb dX7_read_89 (by decide) (fun c_89 => ?_) (fun c_89 => ?_)
            · have hw := hw.1 c_89
              exact hw _ _ _ (lv_sub hl [2, 3, 4] rfl) G
            · have hw := hw.2 c_89
              refine lv_aload_n hx hb dX7_read_92 rfl (lv_at hl 2 rfl) ?_
              refine lv_iload hx hb dX7_read_93 (lv_at hl 0 rfl) ?_
              refine lv_iload_n hx hb dX7_read_95 rfl (lv_at hl 1 rfl) ?_
              refine lv_bipush (v := 59) hx hb dX7_read_96 (by decide) ?_
              have hw := hw (fun (t2_106 : Int32) => ∀ (ls : Array Slot) (H : Heap) (locs : List Loc), lv_has ls 5 [(0, .ref (ad 43)), (1, .ref (ad a1)), (2, .int a2)] → okW D q A s (wX q ad h_47) H locs → W p l e R s m args below meth c H locs 0 0 Qm (F0 m 106 ls [.int t2_106, .int a4_38, .ref (ad 43)])) (by
                intro t2_106 hw ls H locs hl G
                refine lv_iconst (v := 0) hx hb dX7_read_106 (by decide) ?_
                refine x_Vv S hl.1 G (c_Tokens_keep l D q A ad a4_38 t2_106 0 h_47 _ hw) (cw_X7_42 S.2.2.2.2 ⟨Nat.le_trans (Nat.le_of_ble_eq_true rfl) hR1, Nat.le_trans (Nat.le_of_ble_eq_true rfl) hR2⟩) (xe_8 kx_43) rfl rfl rfl (Nat.le_of_ble_eq_true rfl) dX7_read_107 (fun h_107 H locs G hw => ?_)
                exact hw _ _ _ (lv_sub hl [0, 1, 2] rfl) G)
              refine lv_icmp_ne (tgt := 105) hx hb dX7_read_98 (by decide) (fun c_98 => ?_) (fun c_98 => ?_)
              · have hw := hw.1 c_98
                refine lv_iconst (v := 3) hx hb dX7_read_105 (by decide) ?_
                exact hw _ _ _ (lv_sub hl [2, 3, 4] rfl) G
              · have hw := hw.2 c_98
                refine lv_iconst (v := 2) hx hb dX7_read_101 (by decide) ?_
                refine lv_goto (tgt := 106) hx hb dX7_read_102 (by decide) ?_
                exact hw _ _ _ (lv_sub hl [2, 3, 4] rfl) G
          · have hw := hw.2 c_72
            refine lv_aload_n hx hb dX7_read_75 rfl (lv_at hl 2 rfl) ?_
            refine lv_aload_n hx hb dX7_read_76 rfl (lv_at hl 3 rfl) ?_
            refine lv_iload_n hx hb dX7_read_77 rfl (lv_at hl 4 rfl) ?_
            refine lv_iload hx hb dX7_read_78 (lv_at hl 0 rfl) ?_
            refine x_Vv S hl.1 G (c_Tokens_readFigures l D q A ad a1 a2 a4_38 k1 h_47 _ hw) (cw_X7_39 S.2.2.2.2 ⟨Nat.le_trans (Nat.le_of_ble_eq_true rfl) hR1, Nat.le_trans (Nat.le_of_ble_eq_true rfl) hR2⟩) (xe_8 kx_43) rfl rfl rfl (Nat.le_of_ble_eq_true rfl) dX7_read_80 (fun h_80 H locs G hw => ?_)
            refine lv_goto (tgt := 110) hx hb dX7_read_83 (by decide) ?_
            exact hw _ _ _ (lv_sub hl [2, 3, 4] rfl) G
        · have hw := hw.2 c_54
          refine lv_aload_n hx hb dX7_read_57 rfl (lv_at hl 2 rfl) ?_
          refine lv_aload_n hx hb dX7_read_58 rfl (lv_at hl 3 rfl) ?_
          refine lv_iload_n hx hb dX7_read_59 rfl (lv_at hl 4 rfl) ?_
          refine lv_iload hx hb dX7_read_60 (lv_at hl 0 rfl) ?_
          refine x_Vv S hl.1 G (c_Tokens_readLetters l D q A ad a1 a2 a4_38 k1 h_47 _ hw) (cw_X7_32 S.2.2.2.2 ⟨Nat.le_trans (Nat.le_of_ble_eq_true rfl) hR1, Nat.le_trans (Nat.le_of_ble_eq_true rfl) hR2⟩) (xe_8 kx_43) rfl rfl rfl (Nat.le_of_ble_eq_true rfl) dX7_read_62 (fun h_62 H locs G hw => ?_)
          refine lv_goto (tgt := 110) hx hb dX7_read_65 (by decide) ?_
          exact hw _ _ _ (lv_sub hl [2, 3, 4] rfl) G)
  exact hw _ _ _ (lv_sub hl [0, 1, 2] rfl) G
theorem cw_X3_60 {R : Room} {s : State} {args : Array Value} (hts : ∀ w ∈ gW, w.before args s = true) (hR : rm_Tokens_read.frames + 1 ≤ R.frames ∧ 8 + (5 + 11) + rm_Tokens_read.locals ≤ R.locals) : CallW R s args RX3 RX7 60 yX7_read cX7_read 5 none (mw yX7_read cX7_read 5 none) rm_Tokens_read 0 0 2 := cwV9 hts km_X3_60 ki_X7_read ks_X7_read kn_X7 kk_X7_read rfl rfl (by decide +kernel) hR
abbrev rm_Arr_fill : Room := { frames := 0, cells := 0, slots := 0, locals := 0 }
set_option maxHeartbeats 4000000 in
set_option maxRecDepth 100000 in
theorem c_Arr_fill (l : Launch) (D : va_G) (q : Nat → ClassId) (A : Nat → Prop) (ad : Nat → Nat) (a0 : Nat) (a1 : Int32) (k0 : kX a0 = 20) (h : Hs) (Q : Hs → Prop) (hw : p_Arr_fill a0 a1 h Q) : Met l yJ7_fill_53178 (mw yJ7_fill_53178 cJ7_fill_53178 4 none) rm_Arr_fill (va_Pc [.ref (ad a0), .int a1] (pW D q A (wX q ad h))) (va_Qv Q (fun h t => pW D q A (wX q ad h) t) A) 0 0 A := by
  refine met_v (Qp := Q) (by decide) (Nat.le_of_ble_eq_true rfl) ?_
  intro p e R s m args below meth c Qm ls hR1 hR2 S RT hl G
  have hx := S.1
  have hb := S.2.1
  have hl : lv_has ls 4 [(0, .ref (ad a0)), (1, .int a1)] := hl
  unfold p_Arr_fill at hw
  refine lv_iconst (v := 0) hx hb dJ7_fill_53178_0 (by decide) ?_
  refine lv_istore_n (lv' := [(2, .int 0), (0, .ref (ad a0)), (1, .int a1)]) hx hb dJ7_fill_53178_1 rfl hl (by decide) rfl (fun ls hl => ?_)
  refine lv_aload_n hx hb dJ7_fill_53178_2 rfl (lv_at hl 1 rfl) ?_
  refine x_alen (v := nI (lX a0)) S G 0 (xe_20 k0 rfl) rfl rfl dJ7_fill_53178_3 ?_
  refine lv_topi (fun a3_4 ea3_4 => ?_)
  have hw := hw a3_4 ea3_4
  refine lv_istore_n (lv' := [(3, .int a3_4), (2, .int 0), (0, .ref (ad a0)), (1, .int a1)]) hx hb dJ7_fill_53178_4 rfl hl (by decide) rfl (fun ls hl => ?_)
  have hw := hw (fun (b2_5 : Int32) (g_5 : Hs) => ∀ (ls : Array Slot) (H : Heap) (locs : List Loc), lv_has ls 4 [(0, .ref (ad a0)), (1, .int a1), (2, .int b2_5), (3, .int a3_4)] → okW D q A s (wX q ad g_5) H locs → W p l e R s m args below meth c H locs 0 0 Qm (F0 m 5 ls [])) (by
    intro b2_5 g_5 hw ls H locs hl G
    refine lv_iload_n hx hb dJ7_fill_53178_5 rfl (lv_at hl 2 rfl) ?_
    refine lv_iload_n hx hb dJ7_fill_53178_6 rfl (lv_at hl 3 rfl) ?_
    refine lv_icmp_ge (tgt := 20) hx hb dJ7_fill_53178_7 (by decide) (fun c_7 => ?_) (fun c_7 => ?_)
    · have hw := hw.1 c_7
      exact RT _ _ _ _ _ G hw dJ7_fill_53178_20
    · have hw := hw.2 c_7
      refine lv_aload_n hx hb dJ7_fill_53178_10 rfl (lv_at hl 0 rfl) ?_
      refine lv_iload_n hx hb dJ7_fill_53178_11 rfl (lv_at hl 2 rfl) ?_
      refine lv_iload_n hx hb dJ7_fill_53178_12 rfl (lv_at hl 1 rfl) ?_
      obtain ⟨i_13, hw⟩ := hw
      refine x_iast (k := b2_5.toNatClampNeg) S G (xe_20 k0 rfl) i_13 rfl (xs_20 k0 rfl) dJ7_fill_53178_13 (fun H locs G => ?_)
      obtain ⟨h_13, eh_13⟩ : ∃ y : Hs, y = si g_5 a0 b2_5.toNatClampNeg a1 := ⟨_, rfl⟩
      rw [← eh_13] at G
      have hw := hw h_13 eh_13
      obtain ⟨a2_14, ea2_14⟩ : ∃ y : Int32, y = b2_5 + 1 := ⟨_, rfl⟩
      have hw := hw a2_14 ea2_14
      refine lv_iinc (v := a2_14) (lv' := [(2, .int a2_14), (0, .ref (ad a0)), (1, .int a1), (3, .int a3_4)]) hx hb dJ7_fill_53178_14 hl (k := 2) rfl (by rw [ea2_14]; rfl) (by decide) rfl (fun ls hl => ?_)
      refine lv_goto (tgt := 5) hx hb dJ7_fill_53178_17 (by decide) ?_
      exact hw _ _ _ (lv_sub hl [1, 2, 0, 3] rfl) G)
  exact hw _ _ _ (lv_sub hl [2, 3, 1, 0] rfl) G
theorem cw_X6_38 {R : Room} {s : State} {args : Array Value} (hts : ∀ w ∈ gW, w.before args s = true) (hR : rm_Arr_fill.frames + 1 ≤ R.frames ∧ 8 + (4 + 11) + rm_Arr_fill.locals ≤ R.locals) : CallB R s args RX6 38 yJ7_fill_53178 cJ7_fill_53178 4 none (mw yJ7_fill_53178 cJ7_fill_53178 4 none) rm_Arr_fill 0 0 2 ∧ (Cond.static yJ7_fill_53178).before args s = true := cwS9 hts km_X6_38 kt_J7_fill_53178 kn_J7 kk_J7_fill_53178 rfl rfl (by decide +kernel) hR
theorem cw_X3_88 {R : Room} {s : State} {args : Array Value} (hts : ∀ w ∈ gW, w.before args s = true) (hR : rm_Arr_fill.frames + 1 ≤ R.frames ∧ 8 + (4 + 11) + rm_Arr_fill.locals ≤ R.locals) : CallB R s args RX3 88 yJ7_fill_53178 cJ7_fill_53178 4 none (mw yJ7_fill_53178 cJ7_fill_53178 4 none) rm_Arr_fill 0 0 2 ∧ (Cond.static yJ7_fill_53178).before args s = true := cwS9 hts km_X3_88 kt_J7_fill_53178 kn_J7 kk_J7_fill_53178 rfl rfl (by decide +kernel) hR
theorem cw_X4_18 {R : Room} {s : State} {args : Array Value} (hts : ∀ w ∈ gW, w.before args s = true) (hR : rm_Arr_fill.frames + 1 ≤ R.frames ∧ 8 + (4 + 11) + rm_Arr_fill.locals ≤ R.locals) : CallB R s args RX4 18 yJ7_fill_53178 cJ7_fill_53178 4 none (mw yJ7_fill_53178 cJ7_fill_53178 4 none) rm_Arr_fill 0 0 2 ∧ (Cond.static yJ7_fill_53178).before args s = true := cwS9 hts km_X4_18 kt_J7_fill_53178 kn_J7 kk_J7_fill_53178 rfl rfl (by decide +kernel) hR
abbrev rm_Tokens_tokenAt : Room := { frames := 0, cells := 0, slots := 0, locals := 0 }
set_option maxHeartbeats 4000000 in
set_option maxRecDepth 100000 in
theorem c_Tokens_tokenAt (l : Launch) (D : va_G) (q : Nat → ClassId) (A : Nat → Prop) (ad : Nat → Nat) (a1 : Int32) (h : Hs) (Q : Int32 → Prop) (hw : p_Tokens_tokenAt a1 h Q) : Met l yX7_tokenAt (mw yX7_tokenAt cX7_tokenAt 2 (some .int)) rm_Tokens_tokenAt (va_Pc [.ref (ad 43), .int a1] (pW D q A (wX q ad h))) (va_Qi (fun r h9 => h9 = h ∧ Q r) (fun h t => pW D q A (wX q ad h) t) A) 0 0 A := by
  refine met_i (Qp := (fun r h9 => h9 = h ∧ Q r)) (by decide) (Nat.le_of_ble_eq_true rfl) ?_
  intro p e R s m args below meth c Qm ls hR1 hR2 S RT hl G
  have hx := S.1
  have hb := S.2.1
  have hl : lv_has ls 2 [(0, .ref (ad 43)), (1, .int a1)] := hl
  unfold p_Tokens_tokenAt at hw
  refine lv_iload_n hx hb dX7_tokenAt_0 rfl (lv_at hl 1 rfl) ?_
  have hw := hw (fun (t0_22 : Int32) => ∀ (ls : Array Slot) (H : Heap) (locs : List Loc), lv_has ls 2 [] → okW D q A s (wX q ad h) H locs → W p l e R s m args below meth c H locs 0 0 Qm (F0 m 22 ls [.int t0_22])) (by
    intro t0_22 hw ls H locs hl G
    exact RT _ _ _ _ _ _ G ⟨rfl, hw⟩ dX7_tokenAt_22)
  have hw := hw (∀ (ls : Array Slot) (H : Heap) (locs : List Loc), lv_has ls 2 [] → okW D q A s (wX q ad h) H locs → W p l e R s m args below meth c H locs 0 0 Qm (F0 m 21 ls [])) (by
    intro hw ls H locs hl G
    refine lv_iconst (v := 0) hx hb dX7_tokenAt_21 (by decide) ?_
    exact hw _ _ _ (lv_sub hl [] rfl) G)
  refine lv_if_lt (tgt := 21) hx hb dX7_tokenAt_1 (by decide) (fun c_1 => ?_) (fun c_1 => ?_)
  · have hw := hw.1 c_1
    exact hw _ _ _ (lv_sub hl [] rfl) G
  · have hw := hw.2 c_1
    refine lv_iload_n hx hb dX7_tokenAt_4 rfl (lv_at hl 1 rfl) ?_
    refine lv_aload_n hx hb dX7_tokenAt_5 rfl (lv_at hl 0 rfl) ?_
    refine x_get (C := RX7) (T := TX7) (n := 5) S G inX7 (xe_8 kx_43) rfl 3 (by decide) kf_X7_21 rfl dX7_tokenAt_6 ?_
    refine lv_icmp_ge (tgt := 21) hx hb dX7_tokenAt_9 (by decide) (fun c_9 => ?_) (fun c_9 => ?_)
    · have hw := hw.1 c_9
      exact hw _ _ _ (lv_sub hl [] rfl) G
    · have hw := hw.2 c_9
      refine lv_aload_n hx hb dX7_tokenAt_12 rfl (lv_at hl 0 rfl) ?_
      refine x_get (C := RX7) (T := TX7) (n := 5) S G inX7 (xe_8 kx_43) rfl 1 (by decide) kf_X7_15 rfl dX7_tokenAt_13 ?_
      refine lv_iload_n hx hb dX7_tokenAt_16 rfl (lv_at hl 1 rfl) ?_
      obtain ⟨i_17, hw⟩ := hw
      refine x_iald (k := a1.toNatClampNeg) S G (xe_20 kx_45 lx_45) i_17 rfl rfl dX7_tokenAt_17 ?_
      refine lv_goto (tgt := 22) hx hb dX7_tokenAt_18 (by decide) ?_
      exact hw _ _ _ (lv_sub hl [] rfl) G
theorem cw_X6_44 {R : Room} {s : State} {args : Array Value} (hts : ∀ w ∈ gW, w.before args s = true) (hR : rm_Tokens_tokenAt.frames + 1 ≤ R.frames ∧ 8 + (2 + 11) + rm_Tokens_tokenAt.locals ≤ R.locals) : CallW R s args RX6 RX7 44 yX7_tokenAt cX7_tokenAt 2 (some .int) (mw yX7_tokenAt cX7_tokenAt 2 (some .int)) rm_Tokens_tokenAt 0 0 1 := cwV9 hts km_X6_44 ki_X7_tokenAt ks_X7_tokenAt kn_X7 kk_X7_tokenAt rfl rfl (by decide +kernel) hR
abbrev rm_Tale_isLeg : Room := { frames := 0, cells := 0, slots := 0, locals := 0 }
set_option maxHeartbeats 4000000 in
set_option maxRecDepth 100000 in
theorem c_Tale_isLeg (l : Launch) (D : va_G) (q : Nat → ClassId) (A : Nat → Prop) (ad : Nat → Nat) (a0 : Int32) (h : Hs) (Q : Int32 → Prop) (hw : p_Tale_isLeg a0 h Q) : Met l yX6_isLeg (mw yX6_isLeg cX6_isLeg 1 (some .boolean)) rm_Tale_isLeg (va_Pc [.int a0] (pW D q A (wX q ad h))) (va_Qi (fun r h9 => zb r ∧ h9 = h ∧ Q r) (fun h t => pW D q A (wX q ad h) t) A) 0 0 A := by
  refine met_z (Qp := (fun r h9 => h9 = h ∧ Q r)) (by decide) (Nat.le_of_ble_eq_true rfl) ?_
  intro p e R s m args below meth c Qm ls hR1 hR2 S RT hl G
  have hx := S.1
  have hb := S.2.1
  have hl : lv_has ls 1 [(0, .int a0)] := hl
  unfold p_Tale_isLeg at hw
  refine lv_iload_n hx hb dX6_isLeg_0 rfl (lv_at hl 0 rfl) ?_
  refine lv_iconst (v := 4) hx hb dX6_isLeg_1 (by decide) ?_
  have hw := hw (fun (t0_21 : Int32) => ∀ (ls : Array Slot) (H : Heap) (locs : List Loc), lv_has ls 1 [] → okW D q A s (wX q ad h) H locs → W p l e R s m args below meth c H locs 0 0 Qm (F0 m 21 ls [.int t0_21])) (by
    intro t0_21 hw ls H locs hl G
    obtain ⟨z_21, hw⟩ := hw
    exact RT _ _ _ _ _ _ G z_21 ⟨rfl, hw⟩ dX6_isLeg_21)
  have hw := hw (∀ (ls : Array Slot) (H : Heap) (locs : List Loc), lv_has ls 1 [] → okW D q A s (wX q ad h) H locs → W p l e R s m args below meth c H locs 0 0 Qm (F0 m 16 ls [])) (by
    intro hw ls H locs hl G
    refine lv_iconst (v := 1) hx hb dX6_isLeg_16 (by decide) ?_
    refine lv_goto (tgt := 21) hx hb dX6_isLeg_17 (by decide) ?_
    exact hw _ _ _ (lv_sub hl [] rfl) G)
  refine lv_icmp_eq (tgt := 16) hx hb dX6_isLeg_2 (by decide) (fun c_2 => ?_) (fun c_2 => ?_)
  · have hw := hw.1 c_2
    exact hw _ _ _ (lv_sub hl [] rfl) G
  · have hw := hw.2 c_2
    refine lv_iload_n hx hb dX6_isLeg_5 rfl (lv_at hl 0 rfl) ?_
    refine lv_iconst (v := 5) hx hb dX6_isLeg_6 (by decide) ?_
    refine lv_icmp_eq (tgt := 16) hx hb dX6_isLeg_7 (by decide) (fun c_7 => ?_) (fun c_7 => ?_)
    · have hw := hw.1 c_7
      exact hw _ _ _ (lv_sub hl [] rfl) G
    · have hw := hw.2 c_7
      refine lv_iload_n hx hb dX6_isLeg_10 rfl (lv_at hl 0 rfl) ?_
      refine lv_bipush (v := 6) hx hb dX6_isLeg_11 (by decide) ?_
      refine lv_icmp_ne (tgt := 20) hx hb dX6_isLeg_13 (by decide) (fun c_13 => ?_) (fun c_13 => ?_)
      · have hw := hw.1 c_13
        refine lv_iconst (v := 0) hx hb dX6_isLeg_20 (by decide) ?_
        exact hw _ _ _ (lv_sub hl [] rfl) G
      · have hw := hw.2 c_13
        exact hw _ _ _ (lv_sub hl [] rfl) G
theorem cw_X6_65 {R : Room} {s : State} {args : Array Value} (hts : ∀ w ∈ gW, w.before args s = true) (hR : rm_Tale_isLeg.frames + 1 ≤ R.frames ∧ 8 + (1 + 11) + rm_Tale_isLeg.locals ≤ R.locals) : CallB R s args RX6 65 yX6_isLeg cX6_isLeg 1 (some .boolean) (mw yX6_isLeg cX6_isLeg 1 (some .boolean)) rm_Tale_isLeg 0 0 1 ∧ (Cond.static yX6_isLeg).before args s = true := cwS9 hts km_X6_65 kt_X6_isLeg kn_X6 kk_X6_isLeg rfl rfl (by decide +kernel) hR
abbrev rm_Tale_mayBegin : Room := { frames := 1, cells := 0, slots := 0, locals := 20 }
set_option maxHeartbeats 4000000 in
set_option maxRecDepth 100000 in
theorem c_Tale_mayBegin (l : Launch) (D : va_G) (q : Nat → ClassId) (A : Nat → Prop) (ad : Nat → Nat) (a0 : Nat) (a1 : Int32) (k0 : kX a0 = 7) (h : Hs) (Q : Int32 → Prop) (hw : p_Tale_mayBegin a0 a1 h Q) : Met l yX6_mayBegin (mw yX6_mayBegin cX6_mayBegin 2 (some .boolean)) rm_Tale_mayBegin (va_Pc [.ref (ad a0), .int a1] (pW D q A (wX q ad h))) (va_Qi (fun r h9 => zb r ∧ h9 = h ∧ Q r) (fun h t => pW D q A (wX q ad h) t) A) 0 0 A := by
  refine met_z (Qp := (fun r h9 => h9 = h ∧ Q r)) (by decide) (Nat.le_of_ble_eq_true rfl) ?_
  intro p e R s m args below meth c Qm ls hR1 hR2 S RT hl G
  have hx := S.1
  have hb := S.2.1
  have hl : lv_has ls 2 [(0, .ref (ad a0)), (1, .int a1)] := hl
  unfold p_Tale_mayBegin at hw
  refine lv_iload_n hx hb dX6_mayBegin_0 rfl (lv_at hl 1 rfl) ?_
  refine x_SzP S hl.1 G (c_Tale_isLeg l D q A ad a1 h _ hw) (cw_X6_65 S.2.2.2.2 ⟨Nat.le_trans (Nat.le_of_ble_eq_true rfl) hR1, Nat.le_trans (Nat.le_of_ble_eq_true rfl) hR2⟩) rfl rfl (Nat.le_of_ble_eq_true rfl) dX6_mayBegin_1 (fun r_1 H locs G z_1 hw => ?_)
  refine lv_if_eq (tgt := 31) hx hb dX6_mayBegin_4 (by decide) (fun c_4 => ?_) (fun c_4 => ?_)
  · have hw := hw.1 c_4
    refine lv_iload_n hx hb dX6_mayBegin_31 rfl (lv_at hl 1 rfl) ?_
    refine lv_bipush (v := 7) hx hb dX6_mayBegin_32 (by decide) ?_
    have hw := hw (fun (t0_63 : Int32) => ∀ (ls : Array Slot) (H : Heap) (locs : List Loc), lv_has ls 2 [] → okW D q A s (wX q ad h) H locs → W p l e R s m args below meth c H locs 0 0 Qm (F0 m 63 ls [.int t0_63])) (by
      intro t0_63 hw ls H locs hl G
      obtain ⟨z_63, hw⟩ := hw
      exact RT _ _ _ _ _ _ G z_63 ⟨rfl, hw⟩ dX6_mayBegin_63)
    have hw := hw (∀ (ls : Array Slot) (H : Heap) (locs : List Loc), lv_has ls 2 [] → okW D q A s (wX q ad h) H locs → W p l e R s m args below meth c H locs 0 0 Qm (F0 m 58 ls [])) (by
      intro hw ls H locs hl G
      refine lv_iconst (v := 1) hx hb dX6_mayBegin_58 (by decide) ?_
      refine lv_goto (tgt := 63) hx hb dX6_mayBegin_59 (by decide) ?_
      exact hw _ _ _ (lv_sub hl [] rfl) G)
    have hw := hw (∀ (ls : Array Slot) (H : Heap) (locs : List Loc), lv_has ls 2 [(0, .ref (ad a0)), (1, .int a1)] → okW D q A s (wX q ad h) H locs → W p l e R s m args below meth c H locs 0 0 Qm (F0 m 45 ls [])) (by
      intro hw ls H locs hl G
      refine lv_iload_n hx hb dX6_mayBegin_45 rfl (lv_at hl 1 rfl) ?_
      refine lv_bipush (v := 8) hx hb dX6_mayBegin_46 (by decide) ?_
      have hw := hw (∀ (ls : Array Slot) (H : Heap) (locs : List Loc), lv_has ls 2 [] → okW D q A s (wX q ad h) H locs → W p l e R s m args below meth c H locs 0 0 Qm (F0 m 62 ls [])) (by
        intro hw ls H locs hl G
        refine lv_iconst (v := 0) hx hb dX6_mayBegin_62 (by decide) ?_
        exact hw _ _ _ (lv_sub hl [] rfl) G)
      refine lv_icmp_ne (tgt := 62) hx hb dX6_mayBegin_48 (by decide) (fun c_48 => ?_) (fun c_48 => ?_)
      · have hw := hw.1 c_48
        exact hw _ _ _ (lv_sub hl [] rfl) G
      · have hw := hw.2 c_48
        refine lv_aload_n hx hb dX6_mayBegin_51 rfl (lv_at hl 0 rfl) ?_
        refine x_get (C := RX6) (T := TX6) (n := 8) S G inX6 (xe_7 k0) rfl 4 (by decide) kf_X6_25 rfl dX6_mayBegin_52 ?_
        refine lv_if_ne (tgt := 62) hx hb dX6_mayBegin_55 (by decide) (fun c_55 => ?_) (fun c_55 => ?_)
        · have hw := hw.1 c_55
          exact hw _ _ _ (lv_sub hl [] rfl) G
        · have hw := hw.2 c_55
          exact hw _ _ _ (lv_sub hl [] rfl) G)
    refine lv_icmp_ne (tgt := 45) hx hb dX6_mayBegin_34 (by decide) (fun c_34 => ?_) (fun c_34 => ?_)
    · have hw := hw.1 c_34
      exact hw _ _ _ (lv_sub hl [0, 1] rfl) G
    · have hw := hw.2 c_34
      refine lv_aload_n hx hb dX6_mayBegin_37 rfl (lv_at hl 0 rfl) ?_
      refine x_get (C := RX6) (T := TX6) (n := 8) S G inX6 (xe_7 k0) rfl 3 (by decide) kf_X6_22 rfl dX6_mayBegin_38 ?_
      refine lv_iconst (v := (-1)) hx hb dX6_mayBegin_41 (by decide) ?_
      refine lv_icmp_eq (tgt := 58) hx hb dX6_mayBegin_42 (by decide) (fun c_42 => ?_) (fun c_42 => ?_)
      · have hw := hw.1 c_42
        exact hw _ _ _ (lv_sub hl [] rfl) G
      · have hw := hw.2 c_42
        exact hw _ _ _ (lv_sub hl [0, 1] rfl) G
  · have hw := hw.2 c_4
    refine lv_aload_n hx hb dX6_mayBegin_7 rfl (lv_at hl 0 rfl) ?_
    refine x_get (C := RX6) (T := TX6) (n := 8) S G inX6 (xe_7 k0) rfl 5 (by decide) kf_X6_29 rfl dX6_mayBegin_8 ?_
    refine lv_bipush (v := 6) hx hb dX6_mayBegin_11 (by decide) ?_
    have hw := hw (fun (t0_30 : Int32) => ∀ (ls : Array Slot) (H : Heap) (locs : List Loc), lv_has ls 2 [] → okW D q A s (wX q ad h) H locs → W p l e R s m args below meth c H locs 0 0 Qm (F0 m 30 ls [.int t0_30])) (by
      intro t0_30 hw ls H locs hl G
      obtain ⟨z_30, hw⟩ := hw
      exact RT _ _ _ _ _ _ G z_30 ⟨rfl, hw⟩ dX6_mayBegin_30)
    have hw := hw (∀ (ls : Array Slot) (H : Heap) (locs : List Loc), lv_has ls 2 [] → okW D q A s (wX q ad h) H locs → W p l e R s m args below meth c H locs 0 0 Qm (F0 m 29 ls [])) (by
      intro hw ls H locs hl G
      refine lv_iconst (v := 0) hx hb dX6_mayBegin_29 (by decide) ?_
      exact hw _ _ _ (lv_sub hl [] rfl) G)
    refine lv_icmp_eq (tgt := 29) hx hb dX6_mayBegin_13 (by decide) (fun c_13 => ?_) (fun c_13 => ?_)
    · have hw := hw.1 c_13
      exact hw _ _ _ (lv_sub hl [] rfl) G
    · have hw := hw.2 c_13
      refine lv_aload_n hx hb dX6_mayBegin_16 rfl (lv_at hl 0 rfl) ?_
      refine x_get (C := RX6) (T := TX6) (n := 8) S G inX6 (xe_7 k0) rfl 5 (by decide) kf_X6_29 rfl dX6_mayBegin_17 ?_
      refine lv_bipush (v := 7) hx hb dX6_mayBegin_20 (by decide) ?_
      refine lv_icmp_eq (tgt := 29) hx hb dX6_mayBegin_22 (by decide) (fun c_22 => ?_) (fun c_22 => ?_)
      · have hw := hw.1 c_22
        exact hw _ _ _ (lv_sub hl [] rfl) G
      · have hw := hw.2 c_22
        refine lv_iconst (v := 1) hx hb dX6_mayBegin_25 (by decide) ?_
        refine lv_goto (tgt := 30) hx hb dX6_mayBegin_26 (by decide) ?_
        exact hw _ _ _ (lv_sub hl [] rfl) G
theorem cw_X6_61 {R : Room} {s : State} {args : Array Value} (hts : ∀ w ∈ gW, w.before args s = true) (hR : rm_Tale_mayBegin.frames + 1 ≤ R.frames ∧ 8 + (2 + 11) + rm_Tale_mayBegin.locals ≤ R.locals) : CallW R s args RX6 RX6 61 yX6_mayBegin cX6_mayBegin 2 (some .boolean) (mw yX6_mayBegin cX6_mayBegin 2 (some .boolean)) rm_Tale_mayBegin 0 0 1 := cwV9 hts km_X6_61 ki_X6_mayBegin ks_X6_mayBegin kn_X6 kk_X6_mayBegin rfl rfl (by decide +kernel) hR
abbrev rm_Tokens_valueAt : Room := { frames := 0, cells := 0, slots := 0, locals := 0 }
set_option maxHeartbeats 4000000 in
set_option maxRecDepth 100000 in
theorem c_Tokens_valueAt (l : Launch) (D : va_G) (q : Nat → ClassId) (A : Nat → Prop) (ad : Nat → Nat) (a1 : Int32) (h : Hs) (Q : Int32 → Prop) (hw : p_Tokens_valueAt a1 h Q) : Met l yX7_valueAt (mw yX7_valueAt cX7_valueAt 2 (some .int)) rm_Tokens_valueAt (va_Pc [.ref (ad 43), .int a1] (pW D q A (wX q ad h))) (va_Qi (fun r h9 => h9 = h ∧ Q r) (fun h t => pW D q A (wX q ad h) t) A) 0 0 A := by
  refine met_i (Qp := (fun r h9 => h9 = h ∧ Q r)) (by decide) (Nat.le_of_ble_eq_true rfl) ?_
  intro p e R s m args below meth c Qm ls hR1 hR2 S RT hl G
  have hx := S.1
  have hb := S.2.1
  have hl : lv_has ls 2 [(0, .ref (ad 43)), (1, .int a1)] := hl
  unfold p_Tokens_valueAt at hw
  refine lv_iload_n hx hb dX7_valueAt_0 rfl (lv_at hl 1 rfl) ?_
  have hw := hw (fun (t0_22 : Int32) => ∀ (ls : Array Slot) (H : Heap) (locs : List Loc), lv_has ls 2 [] → okW D q A s (wX q ad h) H locs → W p l e R s m args below meth c H locs 0 0 Qm (F0 m 22 ls [.int t0_22])) (by
    intro t0_22 hw ls H locs hl G
    exact RT _ _ _ _ _ _ G ⟨rfl, hw⟩ dX7_valueAt_22)
  have hw := hw (∀ (ls : Array Slot) (H : Heap) (locs : List Loc), lv_has ls 2 [] → okW D q A s (wX q ad h) H locs → W p l e R s m args below meth c H locs 0 0 Qm (F0 m 21 ls [])) (by
    intro hw ls H locs hl G
    refine lv_iconst (v := 0) hx hb dX7_valueAt_21 (by decide) ?_
    exact hw _ _ _ (lv_sub hl [] rfl) G)
  refine lv_if_lt (tgt := 21) hx hb dX7_valueAt_1 (by decide) (fun c_1 => ?_) (fun c_1 => ?_)
  · have hw := hw.1 c_1
    exact hw _ _ _ (lv_sub hl [] rfl) G
  · have hw := hw.2 c_1
    refine lv_iload_n hx hb dX7_valueAt_4 rfl (lv_at hl 1 rfl) ?_
    refine lv_aload_n hx hb dX7_valueAt_5 rfl (lv_at hl 0 rfl) ?_
    refine x_get (C := RX7) (T := TX7) (n := 5) S G inX7 (xe_8 kx_43) rfl 3 (by decide) kf_X7_21 rfl dX7_valueAt_6 ?_
    refine lv_icmp_ge (tgt := 21) hx hb dX7_valueAt_9 (by decide) (fun c_9 => ?_) (fun c_9 => ?_)
    · have hw := hw.1 c_9
      exact hw _ _ _ (lv_sub hl [] rfl) G
    · have hw := hw.2 c_9
      refine lv_aload_n hx hb dX7_valueAt_12 rfl (lv_at hl 0 rfl) ?_
      refine x_get (C := RX7) (T := TX7) (n := 5) S G inX7 (xe_8 kx_43) rfl 2 (by decide) kf_X7_18 rfl dX7_valueAt_13 ?_
      refine lv_iload_n hx hb dX7_valueAt_16 rfl (lv_at hl 1 rfl) ?_
      obtain ⟨i_17, hw⟩ := hw
      refine x_iald (k := a1.toNatClampNeg) S G (xe_20 kx_46 lx_46) i_17 rfl rfl dX7_valueAt_17 ?_
      refine lv_goto (tgt := 22) hx hb dX7_valueAt_18 (by decide) ?_
      exact hw _ _ _ (lv_sub hl [] rfl) G
theorem cw_X6_68 {R : Room} {s : State} {args : Array Value} (hts : ∀ w ∈ gW, w.before args s = true) (hR : rm_Tokens_valueAt.frames + 1 ≤ R.frames ∧ 8 + (2 + 11) + rm_Tokens_valueAt.locals ≤ R.locals) : CallW R s args RX6 RX7 68 yX7_valueAt cX7_valueAt 2 (some .int) (mw yX7_valueAt cX7_valueAt 2 (some .int)) rm_Tokens_valueAt 0 0 1 := cwV9 hts km_X6_68 ki_X7_valueAt ks_X7_valueAt kn_X7 kk_X7_valueAt rfl rfl (by decide +kernel) hR
abbrev rm_Tale_stayUntil : Room := { frames := 0, cells := 0, slots := 0, locals := 0 }
set_option maxHeartbeats 4000000 in
set_option maxRecDepth 100000 in
theorem c_Tale_stayUntil (l : Launch) (D : va_G) (q : Nat → ClassId) (A : Nat → Prop) (ad : Nat → Nat) (a0 : Nat) (a1 : Int32) (k0 : kX a0 = 7) (h : Hs) (Q : Hs → Prop) (hw : p_Tale_stayUntil a0 a1 h Q) : Met l yX6_stayUntil (mw yX6_stayUntil cX6_stayUntil 3 none) rm_Tale_stayUntil (va_Pc [.ref (ad a0), .int a1] (pW D q A (wX q ad h))) (va_Qv Q (fun h t => pW D q A (wX q ad h) t) A) 0 0 A := by
  refine met_v (Qp := Q) (by decide) (Nat.le_of_ble_eq_true rfl) ?_
  intro p e R s m args below meth c Qm ls hR1 hR2 S RT hl G
  have hx := S.1
  have hb := S.2.1
  have hl : lv_has ls 3 [(0, .ref (ad a0)), (1, .int a1)] := hl
  unfold p_Tale_stayUntil at hw
  refine lv_aload_n hx hb dX6_stayUntil_0 rfl (lv_at hl 0 rfl) ?_
  refine x_get (C := RX6) (T := TX6) (n := 8) S G inX6 (xe_7 k0) rfl 6 (by decide) kf_X6_32 rfl dX6_stayUntil_1 ?_
  refine lv_topi (fun a2_4 ea2_4 => ?_)
  have hw := hw a2_4 ea2_4
  refine lv_istore_n (lv' := [(2, .int a2_4), (0, .ref (ad a0)), (1, .int a1)]) hx hb dX6_stayUntil_4 rfl hl (by decide) rfl (fun ls hl => ?_)
  have hw := hw (fun (b2_5 : Int32) (g_5 : Hs) => ∀ (ls : Array Slot) (H : Heap) (locs : List Loc), lv_has ls 3 [(0, .ref (ad a0)), (1, .int a1), (2, .int b2_5)] → okW D q A s (wX q ad g_5) H locs → W p l e R s m args below meth c H locs 0 0 Qm (F0 m 5 ls [])) (by
    intro b2_5 g_5 hw ls H locs hl G
    refine lv_iload_n hx hb dX6_stayUntil_5 rfl (lv_at hl 2 rfl) ?_
    refine lv_iload_n hx hb dX6_stayUntil_6 rfl (lv_at hl 1 rfl) ?_
    have hw := hw (∀ (ls : Array Slot) (H : Heap) (locs : List Loc), lv_has ls 3 [(0, .ref (ad a0)), (1, .int a1)] → okW D q A s (wX q ad g_5) H locs → W p l e R s m args below meth c H locs 0 0 Qm (F0 m 32 ls [])) (by
      intro hw ls H locs hl G
      refine lv_aload_n hx hb dX6_stayUntil_32 rfl (lv_at hl 0 rfl) ?_
      refine x_get (C := RX6) (T := TX6) (n := 8) S G inX6 (xe_7 k0) rfl 5 (by decide) kf_X6_29 rfl dX6_stayUntil_33 ?_
      refine lv_bipush (v := 6) hx hb dX6_stayUntil_36 (by decide) ?_
      have hw := hw (fun (g_59 : Hs) => ∀ (ls : Array Slot) (H : Heap) (locs : List Loc), lv_has ls 3 [(0, .ref (ad a0)), (1, .int a1)] → okW D q A s (wX q ad g_59) H locs → W p l e R s m args below meth c H locs 0 0 Qm (F0 m 59 ls [])) (by
        intro g_59 hw ls H locs hl G
        refine lv_aload_n hx hb dX6_stayUntil_59 rfl (lv_at hl 0 rfl) ?_
        refine lv_iload_n hx hb dX6_stayUntil_60 rfl (lv_at hl 1 rfl) ?_
        refine x_put (C := RX6) (T := TX6) (n := 8) S G inX6 tyX6 tyX6_ok nmX6 (xe_7 k0) rfl 6 (by decide) kf_X6_32 rfl rfl rfl (Nat.le_of_ble_eq_true rfl) (xp_7_6 k0) dX6_stayUntil_61 (fun H locs G => ?_)
        obtain ⟨h_61, eh_61⟩ : ∃ y : Hs, y = si g_59 a0 6 a1 := ⟨_, rfl⟩
        rw [← eh_61] at G
        have hw := hw h_61 eh_61
        exact RT _ _ _ _ _ G hw dX6_stayUntil_64)
      refine lv_icmp_ge (tgt := 59) hx hb dX6_stayUntil_38 (by decide) (fun c_38 => ?_) (fun c_38 => ?_)
      · have hw := hw.1 c_38
        exact hw _ _ _ (lv_sub hl [0, 1] rfl) G
      · have hw := hw.2 c_38
        refine lv_aload_n hx hb dX6_stayUntil_41 rfl (lv_at hl 0 rfl) ?_
        refine x_get (C := RX6) (T := TX6) (n := 8) S G inX6 (xe_7 k0) rfl 1 (by decide) kf_X6_15 rfl dX6_stayUntil_42 ?_
        refine lv_aload_n hx hb dX6_stayUntil_45 rfl (lv_at hl 0 rfl) ?_
        refine x_get (C := RX6) (T := TX6) (n := 8) S G inX6 (xe_7 k0) rfl 5 (by decide) kf_X6_29 rfl dX6_stayUntil_46 ?_
        refine lv_dup2_11 hx hb dX6_stayUntil_49 rfl rfl ?_
        obtain ⟨i_50, hw⟩ := hw
        refine x_iald (k := (gi g_5 a0 5).toNatClampNeg) S G (xe_20 ((kxr_7 _ (kX_lt k0) k0).2.1) ((kxr_7 _ (kX_lt k0) k0).2.2)) i_50 rfl rfl dX6_stayUntil_50 ?_
        refine lv_iload_n hx hb dX6_stayUntil_51 rfl (lv_at hl 1 rfl) ?_
        refine lv_aload_n hx hb dX6_stayUntil_52 rfl (lv_at hl 0 rfl) ?_
        refine x_get (C := RX6) (T := TX6) (n := 8) S G inX6 (xe_7 k0) rfl 6 (by decide) kf_X6_32 rfl dX6_stayUntil_53 ?_
        refine lv_isub hx hb dX6_stayUntil_56 ?_
        refine lv_iadd hx hb dX6_stayUntil_57 ?_
        obtain ⟨i_58, hw⟩ := hw
        refine x_iast (k := (gi g_5 a0 5).toNatClampNeg) S G (xe_20 ((kxr_7 _ (kX_lt k0) k0).2.1) ((kxr_7 _ (kX_lt k0) k0).2.2)) i_58 rfl (xs_20 ((kxr_7 _ (kX_lt k0) k0).2.1) ((kxr_7 _ (kX_lt k0) k0).2.2)) dX6_stayUntil_58 (fun H locs G => ?_)
        obtain ⟨h_58, eh_58⟩ : ∃ y : Hs, y = si g_5 (a0 + 2) ((gi g_5 a0 5).toNatClampNeg) ((gi g_5 (a0 + 2) ((gi g_5 a0 5).toNatClampNeg)) + (a1 - (gi g_5 a0 6))) := ⟨_, rfl⟩
        rw [← eh_58] at G
        have hw := hw h_58 eh_58
        exact hw _ _ _ (lv_sub hl [0, 1] rfl) G)
    refine lv_icmp_ge (tgt := 32) hx hb dX6_stayUntil_7 (by decide) (fun c_7 => ?_) (fun c_7 => ?_)
    · have hw := hw.1 c_7
      exact hw _ _ _ (lv_sub hl [0, 1] rfl) G
    · have hw := hw.2 c_7
      refine lv_iload_n hx hb dX6_stayUntil_10 rfl (lv_at hl 2 rfl) ?_
      refine lv_bipush (v := 120) hx hb dX6_stayUntil_11 (by decide) ?_
      refine lv_icmp_ge (tgt := 32) hx hb dX6_stayUntil_13 (by decide) (fun c_13 => ?_) (fun c_13 => ?_)
      · have hw := hw.1 c_13
        exact hw _ _ _ (lv_sub hl [0, 1] rfl) G
      · have hw := hw.2 c_13
        refine lv_aload_n hx hb dX6_stayUntil_16 rfl (lv_at hl 0 rfl) ?_
        refine x_get (C := RX6) (T := TX6) (n := 8) S G inX6 (xe_7 k0) rfl 0 (by decide) kf_X6_9 rfl dX6_stayUntil_17 ?_
        refine lv_iload_n hx hb dX6_stayUntil_20 rfl (lv_at hl 2 rfl) ?_
        refine lv_aload_n hx hb dX6_stayUntil_21 rfl (lv_at hl 0 rfl) ?_
        refine x_get (C := RX6) (T := TX6) (n := 8) S G inX6 (xe_7 k0) rfl 5 (by decide) kf_X6_29 rfl dX6_stayUntil_22 ?_
        obtain ⟨i_25, hw⟩ := hw
        refine x_iast (k := b2_5.toNatClampNeg) S G (xe_20 ((kxr_7 _ (kX_lt k0) k0).1.1) ((kxr_7 _ (kX_lt k0) k0).1.2)) i_25 rfl (xs_20 ((kxr_7 _ (kX_lt k0) k0).1.1) ((kxr_7 _ (kX_lt k0) k0).1.2)) dX6_stayUntil_25 (fun H locs G => ?_)
        obtain ⟨h_25, eh_25⟩ : ∃ y : Hs, y = si g_5 (a0 + 1) b2_5.toNatClampNeg (gi g_5 a0 5) := ⟨_, rfl⟩
        rw [← eh_25] at G
        have hw := hw h_25 eh_25
        obtain ⟨a2_26, ea2_26⟩ : ∃ y : Int32, y = b2_5 + 1 := ⟨_, rfl⟩
        have hw := hw a2_26 ea2_26
        refine lv_iinc (v := a2_26) (lv' := [(2, .int a2_26), (0, .ref (ad a0)), (1, .int a1)]) hx hb dX6_stayUntil_26 hl (k := 2) rfl (by rw [ea2_26]; rfl) (by decide) rfl (fun ls hl => ?_)
        refine lv_goto (tgt := 5) hx hb dX6_stayUntil_29 (by decide) ?_
        exact hw _ _ _ (lv_sub hl [1, 2, 0] rfl) G)
  exact hw _ _ _ (lv_sub hl [1, 2, 0] rfl) G
theorem cw_X6_57 {R : Room} {s : State} {args : Array Value} (hts : ∀ w ∈ gW, w.before args s = true) (hR : rm_Tale_stayUntil.frames + 1 ≤ R.frames ∧ 8 + (3 + 11) + rm_Tale_stayUntil.locals ≤ R.locals) : CallW R s args RX6 RX6 57 yX6_stayUntil cX6_stayUntil 3 none (mw yX6_stayUntil cX6_stayUntil 3 none) rm_Tale_stayUntil 0 0 1 := cwV9 hts km_X6_57 ki_X6_stayUntil ks_X6_stayUntil kn_X6 kk_X6_stayUntil rfl rfl (by decide +kernel) hR
abbrev rm_Tale_take : Room := { frames := 1, cells := 0, slots := 0, locals := 22 }
set_option maxHeartbeats 4000000 in
set_option maxRecDepth 100000 in
theorem c_Tale_take (l : Launch) (D : va_G) (q : Nat → ClassId) (A : Nat → Prop) (ad : Nat → Nat) (a0 : Nat) (a1 : Int32) (a2 : Int32) (a3 : Int32) (k0 : kX a0 = 7) (h : Hs) (Q : Hs → Prop) (hw : p_Tale_take a0 a1 a2 a3 h Q) : Met l yX6_take (mw yX6_take cX6_take 4 none) rm_Tale_take (va_Pc [.ref (ad a0), .int a1, .int a2, .int a3] (pW D q A (wX q ad h))) (va_Qv Q (fun h t => pW D q A (wX q ad h) t) A) 0 0 A := by
  refine met_v (Qp := Q) (by decide) (Nat.le_of_ble_eq_true rfl) ?_
  intro p e R s m args below meth c Qm ls hR1 hR2 S RT hl G
  have hx := S.1
  have hb := S.2.1
  have hl : lv_has ls 4 [(0, .ref (ad a0)), (1, .int a1), (2, .int a2), (3, .int a3)] := hl
  unfold p_Tale_take at hw
  refine lv_iload_n hx hb dX6_take_0 rfl (lv_at hl 1 rfl) ?_
  refine lv_bipush (v := 7) hx hb dX6_take_1 (by decide) ?_
  have hw := hw (fun (g_58 : Hs) => ∀ (ls : Array Slot) (H : Heap) (locs : List Loc), lv_has ls 4 [] → okW D q A s (wX q ad g_58) H locs → W p l e R s m args below meth c H locs 0 0 Qm (F0 m 58 ls [])) (by
    intro g_58 hw ls H locs hl G
    exact RT _ _ _ _ _ G hw dX6_take_58)
  refine lv_icmp_ne (tgt := 14) hx hb dX6_take_3 (by decide) (fun c_3 => ?_) (fun c_3 => ?_)
  · have hw := hw.1 c_3
    refine lv_iload_n hx hb dX6_take_14 rfl (lv_at hl 1 rfl) ?_
    refine lv_bipush (v := 8) hx hb dX6_take_15 (by decide) ?_
    refine lv_icmp_ne (tgt := 28) hx hb dX6_take_17 (by decide) (fun c_17 => ?_) (fun c_17 => ?_)
    · have hw := hw.1 c_17
      refine lv_aload_n hx hb dX6_take_28 rfl (lv_at hl 0 rfl) ?_
      refine lv_iload_n hx hb dX6_take_29 rfl (lv_at hl 2 rfl) ?_
      refine x_Vv S hl.1 G (c_Tale_stayUntil l D q A ad a0 a2 k0 h _ hw) (cw_X6_57 S.2.2.2.2 ⟨Nat.le_trans (Nat.le_of_ble_eq_true rfl) hR1, Nat.le_trans (Nat.le_of_ble_eq_true rfl) hR2⟩) (xe_7 k0) rfl rfl rfl (Nat.le_of_ble_eq_true rfl) dX6_take_30 (fun h_30 H locs G hw => ?_)
      refine lv_aload_n hx hb dX6_take_33 rfl (lv_at hl 0 rfl) ?_
      refine lv_iload_n hx hb dX6_take_34 rfl (lv_at hl 1 rfl) ?_
      refine lv_iconst (v := 4) hx hb dX6_take_35 (by decide) ?_
      have hw := hw (fun (t1_55 : Int32) => ∀ (ls : Array Slot) (H : Heap) (locs : List Loc), lv_has ls 4 [] → okW D q A s (wX q ad h_30) H locs → W p l e R s m args below meth c H locs 0 0 Qm (F0 m 55 ls [.int t1_55, .ref (ad a0)])) (by
        intro t1_55 hw ls H locs hl G
        refine x_put (C := RX6) (T := TX6) (n := 8) S G inX6 tyX6 tyX6_ok nmX6 (xe_7 k0) rfl 5 (by decide) kf_X6_29 rfl rfl rfl (Nat.le_of_ble_eq_true rfl) (xp_7_5 k0) dX6_take_55 (fun H locs G => ?_)
        obtain ⟨h_55, eh_55⟩ : ∃ y : Hs, y = si h_30 a0 5 t1_55 := ⟨_, rfl⟩
        rw [← eh_55] at G
        have hw := hw h_55 eh_55
        exact hw _ _ _ (lv_sub hl [] rfl) G)
      refine lv_icmp_ne (tgt := 43) hx hb dX6_take_36 (by decide) (fun c_36 => ?_) (fun c_36 => ?_)
      · have hw := hw.1 c_36
        refine lv_iload_n hx hb dX6_take_43 rfl (lv_at hl 1 rfl) ?_
        refine lv_iconst (v := 5) hx hb dX6_take_44 (by decide) ?_
        refine lv_icmp_ne (tgt := 53) hx hb dX6_take_45 (by decide) (fun c_45 => ?_) (fun c_45 => ?_)
        · have hw := hw.1 c_45
          refine lv_bipush (v := 7) hx hb dX6_take_53 (by decide) ?_
          exact hw _ _ _ (lv_sub hl [] rfl) G
        · have hw := hw.2 c_45
          refine lv_bipush (v := 6) hx hb dX6_take_48 (by decide) ?_
          refine lv_goto (tgt := 55) hx hb dX6_take_50 (by decide) ?_
          exact hw _ _ _ (lv_sub hl [] rfl) G
      · have hw := hw.2 c_36
        refine lv_iload_n hx hb dX6_take_39 rfl (lv_at hl 3 rfl) ?_
        refine lv_goto (tgt := 55) hx hb dX6_take_40 (by decide) ?_
        exact hw _ _ _ (lv_sub hl [] rfl) G
    · have hw := hw.2 c_17
      refine lv_aload_n hx hb dX6_take_20 rfl (lv_at hl 0 rfl) ?_
      refine lv_iconst (v := 1) hx hb dX6_take_21 (by decide) ?_
      refine x_put (C := RX6) (T := TX6) (n := 8) S G inX6 tyX6 tyX6_ok nmX6 (xe_7 k0) rfl 4 (by decide) kf_X6_25 rfl (zb_n zb1) (zb_f zb1) (Nat.le_of_ble_eq_true rfl) (xp_7_4 k0) dX6_take_22 (fun H locs G => ?_)
      obtain ⟨h_22, eh_22⟩ : ∃ y : Hs, y = si h a0 4 1 := ⟨_, rfl⟩
      rw [← eh_22] at G
      have hw := hw h_22 eh_22
      refine lv_goto (tgt := 58) hx hb dX6_take_25 (by decide) ?_
      exact hw _ _ _ (lv_sub hl [] rfl) G
  · have hw := hw.2 c_3
    refine lv_aload_n hx hb dX6_take_6 rfl (lv_at hl 0 rfl) ?_
    refine lv_iload_n hx hb dX6_take_7 rfl (lv_at hl 3 rfl) ?_
    refine x_put (C := RX6) (T := TX6) (n := 8) S G inX6 tyX6 tyX6_ok nmX6 (xe_7 k0) rfl 3 (by decide) kf_X6_22 rfl rfl rfl (Nat.le_of_ble_eq_true rfl) (xp_7_3 k0) dX6_take_8 (fun H locs G => ?_)
    obtain ⟨h_8, eh_8⟩ : ∃ y : Hs, y = si h a0 3 a3 := ⟨_, rfl⟩
    rw [← eh_8] at G
    have hw := hw h_8 eh_8
    refine lv_goto (tgt := 58) hx hb dX6_take_11 (by decide) ?_
    exact hw _ _ _ (lv_sub hl [] rfl) G
theorem cw_X6_71 {R : Room} {s : State} {args : Array Value} (hts : ∀ w ∈ gW, w.before args s = true) (hR : rm_Tale_take.frames + 1 ≤ R.frames ∧ 8 + (4 + 11) + rm_Tale_take.locals ≤ R.locals) : CallW R s args RX6 RX6 71 yX6_take cX6_take 4 none (mw yX6_take cX6_take 4 none) rm_Tale_take 0 0 3 := cwV9 hts km_X6_71 ki_X6_take ks_X6_take kn_X6 kk_X6_take rfl rfl (by decide +kernel) hR
abbrev rm_Tale_readItem : Room := { frames := 2, cells := 0, slots := 0, locals := 45 }
set_option maxHeartbeats 4000000 in
set_option maxRecDepth 100000 in
theorem c_Tale_readItem (l : Launch) (D : va_G) (q : Nat → ClassId) (A : Nat → Prop) (ad : Nat → Nat) (a0 : Nat) (a2 : Int32) (k0 : kX a0 = 7) (h : Hs) (Q : Int32 → Hs → Prop) (hw : p_Tale_readItem a0 a2 h Q) : Met l yX6_readItem (mw yX6_readItem cX6_readItem 6 (some .boolean)) rm_Tale_readItem (va_Pc [.ref (ad a0), .ref (ad 43), .int a2] (pW D q A (wX q ad h))) (va_Qi (fun r h9 => zb r ∧ Q r h9) (fun h t => pW D q A (wX q ad h) t) A) 0 0 A := by
  refine met_z (Qp := Q) (by decide) (Nat.le_of_ble_eq_true rfl) ?_
  intro p e R s m args below meth c Qm ls hR1 hR2 S RT hl G
  have hx := S.1
  have hb := S.2.1
  have hl : lv_has ls 6 [(0, .ref (ad a0)), (1, .ref (ad 43)), (2, .int a2)] := hl
  unfold p_Tale_readItem at hw
  refine lv_aload_n hx hb dX6_readItem_0 rfl (lv_at hl 1 rfl) ?_
  refine lv_aload_n hx hb dX6_readItem_1 rfl (lv_at hl 0 rfl) ?_
  refine x_get (C := RX6) (T := TX6) (n := 8) S G inX6 (xe_7 k0) rfl 7 (by decide) kf_X6_35 rfl dX6_readItem_2 ?_
  refine x_ViP S hl.1 G (c_Tokens_tokenAt l D q A ad (gi h a0 7) h _ hw) (cw_X6_44 S.2.2.2.2 ⟨Nat.le_trans (Nat.le_of_ble_eq_true rfl) hR1, Nat.le_trans (Nat.le_of_ble_eq_true rfl) hR2⟩) (xe_8 kx_43) rfl rfl rfl (Nat.le_of_ble_eq_true rfl) dX6_readItem_5 (fun r_5 H locs G hw => ?_)
  refine lv_istore_n (lv' := [(3, .int r_5), (0, .ref (ad a0)), (1, .ref (ad 43)), (2, .int a2)]) hx hb dX6_readItem_8 rfl hl (by decide) rfl (fun ls hl => ?_)
  refine lv_aload_n hx hb dX6_readItem_9 rfl (lv_at hl 1 rfl) ?_
  refine x_get (C := RX6) (T := TX6) (n := 8) S G inX6 (xe_7 k0) rfl 6 (by decide) kf_X6_32 rfl dX6_readItem_10 ?_
  refine lv_topi (fun a4_13 ea4_13 => ?_)
  have hw := hw a4_13 ea4_13
  refine lv_istore (lv' := [(4, .int a4_13), (3, .int r_5), (0, .ref (ad a0)), (1, .ref (ad 43)), (2, .int a2)]) hx hb dX6_readItem_13 hl (by decide) rfl (fun ls hl => ?_)
  refine lv_iconst (v := 0) hx hb dX6_readItem_15 (by decide) ?_
  refine lv_istore (lv' := [(5, .int 0), (4, .int a4_13), (3, .int r_5), (0, .ref (ad a0)), (1, .ref (ad 43)), (2, .int a2)]) hx hb dX6_readItem_16 hl (by decide) rfl (fun ls hl => ?_)
  refine lv_aload_n hx hb dX6_readItem_18 rfl (lv_at hl 3 rfl) ?_
  refine lv_iload_n hx hb dX6_readItem_19 rfl (lv_at hl 2 rfl) ?_
  refine x_VzP S hl.1 G (c_Tale_mayBegin l D q A ad a0 r_5 k0 h _ hw) (cw_X6_61 S.2.2.2.2 ⟨Nat.le_trans (Nat.le_of_ble_eq_true rfl) hR1, Nat.le_trans (Nat.le_of_ble_eq_true rfl) hR2⟩) (xe_7 k0) rfl rfl rfl (Nat.le_of_ble_eq_true rfl) dX6_readItem_20 (fun r_20 H locs G z_20 hw => ?_)
  refine lv_if_ne (tgt := 28) hx hb dX6_readItem_23 (by decide) (fun c_23 => ?_) (fun c_23 => ?_)
  · have hw := hw.1 c_23
    refine lv_aload_n hx hb dX6_readItem_28 rfl (lv_at hl 3 rfl) ?_
    refine lv_dup hx hb dX6_readItem_29 rfl ?_
    refine x_get (C := RX6) (T := TX6) (n := 8) S G inX6 (xe_7 k0) rfl 7 (by decide) kf_X6_35 rfl dX6_readItem_30 ?_
    refine lv_iconst (v := 1) hx hb dX6_readItem_33 (by decide) ?_
    refine lv_iadd hx hb dX6_readItem_34 ?_
    refine x_put (C := RX6) (T := TX6) (n := 8) S G inX6 tyX6 tyX6_ok nmX6 (xe_7 k0) rfl 7 (by decide) kf_X6_35 rfl rfl rfl (Nat.le_of_ble_eq_true rfl) (xp_7_7 k0) dX6_readItem_35 (fun H locs G => ?_)
    obtain ⟨h_35, eh_35⟩ : ∃ y : Hs, y = si h a0 7 ((gi h a0 7) + 1) := ⟨_, rfl⟩
    rw [← eh_35] at G
    have hw := hw h_35 eh_35
    refine lv_iload_n hx hb dX6_readItem_38 rfl (lv_at hl 2 rfl) ?_
    refine x_SzP S hl.1 G (c_Tale_isLeg l D q A ad r_5 h_35 _ hw) (cw_X6_65 S.2.2.2.2 ⟨Nat.le_trans (Nat.le_of_ble_eq_true rfl) hR1, Nat.le_trans (Nat.le_of_ble_eq_true rfl) hR2⟩) rfl rfl (Nat.le_of_ble_eq_true rfl) dX6_readItem_39 (fun r_39 H locs G z_39 hw => ?_)
    have hw := hw (fun (b4_95 : Int32) (g_95 : Hs) => ∀ (ls : Array Slot) (H : Heap) (locs : List Loc), lv_has ls 6 [(0, .ref (ad a0)), (1, .ref (ad 43)), (2, .int a2), (3, .int r_5), (4, .int b4_95), (5, .int 0)] → okW D q A s (wX q ad g_95) H locs → W p l e R s m args below meth c H locs 0 0 Qm (F0 m 95 ls [])) (by
      intro b4_95 g_95 hw ls H locs hl G
      refine lv_iload_n hx hb dX6_readItem_95 rfl (lv_at hl 3 rfl) ?_
      refine lv_iconst (v := 4) hx hb dX6_readItem_96 (by decide) ?_
      have hw := hw (fun (b5_146 : Int32) (g_146 : Hs) => ∀ (ls : Array Slot) (H : Heap) (locs : List Loc), lv_has ls 6 [(0, .ref (ad a0)), (1, .ref (ad 43)), (3, .int r_5), (4, .int b4_95), (5, .int b5_146)] → okW D q A s (wX q ad g_146) H locs → W p l e R s m args below meth c H locs 0 0 Qm (F0 m 146 ls [])) (by
        intro b5_146 g_146 hw ls H locs hl G
        refine lv_aload_n hx hb dX6_readItem_146 rfl (lv_at hl 1 rfl) ?_
        refine lv_aload_n hx hb dX6_readItem_147 rfl (lv_at hl 0 rfl) ?_
        refine x_get (C := RX6) (T := TX6) (n := 8) S G inX6 (xe_7 k0) rfl 7 (by decide) kf_X6_35 rfl dX6_readItem_148 ?_
        refine x_ViP S hl.1 G (c_Tokens_tokenAt l D q A ad (gi g_146 a0 7) g_146 _ hw) (cw_X6_44 S.2.2.2.2 ⟨Nat.le_trans (Nat.le_of_ble_eq_true rfl) hR1, Nat.le_trans (Nat.le_of_ble_eq_true rfl) hR2⟩) (xe_8 kx_43) rfl rfl rfl (Nat.le_of_ble_eq_true rfl) dX6_readItem_151 (fun r_151 H locs G hw => ?_)
        refine lv_iconst (v := 2) hx hb dX6_readItem_154 (by decide) ?_
        refine lv_icmp_eq (tgt := 160) hx hb dX6_readItem_155 (by decide) (fun c_155 => ?_) (fun c_155 => ?_)
        · have hw := hw.1 c_155
          refine lv_aload_n hx hb dX6_readItem_160 rfl (lv_at hl 0 rfl) ?_
          refine lv_dup hx hb dX6_readItem_161 rfl ?_
          refine x_get (C := RX6) (T := TX6) (n := 8) S G inX6 (xe_7 k0) rfl 7 (by decide) kf_X6_35 rfl dX6_readItem_162 ?_
          refine lv_iconst (v := 1) hx hb dX6_readItem_165 (by decide) ?_
          refine lv_iadd hx hb dX6_readItem_166 ?_
          refine x_put (C := RX6) (T := TX6) (n := 8) S G inX6 tyX6 tyX6_ok nmX6 (xe_7 k0) rfl 7 (by decide) kf_X6_35 rfl rfl rfl (Nat.le_of_ble_eq_true rfl) (xp_7_7 k0) dX6_readItem_167 (fun H locs G => ?_)
          obtain ⟨h_167, eh_167⟩ : ∃ y : Hs, y = si g_146 a0 7 ((gi g_146 a0 7) + 1) := ⟨_, rfl⟩
          rw [← eh_167] at G
          have hw := hw h_167 eh_167
          refine lv_aload_n hx hb dX6_readItem_170 rfl (lv_at hl 0 rfl) ?_
          refine lv_iload_n hx hb dX6_readItem_171 rfl (lv_at hl 2 rfl) ?_
          refine lv_iload hx hb dX6_readItem_172 (lv_at hl 3 rfl) ?_
          refine lv_iload hx hb dX6_readItem_174 (lv_at hl 4 rfl) ?_
          refine x_Vv S hl.1 G (c_Tale_take l D q A ad a0 r_5 b4_95 b5_146 k0 h_167 _ hw) (cw_X6_71 S.2.2.2.2 ⟨Nat.le_trans (Nat.le_of_ble_eq_true rfl) hR1, Nat.le_trans (Nat.le_of_ble_eq_true rfl) hR2⟩) (xe_7 k0) rfl rfl rfl (Nat.le_of_ble_eq_true rfl) dX6_readItem_176 (fun h_176 H locs G hw => ?_)
          refine lv_iconst (v := 1) hx hb dX6_readItem_179 (by decide) ?_
          exact RT _ _ _ _ _ _ G zb1 hw dX6_readItem_180
        · have hw := hw.2 c_155
          refine lv_iconst (v := 0) hx hb dX6_readItem_158 (by decide) ?_
          exact RT _ _ _ _ _ _ G zb0 hw dX6_readItem_159)
      have hw := hw (∀ (ls : Array Slot) (H : Heap) (locs : List Loc), lv_has ls 6 [(0, .ref (ad a0)), (1, .ref (ad 43)), (2, .int a2), (3, .int r_5), (4, .int b4_95)] → okW D q A s (wX q ad g_95) H locs → W p l e R s m args below meth c H locs 0 0 Qm (F0 m 106 ls [])) (by
        intro hw ls H locs hl G
        refine lv_aload_n hx hb dX6_readItem_106 rfl (lv_at hl 1 rfl) ?_
        refine lv_aload_n hx hb dX6_readItem_107 rfl (lv_at hl 0 rfl) ?_
        refine x_get (C := RX6) (T := TX6) (n := 8) S G inX6 (xe_7 k0) rfl 7 (by decide) kf_X6_35 rfl dX6_readItem_108 ?_
        refine x_ViP S hl.1 G (c_Tokens_valueAt l D q A ad (gi g_95 a0 7) g_95 _ hw) (cw_X6_68 S.2.2.2.2 ⟨Nat.le_trans (Nat.le_of_ble_eq_true rfl) hR1, Nat.le_trans (Nat.le_of_ble_eq_true rfl) hR2⟩) (xe_8 kx_43) rfl rfl rfl (Nat.le_of_ble_eq_true rfl) dX6_readItem_111 (fun r_111 H locs G hw => ?_)
        refine lv_istore (lv' := [(5, .int r_111), (0, .ref (ad a0)), (1, .ref (ad 43)), (2, .int a2), (3, .int r_5), (4, .int b4_95)]) hx hb dX6_readItem_114 hl (by decide) rfl (fun ls hl => ?_)
        refine lv_aload_n hx hb dX6_readItem_116 rfl (lv_at hl 2 rfl) ?_
        refine lv_aload_n hx hb dX6_readItem_117 rfl (lv_at hl 1 rfl) ?_
        refine x_get (C := RX6) (T := TX6) (n := 8) S G inX6 (xe_7 k0) rfl 7 (by decide) kf_X6_35 rfl dX6_readItem_118 ?_
        refine x_ViP S hl.1 G (c_Tokens_tokenAt l D q A ad (gi g_95 a0 7) g_95 _ hw) (cw_X6_44 S.2.2.2.2 ⟨Nat.le_trans (Nat.le_of_ble_eq_true rfl) hR1, Nat.le_trans (Nat.le_of_ble_eq_true rfl) hR2⟩) (xe_8 kx_43) rfl rfl rfl (Nat.le_of_ble_eq_true rfl) dX6_readItem_121 (fun r_121 H locs G hw => ?_)
        refine lv_iconst (v := 1) hx hb dX6_readItem_124 (by decide) ?_
        have hw := hw (∀ (ls : Array Slot) (H : Heap) (locs : List Loc), lv_has ls 6 [] → okW D q A s (wX q ad g_95) H locs → W p l e R s m args below meth c H locs 0 0 Qm (F0 m 134 ls [])) (by
          intro hw ls H locs hl G
          refine lv_iconst (v := 0) hx hb dX6_readItem_134 (by decide) ?_
          exact RT _ _ _ _ _ _ G zb0 hw dX6_readItem_135)
        refine lv_icmp_ne (tgt := 134) hx hb dX6_readItem_125 (by decide) (fun c_125 => ?_) (fun c_125 => ?_)
        · have hw := hw.1 c_125
          exact hw _ _ _ (lv_sub hl [] rfl) G
        · have hw := hw.2 c_125
          refine lv_iload hx hb dX6_readItem_128 (lv_at hl 0 rfl) ?_
          refine lv_iload_n hx hb dX6_readItem_130 rfl (lv_at hl 3 rfl) ?_
          refine lv_icmp_lt (tgt := 136) hx hb dX6_readItem_131 (by decide) (fun c_131 => ?_) (fun c_131 => ?_)
          · have hw := hw.1 c_131
            refine lv_aload_n hx hb dX6_readItem_136 rfl (lv_at hl 1 rfl) ?_
            refine lv_dup hx hb dX6_readItem_137 rfl ?_
            refine x_get (C := RX6) (T := TX6) (n := 8) S G inX6 (xe_7 k0) rfl 7 (by decide) kf_X6_35 rfl dX6_readItem_138 ?_
            refine lv_iconst (v := 1) hx hb dX6_readItem_141 (by decide) ?_
            refine lv_iadd hx hb dX6_readItem_142 ?_
            refine x_put (C := RX6) (T := TX6) (n := 8) S G inX6 tyX6 tyX6_ok nmX6 (xe_7 k0) rfl 7 (by decide) kf_X6_35 rfl rfl rfl (Nat.le_of_ble_eq_true rfl) (xp_7_7 k0) dX6_readItem_143 (fun H locs G => ?_)
            obtain ⟨h_143, eh_143⟩ : ∃ y : Hs, y = si g_95 a0 7 ((gi g_95 a0 7) + 1) := ⟨_, rfl⟩
            rw [← eh_143] at G
            have hw := hw h_143 eh_143
            exact hw _ _ _ (lv_sub hl [1, 2, 4, 5, 0] rfl) G
          · have hw := hw.2 c_131
            exact hw _ _ _ (lv_sub hl [] rfl) G)
      refine lv_icmp_eq (tgt := 106) hx hb dX6_readItem_97 (by decide) (fun c_97 => ?_) (fun c_97 => ?_)
      · have hw := hw.1 c_97
        exact hw _ _ _ (lv_sub hl [0, 1, 2, 3, 4] rfl) G
      · have hw := hw.2 c_97
        refine lv_iload_n hx hb dX6_readItem_100 rfl (lv_at hl 3 rfl) ?_
        refine lv_bipush (v := 7) hx hb dX6_readItem_101 (by decide) ?_
        refine lv_icmp_ne (tgt := 146) hx hb dX6_readItem_103 (by decide) (fun c_103 => ?_) (fun c_103 => ?_)
        · have hw := hw.1 c_103
          exact hw _ _ _ (lv_sub hl [0, 1, 3, 4, 5] rfl) G
        · have hw := hw.2 c_103
          exact hw _ _ _ (lv_sub hl [0, 1, 2, 3, 4] rfl) G)
    refine lv_if_eq (tgt := 95) hx hb dX6_readItem_42 (by decide) (fun c_42 => ?_) (fun c_42 => ?_)
    · have hw := hw.1 c_42
      exact hw _ _ _ (lv_sub hl [3, 4, 5, 2, 1, 0] rfl) G
    · have hw := hw.2 c_42
      refine lv_aload_n hx hb dX6_readItem_45 rfl (lv_at hl 4 rfl) ?_
      refine lv_aload_n hx hb dX6_readItem_46 rfl (lv_at hl 3 rfl) ?_
      refine x_get (C := RX6) (T := TX6) (n := 8) S G inX6 (xe_7 k0) rfl 7 (by decide) kf_X6_35 rfl dX6_readItem_47 ?_
      refine x_ViP S hl.1 G (c_Tokens_valueAt l D q A ad (gi h_35 a0 7) h_35 _ hw) (cw_X6_68 S.2.2.2.2 ⟨Nat.le_trans (Nat.le_of_ble_eq_true rfl) hR1, Nat.le_trans (Nat.le_of_ble_eq_true rfl) hR2⟩) (xe_8 kx_43) rfl rfl rfl (Nat.le_of_ble_eq_true rfl) dX6_readItem_50 (fun r_50 H locs G hw => ?_)
      refine lv_istore (lv' := [(4, .int r_50), (5, .int 0), (3, .int r_5), (0, .ref (ad a0)), (1, .ref (ad 43)), (2, .int a2)]) hx hb dX6_readItem_53 hl (by decide) rfl (fun ls hl => ?_)
      refine lv_aload_n hx hb dX6_readItem_55 rfl (lv_at hl 4 rfl) ?_
      refine lv_aload_n hx hb dX6_readItem_56 rfl (lv_at hl 3 rfl) ?_
      refine x_get (C := RX6) (T := TX6) (n := 8) S G inX6 (xe_7 k0) rfl 7 (by decide) kf_X6_35 rfl dX6_readItem_57 ?_
      refine x_ViP S hl.1 G (c_Tokens_tokenAt l D q A ad (gi h_35 a0 7) h_35 _ hw) (cw_X6_44 S.2.2.2.2 ⟨Nat.le_trans (Nat.le_of_ble_eq_true rfl) hR1, Nat.le_trans (Nat.le_of_ble_eq_true rfl) hR2⟩) (xe_8 kx_43) rfl rfl rfl (Nat.le_of_ble_eq_true rfl) dX6_readItem_60 (fun r_60 H locs G hw => ?_)
      refine lv_iconst (v := 1) hx hb dX6_readItem_63 (by decide) ?_
      have hw := hw (∀ (ls : Array Slot) (H : Heap) (locs : List Loc), lv_has ls 6 [] → okW D q A s (wX q ad h_35) H locs → W p l e R s m args below meth c H locs 0 0 Qm (F0 m 83 ls [])) (by
        intro hw ls H locs hl G
        refine lv_iconst (v := 0) hx hb dX6_readItem_83 (by decide) ?_
        exact RT _ _ _ _ _ _ G zb0 hw dX6_readItem_84)
      refine lv_icmp_ne (tgt := 83) hx hb dX6_readItem_64 (by decide) (fun c_64 => ?_) (fun c_64 => ?_)
      · have hw := hw.1 c_64
        exact hw _ _ _ (lv_sub hl [] rfl) G
      · have hw := hw.2 c_64
        refine lv_iload hx hb dX6_readItem_67 (lv_at hl 0 rfl) ?_
        refine lv_bipush (v := 120) hx hb dX6_readItem_69 (by decide) ?_
        refine lv_icmp_ge (tgt := 83) hx hb dX6_readItem_71 (by decide) (fun c_71 => ?_) (fun c_71 => ?_)
        · have hw := hw.1 c_71
          exact hw _ _ _ (lv_sub hl [] rfl) G
        · have hw := hw.2 c_71
          refine lv_iload hx hb dX6_readItem_74 (lv_at hl 0 rfl) ?_
          refine lv_aload_n hx hb dX6_readItem_76 rfl (lv_at hl 3 rfl) ?_
          refine x_get (C := RX6) (T := TX6) (n := 8) S G inX6 (xe_7 k0) rfl 6 (by decide) kf_X6_32 rfl dX6_readItem_77 ?_
          refine lv_icmp_ge (tgt := 85) hx hb dX6_readItem_80 (by decide) (fun c_80 => ?_) (fun c_80 => ?_)
          · have hw := hw.1 c_80
            refine lv_aload_n hx hb dX6_readItem_85 rfl (lv_at hl 3 rfl) ?_
            refine lv_dup hx hb dX6_readItem_86 rfl ?_
            refine x_get (C := RX6) (T := TX6) (n := 8) S G inX6 (xe_7 k0) rfl 7 (by decide) kf_X6_35 rfl dX6_readItem_87 ?_
            refine lv_iconst (v := 1) hx hb dX6_readItem_90 (by decide) ?_
            refine lv_iadd hx hb dX6_readItem_91 ?_
            refine x_put (C := RX6) (T := TX6) (n := 8) S G inX6 tyX6 tyX6_ok nmX6 (xe_7 k0) rfl 7 (by decide) kf_X6_35 rfl rfl rfl (Nat.le_of_ble_eq_true rfl) (xp_7_7 k0) dX6_readItem_92 (fun H locs G => ?_)
            obtain ⟨h_92, eh_92⟩ : ∃ y : Hs, y = si h_35 a0 7 ((gi h_35 a0 7) + 1) := ⟨_, rfl⟩
            rw [← eh_92] at G
            have hw := hw h_92 eh_92
            exact hw _ _ _ (lv_sub hl [3, 4, 5, 2, 0, 1] rfl) G
          · have hw := hw.2 c_80
            exact hw _ _ _ (lv_sub hl [] rfl) G
  · have hw := hw.2 c_23
    refine lv_iconst (v := 0) hx hb dX6_readItem_26 (by decide) ?_
    exact RT _ _ _ _ _ _ G zb0 hw dX6_readItem_27
theorem cw_X6_50 {R : Room} {s : State} {args : Array Value} (hts : ∀ w ∈ gW, w.before args s = true) (hR : rm_Tale_readItem.frames + 1 ≤ R.frames ∧ 8 + (6 + 11) + rm_Tale_readItem.locals ≤ R.locals) : CallW R s args RX6 RX6 50 yX6_readItem cX6_readItem 6 (some .boolean) (mw yX6_readItem cX6_readItem 6 (some .boolean)) rm_Tale_readItem 0 0 2 := cwV9 hts km_X6_50 ki_X6_readItem ks_X6_readItem kn_X6 kk_X6_readItem rfl rfl (by decide +kernel) hR
abbrev rm_Tokens_startAt : Room := { frames := 0, cells := 0, slots := 0, locals := 0 }
set_option maxHeartbeats 4000000 in
set_option maxRecDepth 100000 in
theorem c_Tokens_startAt (l : Launch) (D : va_G) (q : Nat → ClassId) (A : Nat → Prop) (ad : Nat → Nat) (a1 : Int32) (h : Hs) (Q : Int32 → Prop) (hw : p_Tokens_startAt a1 h Q) : Met l yX7_startAt (mw yX7_startAt cX7_startAt 2 (some .int)) rm_Tokens_startAt (va_Pc [.ref (ad 43), .int a1] (pW D q A (wX q ad h))) (va_Qi (fun r h9 => h9 = h ∧ Q r) (fun h t => pW D q A (wX q ad h) t) A) 0 0 A := by
  refine met_i (Qp := (fun r h9 => h9 = h ∧ Q r)) (by decide) (Nat.le_of_ble_eq_true rfl) ?_
  intro p e R s m args below meth c Qm ls hR1 hR2 S RT hl G
  have hx := S.1
  have hb := S.2.1
  have hl : lv_has ls 2 [(0, .ref (ad 43)), (1, .int a1)] := hl
  unfold p_Tokens_startAt at hw
  refine lv_iload_n hx hb dX7_startAt_0 rfl (lv_at hl 1 rfl) ?_
  have hw := hw (fun (t0_22 : Int32) => ∀ (ls : Array Slot) (H : Heap) (locs : List Loc), lv_has ls 2 [] → okW D q A s (wX q ad h) H locs → W p l e R s m args below meth c H locs 0 0 Qm (F0 m 22 ls [.int t0_22])) (by
    intro t0_22 hw ls H locs hl G
    exact RT _ _ _ _ _ _ G ⟨rfl, hw⟩ dX7_startAt_22)
  have hw := hw (∀ (ls : Array Slot) (H : Heap) (locs : List Loc), lv_has ls 2 [] → okW D q A s (wX q ad h) H locs → W p l e R s m args below meth c H locs 0 0 Qm (F0 m 21 ls [])) (by
    intro hw ls H locs hl G
    refine lv_iconst (v := 0) hx hb dX7_startAt_21 (by decide) ?_
    exact hw _ _ _ (lv_sub hl [] rfl) G)
  refine lv_if_lt (tgt := 21) hx hb dX7_startAt_1 (by decide) (fun c_1 => ?_) (fun c_1 => ?_)
  · have hw := hw.1 c_1
    exact hw _ _ _ (lv_sub hl [] rfl) G
  · have hw := hw.2 c_1
    refine lv_iload_n hx hb dX7_startAt_4 rfl (lv_at hl 1 rfl) ?_
    refine lv_aload_n hx hb dX7_startAt_5 rfl (lv_at hl 0 rfl) ?_
    refine x_get (C := RX7) (T := TX7) (n := 5) S G inX7 (xe_8 kx_43) rfl 3 (by decide) kf_X7_21 rfl dX7_startAt_6 ?_
    refine lv_icmp_ge (tgt := 21) hx hb dX7_startAt_9 (by decide) (fun c_9 => ?_) (fun c_9 => ?_)
    · have hw := hw.1 c_9
      exact hw _ _ _ (lv_sub hl [] rfl) G
    · have hw := hw.2 c_9
      refine lv_aload_n hx hb dX7_startAt_12 rfl (lv_at hl 0 rfl) ?_
      refine x_get (C := RX7) (T := TX7) (n := 5) S G inX7 (xe_8 kx_43) rfl 0 (by decide) kf_X7_9 rfl dX7_startAt_13 ?_
      refine lv_iload_n hx hb dX7_startAt_16 rfl (lv_at hl 1 rfl) ?_
      obtain ⟨i_17, hw⟩ := hw
      refine x_iald (k := a1.toNatClampNeg) S G (xe_20 kx_44 lx_44) i_17 rfl rfl dX7_startAt_17 ?_
      refine lv_goto (tgt := 22) hx hb dX7_startAt_18 (by decide) ?_
      exact hw _ _ _ (lv_sub hl [] rfl) G
theorem cw_X6_54 {R : Room} {s : State} {args : Array Value} (hts : ∀ w ∈ gW, w.before args s = true) (hR : rm_Tokens_startAt.frames + 1 ≤ R.frames ∧ 8 + (2 + 11) + rm_Tokens_startAt.locals ≤ R.locals) : CallW R s args RX6 RX7 54 yX7_startAt cX7_startAt 2 (some .int) (mw yX7_startAt cX7_startAt 2 (some .int)) rm_Tokens_startAt 0 0 1 := cwV9 hts km_X6_54 ki_X7_startAt ks_X7_startAt kn_X7 kk_X7_startAt rfl rfl (by decide +kernel) hR
abbrev rm_Tale_read : Room := { frames := 3, cells := 0, slots := 0, locals := 70 }
set_option maxHeartbeats 4000000 in
set_option maxRecDepth 100000 in
theorem c_Tale_read (l : Launch) (D : va_G) (q : Nat → ClassId) (A : Nat → Prop) (ad : Nat → Nat) (a0 : Nat) (a2 : Int32) (k0 : kX a0 = 7) (h : Hs) (Q : Hs → Prop) (hw : p_Tale_read a0 a2 h Q) : Met l yX6_read (mw yX6_read cX6_read 4 none) rm_Tale_read (va_Pc [.ref (ad a0), .ref (ad 43), .int a2] (pW D q A (wX q ad h))) (va_Qv Q (fun h t => pW D q A (wX q ad h) t) A) 0 0 A := by
  refine met_v (Qp := Q) (by decide) (Nat.le_of_ble_eq_true rfl) ?_
  intro p e R s m args below meth c Qm ls hR1 hR2 S RT hl G
  have hx := S.1
  have hb := S.2.1
  have hl : lv_has ls 4 [(0, .ref (ad a0)), (1, .ref (ad 43)), (2, .int a2)] := hl
  unfold p_Tale_read at hw
  refine lv_aload_n hx hb dX6_read_0 rfl (lv_at hl 0 rfl) ?_
  refine lv_iconst (v := (-1)) hx hb dX6_read_1 (by decide) ?_
  refine x_put (C := RX6) (T := TX6) (n := 8) S G inX6 tyX6 tyX6_ok nmX6 (xe_7 k0) rfl 2 (by decide) kf_X6_18 rfl rfl rfl (Nat.le_of_ble_eq_true rfl) (xp_7_2 k0) dX6_read_2 (fun H locs G => ?_)
  obtain ⟨h_2, eh_2⟩ : ∃ y : Hs, y = si h a0 2 (-1) := ⟨_, rfl⟩
  rw [← eh_2] at G
  have hw := hw h_2 eh_2
  refine lv_aload_n hx hb dX6_read_5 rfl (lv_at hl 0 rfl) ?_
  refine lv_iconst (v := (-1)) hx hb dX6_read_6 (by decide) ?_
  refine x_put (C := RX6) (T := TX6) (n := 8) S G inX6 tyX6 tyX6_ok nmX6 (xe_7 k0) rfl 3 (by decide) kf_X6_22 rfl rfl rfl (Nat.le_of_ble_eq_true rfl) (xp_7_3 k0) dX6_read_7 (fun H locs G => ?_)
  obtain ⟨h_7, eh_7⟩ : ∃ y : Hs, y = si h_2 a0 3 (-1) := ⟨_, rfl⟩
  rw [← eh_7] at G
  have hw := hw h_7 eh_7
  refine lv_aload_n hx hb dX6_read_10 rfl (lv_at hl 0 rfl) ?_
  refine lv_iconst (v := 0) hx hb dX6_read_11 (by decide) ?_
  refine x_put (C := RX6) (T := TX6) (n := 8) S G inX6 tyX6 tyX6_ok nmX6 (xe_7 k0) rfl 4 (by decide) kf_X6_25 rfl (zb_n zb0) (zb_f zb0) (Nat.le_of_ble_eq_true rfl) (xp_7_4 k0) dX6_read_12 (fun H locs G => ?_)
  obtain ⟨h_12, eh_12⟩ : ∃ y : Hs, y = si h_7 a0 4 0 := ⟨_, rfl⟩
  rw [← eh_12] at G
  have hw := hw h_12 eh_12
  refine lv_aload_n hx hb dX6_read_15 rfl (lv_at hl 0 rfl) ?_
  refine lv_iconst (v := 0) hx hb dX6_read_16 (by decide) ?_
  refine x_put (C := RX6) (T := TX6) (n := 8) S G inX6 tyX6 tyX6_ok nmX6 (xe_7 k0) rfl 5 (by decide) kf_X6_29 rfl rfl rfl (Nat.le_of_ble_eq_true rfl) (xp_7_5 k0) dX6_read_17 (fun H locs G => ?_)
  obtain ⟨h_17, eh_17⟩ : ∃ y : Hs, y = si h_12 a0 5 0 := ⟨_, rfl⟩
  rw [← eh_17] at G
  have hw := hw h_17 eh_17
  refine lv_aload_n hx hb dX6_read_20 rfl (lv_at hl 0 rfl) ?_
  refine lv_iconst (v := 0) hx hb dX6_read_21 (by decide) ?_
  refine x_put (C := RX6) (T := TX6) (n := 8) S G inX6 tyX6 tyX6_ok nmX6 (xe_7 k0) rfl 6 (by decide) kf_X6_32 rfl rfl rfl (Nat.le_of_ble_eq_true rfl) (xp_7_6 k0) dX6_read_22 (fun H locs G => ?_)
  obtain ⟨h_22, eh_22⟩ : ∃ y : Hs, y = si h_17 a0 6 0 := ⟨_, rfl⟩
  rw [← eh_22] at G
  have hw := hw h_22 eh_22
  refine lv_aload_n hx hb dX6_read_25 rfl (lv_at hl 0 rfl) ?_
  refine lv_iconst (v := 0) hx hb dX6_read_26 (by decide) ?_
  refine x_put (C := RX6) (T := TX6) (n := 8) S G inX6 tyX6 tyX6_ok nmX6 (xe_7 k0) rfl 7 (by decide) kf_X6_35 rfl rfl rfl (Nat.le_of_ble_eq_true rfl) (xp_7_7 k0) dX6_read_27 (fun H locs G => ?_)
  obtain ⟨h_27, eh_27⟩ : ∃ y : Hs, y = si h_22 a0 7 0 := ⟨_, rfl⟩
  rw [← eh_27] at G
  have hw := hw h_27 eh_27
  refine lv_aload_n hx hb dX6_read_30 rfl (lv_at hl 0 rfl) ?_
  refine x_get (C := RX6) (T := TX6) (n := 8) S G inX6 (xe_7 k0) rfl 1 (by decide) kf_X6_15 rfl dX6_read_31 ?_
  refine lv_iconst (v := 0) hx hb dX6_read_34 (by decide) ?_
  refine x_Sv S hl.1 G (c_Arr_fill l D q A ad (a0 + 2) 0 ((kxr_7 _ (kX_lt k0) k0).2.1) h_27 _ hw) (cw_X6_38 S.2.2.2.2 ⟨Nat.le_trans (Nat.le_of_ble_eq_true rfl) hR1, Nat.le_trans (Nat.le_of_ble_eq_true rfl) hR2⟩) rfl rfl (Nat.le_of_ble_eq_true rfl) dX6_read_35 (fun h_35 H locs G hw => ?_)
  refine lv_iconst (v := 0) hx hb dX6_read_38 (by decide) ?_
  refine lv_istore_n (lv' := [(3, .int 0), (0, .ref (ad a0)), (1, .ref (ad 43)), (2, .int a2)]) hx hb dX6_read_39 rfl hl (by decide) rfl (fun ls hl => ?_)
  have hw := hw (fun (b3_40 : Int32) (g_40 : Hs) => ∀ (ls : Array Slot) (H : Heap) (locs : List Loc), lv_has ls 4 [(0, .ref (ad a0)), (1, .ref (ad 43)), (2, .int a2), (3, .int b3_40)] → okW D q A s (wX q ad g_40) H locs → W p l e R s m args below meth c H locs 0 0 Qm (F0 m 40 ls [])) (by
    intro b3_40 g_40 hw ls H locs hl G
    refine lv_iload_n hx hb dX6_read_40 rfl (lv_at hl 3 rfl) ?_
    refine lv_bipush (v := 120) hx hb dX6_read_41 (by decide) ?_
    have hw := hw (∀ (ls : Array Slot) (H : Heap) (locs : List Loc), lv_has ls 4 [(0, .ref (ad a0))] → okW D q A s (wX q ad g_40) H locs → W p l e R s m args below meth c H locs 0 0 Qm (F0 m 92 ls [])) (by
      intro hw ls H locs hl G
      refine lv_aload_n hx hb dX6_read_92 rfl (lv_at hl 0 rfl) ?_
      refine lv_bipush (v := 120) hx hb dX6_read_93 (by decide) ?_
      refine x_Vv S hl.1 G (c_Tale_stayUntil l D q A ad a0 120 k0 g_40 _ hw) (cw_X6_57 S.2.2.2.2 ⟨Nat.le_trans (Nat.le_of_ble_eq_true rfl) hR1, Nat.le_trans (Nat.le_of_ble_eq_true rfl) hR2⟩) (xe_7 k0) rfl rfl rfl (Nat.le_of_ble_eq_true rfl) dX6_read_95 (fun h_95 H locs G hw => ?_)
      exact RT _ _ _ _ _ G hw dX6_read_98)
    refine lv_icmp_ge (tgt := 92) hx hb dX6_read_43 (by decide) (fun c_43 => ?_) (fun c_43 => ?_)
    · have hw := hw.1 c_43
      exact hw _ _ _ (lv_sub hl [0] rfl) G
    · have hw := hw.2 c_43
      refine lv_aload_n hx hb dX6_read_46 rfl (lv_at hl 0 rfl) ?_
      refine x_get (C := RX6) (T := TX6) (n := 8) S G inX6 (xe_7 k0) rfl 2 (by decide) kf_X6_18 rfl dX6_read_47 ?_
      refine lv_iconst (v := (-1)) hx hb dX6_read_50 (by decide) ?_
      refine lv_icmp_ne (tgt := 92) hx hb dX6_read_51 (by decide) (fun c_51 => ?_) (fun c_51 => ?_)
      · have hw := hw.1 c_51
        exact hw _ _ _ (lv_sub hl [0] rfl) G
      · have hw := hw.2 c_51
        refine lv_aload_n hx hb dX6_read_54 rfl (lv_at hl 1 rfl) ?_
        refine lv_aload_n hx hb dX6_read_55 rfl (lv_at hl 0 rfl) ?_
        refine x_get (C := RX6) (T := TX6) (n := 8) S G inX6 (xe_7 k0) rfl 7 (by decide) kf_X6_35 rfl dX6_read_56 ?_
        refine x_ViP S hl.1 G (c_Tokens_tokenAt l D q A ad (gi g_40 a0 7) g_40 _ hw) (cw_X6_44 S.2.2.2.2 ⟨Nat.le_trans (Nat.le_of_ble_eq_true rfl) hR1, Nat.le_trans (Nat.le_of_ble_eq_true rfl) hR2⟩) (xe_8 kx_43) rfl rfl rfl (Nat.le_of_ble_eq_true rfl) dX6_read_59 (fun r_59 H locs G hw => ?_)
        refine lv_if_eq (tgt := 92) hx hb dX6_read_62 (by decide) (fun c_62 => ?_) (fun c_62 => ?_)
        · have hw := hw.1 c_62
          exact hw _ _ _ (lv_sub hl [0] rfl) G
        · have hw := hw.2 c_62
          refine lv_aload_n hx hb dX6_read_65 rfl (lv_at hl 0 rfl) ?_
          refine lv_aload_n hx hb dX6_read_66 rfl (lv_at hl 1 rfl) ?_
          refine lv_iload_n hx hb dX6_read_67 rfl (lv_at hl 2 rfl) ?_
          refine x_Vi S hl.1 G (c_Tale_readItem l D q A ad a0 a2 k0 g_40 _ hw) (cw_X6_50 S.2.2.2.2 ⟨Nat.le_trans (Nat.le_of_ble_eq_true rfl) hR1, Nat.le_trans (Nat.le_of_ble_eq_true rfl) hR2⟩) (xe_7 k0) rfl rfl rfl (Nat.le_of_ble_eq_true rfl) dX6_read_68 (fun r_68 h_68 H locs G hw => ?_)
          obtain ⟨z_68, hw⟩ := hw
          have hw := hw (fun (g_86 : Hs) => ∀ (ls : Array Slot) (H : Heap) (locs : List Loc), lv_has ls 4 [(0, .ref (ad a0)), (1, .ref (ad 43)), (2, .int a2), (3, .int b3_40)] → okW D q A s (wX q ad g_86) H locs → W p l e R s m args below meth c H locs 0 0 Qm (F0 m 86 ls [])) (by
            intro g_86 hw ls H locs hl G
            obtain ⟨a3_86, ea3_86⟩ : ∃ y : Int32, y = b3_40 + 1 := ⟨_, rfl⟩
            have hw := hw a3_86 ea3_86
            refine lv_iinc (v := a3_86) (lv' := [(3, .int a3_86), (0, .ref (ad a0)), (1, .ref (ad 43)), (2, .int a2)]) hx hb dX6_read_86 hl (k := 3) rfl (by rw [ea3_86]; rfl) (by decide) rfl (fun ls hl => ?_)
            refine lv_goto (tgt := 40) hx hb dX6_read_89 (by decide) ?_
            exact hw _ _ _ (lv_sub hl [1, 2, 3, 0] rfl) G)
          refine lv_if_ne (tgt := 86) hx hb dX6_read_71 (by decide) (fun c_71 => ?_) (fun c_71 => ?_)
          · have hw := hw.1 c_71
            exact hw _ _ _ (lv_sub hl [0, 1, 2, 3] rfl) G
          · have hw := hw.2 c_71
            refine lv_aload_n hx hb dX6_read_74 rfl (lv_at hl 0 rfl) ?_
            refine lv_aload_n hx hb dX6_read_75 rfl (lv_at hl 1 rfl) ?_
            refine lv_aload_n hx hb dX6_read_76 rfl (lv_at hl 0 rfl) ?_
            refine x_get (C := RX6) (T := TX6) (n := 8) S G inX6 (xe_7 k0) rfl 7 (by decide) kf_X6_35 rfl dX6_read_77 ?_
            refine x_ViP S hl.1 G (c_Tokens_startAt l D q A ad (gi h_68 a0 7) h_68 _ hw) (cw_X6_54 S.2.2.2.2 ⟨Nat.le_trans (Nat.le_of_ble_eq_true rfl) hR1, Nat.le_trans (Nat.le_of_ble_eq_true rfl) hR2⟩) (xe_8 kx_43) rfl rfl rfl (Nat.le_of_ble_eq_true rfl) dX6_read_80 (fun r_80 H locs G hw => ?_)
            refine x_put (C := RX6) (T := TX6) (n := 8) S G inX6 tyX6 tyX6_ok nmX6 (xe_7 k0) rfl 2 (by decide) kf_X6_18 rfl rfl rfl (Nat.le_of_ble_eq_true rfl) (xp_7_2 k0) dX6_read_83 (fun H locs G => ?_)
            obtain ⟨h_83, eh_83⟩ : ∃ y : Hs, y = si h_68 a0 2 r_80 := ⟨_, rfl⟩
            rw [← eh_83] at G
            have hw := hw h_83 eh_83
            exact hw _ _ _ (lv_sub hl [0, 1, 2, 3] rfl) G)
  exact hw _ _ _ (lv_sub hl [1, 2, 3, 0] rfl) G
theorem cw_X3_68 {R : Room} {s : State} {args : Array Value} (hts : ∀ w ∈ gW, w.before args s = true) (hR : rm_Tale_read.frames + 1 ≤ R.frames ∧ 8 + (4 + 11) + rm_Tale_read.locals ≤ R.locals) : CallW R s args RX3 RX6 68 yX6_read cX6_read 4 none (mw yX6_read cX6_read 4 none) rm_Tale_read 0 0 2 := cwV9 hts km_X3_68 ki_X6_read ks_X6_read kn_X6 kk_X6_read rfl rfl (by decide +kernel) hR
abbrev rm_State_feedsIn : Room := { frames := 0, cells := 0, slots := 0, locals := 0 }
set_option maxHeartbeats 4000000 in
set_option maxRecDepth 100000 in
theorem c_State_feedsIn (l : Launch) (D : va_G) (q : Nat → ClassId) (A : Nat → Prop) (ad : Nat → Nat) (a1 : Int32) (a2 : Int32) (h : Hs) (Q : Int32 → Prop) (hw : p_State_feedsIn a1 a2 h Q) : Met l yX5_feedsIn (mw yX5_feedsIn cX5_feedsIn 3 (some .int)) rm_State_feedsIn (va_Pc [.ref (ad 3), .int a1, .int a2] (pW D q A (wX q ad h))) (va_Qi (fun r h9 => h9 = h ∧ Q r) (fun h t => pW D q A (wX q ad h) t) A) 0 0 A := by
  refine met_i (Qp := (fun r h9 => h9 = h ∧ Q r)) (by decide) (Nat.le_of_ble_eq_true rfl) ?_
  intro p e R s m args below meth c Qm ls hR1 hR2 S RT hl G
  have hx := S.1
  have hb := S.2.1
  have hl : lv_has ls 3 [(0, .ref (ad 3)), (1, .int a1), (2, .int a2)] := hl
  unfold p_State_feedsIn at hw
  refine lv_aload_n hx hb dX5_feedsIn_0 rfl (lv_at hl 0 rfl) ?_
  refine x_get (C := RX5) (T := TX5) (n := 17) S G inX5 (xe_6 kx_3) rfl 4 (by decide) kf_X5_9 rfl dX5_feedsIn_1 ?_
  refine lv_iload_n hx hb dX5_feedsIn_4 rfl (lv_at hl 1 rfl) ?_
  obtain ⟨i_5, hw⟩ := hw
  refine x_iald (k := a1.toNatClampNeg) S G (xe_20 kx_4 lx_4) i_5 rfl rfl dX5_feedsIn_5 ?_
  refine lv_aload_n hx hb dX5_feedsIn_6 rfl (lv_at hl 0 rfl) ?_
  refine x_get (C := RX5) (T := TX5) (n := 17) S G inX5 (xe_6 kx_3) rfl 5 (by decide) kf_X5_15 rfl dX5_feedsIn_7 ?_
  refine lv_iload_n hx hb dX5_feedsIn_10 rfl (lv_at hl 2 rfl) ?_
  obtain ⟨i_11, hw⟩ := hw
  refine x_iald (k := a2.toNatClampNeg) S G (xe_20 kx_5 lx_5) i_11 rfl rfl dX5_feedsIn_11 ?_
  refine lv_imul hx hb dX5_feedsIn_12 ?_
  refine lv_iconst (v := 5) hx hb dX5_feedsIn_13 (by decide) ?_
  refine lv_idiv hx hb dX5_feedsIn_14 (by decide) ?_
  exact RT _ _ _ _ _ _ G ⟨rfl, hw⟩ dX5_feedsIn_15
theorem cw_X3_71 {R : Room} {s : State} {args : Array Value} (hts : ∀ w ∈ gW, w.before args s = true) (hR : rm_State_feedsIn.frames + 1 ≤ R.frames ∧ 8 + (3 + 11) + rm_State_feedsIn.locals ≤ R.locals) : CallW R s args RX3 RX5 71 yX5_feedsIn cX5_feedsIn 3 (some .int) (mw yX5_feedsIn cX5_feedsIn 3 (some .int)) rm_State_feedsIn 0 0 2 := cwV9 hts km_X3_71 ki_X5_feedsIn ks_X5_feedsIn kn_X5 kk_X5_feedsIn rfl rfl (by decide +kernel) hR
theorem cw_X9_212 {R : Room} {s : State} {args : Array Value} (hts : ∀ w ∈ gW, w.before args s = true) (hR : rm_State_feedsIn.frames + 1 ≤ R.frames ∧ 8 + (3 + 11) + rm_State_feedsIn.locals ≤ R.locals) : CallW R s args RX9 RX5 212 yX5_feedsIn cX5_feedsIn 3 (some .int) (mw yX5_feedsIn cX5_feedsIn 3 (some .int)) rm_State_feedsIn 0 0 2 := cwV9 hts km_X9_212 ki_X5_feedsIn ks_X5_feedsIn kn_X5 kk_X5_feedsIn rfl rfl (by decide +kernel) hR
abbrev rm_Lives_someoneMoves : Room := { frames := 0, cells := 0, slots := 0, locals := 0 }
set_option maxHeartbeats 4000000 in
set_option maxRecDepth 100000 in
theorem c_Lives_someoneMoves (l : Launch) (D : va_G) (q : Nat → ClassId) (A : Nat → Prop) (ad : Nat → Nat) (a1 : Int32) (h : Hs) (Q : Int32 → Prop) (hw : p_Lives_someoneMoves a1 h Q) : Met l yX3_someoneMoves (mw yX3_someoneMoves cX3_someoneMoves 4 (some .boolean)) rm_Lives_someoneMoves (va_Pc [.ref (ad 2), .int a1] (pW D q A (wX q ad h))) (va_Qi (fun r h9 => zb r ∧ h9 = h ∧ Q r) (fun h t => pW D q A (wX q ad h) t) A) 0 0 A := by
  refine met_z (Qp := (fun r h9 => h9 = h ∧ Q r)) (by decide) (Nat.le_of_ble_eq_true rfl) ?_
  intro p e R s m args below meth c Qm ls hR1 hR2 S RT hl G
  have hx := S.1
  have hb := S.2.1
  have hl : lv_has ls 4 [(0, .ref (ad 2)), (1, .int a1)] := hl
  unfold p_Lives_someoneMoves at hw
  refine lv_iconst (v := 0) hx hb dX3_someoneMoves_0 (by decide) ?_
  refine lv_istore_n (lv' := [(2, .int 0), (0, .ref (ad 2)), (1, .int a1)]) hx hb dX3_someoneMoves_1 rfl hl (by decide) rfl (fun ls hl => ?_)
  have hw := hw (fun (b2_2 : Int32) => ∀ (ls : Array Slot) (H : Heap) (locs : List Loc), lv_has ls 4 [(0, .ref (ad 2)), (1, .int a1), (2, .int b2_2)] → okW D q A s (wX q ad h) H locs → W p l e R s m args below meth c H locs 0 0 Qm (F0 m 2 ls [])) (by
    intro b2_2 hw ls H locs hl G
    refine lv_iload_n hx hb dX3_someoneMoves_2 rfl (lv_at hl 2 rfl) ?_
    refine lv_iconst (v := 4) hx hb dX3_someoneMoves_3 (by decide) ?_
    refine lv_icmp_ge (tgt := 40) hx hb dX3_someoneMoves_4 (by decide) (fun c_4 => ?_) (fun c_4 => ?_)
    · have hw := hw.1 c_4
      refine lv_iconst (v := 0) hx hb dX3_someoneMoves_40 (by decide) ?_
      exact RT _ _ _ _ _ _ G zb0 ⟨rfl, hw⟩ dX3_someoneMoves_41
    · have hw := hw.2 c_4
      refine lv_aload_n hx hb dX3_someoneMoves_7 rfl (lv_at hl 0 rfl) ?_
      refine x_get (C := RX3) (T := TX3) (n := 10) S G inX3 (xe_4 kx_2) rfl 2 (by decide) kf_X3_27 rfl dX3_someoneMoves_8 ?_
      refine lv_iload_n hx hb dX3_someoneMoves_11 rfl (lv_at hl 2 rfl) ?_
      obtain ⟨i_12, hw⟩ := hw
      refine x_aald (k := b2_2.toNatClampNeg) S G 4 (xe_24 kx_47 lx_47 rfl) rfl rfl i_12 rfl (if_pos (vpl i_12)) dX3_someoneMoves_12 ?_
      refine x_get (C := RX6) (T := TX6) (n := 8) S G inX6 (xe_7 (kxe_47 _ (vpl i_12))) rfl 0 (by decide) kf_X3_85 rfl dX3_someoneMoves_13 ?_
      refine lv_astore_n (lv' := [(3, .ref (ad ((59 + 3 * b2_2.toNatClampNeg) + 1))), (0, .ref (ad 2)), (1, .int a1), (2, .int b2_2)]) hx hb dX3_someoneMoves_16 rfl hl (by decide) rfl (fun ls hl => ?_)
      refine lv_iload_n hx hb dX3_someoneMoves_17 rfl (lv_at hl 2 rfl) ?_
      have hw := hw (∀ (ls : Array Slot) (H : Heap) (locs : List Loc), lv_has ls 4 [(0, .ref (ad 2)), (1, .int a1), (2, .int b2_2)] → okW D q A s (wX q ad h) H locs → W p l e R s m args below meth c H locs 0 0 Qm (F0 m 34 ls [])) (by
        intro hw ls H locs hl G
        obtain ⟨a2_34, ea2_34⟩ : ∃ y : Int32, y = b2_2 + 1 := ⟨_, rfl⟩
        have hw := hw a2_34 ea2_34
        refine lv_iinc (v := a2_34) (lv' := [(2, .int a2_34), (0, .ref (ad 2)), (1, .int a1)]) hx hb dX3_someoneMoves_34 hl (k := 2) rfl (by rw [ea2_34]; rfl) (by decide) rfl (fun ls hl => ?_)
        refine lv_goto (tgt := 2) hx hb dX3_someoneMoves_37 (by decide) ?_
        exact hw _ _ _ (lv_sub hl [1, 2, 0] rfl) G)
      refine lv_if_le (tgt := 34) hx hb dX3_someoneMoves_18 (by decide) (fun c_18 => ?_) (fun c_18 => ?_)
      · have hw := hw.1 c_18
        exact hw _ _ _ (lv_sub hl [1, 2, 3] rfl) G
      · have hw := hw.2 c_18
        refine lv_aload_n hx hb dX3_someoneMoves_21 rfl (lv_at hl 0 rfl) ?_
        refine lv_iload_n hx hb dX3_someoneMoves_22 rfl (lv_at hl 2 rfl) ?_
        obtain ⟨i_23, hw⟩ := hw
        refine x_iald (k := a1.toNatClampNeg) S G (xe_20 ((kxr_7 _ (kX_lt (kxe_47 _ (vpl i_12))) (kxe_47 _ (vpl i_12))).1.1) ((kxr_7 _ (kX_lt (kxe_47 _ (vpl i_12))) (kxe_47 _ (vpl i_12))).1.2)) i_23 rfl rfl dX3_someoneMoves_23 ?_
        refine lv_aload_n hx hb dX3_someoneMoves_24 rfl (lv_at hl 0 rfl) ?_
        refine lv_iload_n hx hb dX3_someoneMoves_25 rfl (lv_at hl 2 rfl) ?_
        refine lv_iconst (v := 1) hx hb dX3_someoneMoves_26 (by decide) ?_
        refine lv_isub hx hb dX3_someoneMoves_27 ?_
        obtain ⟨i_28, hw⟩ := hw
        refine x_iald (k := (a1 - 1).toNatClampNeg) S G (xe_20 ((kxr_7 _ (kX_lt (kxe_47 _ (vpl i_12))) (kxe_47 _ (vpl i_12))).1.1) ((kxr_7 _ (kX_lt (kxe_47 _ (vpl i_12))) (kxe_47 _ (vpl i_12))).1.2)) i_28 rfl rfl dX3_someoneMoves_28 ?_
        refine lv_icmp_eq (tgt := 34) hx hb dX3_someoneMoves_29 (by decide) (fun c_29 => ?_) (fun c_29 => ?_)
        · have hw := hw.1 c_29
          exact hw _ _ _ (lv_sub hl [1, 2, 3] rfl) G
        · have hw := hw.2 c_29
          refine lv_iconst (v := 1) hx hb dX3_someoneMoves_32 (by decide) ?_
          exact RT _ _ _ _ _ _ G zb1 ⟨rfl, hw⟩ dX3_someoneMoves_33)
  exact hw _ _ _ (lv_sub hl [1, 2, 0] rfl) G
theorem cw_X3_81 {R : Room} {s : State} {args : Array Value} (hts : ∀ w ∈ gW, w.before args s = true) (hR : rm_Lives_someoneMoves.frames + 1 ≤ R.frames ∧ 8 + (4 + 11) + rm_Lives_someoneMoves.locals ≤ R.locals) : CallW R s args RX3 RX3 81 yX3_someoneMoves cX3_someoneMoves 4 (some .boolean) (mw yX3_someoneMoves cX3_someoneMoves 4 (some .boolean)) rm_Lives_someoneMoves 0 0 1 := cwV9 hts km_X3_81 ki_X3_someoneMoves ks_X3_someoneMoves kn_X3 kk_X3_someoneMoves rfl rfl (by decide +kernel) hR
abbrev rm_Lives_findTurns : Room := { frames := 1, cells := 0, slots := 0, locals := 23 }
set_option maxHeartbeats 4000000 in
set_option maxRecDepth 100000 in
theorem c_Lives_findTurns (l : Launch) (D : va_G) (q : Nat → ClassId) (A : Nat → Prop) (ad : Nat → Nat) (h : Hs) (Q : Hs → Prop) (hw : p_Lives_findTurns h Q) : Met l yX3_findTurns (mw yX3_findTurns cX3_findTurns 2 none) rm_Lives_findTurns (va_Pc [.ref (ad 2)] (pW D q A (wX q ad h))) (va_Qv Q (fun h t => pW D q A (wX q ad h) t) A) 0 0 A := by
  refine met_v (Qp := Q) (by decide) (Nat.le_of_ble_eq_true rfl) ?_
  intro p e R s m args below meth c Qm ls hR1 hR2 S RT hl G
  have hx := S.1
  have hb := S.2.1
  have hl : lv_has ls 2 [(0, .ref (ad 2))] := hl
  unfold p_Lives_findTurns at hw
  refine lv_aload_n hx hb dX3_findTurns_0 rfl (lv_at hl 0 rfl) ?_
  refine lv_iconst (v := 0) hx hb dX3_findTurns_1 (by decide) ?_
  refine x_put (C := RX3) (T := TX3) (n := 10) S G inX3 tyX3 tyX3_ok nmX3 (xe_4 kx_2) rfl 5 (by decide) kf_X3_78 rfl rfl rfl (Nat.le_of_ble_eq_true rfl) (xp_4_5 kx_2) dX3_findTurns_2 (fun H locs G => ?_)
  obtain ⟨h_2, eh_2⟩ : ∃ y : Hs, y = si h 2 5 0 := ⟨_, rfl⟩
  rw [← eh_2] at G
  have hw := hw h_2 eh_2
  refine lv_iconst (v := 0) hx hb dX3_findTurns_5 (by decide) ?_
  refine lv_istore_n (lv' := [(1, .int 0), (0, .ref (ad 2))]) hx hb dX3_findTurns_6 rfl hl (by decide) rfl (fun ls hl => ?_)
  have hw := hw (fun (b1_7 : Int32) (g_7 : Hs) => ∀ (ls : Array Slot) (H : Heap) (locs : List Loc), lv_has ls 2 [(0, .ref (ad 2)), (1, .int b1_7)] → okW D q A s (wX q ad g_7) H locs → W p l e R s m args below meth c H locs 0 0 Qm (F0 m 7 ls [])) (by
    intro b1_7 g_7 hw ls H locs hl G
    refine lv_iload_n hx hb dX3_findTurns_7 rfl (lv_at hl 1 rfl) ?_
    refine lv_bipush (v := 120) hx hb dX3_findTurns_8 (by decide) ?_
    refine lv_icmp_ge (tgt := 54) hx hb dX3_findTurns_10 (by decide) (fun c_10 => ?_) (fun c_10 => ?_)
    · have hw := hw.1 c_10
      exact RT _ _ _ _ _ G hw dX3_findTurns_54
    · have hw := hw.2 c_10
      refine lv_iload_n hx hb dX3_findTurns_13 rfl (lv_at hl 1 rfl) ?_
      refine lv_bipush (v := 12) hx hb dX3_findTurns_14 (by decide) ?_
      refine lv_irem hx hb dX3_findTurns_16 (by decide) ?_
      have hw := hw (fun (g_48 : Hs) => ∀ (ls : Array Slot) (H : Heap) (locs : List Loc), lv_has ls 2 [(0, .ref (ad 2)), (1, .int b1_7)] → okW D q A s (wX q ad g_48) H locs → W p l e R s m args below meth c H locs 0 0 Qm (F0 m 48 ls [])) (by
        intro g_48 hw ls H locs hl G
        obtain ⟨a1_48, ea1_48⟩ : ∃ y : Int32, y = b1_7 + 1 := ⟨_, rfl⟩
        have hw := hw a1_48 ea1_48
        refine lv_iinc (v := a1_48) (lv' := [(1, .int a1_48), (0, .ref (ad 2))]) hx hb dX3_findTurns_48 hl (k := 1) rfl (by rw [ea1_48]; rfl) (by decide) rfl (fun ls hl => ?_)
        refine lv_goto (tgt := 7) hx hb dX3_findTurns_51 (by decide) ?_
        exact hw _ _ _ (lv_sub hl [1, 0] rfl) G)
      have hw := hw (∀ (ls : Array Slot) (H : Heap) (locs : List Loc), lv_has ls 2 [(0, .ref (ad 2)), (1, .int b1_7)] → okW D q A s (wX q ad g_7) H locs → W p l e R s m args below meth c H locs 0 0 Qm (F0 m 28 ls [])) (by
        intro hw ls H locs hl G
        refine lv_aload_n hx hb dX3_findTurns_28 rfl (lv_at hl 0 rfl) ?_
        refine x_get (C := RX3) (T := TX3) (n := 10) S G inX3 (xe_4 kx_2) rfl 4 (by decide) kf_X3_35 rfl dX3_findTurns_29 ?_
        refine lv_aload_n hx hb dX3_findTurns_32 rfl (lv_at hl 0 rfl) ?_
        refine x_get (C := RX3) (T := TX3) (n := 10) S G inX3 (xe_4 kx_2) rfl 5 (by decide) kf_X3_78 rfl dX3_findTurns_33 ?_
        refine lv_iload_n hx hb dX3_findTurns_36 rfl (lv_at hl 1 rfl) ?_
        obtain ⟨i_37, hw⟩ := hw
        refine x_iast (k := (gi g_7 2 5).toNatClampNeg) S G (xe_20 kx_49 lx_49) i_37 rfl (xs_20 kx_49 lx_49) dX3_findTurns_37 (fun H locs G => ?_)
        obtain ⟨h_37, eh_37⟩ : ∃ y : Hs, y = si g_7 49 ((gi g_7 2 5).toNatClampNeg) b1_7 := ⟨_, rfl⟩
        rw [← eh_37] at G
        have hw := hw h_37 eh_37
        refine lv_aload_n hx hb dX3_findTurns_38 rfl (lv_at hl 0 rfl) ?_
        refine lv_dup hx hb dX3_findTurns_39 rfl ?_
        refine x_get (C := RX3) (T := TX3) (n := 10) S G inX3 (xe_4 kx_2) rfl 5 (by decide) kf_X3_78 rfl dX3_findTurns_40 ?_
        refine lv_iconst (v := 1) hx hb dX3_findTurns_43 (by decide) ?_
        refine lv_iadd hx hb dX3_findTurns_44 ?_
        refine x_put (C := RX3) (T := TX3) (n := 10) S G inX3 tyX3 tyX3_ok nmX3 (xe_4 kx_2) rfl 5 (by decide) kf_X3_78 rfl rfl rfl (Nat.le_of_ble_eq_true rfl) (xp_4_5 kx_2) dX3_findTurns_45 (fun H locs G => ?_)
        obtain ⟨h_45, eh_45⟩ : ∃ y : Hs, y = si h_37 2 5 ((gi h_37 2 5) + 1) := ⟨_, rfl⟩
        rw [← eh_45] at G
        have hw := hw h_45 eh_45
        exact hw _ _ _ (lv_sub hl [0, 1] rfl) G)
      refine lv_if_eq (tgt := 28) hx hb dX3_findTurns_17 (by decide) (fun c_17 => ?_) (fun c_17 => ?_)
      · have hw := hw.1 c_17
        exact hw _ _ _ (lv_sub hl [0, 1] rfl) G
      · have hw := hw.2 c_17
        refine lv_aload_n hx hb dX3_findTurns_20 rfl (lv_at hl 0 rfl) ?_
        refine lv_iload_n hx hb dX3_findTurns_21 rfl (lv_at hl 1 rfl) ?_
        refine x_VzP S hl.1 G (c_Lives_someoneMoves l D q A ad b1_7 g_7 _ hw) (cw_X3_81 S.2.2.2.2 ⟨Nat.le_trans (Nat.le_of_ble_eq_true rfl) hR1, Nat.le_trans (Nat.le_of_ble_eq_true rfl) hR2⟩) (xe_4 kx_2) rfl rfl rfl (Nat.le_of_ble_eq_true rfl) dX3_findTurns_22 (fun r_22 H locs G z_22 hw => ?_)
        refine lv_if_eq (tgt := 48) hx hb dX3_findTurns_25 (by decide) (fun c_25 => ?_) (fun c_25 => ?_)
        · have hw := hw.1 c_25
          exact hw _ _ _ (lv_sub hl [0, 1] rfl) G
        · have hw := hw.2 c_25
          exact hw _ _ _ (lv_sub hl [0, 1] rfl) G)
  exact hw _ _ _ (lv_sub hl [1, 0] rfl) G
theorem cw_X3_75 {R : Room} {s : State} {args : Array Value} (hts : ∀ w ∈ gW, w.before args s = true) (hR : rm_Lives_findTurns.frames + 1 ≤ R.frames ∧ 8 + (2 + 11) + rm_Lives_findTurns.locals ≤ R.locals) : CallW R s args RX3 RX3 75 yX3_findTurns cX3_findTurns 2 none (mw yX3_findTurns cX3_findTurns 2 none) rm_Lives_findTurns 0 0 0 := cwV9 hts km_X3_75 ki_X3_findTurns ks_X3_findTurns kn_X3 kk_X3_findTurns rfl rfl (by decide +kernel) hR
abbrev rm_Lives_refresh : Room := { frames := 4, cells := 0, slots := 0, locals := 93 }
set_option maxHeartbeats 4000000 in
set_option maxRecDepth 100000 in
theorem c_Lives_refresh (l : Launch) (D : va_G) (q : Nat → ClassId) (A : Nat → Prop) (ad : Nat → Nat) (h : Hs) (Q : Hs → Prop) (hw : p_Lives_refresh h Q) : Met l yX3_refresh (mw yX3_refresh cX3_refresh 3 none) rm_Lives_refresh (va_Pc [.ref (ad 2)] (pW D q A (wX q ad h))) (va_Qv Q (fun h t => pW D q A (wX q ad h) t) A) 0 0 A := by
  refine met_v (Qp := Q) (by decide) (Nat.le_of_ble_eq_true rfl) ?_
  intro p e R s m args below meth c Qm ls hR1 hR2 S RT hl G
  have hx := S.1
  have hb := S.2.1
  have hl : lv_has ls 3 [(0, .ref (ad 2))] := hl
  unfold p_Lives_refresh at hw
  refine lv_aload_n hx hb dX3_refresh_0 rfl (lv_at hl 0 rfl) ?_
  refine x_get (C := RX3) (T := TX3) (n := 10) S G inX3 (xe_4 kx_2) rfl 9 (by decide) kf_X3_50 rfl dX3_refresh_1 ?_
  refine lv_if_eq (tgt := 8) hx hb dX3_refresh_4 (by decide) (fun c_4 => ?_) (fun c_4 => ?_)
  · have hw := hw.1 c_4
    refine lv_aload_n hx hb dX3_refresh_8 rfl (lv_at hl 0 rfl) ?_
    refine lv_iconst (v := 1) hx hb dX3_refresh_9 (by decide) ?_
    refine x_put (C := RX3) (T := TX3) (n := 10) S G inX3 tyX3 tyX3_ok nmX3 (xe_4 kx_2) rfl 9 (by decide) kf_X3_50 rfl (zb_n zb1) (zb_f zb1) (Nat.le_of_ble_eq_true rfl) (xp_4_9 kx_2) dX3_refresh_10 (fun H locs G => ?_)
    obtain ⟨h_10, eh_10⟩ : ∃ y : Hs, y = si h 2 9 1 := ⟨_, rfl⟩
    rw [← eh_10] at G
    have hw := hw h_10 eh_10
    refine lv_iconst (v := 0) hx hb dX3_refresh_13 (by decide) ?_
    refine lv_istore_n (lv' := [(1, .int 0), (0, .ref (ad 2))]) hx hb dX3_refresh_14 rfl hl (by decide) rfl (fun ls hl => ?_)
    have hw := hw (fun (b1_15 : Int32) (g_15 : Hs) => ∀ (ls : Array Slot) (H : Heap) (locs : List Loc), lv_has ls 3 [(0, .ref (ad 2)), (1, .int b1_15)] → okW D q A s (wX q ad g_15) H locs → W p l e R s m args below meth c H locs 0 0 Qm (F0 m 15 ls [])) (by
      intro b1_15 g_15 hw ls H locs hl G
      refine lv_iload_n hx hb dX3_refresh_15 rfl (lv_at hl 1 rfl) ?_
      refine lv_iconst (v := 4) hx hb dX3_refresh_16 (by decide) ?_
      refine lv_icmp_ge (tgt := 71) hx hb dX3_refresh_17 (by decide) (fun c_17 => ?_) (fun c_17 => ?_)
      · have hw := hw.1 c_17
        refine lv_iconst (v := 0) hx hb dX3_refresh_71 (by decide) ?_
        refine lv_istore_n (lv' := [(1, .int 0), (0, .ref (ad 2))]) hx hb dX3_refresh_72 rfl hl (by decide) rfl (fun ls hl => ?_)
        have hw := hw (fun (b1_73 : Int32) (g_73 : Hs) => ∀ (ls : Array Slot) (H : Heap) (locs : List Loc), lv_has ls 3 [(0, .ref (ad 2)), (1, .int b1_73)] → okW D q A s (wX q ad g_73) H locs → W p l e R s m args below meth c H locs 0 0 Qm (F0 m 73 ls [])) (by
          intro b1_73 g_73 hw ls H locs hl G
          refine lv_iload_n hx hb dX3_refresh_73 rfl (lv_at hl 1 rfl) ?_
          refine lv_aload_n hx hb dX3_refresh_74 rfl (lv_at hl 0 rfl) ?_
          refine x_get (C := RX3) (T := TX3) (n := 10) S G inX3 (xe_4 kx_2) rfl 0 (by decide) kf_X3_12 rfl dX3_refresh_75 ?_
          refine x_get (C := RX5) (T := TX5) (n := 17) S G inX5 (xe_6 kx_3) rfl 0 (by decide) kf_X3_64 rfl dX3_refresh_78 ?_
          refine lv_icmp_ge (tgt := 121) hx hb dX3_refresh_81 (by decide) (fun c_81 => ?_) (fun c_81 => ?_)
          · have hw := hw.1 c_81
            refine lv_aload_n hx hb dX3_refresh_121 rfl (lv_at hl 0 rfl) ?_
            refine x_Vv S hl.1 G (c_Lives_findTurns l D q A ad g_73 _ hw) (cw_X3_75 S.2.2.2.2 ⟨Nat.le_trans (Nat.le_of_ble_eq_true rfl) hR1, Nat.le_trans (Nat.le_of_ble_eq_true rfl) hR2⟩) (xe_4 kx_2) rfl rfl rfl (Nat.le_of_ble_eq_true rfl) dX3_refresh_122 (fun h_122 H locs G hw => ?_)
            exact RT _ _ _ _ _ G hw dX3_refresh_125
          · have hw := hw.2 c_81
            refine lv_iconst (v := 0) hx hb dX3_refresh_84 (by decide) ?_
            refine lv_istore_n (lv' := [(2, .int 0), (0, .ref (ad 2)), (1, .int b1_73)]) hx hb dX3_refresh_85 rfl hl (by decide) rfl (fun ls hl => ?_)
            have hw := hw (fun (b2_86 : Int32) (g_86 : Hs) => ∀ (ls : Array Slot) (H : Heap) (locs : List Loc), lv_has ls 3 [(0, .ref (ad 2)), (1, .int b1_73), (2, .int b2_86)] → okW D q A s (wX q ad g_86) H locs → W p l e R s m args below meth c H locs 0 0 Qm (F0 m 86 ls [])) (by
              intro b2_86 g_86 hw ls H locs hl G
              refine lv_iload_n hx hb dX3_refresh_86 rfl (lv_at hl 2 rfl) ?_
              refine lv_bipush (v := 10) hx hb dX3_refresh_87 (by decide) ?_
              refine lv_icmp_ge (tgt := 115) hx hb dX3_refresh_89 (by decide) (fun c_89 => ?_) (fun c_89 => ?_)
              · have hw := hw.1 c_89
                obtain ⟨a1_115, ea1_115⟩ : ∃ y : Int32, y = b1_73 + 1 := ⟨_, rfl⟩
                have hw := hw a1_115 ea1_115
                refine lv_iinc (v := a1_115) (lv' := [(1, .int a1_115), (0, .ref (ad 2)), (2, .int b2_86)]) hx hb dX3_refresh_115 hl (k := 1) rfl (by rw [ea1_115]; rfl) (by decide) rfl (fun ls hl => ?_)
                refine lv_goto (tgt := 73) hx hb dX3_refresh_118 (by decide) ?_
                exact hw _ _ _ (lv_sub hl [1, 0] rfl) G
              · have hw := hw.2 c_89
                refine lv_aload_n hx hb dX3_refresh_92 rfl (lv_at hl 0 rfl) ?_
                refine x_get (C := RX3) (T := TX3) (n := 10) S G inX3 (xe_4 kx_2) rfl 8 (by decide) kf_X3_46 rfl dX3_refresh_93 ?_
                refine lv_iload_n hx hb dX3_refresh_96 rfl (lv_at hl 1 rfl) ?_
                obtain ⟨i_97, hw⟩ := hw
                refine x_aald (k := b1_73.toNatClampNeg) S G 2 (xe_22 kx_52 lx_52) rfl rfl i_97 rfl (if_pos (vpl i_97)) dX3_refresh_97 ?_
                refine lv_iload_n hx hb dX3_refresh_98 rfl (lv_at hl 2 rfl) ?_
                refine lv_aload_n hx hb dX3_refresh_99 rfl (lv_at hl 0 rfl) ?_
                refine x_get (C := RX3) (T := TX3) (n := 10) S G inX3 (xe_4 kx_2) rfl 0 (by decide) kf_X3_12 rfl dX3_refresh_100 ?_
                refine lv_iload_n hx hb dX3_refresh_103 rfl (lv_at hl 1 rfl) ?_
                refine lv_iload_n hx hb dX3_refresh_104 rfl (lv_at hl 2 rfl) ?_
                refine x_ViP S hl.1 G (c_State_feedsIn l D q A ad b1_73 b2_86 g_86 _ hw) (cw_X3_71 S.2.2.2.2 ⟨Nat.le_trans (Nat.le_of_ble_eq_true rfl) hR1, Nat.le_trans (Nat.le_of_ble_eq_true rfl) hR2⟩) (xe_6 kx_3) rfl rfl rfl (Nat.le_of_ble_eq_true rfl) dX3_refresh_105 (fun r_105 H locs G hw => ?_)
                obtain ⟨i_108, hw⟩ := hw
                refine x_iast (k := b2_86.toNatClampNeg) S G (xe_20 (kxe_52 _ (vpl i_97)) (lxe_52 _ (vpl i_97))) i_108 rfl (xs_20 (kxe_52 _ (vpl i_97)) (lxe_52 _ (vpl i_97))) dX3_refresh_108 (fun H locs G => ?_)
                obtain ⟨h_108, eh_108⟩ : ∃ y : Hs, y = si g_86 (52 + 1 + 1 * b1_73.toNatClampNeg) b2_86.toNatClampNeg r_105 := ⟨_, rfl⟩
                rw [← eh_108] at G
                have hw := hw h_108 eh_108
                obtain ⟨a2_109, ea2_109⟩ : ∃ y : Int32, y = b2_86 + 1 := ⟨_, rfl⟩
                have hw := hw a2_109 ea2_109
                refine lv_iinc (v := a2_109) (lv' := [(2, .int a2_109), (0, .ref (ad 2)), (1, .int b1_73)]) hx hb dX3_refresh_109 hl (k := 2) rfl (by rw [ea2_109]; rfl) (by decide) rfl (fun ls hl => ?_)
                refine lv_goto (tgt := 86) hx hb dX3_refresh_112 (by decide) ?_
                exact hw _ _ _ (lv_sub hl [1, 2, 0] rfl) G)
            exact hw _ _ _ (lv_sub hl [1, 2, 0] rfl) G)
        exact hw _ _ _ (lv_sub hl [1, 0] rfl) G
      · have hw := hw.2 c_17
        refine lv_aload_n hx hb dX3_refresh_20 rfl (lv_at hl 0 rfl) ?_
        refine x_get (C := RX3) (T := TX3) (n := 10) S G inX3 (xe_4 kx_2) rfl 1 (by decide) kf_X3_21 rfl dX3_refresh_21 ?_
        refine lv_aload_n hx hb dX3_refresh_24 rfl (lv_at hl 0 rfl) ?_
        refine x_get (C := RX3) (T := TX3) (n := 10) S G inX3 (xe_4 kx_2) rfl 0 (by decide) kf_X3_12 rfl dX3_refresh_25 ?_
        refine x_get (C := RX5) (T := TX5) (n := 17) S G inX5 (xe_6 kx_3) rfl 11 (by decide) kf_X3_54 rfl dX3_refresh_28 ?_
        refine lv_iload_n hx hb dX3_refresh_31 rfl (lv_at hl 1 rfl) ?_
        obtain ⟨i_32, hw⟩ := hw
        refine x_aald (k := b1_15.toNatClampNeg) S G 2 (xe_22 kx_15 lx_15) rfl rfl i_32 rfl (if_pos (vpl i_32)) dX3_refresh_32 ?_
        refine lv_aload_n hx hb dX3_refresh_33 rfl (lv_at hl 0 rfl) ?_
        refine x_get (C := RX3) (T := TX3) (n := 10) S G inX3 (xe_4 kx_2) rfl 0 (by decide) kf_X3_12 rfl dX3_refresh_34 ?_
        refine x_get (C := RX5) (T := TX5) (n := 17) S G inX5 (xe_6 kx_3) rfl 10 (by decide) kf_X3_57 rfl dX3_refresh_37 ?_
        refine lv_iload_n hx hb dX3_refresh_40 rfl (lv_at hl 1 rfl) ?_
        obtain ⟨i_41, hw⟩ := hw
        refine x_iald (k := b1_15.toNatClampNeg) S G (xe_20 kx_14 lx_14) i_41 rfl rfl dX3_refresh_41 ?_
        refine x_Vv S hl.1 G (c_Tokens_read l D q A ad (15 + 1 + 1 * b1_15.toNatClampNeg) (gi g_15 14 b1_15.toNatClampNeg) (kxe_15 _ (vpl i_32)) g_15 _ hw) (cw_X3_60 S.2.2.2.2 ⟨Nat.le_trans (Nat.le_of_ble_eq_true rfl) hR1, Nat.le_trans (Nat.le_of_ble_eq_true rfl) hR2⟩) (xe_8 kx_43) rfl rfl rfl (Nat.le_of_ble_eq_true rfl) dX3_refresh_42 (fun h_42 H locs G hw => ?_)
        refine lv_aload_n hx hb dX3_refresh_45 rfl (lv_at hl 0 rfl) ?_
        refine x_get (C := RX3) (T := TX3) (n := 10) S G inX3 (xe_4 kx_2) rfl 2 (by decide) kf_X3_27 rfl dX3_refresh_46 ?_
        refine lv_iload_n hx hb dX3_refresh_49 rfl (lv_at hl 1 rfl) ?_
        obtain ⟨i_50, hw⟩ := hw
        refine x_aald (k := b1_15.toNatClampNeg) S G 4 (xe_24 kx_47 lx_47 rfl) rfl rfl i_50 rfl (if_pos (vpl i_50)) dX3_refresh_50 ?_
        refine lv_aload_n hx hb dX3_refresh_51 rfl (lv_at hl 0 rfl) ?_
        refine x_get (C := RX3) (T := TX3) (n := 10) S G inX3 (xe_4 kx_2) rfl 1 (by decide) kf_X3_21 rfl dX3_refresh_52 ?_
        refine lv_aload_n hx hb dX3_refresh_55 rfl (lv_at hl 0 rfl) ?_
        refine x_get (C := RX3) (T := TX3) (n := 10) S G inX3 (xe_4 kx_2) rfl 0 (by decide) kf_X3_12 rfl dX3_refresh_56 ?_
        refine x_get (C := RX5) (T := TX5) (n := 17) S G inX5 (xe_6 kx_3) rfl 0 (by decide) kf_X3_64 rfl dX3_refresh_59 ?_
        refine x_Vv S hl.1 G (c_Tale_read l D q A ad (59 + 3 * b1_15.toNatClampNeg) (gi h_42 3 0) (kxe_47 _ (vpl i_50)) h_42 _ hw) (cw_X3_68 S.2.2.2.2 ⟨Nat.le_trans (Nat.le_of_ble_eq_true rfl) hR1, Nat.le_trans (Nat.le_of_ble_eq_true rfl) hR2⟩) (xe_7 (kxe_47 _ (vpl i_50))) rfl rfl rfl (Nat.le_of_ble_eq_true rfl) dX3_refresh_62 (fun h_62 H locs G hw => ?_)
        obtain ⟨a1_65, ea1_65⟩ : ∃ y : Int32, y = b1_15 + 1 := ⟨_, rfl⟩
        have hw := hw a1_65 ea1_65
        refine lv_iinc (v := a1_65) (lv' := [(1, .int a1_65), (0, .ref (ad 2))]) hx hb dX3_refresh_65 hl (k := 1) rfl (by rw [ea1_65]; rfl) (by decide) rfl (fun ls hl => ?_)
        refine lv_goto (tgt := 15) hx hb dX3_refresh_68 (by decide) ?_
        exact hw _ _ _ (lv_sub hl [1, 0] rfl) G)
    exact hw _ _ _ (lv_sub hl [1, 0] rfl) G
  · have hw := hw.2 c_4
    exact RT _ _ _ _ _ G hw dX3_refresh_7
theorem cw_X9_123 {R : Room} {s : State} {args : Array Value} (hts : ∀ w ∈ gW, w.before args s = true) (hR : rm_Lives_refresh.frames + 1 ≤ R.frames ∧ 8 + (3 + 11) + rm_Lives_refresh.locals ≤ R.locals) : CallW R s args RX9 RX3 123 yX3_refresh cX3_refresh 3 none (mw yX3_refresh cX3_refresh 3 none) rm_Lives_refresh 0 0 0 := cwV9 hts km_X9_123 ki_X3_refresh ks_X3_refresh kn_X3 kk_X3_refresh rfl rfl (by decide +kernel) hR
abbrev rm_Lives_allLive : Room := { frames := 1, cells := 0, slots := 0, locals := 23 }
set_option maxHeartbeats 4000000 in
set_option maxRecDepth 100000 in
theorem c_Lives_allLive (l : Launch) (D : va_G) (q : Nat → ClassId) (A : Nat → Prop) (ad : Nat → Nat) (a1 : Int32) (h : Hs) (Q : Hs → Prop) (hw : p_Lives_allLive a1 h Q) : Met l yX3_allLive (mw yX3_allLive cX3_allLive 2 none) rm_Lives_allLive (va_Pc [.ref (ad 2), .int a1] (pW D q A (wX q ad h))) (va_Qv Q (fun h t => pW D q A (wX q ad h) t) A) 0 0 A := by
  refine met_v (Qp := Q) (by decide) (Nat.le_of_ble_eq_true rfl) ?_
  intro p e R s m args below meth c Qm ls hR1 hR2 S RT hl G
  have hx := S.1
  have hb := S.2.1
  have hl : lv_has ls 2 [(0, .ref (ad 2)), (1, .int a1)] := hl
  unfold p_Lives_allLive at hw
  refine lv_aload_n hx hb dX3_allLive_0 rfl (lv_at hl 0 rfl) ?_
  refine x_get (C := RX3) (T := TX3) (n := 10) S G inX3 (xe_4 kx_2) rfl 3 (by decide) kf_X3_31 rfl dX3_allLive_1 ?_
  refine lv_iload_n hx hb dX3_allLive_4 rfl (lv_at hl 1 rfl) ?_
  refine x_Sv S hl.1 G (c_Arr_fill l D q A ad 48 a1 kx_48 h _ hw) (cw_X3_88 S.2.2.2.2 ⟨Nat.le_trans (Nat.le_of_ble_eq_true rfl) hR1, Nat.le_trans (Nat.le_of_ble_eq_true rfl) hR2⟩) rfl rfl (Nat.le_of_ble_eq_true rfl) dX3_allLive_5 (fun h_5 H locs G hw => ?_)
  exact RT _ _ _ _ _ G hw dX3_allLive_8
theorem cw_X8_201 {R : Room} {s : State} {args : Array Value} (hts : ∀ w ∈ gW, w.before args s = true) (hR : rm_Lives_allLive.frames + 1 ≤ R.frames ∧ 8 + (2 + 11) + rm_Lives_allLive.locals ≤ R.locals) : CallW R s args RX8 RX3 201 yX3_allLive cX3_allLive 2 none (mw yX3_allLive cX3_allLive 2 none) rm_Lives_allLive 0 0 1 := cwV9 hts km_X8_201 ki_X3_allLive ks_X3_allLive kn_X3 kk_X3_allLive rfl rfl (by decide +kernel) hR
theorem cw_X9_175 {R : Room} {s : State} {args : Array Value} (hts : ∀ w ∈ gW, w.before args s = true) (hR : rm_Lives_allLive.frames + 1 ≤ R.frames ∧ 8 + (2 + 11) + rm_Lives_allLive.locals ≤ R.locals) : CallW R s args RX9 RX3 175 yX3_allLive cX3_allLive 2 none (mw yX3_allLive cX3_allLive 2 none) rm_Lives_allLive 0 0 1 := cwV9 hts km_X9_175 ki_X3_allLive ks_X3_allLive kn_X3 kk_X3_allLive rfl rfl (by decide +kernel) hR
abbrev rm_Lives_choose : Room := { frames := 0, cells := 0, slots := 0, locals := 0 }
set_option maxHeartbeats 4000000 in
set_option maxRecDepth 100000 in
theorem c_Lives_choose (l : Launch) (D : va_G) (q : Nat → ClassId) (A : Nat → Prop) (ad : Nat → Nat) (a1 : Int32) (h : Hs) (Q : Int32 → Hs → Prop) (hw : p_Lives_choose a1 h Q) : Met l yX3_choose (mw yX3_choose cX3_choose 3 (some .boolean)) rm_Lives_choose (va_Pc [.ref (ad 2), .int a1] (pW D q A (wX q ad h))) (va_Qi (fun r h9 => zb r ∧ Q r h9) (fun h t => pW D q A (wX q ad h) t) A) 0 0 A := by
  refine met_z (Qp := Q) (by decide) (Nat.le_of_ble_eq_true rfl) ?_
  intro p e R s m args below meth c Qm ls hR1 hR2 S RT hl G
  have hx := S.1
  have hb := S.2.1
  have hl : lv_has ls 3 [(0, .ref (ad 2)), (1, .int a1)] := hl
  unfold p_Lives_choose at hw
  refine lv_iconst (v := 0) hx hb dX3_choose_0 (by decide) ?_
  refine lv_istore_n (lv' := [(2, .int 0), (0, .ref (ad 2)), (1, .int a1)]) hx hb dX3_choose_1 rfl hl (by decide) rfl (fun ls hl => ?_)
  have hw := hw (fun (b2_2 : Int32) (g_2 : Hs) => ∀ (ls : Array Slot) (H : Heap) (locs : List Loc), lv_has ls 3 [(0, .ref (ad 2)), (1, .int a1), (2, .int b2_2)] → okW D q A s (wX q ad g_2) H locs → W p l e R s m args below meth c H locs 0 0 Qm (F0 m 2 ls [])) (by
    intro b2_2 g_2 hw ls H locs hl G
    refine lv_iload_n hx hb dX3_choose_2 rfl (lv_at hl 2 rfl) ?_
    refine lv_aload_n hx hb dX3_choose_3 rfl (lv_at hl 0 rfl) ?_
    refine x_get (C := RX3) (T := TX3) (n := 10) S G inX3 (xe_4 kx_2) rfl 0 (by decide) kf_X3_12 rfl dX3_choose_4 ?_
    refine x_get (C := RX5) (T := TX5) (n := 17) S G inX5 (xe_6 kx_3) rfl 1 (by decide) kf_X3_93 rfl dX3_choose_7 ?_
    refine lv_icmp_ge (tgt := 52) hx hb dX3_choose_10 (by decide) (fun c_10 => ?_) (fun c_10 => ?_)
    · have hw := hw.1 c_10
      refine lv_iconst (v := 1) hx hb dX3_choose_52 (by decide) ?_
      exact RT _ _ _ _ _ _ G zb1 hw dX3_choose_53
    · have hw := hw.2 c_10
      refine lv_aload_n hx hb dX3_choose_13 rfl (lv_at hl 0 rfl) ?_
      refine x_get (C := RX3) (T := TX3) (n := 10) S G inX3 (xe_4 kx_2) rfl 3 (by decide) kf_X3_31 rfl dX3_choose_14 ?_
      refine lv_iload_n hx hb dX3_choose_17 rfl (lv_at hl 2 rfl) ?_
      refine lv_iload_n hx hb dX3_choose_18 rfl (lv_at hl 1 rfl) ?_
      refine lv_iconst (v := 2) hx hb dX3_choose_19 (by decide) ?_
      refine lv_iload_n hx hb dX3_choose_20 rfl (lv_at hl 2 rfl) ?_
      refine lv_imul hx hb dX3_choose_21 ?_
      refine lv_ishr hx hb dX3_choose_22 ?_
      refine lv_iconst (v := 3) hx hb dX3_choose_23 (by decide) ?_
      refine lv_iand hx hb dX3_choose_24 ?_
      obtain ⟨i_25, hw⟩ := hw
      refine x_iast (k := b2_2.toNatClampNeg) S G (xe_20 kx_48 lx_48) i_25 rfl (xs_20 kx_48 lx_48) dX3_choose_25 (fun H locs G => ?_)
      obtain ⟨h_25, eh_25⟩ : ∃ y : Hs, y = si g_2 48 b2_2.toNatClampNeg ((a1 >>> ((2 * b2_2) &&& 31)) &&& 3) := ⟨_, rfl⟩
      rw [← eh_25] at G
      have hw := hw h_25 eh_25
      refine lv_aload_n hx hb dX3_choose_26 rfl (lv_at hl 0 rfl) ?_
      refine x_get (C := RX3) (T := TX3) (n := 10) S G inX3 (xe_4 kx_2) rfl 2 (by decide) kf_X3_27 rfl dX3_choose_27 ?_
      refine lv_aload_n hx hb dX3_choose_30 rfl (lv_at hl 0 rfl) ?_
      refine x_get (C := RX3) (T := TX3) (n := 10) S G inX3 (xe_4 kx_2) rfl 3 (by decide) kf_X3_31 rfl dX3_choose_31 ?_
      refine lv_iload_n hx hb dX3_choose_34 rfl (lv_at hl 2 rfl) ?_
      obtain ⟨i_35, hw⟩ := hw
      refine x_iald (k := b2_2.toNatClampNeg) S G (xe_20 kx_48 lx_48) i_35 rfl rfl dX3_choose_35 ?_
      obtain ⟨i_36, hw⟩ := hw
      refine x_aald (k := (gi h_25 48 b2_2.toNatClampNeg).toNatClampNeg) S G 4 (xe_24 kx_47 lx_47 rfl) rfl rfl i_36 rfl (if_pos (vpl i_36)) dX3_choose_36 ?_
      refine x_get (C := RX6) (T := TX6) (n := 8) S G inX6 (xe_7 (kxe_47 _ (vpl i_36))) rfl 2 (by decide) kf_X3_96 rfl dX3_choose_37 ?_
      refine lv_iconst (v := (-1)) hx hb dX3_choose_40 (by decide) ?_
      refine lv_icmp_eq (tgt := 46) hx hb dX3_choose_41 (by decide) (fun c_41 => ?_) (fun c_41 => ?_)
      · have hw := hw.1 c_41
        obtain ⟨a2_46, ea2_46⟩ : ∃ y : Int32, y = b2_2 + 1 := ⟨_, rfl⟩
        have hw := hw a2_46 ea2_46
        refine lv_iinc (v := a2_46) (lv' := [(2, .int a2_46), (0, .ref (ad 2)), (1, .int a1)]) hx hb dX3_choose_46 hl (k := 2) rfl (by rw [ea2_46]; rfl) (by decide) rfl (fun ls hl => ?_)
        refine lv_goto (tgt := 2) hx hb dX3_choose_49 (by decide) ?_
        exact hw _ _ _ (lv_sub hl [1, 2, 0] rfl) G
      · have hw := hw.2 c_41
        refine lv_iconst (v := 0) hx hb dX3_choose_44 (by decide) ?_
        exact RT _ _ _ _ _ _ G zb0 hw dX3_choose_45)
  exact hw _ _ _ (lv_sub hl [1, 2, 0] rfl) G
theorem cw_X8_90 {R : Room} {s : State} {args : Array Value} (hts : ∀ w ∈ gW, w.before args s = true) (hR : rm_Lives_choose.frames + 1 ≤ R.frames ∧ 8 + (3 + 11) + rm_Lives_choose.locals ≤ R.locals) : CallW R s args RX8 RX3 90 yX3_choose cX3_choose 3 (some .boolean) (mw yX3_choose cX3_choose 3 (some .boolean)) rm_Lives_choose 0 0 1 := cwV9 hts km_X8_90 ki_X3_choose ks_X3_choose kn_X3 kk_X3_choose rfl rfl (by decide +kernel) hR
abbrev rm_Lives_doAllLive : Room := { frames := 0, cells := 0, slots := 0, locals := 0 }
set_option maxHeartbeats 4000000 in
set_option maxRecDepth 100000 in
theorem c_Lives_doAllLive (l : Launch) (D : va_G) (q : Nat → ClassId) (A : Nat → Prop) (ad : Nat → Nat) (a1 : Int32) (h : Hs) (Q : Int32 → Prop) (hw : p_Lives_doAllLive a1 h Q) : Met l yX3_doAllLive (mw yX3_doAllLive cX3_doAllLive 3 (some .boolean)) rm_Lives_doAllLive (va_Pc [.ref (ad 2), .int a1] (pW D q A (wX q ad h))) (va_Qi (fun r h9 => zb r ∧ h9 = h ∧ Q r) (fun h t => pW D q A (wX q ad h) t) A) 0 0 A := by
  refine met_z (Qp := (fun r h9 => h9 = h ∧ Q r)) (by decide) (Nat.le_of_ble_eq_true rfl) ?_
  intro p e R s m args below meth c Qm ls hR1 hR2 S RT hl G
  have hx := S.1
  have hb := S.2.1
  have hl : lv_has ls 3 [(0, .ref (ad 2)), (1, .int a1)] := hl
  unfold p_Lives_doAllLive at hw
  refine lv_iconst (v := 0) hx hb dX3_doAllLive_0 (by decide) ?_
  refine lv_istore_n (lv' := [(2, .int 0), (0, .ref (ad 2)), (1, .int a1)]) hx hb dX3_doAllLive_1 rfl hl (by decide) rfl (fun ls hl => ?_)
  have hw := hw (fun (b2_2 : Int32) => ∀ (ls : Array Slot) (H : Heap) (locs : List Loc), lv_has ls 3 [(0, .ref (ad 2)), (1, .int a1), (2, .int b2_2)] → okW D q A s (wX q ad h) H locs → W p l e R s m args below meth c H locs 0 0 Qm (F0 m 2 ls [])) (by
    intro b2_2 hw ls H locs hl G
    refine lv_iload_n hx hb dX3_doAllLive_2 rfl (lv_at hl 2 rfl) ?_
    refine lv_aload_n hx hb dX3_doAllLive_3 rfl (lv_at hl 0 rfl) ?_
    refine x_get (C := RX3) (T := TX3) (n := 10) S G inX3 (xe_4 kx_2) rfl 0 (by decide) kf_X3_12 rfl dX3_doAllLive_4 ?_
    refine x_get (C := RX5) (T := TX5) (n := 17) S G inX5 (xe_6 kx_3) rfl 1 (by decide) kf_X3_93 rfl dX3_doAllLive_7 ?_
    refine lv_icmp_ge (tgt := 31) hx hb dX3_doAllLive_10 (by decide) (fun c_10 => ?_) (fun c_10 => ?_)
    · have hw := hw.1 c_10
      refine lv_aload_n hx hb dX3_doAllLive_31 rfl (lv_at hl 0 rfl) ?_
      refine x_get (C := RX3) (T := TX3) (n := 10) S G inX3 (xe_4 kx_2) rfl 2 (by decide) kf_X3_27 rfl dX3_doAllLive_32 ?_
      refine lv_iload_n hx hb dX3_doAllLive_35 rfl (lv_at hl 1 rfl) ?_
      obtain ⟨i_36, hw⟩ := hw
      refine x_aald (k := a1.toNatClampNeg) S G 4 (xe_24 kx_47 lx_47 rfl) rfl rfl i_36 rfl (if_pos (vpl i_36)) dX3_doAllLive_36 ?_
      refine x_get (C := RX6) (T := TX6) (n := 8) S G inX6 (xe_7 (kxe_47 _ (vpl i_36))) rfl 2 (by decide) kf_X3_96 rfl dX3_doAllLive_37 ?_
      refine lv_iconst (v := (-1)) hx hb dX3_doAllLive_40 (by decide) ?_
      have hw := hw (fun (t0_49 : Int32) => ∀ (ls : Array Slot) (H : Heap) (locs : List Loc), lv_has ls 3 [] → okW D q A s (wX q ad h) H locs → W p l e R s m args below meth c H locs 0 0 Qm (F0 m 49 ls [.int t0_49])) (by
        intro t0_49 hw ls H locs hl G
        obtain ⟨z_49, hw⟩ := hw
        exact RT _ _ _ _ _ _ G z_49 ⟨rfl, hw⟩ dX3_doAllLive_49)
      refine lv_icmp_ne (tgt := 48) hx hb dX3_doAllLive_41 (by decide) (fun c_41 => ?_) (fun c_41 => ?_)
      · have hw := hw.1 c_41
        refine lv_iconst (v := 0) hx hb dX3_doAllLive_48 (by decide) ?_
        exact hw _ _ _ (lv_sub hl [] rfl) G
      · have hw := hw.2 c_41
        refine lv_iconst (v := 1) hx hb dX3_doAllLive_44 (by decide) ?_
        refine lv_goto (tgt := 49) hx hb dX3_doAllLive_45 (by decide) ?_
        exact hw _ _ _ (lv_sub hl [] rfl) G
    · have hw := hw.2 c_10
      refine lv_aload_n hx hb dX3_doAllLive_13 rfl (lv_at hl 0 rfl) ?_
      refine x_get (C := RX3) (T := TX3) (n := 10) S G inX3 (xe_4 kx_2) rfl 3 (by decide) kf_X3_31 rfl dX3_doAllLive_14 ?_
      refine lv_iload_n hx hb dX3_doAllLive_17 rfl (lv_at hl 2 rfl) ?_
      obtain ⟨i_18, hw⟩ := hw
      refine x_iald (k := b2_2.toNatClampNeg) S G (xe_20 kx_48 lx_48) i_18 rfl rfl dX3_doAllLive_18 ?_
      refine lv_iload_n hx hb dX3_doAllLive_19 rfl (lv_at hl 1 rfl) ?_
      refine lv_icmp_eq (tgt := 25) hx hb dX3_doAllLive_20 (by decide) (fun c_20 => ?_) (fun c_20 => ?_)
      · have hw := hw.1 c_20
        obtain ⟨a2_25, ea2_25⟩ : ∃ y : Int32, y = b2_2 + 1 := ⟨_, rfl⟩
        have hw := hw a2_25 ea2_25
        refine lv_iinc (v := a2_25) (lv' := [(2, .int a2_25), (0, .ref (ad 2)), (1, .int a1)]) hx hb dX3_doAllLive_25 hl (k := 2) rfl (by rw [ea2_25]; rfl) (by decide) rfl (fun ls hl => ?_)
        refine lv_goto (tgt := 2) hx hb dX3_doAllLive_28 (by decide) ?_
        exact hw _ _ _ (lv_sub hl [1, 2, 0] rfl) G
      · have hw := hw.2 c_20
        refine lv_iconst (v := 0) hx hb dX3_doAllLive_23 (by decide) ?_
        exact RT _ _ _ _ _ _ G zb0 ⟨rfl, hw⟩ dX3_doAllLive_24)
  exact hw _ _ _ (lv_sub hl [1, 2, 0] rfl) G
theorem cw_X8_188 {R : Room} {s : State} {args : Array Value} (hts : ∀ w ∈ gW, w.before args s = true) (hR : rm_Lives_doAllLive.frames + 1 ≤ R.frames ∧ 8 + (3 + 11) + rm_Lives_doAllLive.locals ≤ R.locals) : CallW R s args RX8 RX3 188 yX3_doAllLive cX3_doAllLive 3 (some .boolean) (mw yX3_doAllLive cX3_doAllLive 3 (some .boolean)) rm_Lives_doAllLive 0 0 1 := cwV9 hts km_X8_188 ki_X3_doAllLive ks_X3_doAllLive kn_X3 kk_X3_doAllLive rfl rfl (by decide +kernel) hR
abbrev rm_Lives_left : Room := { frames := 1, cells := 0, slots := 0, locals := 21 }
set_option maxHeartbeats 4000000 in
set_option maxRecDepth 100000 in
theorem c_Lives_left (l : Launch) (D : va_G) (q : Nat → ClassId) (A : Nat → Prop) (ad : Nat → Nat) (a1 : Int32) (a2 : Int32) (h : Hs) (Q : Int32 → Prop) (hw : p_Lives_left a1 a2 h Q) : Met l yX3_left (mw yX3_left cX3_left 6 (some .int)) rm_Lives_left (va_Pc [.ref (ad 2), .int a1, .int a2] (pW D q A (wX q ad h))) (va_Qi (fun r h9 => h9 = h ∧ Q r) (fun h t => pW D q A (wX q ad h) t) A) 0 0 A := by
  refine met_i (Qp := (fun r h9 => h9 = h ∧ Q r)) (by decide) (Nat.le_of_ble_eq_true rfl) ?_
  intro p e R s m args below meth c Qm ls hR1 hR2 S RT hl G
  have hx := S.1
  have hb := S.2.1
  have hl : lv_has ls 6 [(0, .ref (ad 2)), (1, .int a1), (2, .int a2)] := hl
  unfold p_Lives_left at hw
  refine lv_aload_n hx hb dX3_left_0 rfl (lv_at hl 0 rfl) ?_
  refine x_get (C := RX3) (T := TX3) (n := 10) S G inX3 (xe_4 kx_2) rfl 0 (by decide) kf_X3_12 rfl dX3_left_1 ?_
  refine x_get (C := RX5) (T := TX5) (n := 17) S G inX5 (xe_6 kx_3) rfl 8 (by decide) kf_X3_99 rfl dX3_left_4 ?_
  refine lv_iload_n hx hb dX3_left_7 rfl (lv_at hl 2 rfl) ?_
  obtain ⟨i_8, hw⟩ := hw
  refine x_aald (k := a2.toNatClampNeg) S G 2 (xe_22 kx_8 lx_8) rfl rfl i_8 rfl (if_pos (vpl i_8)) dX3_left_8 ?_
  refine lv_iconst (v := 0) hx hb dX3_left_9 (by decide) ?_
  refine x_iald (k := 0) S G (xe_20 (kxe_8 _ (vpl i_8)) (lxe_8 _ (vpl i_8))) (vpi (by decide)) rfl rfl dX3_left_10 ?_
  refine lv_topi (fun a3_11 ea3_11 => ?_)
  have hw := hw a3_11 ea3_11
  refine lv_istore_n (lv' := [(3, .int a3_11), (0, .ref (ad 2)), (1, .int a1), (2, .int a2)]) hx hb dX3_left_11 rfl hl (by decide) rfl (fun ls hl => ?_)
  refine lv_iconst (v := 0) hx hb dX3_left_12 (by decide) ?_
  refine lv_istore (lv' := [(4, .int 0), (3, .int a3_11), (0, .ref (ad 2)), (1, .int a1), (2, .int a2)]) hx hb dX3_left_13 hl (by decide) rfl (fun ls hl => ?_)
  refine lv_iconst (v := 0) hx hb dX3_left_15 (by decide) ?_
  refine lv_istore (lv' := [(5, .int 0), (4, .int 0), (3, .int a3_11), (0, .ref (ad 2)), (1, .int a1), (2, .int a2)]) hx hb dX3_left_16 hl (by decide) rfl (fun ls hl => ?_)
  have hw := hw (fun (b4_18 : Int32) (b5_18 : Int32) => ∀ (ls : Array Slot) (H : Heap) (locs : List Loc), lv_has ls 6 [(0, .ref (ad 2)), (1, .int a1), (3, .int a3_11), (4, .int b4_18), (5, .int b5_18)] → okW D q A s (wX q ad h) H locs → W p l e R s m args below meth c H locs 0 0 Qm (F0 m 18 ls [])) (by
    intro b4_18 b5_18 hw ls H locs hl G
    refine lv_iload hx hb dX3_left_18 (lv_at hl 4 rfl) ?_
    refine lv_aload_n hx hb dX3_left_20 rfl (lv_at hl 0 rfl) ?_
    refine x_get (C := RX3) (T := TX3) (n := 10) S G inX3 (xe_4 kx_2) rfl 0 (by decide) kf_X3_12 rfl dX3_left_21 ?_
    refine x_get (C := RX5) (T := TX5) (n := 17) S G inX5 (xe_6 kx_3) rfl 1 (by decide) kf_X3_93 rfl dX3_left_24 ?_
    refine lv_icmp_ge (tgt := 69) hx hb dX3_left_27 (by decide) (fun c_27 => ?_) (fun c_27 => ?_)
    · have hw := hw.1 c_27
      refine lv_iload_n hx hb dX3_left_69 rfl (lv_at hl 2 rfl) ?_
      have hw := hw (fun (t0_86 : Int32) => ∀ (ls : Array Slot) (H : Heap) (locs : List Loc), lv_has ls 6 [] → okW D q A s (wX q ad h) H locs → W p l e R s m args below meth c H locs 0 0 Qm (F0 m 86 ls [.int t0_86])) (by
        intro t0_86 hw ls H locs hl G
        exact RT _ _ _ _ _ _ G ⟨rfl, hw⟩ dX3_left_86)
      refine lv_if_le (tgt := 85) hx hb dX3_left_70 (by decide) (fun c_70 => ?_) (fun c_70 => ?_)
      · have hw := hw.1 c_70
        refine lv_iconst (v := 0) hx hb dX3_left_85 (by decide) ?_
        exact hw _ _ _ (lv_sub hl [] rfl) G
      · have hw := hw.2 c_70
        refine lv_iload hx hb dX3_left_73 (lv_at hl 3 rfl) ?_
        refine lv_iload_n hx hb dX3_left_75 rfl (lv_at hl 2 rfl) ?_
        obtain ⟨n_76, hw⟩ := hw
        refine lv_idiv hx hb dX3_left_76 n_76 ?_
        refine lv_bipush (v := 20) hx hb dX3_left_77 (by decide) ?_
        refine va_mmin hx hb (S.2.2.1.trans hl.1.symm) S.2.2.2.1 (S.2.2.2.2 _ km_X3_108) (S.2.2.2.2 _ kt_J9_min_7cf53) (S.2.2.2.2 _ kn_J9) (S.2.2.2.2 _ kk_J9_min_7cf53) (Nat.le_trans (Nat.le_of_ble_eq_true rfl) hR1) (Nat.le_trans (Nat.le_of_ble_eq_true rfl) hR2) (Nat.zero_le _) (Nat.zero_le _) dX3_left_79 ?_
        refine lv_goto (tgt := 86) hx hb dX3_left_82 (by decide) ?_
        exact hw _ _ _ (lv_sub hl [] rfl) G
    · have hw := hw.2 c_27
      refine lv_iload hx hb dX3_left_30 (lv_at hl 3 rfl) ?_
      refine lv_aload_n hx hb dX3_left_32 rfl (lv_at hl 0 rfl) ?_
      refine x_get (C := RX3) (T := TX3) (n := 10) S G inX3 (xe_4 kx_2) rfl 0 (by decide) kf_X3_12 rfl dX3_left_33 ?_
      refine x_get (C := RX5) (T := TX5) (n := 17) S G inX5 (xe_6 kx_3) rfl 6 (by decide) kf_X3_102 rfl dX3_left_36 ?_
      refine lv_iload hx hb dX3_left_39 (lv_at hl 4 rfl) ?_
      obtain ⟨i_41, hw⟩ := hw
      refine x_iald (k := b5_18.toNatClampNeg) S G (xe_20 kx_6 lx_6) i_41 rfl rfl dX3_left_41 ?_
      refine lv_aload_n hx hb dX3_left_42 rfl (lv_at hl 0 rfl) ?_
      refine x_get (C := RX3) (T := TX3) (n := 10) S G inX3 (xe_4 kx_2) rfl 2 (by decide) kf_X3_27 rfl dX3_left_43 ?_
      refine lv_aload_n hx hb dX3_left_46 rfl (lv_at hl 0 rfl) ?_
      refine x_get (C := RX3) (T := TX3) (n := 10) S G inX3 (xe_4 kx_2) rfl 3 (by decide) kf_X3_31 rfl dX3_left_47 ?_
      refine lv_iload hx hb dX3_left_50 (lv_at hl 4 rfl) ?_
      obtain ⟨i_52, hw⟩ := hw
      refine x_iald (k := b5_18.toNatClampNeg) S G (xe_20 kx_48 lx_48) i_52 rfl rfl dX3_left_52 ?_
      obtain ⟨i_53, hw⟩ := hw
      refine x_aald (k := (gi h 48 b5_18.toNatClampNeg).toNatClampNeg) S G 4 (xe_24 kx_47 lx_47 rfl) rfl rfl i_53 rfl (if_pos (vpl i_53)) dX3_left_53 ?_
      refine x_get (C := RX6) (T := TX6) (n := 8) S G inX6 (xe_7 (kxe_47 _ (vpl i_53))) rfl 1 (by decide) kf_X3_105 rfl dX3_left_54 ?_
      refine lv_iload_n hx hb dX3_left_57 rfl (lv_at hl 1 rfl) ?_
      obtain ⟨i_58, hw⟩ := hw
      refine x_iald (k := a1.toNatClampNeg) S G (xe_20 ((kxr_7 _ (kX_lt (kxe_47 _ (vpl i_53))) (kxe_47 _ (vpl i_53))).2.1) ((kxr_7 _ (kX_lt (kxe_47 _ (vpl i_53))) (kxe_47 _ (vpl i_53))).2.2)) i_58 rfl rfl dX3_left_58 ?_
      refine lv_imul hx hb dX3_left_59 ?_
      refine lv_iadd hx hb dX3_left_60 ?_
      refine lv_topi (fun a4_61 ea4_61 => ?_)
      have hw := hw a4_61 ea4_61
      refine lv_istore (lv' := [(4, .int a4_61), (0, .ref (ad 2)), (1, .int a1), (3, .int a3_11), (5, .int b5_18)]) hx hb dX3_left_61 hl (by decide) rfl (fun ls hl => ?_)
      obtain ⟨a5_63, ea5_63⟩ : ∃ y : Int32, y = b5_18 + 1 := ⟨_, rfl⟩
      have hw := hw a5_63 ea5_63
      refine lv_iinc (v := a5_63) (lv' := [(5, .int a5_63), (4, .int a4_61), (0, .ref (ad 2)), (1, .int a1), (3, .int a3_11)]) hx hb dX3_left_63 hl (k := 4) rfl (by rw [ea5_63]; rfl) (by decide) rfl (fun ls hl => ?_)
      refine lv_goto (tgt := 18) hx hb dX3_left_66 (by decide) ?_
      exact hw _ _ _ (lv_sub hl [2, 3, 4, 1, 0] rfl) G)
  exact hw _ _ _ (lv_sub hl [3, 4, 2, 1, 0] rfl) G
theorem cw_X8_162 {R : Room} {s : State} {args : Array Value} (hts : ∀ w ∈ gW, w.before args s = true) (hR : rm_Lives_left.frames + 1 ≤ R.frames ∧ 8 + (6 + 11) + rm_Lives_left.locals ≤ R.locals) : CallW R s args RX8 RX3 162 yX3_left cX3_left 6 (some .int) (mw yX3_left cX3_left 6 (some .int)) rm_Lives_left 0 0 2 := cwV9 hts km_X8_162 ki_X3_left ks_X3_left kn_X3 kk_X3_left rfl rfl (by decide +kernel) hR
theorem cw_X9_178 {R : Room} {s : State} {args : Array Value} (hts : ∀ w ∈ gW, w.before args s = true) (hR : rm_Lives_left.frames + 1 ≤ R.frames ∧ 8 + (6 + 11) + rm_Lives_left.locals ≤ R.locals) : CallW R s args RX9 RX3 178 yX3_left cX3_left 6 (some .int) (mw yX3_left cX3_left 6 (some .int)) rm_Lives_left 0 0 2 := cwV9 hts km_X9_178 ki_X3_left ks_X3_left kn_X3 kk_X3_left rfl rfl (by decide +kernel) hR
abbrev rm_Lives_countHeads : Room := { frames := 1, cells := 0, slots := 0, locals := 23 }
set_option maxHeartbeats 4000000 in
set_option maxRecDepth 100000 in
theorem c_Lives_countHeads (l : Launch) (D : va_G) (q : Nat → ClassId) (A : Nat → Prop) (ad : Nat → Nat) (a1 : Int32) (h : Hs) (Q : Hs → Prop) (hw : p_Lives_countHeads a1 h Q) : Met l yX3_countHeads (mw yX3_countHeads cX3_countHeads 4 none) rm_Lives_countHeads (va_Pc [.ref (ad 2), .int a1] (pW D q A (wX q ad h))) (va_Qv Q (fun h t => pW D q A (wX q ad h) t) A) 0 0 A := by
  refine met_v (Qp := Q) (by decide) (Nat.le_of_ble_eq_true rfl) ?_
  intro p e R s m args below meth c Qm ls hR1 hR2 S RT hl G
  have hx := S.1
  have hb := S.2.1
  have hl : lv_has ls 4 [(0, .ref (ad 2)), (1, .int a1)] := hl
  unfold p_Lives_countHeads at hw
  refine lv_aload_n hx hb dX3_countHeads_0 rfl (lv_at hl 0 rfl) ?_
  refine x_get (C := RX3) (T := TX3) (n := 10) S G inX3 (xe_4 kx_2) rfl 6 (by decide) kf_X3_38 rfl dX3_countHeads_1 ?_
  refine lv_iconst (v := 0) hx hb dX3_countHeads_4 (by decide) ?_
  refine x_Sv S hl.1 G (c_Arr_fill l D q A ad 50 0 kx_50 h _ hw) (cw_X3_88 S.2.2.2.2 ⟨Nat.le_trans (Nat.le_of_ble_eq_true rfl) hR1, Nat.le_trans (Nat.le_of_ble_eq_true rfl) hR2⟩) rfl rfl (Nat.le_of_ble_eq_true rfl) dX3_countHeads_5 (fun h_5 H locs G hw => ?_)
  refine lv_iconst (v := 0) hx hb dX3_countHeads_8 (by decide) ?_
  refine lv_istore_n (lv' := [(2, .int 0), (0, .ref (ad 2)), (1, .int a1)]) hx hb dX3_countHeads_9 rfl hl (by decide) rfl (fun ls hl => ?_)
  have hw := hw (fun (b2_10 : Int32) (g_10 : Hs) => ∀ (ls : Array Slot) (H : Heap) (locs : List Loc), lv_has ls 4 [(0, .ref (ad 2)), (1, .int a1), (2, .int b2_10)] → okW D q A s (wX q ad g_10) H locs → W p l e R s m args below meth c H locs 0 0 Qm (F0 m 10 ls [])) (by
    intro b2_10 g_10 hw ls H locs hl G
    refine lv_iload_n hx hb dX3_countHeads_10 rfl (lv_at hl 2 rfl) ?_
    refine lv_aload_n hx hb dX3_countHeads_11 rfl (lv_at hl 0 rfl) ?_
    refine x_get (C := RX3) (T := TX3) (n := 10) S G inX3 (xe_4 kx_2) rfl 0 (by decide) kf_X3_12 rfl dX3_countHeads_12 ?_
    refine x_get (C := RX5) (T := TX5) (n := 17) S G inX5 (xe_6 kx_3) rfl 1 (by decide) kf_X3_93 rfl dX3_countHeads_15 ?_
    refine lv_icmp_ge (tgt := 68) hx hb dX3_countHeads_18 (by decide) (fun c_18 => ?_) (fun c_18 => ?_)
    · have hw := hw.1 c_18
      exact RT _ _ _ _ _ G hw dX3_countHeads_68
    · have hw := hw.2 c_18
      refine lv_aload_n hx hb dX3_countHeads_21 rfl (lv_at hl 0 rfl) ?_
      refine x_get (C := RX3) (T := TX3) (n := 10) S G inX3 (xe_4 kx_2) rfl 2 (by decide) kf_X3_27 rfl dX3_countHeads_22 ?_
      refine lv_aload_n hx hb dX3_countHeads_25 rfl (lv_at hl 0 rfl) ?_
      refine x_get (C := RX3) (T := TX3) (n := 10) S G inX3 (xe_4 kx_2) rfl 3 (by decide) kf_X3_31 rfl dX3_countHeads_26 ?_
      refine lv_iload_n hx hb dX3_countHeads_29 rfl (lv_at hl 2 rfl) ?_
      obtain ⟨i_30, hw⟩ := hw
      refine x_iald (k := b2_10.toNatClampNeg) S G (xe_20 kx_48 lx_48) i_30 rfl rfl dX3_countHeads_30 ?_
      obtain ⟨i_31, hw⟩ := hw
      refine x_aald (k := (gi g_10 48 b2_10.toNatClampNeg).toNatClampNeg) S G 4 (xe_24 kx_47 lx_47 rfl) rfl rfl i_31 rfl (if_pos (vpl i_31)) dX3_countHeads_31 ?_
      refine x_get (C := RX6) (T := TX6) (n := 8) S G inX6 (xe_7 (kxe_47 _ (vpl i_31))) rfl 0 (by decide) kf_X3_85 rfl dX3_countHeads_32 ?_
      refine lv_iload_n hx hb dX3_countHeads_35 rfl (lv_at hl 1 rfl) ?_
      obtain ⟨i_36, hw⟩ := hw
      refine x_iald (k := a1.toNatClampNeg) S G (xe_20 ((kxr_7 _ (kX_lt (kxe_47 _ (vpl i_31))) (kxe_47 _ (vpl i_31))).1.1) ((kxr_7 _ (kX_lt (kxe_47 _ (vpl i_31))) (kxe_47 _ (vpl i_31))).1.2)) i_36 rfl rfl dX3_countHeads_36 ?_
      refine lv_topi (fun a3_37 ea3_37 => ?_)
      have hw := hw a3_37 ea3_37
      refine lv_istore_n (lv' := [(3, .int a3_37), (0, .ref (ad 2)), (1, .int a1), (2, .int b2_10)]) hx hb dX3_countHeads_37 rfl hl (by decide) rfl (fun ls hl => ?_)
      refine lv_iload_n hx hb dX3_countHeads_38 rfl (lv_at hl 0 rfl) ?_
      refine lv_bipush (v := 6) hx hb dX3_countHeads_39 (by decide) ?_
      have hw := hw (fun (g_62 : Hs) => ∀ (ls : Array Slot) (H : Heap) (locs : List Loc), lv_has ls 4 [(0, .ref (ad 2)), (1, .int a1), (2, .int b2_10)] → okW D q A s (wX q ad g_62) H locs → W p l e R s m args below meth c H locs 0 0 Qm (F0 m 62 ls [])) (by
        intro g_62 hw ls H locs hl G
        obtain ⟨a2_62, ea2_62⟩ : ∃ y : Int32, y = b2_10 + 1 := ⟨_, rfl⟩
        have hw := hw a2_62 ea2_62
        refine lv_iinc (v := a2_62) (lv' := [(2, .int a2_62), (0, .ref (ad 2)), (1, .int a1)]) hx hb dX3_countHeads_62 hl (k := 2) rfl (by rw [ea2_62]; rfl) (by decide) rfl (fun ls hl => ?_)
        refine lv_goto (tgt := 10) hx hb dX3_countHeads_65 (by decide) ?_
        exact hw _ _ _ (lv_sub hl [1, 2, 0] rfl) G)
      refine lv_icmp_ge (tgt := 62) hx hb dX3_countHeads_41 (by decide) (fun c_41 => ?_) (fun c_41 => ?_)
      · have hw := hw.1 c_41
        exact hw _ _ _ (lv_sub hl [1, 2, 3] rfl) G
      · have hw := hw.2 c_41
        refine lv_aload_n hx hb dX3_countHeads_44 rfl (lv_at hl 1 rfl) ?_
        refine x_get (C := RX3) (T := TX3) (n := 10) S G inX3 (xe_4 kx_2) rfl 6 (by decide) kf_X3_38 rfl dX3_countHeads_45 ?_
        refine lv_iload_n hx hb dX3_countHeads_48 rfl (lv_at hl 0 rfl) ?_
        refine lv_dup2_11 hx hb dX3_countHeads_49 rfl rfl ?_
        obtain ⟨i_50, hw⟩ := hw
        refine x_iald (k := a3_37.toNatClampNeg) S G (xe_20 kx_50 lx_50) i_50 rfl rfl dX3_countHeads_50 ?_
        refine lv_aload_n hx hb dX3_countHeads_51 rfl (lv_at hl 1 rfl) ?_
        refine x_get (C := RX3) (T := TX3) (n := 10) S G inX3 (xe_4 kx_2) rfl 0 (by decide) kf_X3_12 rfl dX3_countHeads_52 ?_
        refine x_get (C := RX5) (T := TX5) (n := 17) S G inX5 (xe_6 kx_3) rfl 6 (by decide) kf_X3_102 rfl dX3_countHeads_55 ?_
        refine lv_iload_n hx hb dX3_countHeads_58 rfl (lv_at hl 3 rfl) ?_
        obtain ⟨i_59, hw⟩ := hw
        refine x_iald (k := b2_10.toNatClampNeg) S G (xe_20 kx_6 lx_6) i_59 rfl rfl dX3_countHeads_59 ?_
        refine lv_iadd hx hb dX3_countHeads_60 ?_
        obtain ⟨i_61, hw⟩ := hw
        refine x_iast (k := a3_37.toNatClampNeg) S G (xe_20 kx_50 lx_50) i_61 rfl (xs_20 kx_50 lx_50) dX3_countHeads_61 (fun H locs G => ?_)
        obtain ⟨h_61, eh_61⟩ : ∃ y : Hs, y = si g_10 50 a3_37.toNatClampNeg ((gi g_10 50 a3_37.toNatClampNeg) + (gi g_10 6 b2_10.toNatClampNeg)) := ⟨_, rfl⟩
        rw [← eh_61] at G
        have hw := hw h_61 eh_61
        exact hw _ _ _ (lv_sub hl [1, 2, 3] rfl) G)
  exact hw _ _ _ (lv_sub hl [1, 2, 0] rfl) G
theorem cw_X3_113 {R : Room} {s : State} {args : Array Value} (hts : ∀ w ∈ gW, w.before args s = true) (hR : rm_Lives_countHeads.frames + 1 ≤ R.frames ∧ 8 + (4 + 11) + rm_Lives_countHeads.locals ≤ R.locals) : CallW R s args RX3 RX3 113 yX3_countHeads cX3_countHeads 4 none (mw yX3_countHeads cX3_countHeads 4 none) rm_Lives_countHeads 0 0 1 := cwV9 hts km_X3_113 ki_X3_countHeads ks_X3_countHeads kn_X3 kk_X3_countHeads rfl rfl (by decide +kernel) hR
abbrev rm_Lives_hungerYears : Room := { frames := 2, cells := 0, slots := 0, locals := 46 }
set_option maxHeartbeats 4000000 in
set_option maxRecDepth 100000 in
theorem c_Lives_hungerYears (l : Launch) (D : va_G) (q : Nat → ClassId) (A : Nat → Prop) (ad : Nat → Nat) (h : Hs) (Q : Int32 → Hs → Prop) (hw : p_Lives_hungerYears h Q) : Met l yX3_hungerYears (mw yX3_hungerYears cX3_hungerYears 5 (some .int)) rm_Lives_hungerYears (va_Pc [.ref (ad 2)] (pW D q A (wX q ad h))) (va_Qi Q (fun h t => pW D q A (wX q ad h) t) A) 0 0 A := by
  refine met_i (Qp := Q) (by decide) (Nat.le_of_ble_eq_true rfl) ?_
  intro p e R s m args below meth c Qm ls hR1 hR2 S RT hl G
  have hx := S.1
  have hb := S.2.1
  have hl : lv_has ls 5 [(0, .ref (ad 2))] := hl
  unfold p_Lives_hungerYears at hw
  refine lv_iconst (v := 0) hx hb dX3_hungerYears_0 (by decide) ?_
  refine lv_istore_n (lv' := [(1, .int 0), (0, .ref (ad 2))]) hx hb dX3_hungerYears_1 rfl hl (by decide) rfl (fun ls hl => ?_)
  refine lv_iconst (v := 0) hx hb dX3_hungerYears_2 (by decide) ?_
  refine lv_istore_n (lv' := [(2, .int 0), (1, .int 0), (0, .ref (ad 2))]) hx hb dX3_hungerYears_3 rfl hl (by decide) rfl (fun ls hl => ?_)
  have hw := hw (fun (b1_4 : Int32) (b2_4 : Int32) (g_4 : Hs) => ∀ (ls : Array Slot) (H : Heap) (locs : List Loc), lv_has ls 5 [(0, .ref (ad 2)), (1, .int b1_4), (2, .int b2_4)] → okW D q A s (wX q ad g_4) H locs → W p l e R s m args below meth c H locs 0 0 Qm (F0 m 4 ls [])) (by
    intro b1_4 b2_4 g_4 hw ls H locs hl G
    refine lv_iload_n hx hb dX3_hungerYears_4 rfl (lv_at hl 2 rfl) ?_
    refine lv_aload_n hx hb dX3_hungerYears_5 rfl (lv_at hl 0 rfl) ?_
    refine x_get (C := RX3) (T := TX3) (n := 10) S G inX3 (xe_4 kx_2) rfl 5 (by decide) kf_X3_78 rfl dX3_hungerYears_6 ?_
    refine lv_icmp_ge (tgt := 109) hx hb dX3_hungerYears_9 (by decide) (fun c_9 => ?_) (fun c_9 => ?_)
    · have hw := hw.1 c_9
      refine lv_iload_n hx hb dX3_hungerYears_109 rfl (lv_at hl 1 rfl) ?_
      exact RT _ _ _ _ _ _ G hw dX3_hungerYears_110
    · have hw := hw.2 c_9
      refine lv_aload_n hx hb dX3_hungerYears_12 rfl (lv_at hl 0 rfl) ?_
      refine x_get (C := RX3) (T := TX3) (n := 10) S G inX3 (xe_4 kx_2) rfl 4 (by decide) kf_X3_35 rfl dX3_hungerYears_13 ?_
      refine lv_iload_n hx hb dX3_hungerYears_16 rfl (lv_at hl 2 rfl) ?_
      obtain ⟨i_17, hw⟩ := hw
      refine x_iald (k := b2_4.toNatClampNeg) S G (xe_20 kx_49 lx_49) i_17 rfl rfl dX3_hungerYears_17 ?_
      refine lv_topi (fun a3_18 ea3_18 => ?_)
      have hw := hw a3_18 ea3_18
      refine lv_istore_n (lv' := [(3, .int a3_18), (0, .ref (ad 2)), (1, .int b1_4), (2, .int b2_4)]) hx hb dX3_hungerYears_18 rfl hl (by decide) rfl (fun ls hl => ?_)
      refine lv_iload_n hx hb dX3_hungerYears_19 rfl (lv_at hl 0 rfl) ?_
      refine lv_bipush (v := 12) hx hb dX3_hungerYears_20 (by decide) ?_
      refine lv_irem hx hb dX3_hungerYears_22 (by decide) ?_
      have hw := hw (fun (g_34 : Hs) => ∀ (ls : Array Slot) (H : Heap) (locs : List Loc), lv_has ls 5 [(0, .ref (ad 2)), (1, .int b1_4), (2, .int b2_4), (3, .int a3_18)] → okW D q A s (wX q ad g_34) H locs → W p l e R s m args below meth c H locs 0 0 Qm (F0 m 34 ls [])) (by
        intro g_34 hw ls H locs hl G
        refine lv_aload_n hx hb dX3_hungerYears_34 rfl (lv_at hl 0 rfl) ?_
        refine lv_iload_n hx hb dX3_hungerYears_35 rfl (lv_at hl 3 rfl) ?_
        refine x_Vv S hl.1 G (c_Lives_countHeads l D q A ad a3_18 g_34 _ hw) (cw_X3_113 S.2.2.2.2 ⟨Nat.le_trans (Nat.le_of_ble_eq_true rfl) hR1, Nat.le_trans (Nat.le_of_ble_eq_true rfl) hR2⟩) (xe_4 kx_2) rfl rfl rfl (Nat.le_of_ble_eq_true rfl) dX3_hungerYears_36 (fun h_36 H locs G hw => ?_)
        refine lv_iconst (v := 0) hx hb dX3_hungerYears_39 (by decide) ?_
        refine lv_istore (lv' := [(4, .int 0), (0, .ref (ad 2)), (1, .int b1_4), (2, .int b2_4), (3, .int a3_18)]) hx hb dX3_hungerYears_40 hl (by decide) rfl (fun ls hl => ?_)
        have hw := hw (fun (b1_42 : Int32) (b4_42 : Int32) (g_42 : Hs) => ∀ (ls : Array Slot) (H : Heap) (locs : List Loc), lv_has ls 5 [(0, .ref (ad 2)), (1, .int b1_42), (2, .int b2_4), (3, .int a3_18), (4, .int b4_42)] → okW D q A s (wX q ad g_42) H locs → W p l e R s m args below meth c H locs 0 0 Qm (F0 m 42 ls [])) (by
          intro b1_42 b4_42 g_42 hw ls H locs hl G
          refine lv_iload hx hb dX3_hungerYears_42 (lv_at hl 4 rfl) ?_
          refine lv_aload_n hx hb dX3_hungerYears_44 rfl (lv_at hl 0 rfl) ?_
          refine x_get (C := RX3) (T := TX3) (n := 10) S G inX3 (xe_4 kx_2) rfl 0 (by decide) kf_X3_12 rfl dX3_hungerYears_45 ?_
          refine x_get (C := RX5) (T := TX5) (n := 17) S G inX5 (xe_6 kx_3) rfl 0 (by decide) kf_X3_64 rfl dX3_hungerYears_48 ?_
          refine lv_icmp_ge (tgt := 103) hx hb dX3_hungerYears_51 (by decide) (fun c_51 => ?_) (fun c_51 => ?_)
          · have hw := hw.1 c_51
            obtain ⟨a2_103, ea2_103⟩ : ∃ y : Int32, y = b2_4 + 1 := ⟨_, rfl⟩
            have hw := hw a2_103 ea2_103
            refine lv_iinc (v := a2_103) (lv' := [(2, .int a2_103), (0, .ref (ad 2)), (1, .int b1_42), (3, .int a3_18), (4, .int b4_42)]) hx hb dX3_hungerYears_103 hl (k := 2) rfl (by rw [ea2_103]; rfl) (by decide) rfl (fun ls hl => ?_)
            refine lv_goto (tgt := 4) hx hb dX3_hungerYears_106 (by decide) ?_
            exact hw _ _ _ (lv_sub hl [1, 2, 0] rfl) G
          · have hw := hw.2 c_51
            refine lv_aload_n hx hb dX3_hungerYears_54 rfl (lv_at hl 0 rfl) ?_
            refine x_get (C := RX3) (T := TX3) (n := 10) S G inX3 (xe_4 kx_2) rfl 7 (by decide) kf_X3_41 rfl dX3_hungerYears_55 ?_
            refine lv_iload hx hb dX3_hungerYears_58 (lv_at hl 4 rfl) ?_
            obtain ⟨i_60, hw⟩ := hw
            refine x_iald (k := b4_42.toNatClampNeg) S G (xe_20 kx_51 lx_51) i_60 rfl rfl dX3_hungerYears_60 ?_
            have hw := hw (fun (b1_97 : Int32) (g_97 : Hs) => ∀ (ls : Array Slot) (H : Heap) (locs : List Loc), lv_has ls 5 [(0, .ref (ad 2)), (1, .int b1_97), (2, .int b2_4), (3, .int a3_18), (4, .int b4_42)] → okW D q A s (wX q ad g_97) H locs → W p l e R s m args below meth c H locs 0 0 Qm (F0 m 97 ls [])) (by
              intro b1_97 g_97 hw ls H locs hl G
              obtain ⟨a4_97, ea4_97⟩ : ∃ y : Int32, y = b4_42 + 1 := ⟨_, rfl⟩
              have hw := hw a4_97 ea4_97
              refine lv_iinc (v := a4_97) (lv' := [(4, .int a4_97), (0, .ref (ad 2)), (1, .int b1_97), (2, .int b2_4), (3, .int a3_18)]) hx hb dX3_hungerYears_97 hl (k := 4) rfl (by rw [ea4_97]; rfl) (by decide) rfl (fun ls hl => ?_)
              refine lv_goto (tgt := 42) hx hb dX3_hungerYears_100 (by decide) ?_
              exact hw _ _ _ (lv_sub hl [1, 2, 3, 4, 0] rfl) G)
            refine lv_if_ne (tgt := 97) hx hb dX3_hungerYears_61 (by decide) (fun c_61 => ?_) (fun c_61 => ?_)
            · have hw := hw.1 c_61
              exact hw _ _ _ (lv_sub hl [0, 1, 2, 3, 4] rfl) G
            · have hw := hw.2 c_61
              refine lv_aload_n hx hb dX3_hungerYears_64 rfl (lv_at hl 0 rfl) ?_
              refine x_get (C := RX3) (T := TX3) (n := 10) S G inX3 (xe_4 kx_2) rfl 6 (by decide) kf_X3_38 rfl dX3_hungerYears_65 ?_
              refine lv_iload hx hb dX3_hungerYears_68 (lv_at hl 4 rfl) ?_
              obtain ⟨i_70, hw⟩ := hw
              refine x_iald (k := b4_42.toNatClampNeg) S G (xe_20 kx_50 lx_50) i_70 rfl rfl dX3_hungerYears_70 ?_
              refine lv_aload_n hx hb dX3_hungerYears_71 rfl (lv_at hl 0 rfl) ?_
              refine x_get (C := RX3) (T := TX3) (n := 10) S G inX3 (xe_4 kx_2) rfl 8 (by decide) kf_X3_46 rfl dX3_hungerYears_72 ?_
              refine lv_iload hx hb dX3_hungerYears_75 (lv_at hl 4 rfl) ?_
              obtain ⟨i_77, hw⟩ := hw
              refine x_aald (k := b4_42.toNatClampNeg) S G 2 (xe_22 kx_52 lx_52) rfl rfl i_77 rfl (if_pos (vpl i_77)) dX3_hungerYears_77 ?_
              refine lv_iload_n hx hb dX3_hungerYears_78 rfl (lv_at hl 3 rfl) ?_
              refine lv_bipush (v := 12) hx hb dX3_hungerYears_79 (by decide) ?_
              refine lv_idiv hx hb dX3_hungerYears_81 (by decide) ?_
              obtain ⟨i_82, hw⟩ := hw
              refine x_iald (k := (a3_18 / 12).toNatClampNeg) S G (xe_20 (kxe_52 _ (vpl i_77)) (lxe_52 _ (vpl i_77))) i_82 rfl rfl dX3_hungerYears_82 ?_
              refine lv_icmp_le (tgt := 97) hx hb dX3_hungerYears_83 (by decide) (fun c_83 => ?_) (fun c_83 => ?_)
              · have hw := hw.1 c_83
                exact hw _ _ _ (lv_sub hl [0, 1, 2, 3, 4] rfl) G
              · have hw := hw.2 c_83
                refine lv_aload_n hx hb dX3_hungerYears_86 rfl (lv_at hl 0 rfl) ?_
                refine x_get (C := RX3) (T := TX3) (n := 10) S G inX3 (xe_4 kx_2) rfl 7 (by decide) kf_X3_41 rfl dX3_hungerYears_87 ?_
                refine lv_iload hx hb dX3_hungerYears_90 (lv_at hl 4 rfl) ?_
                refine lv_iconst (v := 1) hx hb dX3_hungerYears_92 (by decide) ?_
                obtain ⟨i_93, hw⟩ := hw
                refine x_iast (k := b4_42.toNatClampNeg) S G (xe_20 kx_51 lx_51) i_93 rfl (xs_20 kx_51 lx_51) dX3_hungerYears_93 (fun H locs G => ?_)
                obtain ⟨h_93, eh_93⟩ : ∃ y : Hs, y = si g_42 51 b4_42.toNatClampNeg 1 := ⟨_, rfl⟩
                rw [← eh_93] at G
                have hw := hw h_93 eh_93
                obtain ⟨a1_94, ea1_94⟩ : ∃ y : Int32, y = b1_42 + 1 := ⟨_, rfl⟩
                have hw := hw a1_94 ea1_94
                refine lv_iinc (v := a1_94) (lv' := [(1, .int a1_94), (0, .ref (ad 2)), (2, .int b2_4), (3, .int a3_18), (4, .int b4_42)]) hx hb dX3_hungerYears_94 hl (k := 1) rfl (by rw [ea1_94]; rfl) (by decide) rfl (fun ls hl => ?_)
                exact hw _ _ _ (lv_sub hl [1, 0, 2, 3, 4] rfl) G)
        exact hw _ _ _ (lv_sub hl [1, 2, 3, 4, 0] rfl) G)
      refine lv_if_ne (tgt := 34) hx hb dX3_hungerYears_23 (by decide) (fun c_23 => ?_) (fun c_23 => ?_)
      · have hw := hw.1 c_23
        exact hw _ _ _ (lv_sub hl [1, 2, 3, 0] rfl) G
      · have hw := hw.2 c_23
        refine lv_aload_n hx hb dX3_hungerYears_26 rfl (lv_at hl 1 rfl) ?_
        refine x_get (C := RX3) (T := TX3) (n := 10) S G inX3 (xe_4 kx_2) rfl 7 (by decide) kf_X3_41 rfl dX3_hungerYears_27 ?_
        refine lv_iconst (v := 0) hx hb dX3_hungerYears_30 (by decide) ?_
        refine x_Sv S hl.1 G (c_Arr_fill l D q A ad 51 0 kx_51 g_4 _ hw) (cw_X3_88 S.2.2.2.2 ⟨Nat.le_trans (Nat.le_of_ble_eq_true rfl) hR1, Nat.le_trans (Nat.le_of_ble_eq_true rfl) hR2⟩) rfl rfl (Nat.le_of_ble_eq_true rfl) dX3_hungerYears_31 (fun h_31 H locs G hw => ?_)
        exact hw _ _ _ (lv_sub hl [1, 2, 3, 0] rfl) G)
  exact hw _ _ _ (lv_sub hl [2, 1, 0] rfl) G
theorem cw_X8_174 {R : Room} {s : State} {args : Array Value} (hts : ∀ w ∈ gW, w.before args s = true) (hR : rm_Lives_hungerYears.frames + 1 ≤ R.frames ∧ 8 + (5 + 11) + rm_Lives_hungerYears.locals ≤ R.locals) : CallW R s args RX8 RX3 174 yX3_hungerYears cX3_hungerYears 5 (some .int) (mw yX3_hungerYears cX3_hungerYears 5 (some .int)) rm_Lives_hungerYears 0 0 0 := cwV9 hts km_X8_174 ki_X3_hungerYears ks_X3_hungerYears kn_X3 kk_X3_hungerYears rfl rfl (by decide +kernel) hR
theorem cw_X9_182 {R : Room} {s : State} {args : Array Value} (hts : ∀ w ∈ gW, w.before args s = true) (hR : rm_Lives_hungerYears.frames + 1 ≤ R.frames ∧ 8 + (5 + 11) + rm_Lives_hungerYears.locals ≤ R.locals) : CallW R s args RX9 RX3 182 yX3_hungerYears cX3_hungerYears 5 (some .int) (mw yX3_hungerYears cX3_hungerYears 5 (some .int)) rm_Lives_hungerYears 0 0 0 := cwV9 hts km_X9_182 ki_X3_hungerYears ks_X3_hungerYears kn_X3 kk_X3_hungerYears rfl rfl (by decide +kernel) hR
abbrev rm_Lives_mostHunger : Room := { frames := 0, cells := 0, slots := 0, locals := 0 }
set_option maxHeartbeats 4000000 in
set_option maxRecDepth 100000 in
theorem c_Lives_mostHunger (l : Launch) (D : va_G) (q : Nat → ClassId) (A : Nat → Prop) (ad : Nat → Nat) (h : Hs) (Q : Int32 → Prop) (hw : p_Lives_mostHunger h Q) : Met l yX3_mostHunger (mw yX3_mostHunger cX3_mostHunger 5 (some .int)) rm_Lives_mostHunger (va_Pc [.ref (ad 2)] (pW D q A (wX q ad h))) (va_Qi (fun r h9 => h9 = h ∧ Q r) (fun h t => pW D q A (wX q ad h) t) A) 0 0 A := by
  refine met_i (Qp := (fun r h9 => h9 = h ∧ Q r)) (by decide) (Nat.le_of_ble_eq_true rfl) ?_
  intro p e R s m args below meth c Qm ls hR1 hR2 S RT hl G
  have hx := S.1
  have hb := S.2.1
  have hl : lv_has ls 5 [(0, .ref (ad 2))] := hl
  unfold p_Lives_mostHunger at hw
  refine lv_iconst (v := 0) hx hb dX3_mostHunger_0 (by decide) ?_
  refine lv_istore_n (lv' := [(1, .int 0), (0, .ref (ad 2))]) hx hb dX3_mostHunger_1 rfl hl (by decide) rfl (fun ls hl => ?_)
  refine lv_iconst (v := 0) hx hb dX3_mostHunger_2 (by decide) ?_
  refine lv_istore_n (lv' := [(2, .int 0), (1, .int 0), (0, .ref (ad 2))]) hx hb dX3_mostHunger_3 rfl hl (by decide) rfl (fun ls hl => ?_)
  have hw := hw (fun (b1_4 : Int32) (b2_4 : Int32) => ∀ (ls : Array Slot) (H : Heap) (locs : List Loc), lv_has ls 5 [(0, .ref (ad 2)), (1, .int b1_4), (2, .int b2_4)] → okW D q A s (wX q ad h) H locs → W p l e R s m args below meth c H locs 0 0 Qm (F0 m 4 ls [])) (by
    intro b1_4 b2_4 hw ls H locs hl G
    refine lv_iload_n hx hb dX3_mostHunger_4 rfl (lv_at hl 2 rfl) ?_
    refine lv_aload_n hx hb dX3_mostHunger_5 rfl (lv_at hl 0 rfl) ?_
    refine x_get (C := RX3) (T := TX3) (n := 10) S G inX3 (xe_4 kx_2) rfl 0 (by decide) kf_X3_12 rfl dX3_mostHunger_6 ?_
    refine x_get (C := RX5) (T := TX5) (n := 17) S G inX5 (xe_6 kx_3) rfl 1 (by decide) kf_X3_93 rfl dX3_mostHunger_9 ?_
    refine lv_icmp_ge (tgt := 33) hx hb dX3_mostHunger_12 (by decide) (fun c_12 => ?_) (fun c_12 => ?_)
    · have hw := hw.1 c_12
      refine lv_iconst (v := 0) hx hb dX3_mostHunger_33 (by decide) ?_
      refine lv_istore_n (lv' := [(2, .int 0), (0, .ref (ad 2)), (1, .int b1_4)]) hx hb dX3_mostHunger_34 rfl hl (by decide) rfl (fun ls hl => ?_)
      refine lv_iconst (v := 0) hx hb dX3_mostHunger_35 (by decide) ?_
      refine lv_istore_n (lv' := [(3, .int 0), (2, .int 0), (0, .ref (ad 2)), (1, .int b1_4)]) hx hb dX3_mostHunger_36 rfl hl (by decide) rfl (fun ls hl => ?_)
      have hw := hw (fun (b2_37 : Int32) (b3_37 : Int32) => ∀ (ls : Array Slot) (H : Heap) (locs : List Loc), lv_has ls 5 [(0, .ref (ad 2)), (1, .int b1_4), (2, .int b2_37), (3, .int b3_37)] → okW D q A s (wX q ad h) H locs → W p l e R s m args below meth c H locs 0 0 Qm (F0 m 37 ls [])) (by
        intro b2_37 b3_37 hw ls H locs hl G
        refine lv_iload_n hx hb dX3_mostHunger_37 rfl (lv_at hl 3 rfl) ?_
        refine lv_aload_n hx hb dX3_mostHunger_38 rfl (lv_at hl 0 rfl) ?_
        refine x_get (C := RX3) (T := TX3) (n := 10) S G inX3 (xe_4 kx_2) rfl 0 (by decide) kf_X3_12 rfl dX3_mostHunger_39 ?_
        refine x_get (C := RX5) (T := TX5) (n := 17) S G inX5 (xe_6 kx_3) rfl 0 (by decide) kf_X3_64 rfl dX3_mostHunger_42 ?_
        refine lv_icmp_ge (tgt := 86) hx hb dX3_mostHunger_45 (by decide) (fun c_45 => ?_) (fun c_45 => ?_)
        · have hw := hw.1 c_45
          refine lv_iload_n hx hb dX3_mostHunger_86 rfl (lv_at hl 2 rfl) ?_
          exact RT _ _ _ _ _ _ G ⟨rfl, hw⟩ dX3_mostHunger_87
        · have hw := hw.2 c_45
          refine lv_iconst (v := 0) hx hb dX3_mostHunger_48 (by decide) ?_
          refine lv_istore (lv' := [(4, .int 0), (0, .ref (ad 2)), (1, .int b1_4), (2, .int b2_37), (3, .int b3_37)]) hx hb dX3_mostHunger_49 hl (by decide) rfl (fun ls hl => ?_)
          have hw := hw (fun (b2_51 : Int32) (b4_51 : Int32) => ∀ (ls : Array Slot) (H : Heap) (locs : List Loc), lv_has ls 5 [(0, .ref (ad 2)), (1, .int b1_4), (2, .int b2_51), (3, .int b3_37), (4, .int b4_51)] → okW D q A s (wX q ad h) H locs → W p l e R s m args below meth c H locs 0 0 Qm (F0 m 51 ls [])) (by
            intro b2_51 b4_51 hw ls H locs hl G
            refine lv_iload hx hb dX3_mostHunger_51 (lv_at hl 4 rfl) ?_
            refine lv_bipush (v := 10) hx hb dX3_mostHunger_53 (by decide) ?_
            refine lv_icmp_ge (tgt := 80) hx hb dX3_mostHunger_55 (by decide) (fun c_55 => ?_) (fun c_55 => ?_)
            · have hw := hw.1 c_55
              obtain ⟨a3_80, ea3_80⟩ : ∃ y : Int32, y = b3_37 + 1 := ⟨_, rfl⟩
              have hw := hw a3_80 ea3_80
              refine lv_iinc (v := a3_80) (lv' := [(3, .int a3_80), (0, .ref (ad 2)), (1, .int b1_4), (2, .int b2_51), (4, .int b4_51)]) hx hb dX3_mostHunger_80 hl (k := 3) rfl (by rw [ea3_80]; rfl) (by decide) rfl (fun ls hl => ?_)
              refine lv_goto (tgt := 37) hx hb dX3_mostHunger_83 (by decide) ?_
              exact hw _ _ _ (lv_sub hl [1, 2, 3, 0] rfl) G
            · have hw := hw.2 c_55
              refine lv_iload_n hx hb dX3_mostHunger_58 rfl (lv_at hl 1 rfl) ?_
              refine lv_aload_n hx hb dX3_mostHunger_59 rfl (lv_at hl 0 rfl) ?_
              refine x_get (C := RX3) (T := TX3) (n := 10) S G inX3 (xe_4 kx_2) rfl 8 (by decide) kf_X3_46 rfl dX3_mostHunger_60 ?_
              refine lv_iload_n hx hb dX3_mostHunger_63 rfl (lv_at hl 3 rfl) ?_
              obtain ⟨i_64, hw⟩ := hw
              refine x_aald (k := b3_37.toNatClampNeg) S G 2 (xe_22 kx_52 lx_52) rfl rfl i_64 rfl (if_pos (vpl i_64)) dX3_mostHunger_64 ?_
              refine lv_iload hx hb dX3_mostHunger_65 (lv_at hl 4 rfl) ?_
              obtain ⟨i_67, hw⟩ := hw
              refine x_iald (k := b4_51.toNatClampNeg) S G (xe_20 (kxe_52 _ (vpl i_64)) (lxe_52 _ (vpl i_64))) i_67 rfl rfl dX3_mostHunger_67 ?_
              have hw := hw (fun (b2_74 : Int32) => ∀ (ls : Array Slot) (H : Heap) (locs : List Loc), lv_has ls 5 [(0, .ref (ad 2)), (1, .int b1_4), (2, .int b2_74), (3, .int b3_37), (4, .int b4_51)] → okW D q A s (wX q ad h) H locs → W p l e R s m args below meth c H locs 0 0 Qm (F0 m 74 ls [])) (by
                intro b2_74 hw ls H locs hl G
                obtain ⟨a4_74, ea4_74⟩ : ∃ y : Int32, y = b4_51 + 1 := ⟨_, rfl⟩
                have hw := hw a4_74 ea4_74
                refine lv_iinc (v := a4_74) (lv' := [(4, .int a4_74), (0, .ref (ad 2)), (1, .int b1_4), (2, .int b2_74), (3, .int b3_37)]) hx hb dX3_mostHunger_74 hl (k := 4) rfl (by rw [ea4_74]; rfl) (by decide) rfl (fun ls hl => ?_)
                refine lv_goto (tgt := 51) hx hb dX3_mostHunger_77 (by decide) ?_
                exact hw _ _ _ (lv_sub hl [1, 2, 3, 4, 0] rfl) G)
              refine lv_icmp_le (tgt := 74) hx hb dX3_mostHunger_68 (by decide) (fun c_68 => ?_) (fun c_68 => ?_)
              · have hw := hw.1 c_68
                exact hw _ _ _ (lv_sub hl [0, 1, 2, 3, 4] rfl) G
              · have hw := hw.2 c_68
                obtain ⟨a2_71, ea2_71⟩ : ∃ y : Int32, y = b2_51 + 1 := ⟨_, rfl⟩
                have hw := hw a2_71 ea2_71
                refine lv_iinc (v := a2_71) (lv' := [(2, .int a2_71), (0, .ref (ad 2)), (1, .int b1_4), (3, .int b3_37), (4, .int b4_51)]) hx hb dX3_mostHunger_71 hl (k := 2) rfl (by rw [ea2_71]; rfl) (by decide) rfl (fun ls hl => ?_)
                exact hw _ _ _ (lv_sub hl [1, 2, 0, 3, 4] rfl) G)
          exact hw _ _ _ (lv_sub hl [1, 2, 3, 4, 0] rfl) G)
      exact hw _ _ _ (lv_sub hl [2, 3, 1, 0] rfl) G
    · have hw := hw.2 c_12
      refine lv_iload_n hx hb dX3_mostHunger_15 rfl (lv_at hl 1 rfl) ?_
      refine lv_aload_n hx hb dX3_mostHunger_16 rfl (lv_at hl 0 rfl) ?_
      refine x_get (C := RX3) (T := TX3) (n := 10) S G inX3 (xe_4 kx_2) rfl 0 (by decide) kf_X3_12 rfl dX3_mostHunger_17 ?_
      refine x_get (C := RX5) (T := TX5) (n := 17) S G inX5 (xe_6 kx_3) rfl 6 (by decide) kf_X3_102 rfl dX3_mostHunger_20 ?_
      refine lv_iload_n hx hb dX3_mostHunger_23 rfl (lv_at hl 2 rfl) ?_
      obtain ⟨i_24, hw⟩ := hw
      refine x_iald (k := b2_4.toNatClampNeg) S G (xe_20 kx_6 lx_6) i_24 rfl rfl dX3_mostHunger_24 ?_
      refine lv_iadd hx hb dX3_mostHunger_25 ?_
      refine lv_topi (fun a1_26 ea1_26 => ?_)
      have hw := hw a1_26 ea1_26
      refine lv_istore_n (lv' := [(1, .int a1_26), (0, .ref (ad 2)), (2, .int b2_4)]) hx hb dX3_mostHunger_26 rfl hl (by decide) rfl (fun ls hl => ?_)
      obtain ⟨a2_27, ea2_27⟩ : ∃ y : Int32, y = b2_4 + 1 := ⟨_, rfl⟩
      have hw := hw a2_27 ea2_27
      refine lv_iinc (v := a2_27) (lv' := [(2, .int a2_27), (1, .int a1_26), (0, .ref (ad 2))]) hx hb dX3_mostHunger_27 hl (k := 2) rfl (by rw [ea2_27]; rfl) (by decide) rfl (fun ls hl => ?_)
      refine lv_goto (tgt := 4) hx hb dX3_mostHunger_30 (by decide) ?_
      exact hw _ _ _ (lv_sub hl [2, 1, 0] rfl) G)
  exact hw _ _ _ (lv_sub hl [2, 1, 0] rfl) G
theorem cw_X8_80 {R : Room} {s : State} {args : Array Value} (hts : ∀ w ∈ gW, w.before args s = true) (hR : rm_Lives_mostHunger.frames + 1 ≤ R.frames ∧ 8 + (5 + 11) + rm_Lives_mostHunger.locals ≤ R.locals) : CallW R s args RX8 RX3 80 yX3_mostHunger cX3_mostHunger 5 (some .int) (mw yX3_mostHunger cX3_mostHunger 5 (some .int)) rm_Lives_mostHunger 0 0 0 := cwV9 hts km_X8_80 ki_X3_mostHunger ks_X3_mostHunger kn_X3 kk_X3_mostHunger rfl rfl (by decide +kernel) hR
abbrev rm_Ship_soonest : Room := { frames := 0, cells := 0, slots := 0, locals := 0 }
set_option maxHeartbeats 4000000 in
set_option maxRecDepth 100000 in
theorem c_Ship_soonest (l : Launch) (D : va_G) (q : Nat → ClassId) (A : Nat → Prop) (ad : Nat → Nat) (h : Hs) (Q : Int32 → Prop) (hw : p_Ship_soonest h Q) : Met l yX4_soonest (mw yX4_soonest cX4_soonest 3 (some .int)) rm_Ship_soonest (va_Pc [.ref (ad 417)] (pW D q A (wX q ad h))) (va_Qi (fun r h9 => h9 = h ∧ Q r) (fun h t => pW D q A (wX q ad h) t) A) 0 0 A := by
  refine met_i (Qp := (fun r h9 => h9 = h ∧ Q r)) (by decide) (Nat.le_of_ble_eq_true rfl) ?_
  intro p e R s m args below meth c Qm ls hR1 hR2 S RT hl G
  have hx := S.1
  have hb := S.2.1
  have hl : lv_has ls 3 [(0, .ref (ad 417))] := hl
  unfold p_Ship_soonest at hw
  refine lv_iconst (v := (-1)) hx hb dX4_soonest_0 (by decide) ?_
  refine lv_istore_n (lv' := [(1, .int (-1)), (0, .ref (ad 417))]) hx hb dX4_soonest_1 rfl hl (by decide) rfl (fun ls hl => ?_)
  refine lv_iconst (v := 0) hx hb dX4_soonest_2 (by decide) ?_
  refine lv_istore_n (lv' := [(2, .int 0), (1, .int (-1)), (0, .ref (ad 417))]) hx hb dX4_soonest_3 rfl hl (by decide) rfl (fun ls hl => ?_)
  have hw := hw (fun (b1_4 : Int32) (b2_4 : Int32) => ∀ (ls : Array Slot) (H : Heap) (locs : List Loc), lv_has ls 3 [(0, .ref (ad 417)), (1, .int b1_4), (2, .int b2_4)] → okW D q A s (wX q ad h) H locs → W p l e R s m args below meth c H locs 0 0 Qm (F0 m 4 ls [])) (by
    intro b1_4 b2_4 hw ls H locs hl G
    refine lv_iload_n hx hb dX4_soonest_4 rfl (lv_at hl 2 rfl) ?_
    refine lv_bipush (v := 6) hx hb dX4_soonest_5 (by decide) ?_
    refine lv_icmp_ge (tgt := 57) hx hb dX4_soonest_7 (by decide) (fun c_7 => ?_) (fun c_7 => ?_)
    · have hw := hw.1 c_7
      refine lv_iload_n hx hb dX4_soonest_57 rfl (lv_at hl 1 rfl) ?_
      exact RT _ _ _ _ _ _ G ⟨rfl, hw⟩ dX4_soonest_58
    · have hw := hw.2 c_7
      refine lv_aload_n hx hb dX4_soonest_10 rfl (lv_at hl 0 rfl) ?_
      refine x_get (C := RX4) (T := TX4) (n := 2) S G inX4 (xe_5 kx_417) rfl 1 (by decide) kf_X4_15 rfl dX4_soonest_11 ?_
      refine lv_iload_n hx hb dX4_soonest_14 rfl (lv_at hl 2 rfl) ?_
      obtain ⟨i_15, hw⟩ := hw
      refine x_iald (k := b2_4.toNatClampNeg) S G (xe_20 kx_419 lx_419) i_15 rfl rfl dX4_soonest_15 ?_
      have hw := hw (fun (b1_51 : Int32) => ∀ (ls : Array Slot) (H : Heap) (locs : List Loc), lv_has ls 3 [(0, .ref (ad 417)), (1, .int b1_51), (2, .int b2_4)] → okW D q A s (wX q ad h) H locs → W p l e R s m args below meth c H locs 0 0 Qm (F0 m 51 ls [])) (by
        intro b1_51 hw ls H locs hl G
        obtain ⟨a2_51, ea2_51⟩ : ∃ y : Int32, y = b2_4 + 1 := ⟨_, rfl⟩
        have hw := hw a2_51 ea2_51
        refine lv_iinc (v := a2_51) (lv' := [(2, .int a2_51), (0, .ref (ad 417)), (1, .int b1_51)]) hx hb dX4_soonest_51 hl (k := 2) rfl (by rw [ea2_51]; rfl) (by decide) rfl (fun ls hl => ?_)
        refine lv_goto (tgt := 4) hx hb dX4_soonest_54 (by decide) ?_
        exact hw _ _ _ (lv_sub hl [1, 2, 0] rfl) G)
      refine lv_if_ne (tgt := 51) hx hb dX4_soonest_16 (by decide) (fun c_16 => ?_) (fun c_16 => ?_)
      · have hw := hw.1 c_16
        exact hw _ _ _ (lv_sub hl [0, 1, 2] rfl) G
      · have hw := hw.2 c_16
        refine lv_aload_n hx hb dX4_soonest_19 rfl (lv_at hl 0 rfl) ?_
        refine x_get (C := RX4) (T := TX4) (n := 2) S G inX4 (xe_5 kx_417) rfl 0 (by decide) kf_X4_9 rfl dX4_soonest_20 ?_
        refine lv_iload_n hx hb dX4_soonest_23 rfl (lv_at hl 2 rfl) ?_
        obtain ⟨i_24, hw⟩ := hw
        refine x_iald (k := b2_4.toNatClampNeg) S G (xe_20 kx_418 lx_418) i_24 rfl rfl dX4_soonest_24 ?_
        refine lv_iconst (v := (-1)) hx hb dX4_soonest_25 (by decide) ?_
        refine lv_icmp_eq (tgt := 51) hx hb dX4_soonest_26 (by decide) (fun c_26 => ?_) (fun c_26 => ?_)
        · have hw := hw.1 c_26
          exact hw _ _ _ (lv_sub hl [0, 1, 2] rfl) G
        · have hw := hw.2 c_26
          refine lv_iload_n hx hb dX4_soonest_29 rfl (lv_at hl 1 rfl) ?_
          refine lv_iconst (v := (-1)) hx hb dX4_soonest_30 (by decide) ?_
          have hw := hw (∀ (ls : Array Slot) (H : Heap) (locs : List Loc), lv_has ls 3 [(0, .ref (ad 417)), (2, .int b2_4)] → okW D q A s (wX q ad h) H locs → W p l e R s m args below meth c H locs 0 0 Qm (F0 m 49 ls [])) (by
            intro hw ls H locs hl G
            refine lv_iload_n hx hb dX4_soonest_49 rfl (lv_at hl 1 rfl) ?_
            refine lv_istore_n (lv' := [(1, .int b2_4), (0, .ref (ad 417)), (2, .int b2_4)]) hx hb dX4_soonest_50 rfl hl (by decide) rfl (fun ls hl => ?_)
            exact hw _ _ _ (lv_sub hl [1, 0, 2] rfl) G)
          refine lv_icmp_eq (tgt := 49) hx hb dX4_soonest_31 (by decide) (fun c_31 => ?_) (fun c_31 => ?_)
          · have hw := hw.1 c_31
            exact hw _ _ _ (lv_sub hl [0, 2] rfl) G
          · have hw := hw.2 c_31
            refine lv_aload_n hx hb dX4_soonest_34 rfl (lv_at hl 0 rfl) ?_
            refine x_get (C := RX4) (T := TX4) (n := 2) S G inX4 (xe_5 kx_417) rfl 0 (by decide) kf_X4_9 rfl dX4_soonest_35 ?_
            refine lv_iload_n hx hb dX4_soonest_38 rfl (lv_at hl 2 rfl) ?_
            obtain ⟨i_39, hw⟩ := hw
            refine x_iald (k := b2_4.toNatClampNeg) S G (xe_20 kx_418 lx_418) i_39 rfl rfl dX4_soonest_39 ?_
            refine lv_aload_n hx hb dX4_soonest_40 rfl (lv_at hl 0 rfl) ?_
            refine x_get (C := RX4) (T := TX4) (n := 2) S G inX4 (xe_5 kx_417) rfl 0 (by decide) kf_X4_9 rfl dX4_soonest_41 ?_
            refine lv_iload_n hx hb dX4_soonest_44 rfl (lv_at hl 1 rfl) ?_
            obtain ⟨i_45, hw⟩ := hw
            refine x_iald (k := b1_4.toNatClampNeg) S G (xe_20 kx_418 lx_418) i_45 rfl rfl dX4_soonest_45 ?_
            refine lv_icmp_ge (tgt := 51) hx hb dX4_soonest_46 (by decide) (fun c_46 => ?_) (fun c_46 => ?_)
            · have hw := hw.1 c_46
              exact hw _ _ _ (lv_sub hl [0, 1, 2] rfl) G
            · have hw := hw.2 c_46
              exact hw _ _ _ (lv_sub hl [0, 2] rfl) G)
  exact hw _ _ _ (lv_sub hl [2, 1, 0] rfl) G
theorem cw_X4_30 {R : Room} {s : State} {args : Array Value} (hts : ∀ w ∈ gW, w.before args s = true) (hR : rm_Ship_soonest.frames + 1 ≤ R.frames ∧ 8 + (3 + 11) + rm_Ship_soonest.locals ≤ R.locals) : CallW R s args RX4 RX4 30 yX4_soonest cX4_soonest 3 (some .int) (mw yX4_soonest cX4_soonest 3 (some .int)) rm_Ship_soonest 0 0 0 := cwV9 hts km_X4_30 ki_X4_soonest ks_X4_soonest kn_X4 kk_X4_soonest rfl rfl (by decide +kernel) hR
abbrev rm_Ship_endOfLeg : Room := { frames := 0, cells := 0, slots := 0, locals := 0 }
set_option maxHeartbeats 4000000 in
set_option maxRecDepth 100000 in
theorem c_Ship_endOfLeg (l : Launch) (D : va_G) (q : Nat → ClassId) (A : Nat → Prop) (ad : Nat → Nat) (a0 : Nat) (a1 : Int32) (a2 : Int32) (k0 : kX a0 = 20) (h : Hs) (Q : Int32 → Prop) (hw : p_Ship_endOfLeg a0 a1 a2 h Q) : Met l yX4_endOfLeg (mw yX4_endOfLeg cX4_endOfLeg 5 (some .int)) rm_Ship_endOfLeg (va_Pc [.ref (ad a0), .int a1, .int a2] (pW D q A (wX q ad h))) (va_Qi (fun r h9 => h9 = h ∧ Q r) (fun h t => pW D q A (wX q ad h) t) A) 0 0 A := by
  refine met_i (Qp := (fun r h9 => h9 = h ∧ Q r)) (by decide) (Nat.le_of_ble_eq_true rfl) ?_
  intro p e R s m args below meth c Qm ls hR1 hR2 S RT hl G
  have hx := S.1
  have hb := S.2.1
  have hl : lv_has ls 5 [(0, .ref (ad a0)), (1, .int a1), (2, .int a2)] := hl
  unfold p_Ship_endOfLeg at hw
  refine lv_iload_n hx hb dX4_endOfLeg_0 rfl (lv_at hl 1 rfl) ?_
  refine lv_istore_n (lv' := [(3, .int a1), (0, .ref (ad a0)), (1, .int a1), (2, .int a2)]) hx hb dX4_endOfLeg_1 rfl hl (by decide) rfl (fun ls hl => ?_)
  refine lv_iload_n hx hb dX4_endOfLeg_2 rfl (lv_at hl 3 rfl) ?_
  refine lv_istore (lv' := [(4, .int a2), (3, .int a1), (0, .ref (ad a0)), (1, .int a1), (2, .int a2)]) hx hb dX4_endOfLeg_3 hl (by decide) rfl (fun ls hl => ?_)
  have hw := hw (fun (b3_5 : Int32) (b4_5 : Int32) => ∀ (ls : Array Slot) (H : Heap) (locs : List Loc), lv_has ls 5 [(0, .ref (ad a0)), (3, .int b3_5), (4, .int b4_5)] → okW D q A s (wX q ad h) H locs → W p l e R s m args below meth c H locs 0 0 Qm (F0 m 5 ls [])) (by
    intro b3_5 b4_5 hw ls H locs hl G
    refine lv_iload_n hx hb dX4_endOfLeg_5 rfl (lv_at hl 1 rfl) ?_
    refine lv_aload_n hx hb dX4_endOfLeg_6 rfl (lv_at hl 0 rfl) ?_
    refine x_alen (v := nI (lX a0)) S G 0 (xe_20 k0 rfl) rfl rfl dX4_endOfLeg_7 ?_
    have hw := hw (∀ (ls : Array Slot) (H : Heap) (locs : List Loc), lv_has ls 5 [(3, .int b3_5), (4, .int b4_5)] → okW D q A s (wX q ad h) H locs → W p l e R s m args below meth c H locs 0 0 Qm (F0 m 31 ls [])) (by
      intro hw ls H locs hl G
      refine lv_iload_n hx hb dX4_endOfLeg_31 rfl (lv_at hl 0 rfl) ?_
      refine lv_iload hx hb dX4_endOfLeg_32 (lv_at hl 1 rfl) ?_
      refine lv_iadd hx hb dX4_endOfLeg_34 ?_
      exact RT _ _ _ _ _ _ G ⟨rfl, hw⟩ dX4_endOfLeg_35)
    refine lv_icmp_ge (tgt := 31) hx hb dX4_endOfLeg_8 (by decide) (fun c_8 => ?_) (fun c_8 => ?_)
    · have hw := hw.1 c_8
      exact hw _ _ _ (lv_sub hl [1, 2] rfl) G
    · have hw := hw.2 c_8
      refine lv_iload hx hb dX4_endOfLeg_11 (lv_at hl 2 rfl) ?_
      refine lv_if_le (tgt := 31) hx hb dX4_endOfLeg_13 (by decide) (fun c_13 => ?_) (fun c_13 => ?_)
      · have hw := hw.1 c_13
        exact hw _ _ _ (lv_sub hl [1, 2] rfl) G
      · have hw := hw.2 c_13
        refine lv_aload_n hx hb dX4_endOfLeg_16 rfl (lv_at hl 0 rfl) ?_
        refine lv_iload_n hx hb dX4_endOfLeg_17 rfl (lv_at hl 1 rfl) ?_
        obtain ⟨i_18, hw⟩ := hw
        refine x_iald (k := b3_5.toNatClampNeg) S G (xe_20 k0 rfl) i_18 rfl rfl dX4_endOfLeg_18 ?_
        have hw := hw (fun (b4_25 : Int32) => ∀ (ls : Array Slot) (H : Heap) (locs : List Loc), lv_has ls 5 [(0, .ref (ad a0)), (3, .int b3_5), (4, .int b4_25)] → okW D q A s (wX q ad h) H locs → W p l e R s m args below meth c H locs 0 0 Qm (F0 m 25 ls [])) (by
          intro b4_25 hw ls H locs hl G
          obtain ⟨a3_25, ea3_25⟩ : ∃ y : Int32, y = b3_5 + 1 := ⟨_, rfl⟩
          have hw := hw a3_25 ea3_25
          refine lv_iinc (v := a3_25) (lv' := [(3, .int a3_25), (0, .ref (ad a0)), (4, .int b4_25)]) hx hb dX4_endOfLeg_25 hl (k := 1) rfl (by rw [ea3_25]; rfl) (by decide) rfl (fun ls hl => ?_)
          refine lv_goto (tgt := 5) hx hb dX4_endOfLeg_28 (by decide) ?_
          exact hw _ _ _ (lv_sub hl [1, 0, 2] rfl) G)
        refine lv_if_ne (tgt := 25) hx hb dX4_endOfLeg_19 (by decide) (fun c_19 => ?_) (fun c_19 => ?_)
        · have hw := hw.1 c_19
          exact hw _ _ _ (lv_sub hl [0, 1, 2] rfl) G
        · have hw := hw.2 c_19
          obtain ⟨a4_22, ea4_22⟩ : ∃ y : Int32, y = b4_5 + (-1) := ⟨_, rfl⟩
          have hw := hw a4_22 ea4_22
          refine lv_iinc (v := a4_22) (lv' := [(4, .int a4_22), (0, .ref (ad a0)), (3, .int b3_5)]) hx hb dX4_endOfLeg_22 hl (k := 2) rfl (by rw [ea4_22]; rfl) (by decide) rfl (fun ls hl => ?_)
          exact hw _ _ _ (lv_sub hl [1, 2, 0] rfl) G)
  exact hw _ _ _ (lv_sub hl [2, 1, 0] rfl) G
theorem cw_X4_45 {R : Room} {s : State} {args : Array Value} (hts : ∀ w ∈ gW, w.before args s = true) (hR : rm_Ship_endOfLeg.frames + 1 ≤ R.frames ∧ 8 + (5 + 11) + rm_Ship_endOfLeg.locals ≤ R.locals) : CallB R s args RX4 45 yX4_endOfLeg cX4_endOfLeg 5 (some .int) (mw yX4_endOfLeg cX4_endOfLeg 5 (some .int)) rm_Ship_endOfLeg 0 0 3 ∧ (Cond.static yX4_endOfLeg).before args s = true := cwS9 hts km_X4_45 kt_X4_endOfLeg kn_X4 kk_X4_endOfLeg rfl rfl (by decide +kernel) hR
abbrev rm_Ship_sailOnFrom : Room := { frames := 1, cells := 0, slots := 0, locals := 24 }
set_option maxHeartbeats 4000000 in
set_option maxRecDepth 100000 in
theorem c_Ship_sailOnFrom (l : Launch) (D : va_G) (q : Nat → ClassId) (A : Nat → Prop) (ad : Nat → Nat) (a2 : Int32) (h : Hs) (Q : Hs → Prop) (hw : p_Ship_sailOnFrom a2 h Q) : Met l yX4_sailOnFrom (mw yX4_sailOnFrom cX4_sailOnFrom 6 none) rm_Ship_sailOnFrom (va_Pc [.ref (ad 417), .ref (ad 3), .int a2] (pW D q A (wX q ad h))) (va_Qv Q (fun h t => pW D q A (wX q ad h) t) A) 0 0 A := by
  refine met_v (Qp := Q) (by decide) (Nat.le_of_ble_eq_true rfl) ?_
  intro p e R s m args below meth c Qm ls hR1 hR2 S RT hl G
  have hx := S.1
  have hb := S.2.1
  have hl : lv_has ls 6 [(0, .ref (ad 417)), (1, .ref (ad 3)), (2, .int a2)] := hl
  unfold p_Ship_sailOnFrom at hw
  refine lv_iconst (v := 0) hx hb dX4_sailOnFrom_0 (by decide) ?_
  refine lv_istore_n (lv' := [(3, .int 0), (0, .ref (ad 417)), (1, .ref (ad 3)), (2, .int a2)]) hx hb dX4_sailOnFrom_1 rfl hl (by decide) rfl (fun ls hl => ?_)
  have hw := hw (fun (b3_2 : Int32) (g_2 : Hs) => ∀ (ls : Array Slot) (H : Heap) (locs : List Loc), lv_has ls 6 [(0, .ref (ad 417)), (1, .ref (ad 3)), (2, .int a2), (3, .int b3_2)] → okW D q A s (wX q ad g_2) H locs → W p l e R s m args below meth c H locs 0 0 Qm (F0 m 2 ls [])) (by
    intro b3_2 g_2 hw ls H locs hl G
    refine lv_iload_n hx hb dX4_sailOnFrom_2 rfl (lv_at hl 3 rfl) ?_
    refine lv_aload_n hx hb dX4_sailOnFrom_3 rfl (lv_at hl 1 rfl) ?_
    refine x_get (C := RX5) (T := TX5) (n := 17) S G inX5 (xe_6 kx_3) rfl 0 (by decide) kf_X4_24 rfl dX4_sailOnFrom_4 ?_
    refine lv_icmp_ge (tgt := 86) hx hb dX4_sailOnFrom_7 (by decide) (fun c_7 => ?_) (fun c_7 => ?_)
    · have hw := hw.1 c_7
      exact RT _ _ _ _ _ G hw dX4_sailOnFrom_86
    · have hw := hw.2 c_7
      refine lv_aload_n hx hb dX4_sailOnFrom_10 rfl (lv_at hl 1 rfl) ?_
      refine x_get (C := RX5) (T := TX5) (n := 17) S G inX5 (xe_6 kx_3) rfl 15 (by decide) kf_X4_38 rfl dX4_sailOnFrom_11 ?_
      refine lv_iload_n hx hb dX4_sailOnFrom_14 rfl (lv_at hl 2 rfl) ?_
      obtain ⟨i_15, hw⟩ := hw
      refine x_aald (k := a2.toNatClampNeg) S G 2 (xe_22 kx_35 lx_35) rfl rfl i_15 rfl (if_pos (vpl i_15)) dX4_sailOnFrom_15 ?_
      refine lv_iload_n hx hb dX4_sailOnFrom_16 rfl (lv_at hl 3 rfl) ?_
      obtain ⟨i_17, hw⟩ := hw
      refine x_iald (k := b3_2.toNatClampNeg) S G (xe_20 (kxe_35 _ (vpl i_15)) (lxe_35 _ (vpl i_15))) i_17 rfl rfl dX4_sailOnFrom_17 ?_
      refine lv_topi (fun a4_18 ea4_18 => ?_)
      have hw := hw a4_18 ea4_18
      refine lv_istore (lv' := [(4, .int a4_18), (0, .ref (ad 417)), (1, .ref (ad 3)), (2, .int a2), (3, .int b3_2)]) hx hb dX4_sailOnFrom_18 hl (by decide) rfl (fun ls hl => ?_)
      refine lv_iload hx hb dX4_sailOnFrom_20 (lv_at hl 0 rfl) ?_
      have hw := hw (fun (g_80 : Hs) => ∀ (ls : Array Slot) (H : Heap) (locs : List Loc), lv_has ls 6 [(0, .ref (ad 417)), (1, .ref (ad 3)), (2, .int a2), (3, .int b3_2)] → okW D q A s (wX q ad g_80) H locs → W p l e R s m args below meth c H locs 0 0 Qm (F0 m 80 ls [])) (by
        intro g_80 hw ls H locs hl G
        obtain ⟨a3_80, ea3_80⟩ : ∃ y : Int32, y = b3_2 + 1 := ⟨_, rfl⟩
        have hw := hw a3_80 ea3_80
        refine lv_iinc (v := a3_80) (lv' := [(3, .int a3_80), (0, .ref (ad 417)), (1, .ref (ad 3)), (2, .int a2)]) hx hb dX4_sailOnFrom_80 hl (k := 3) rfl (by rw [ea3_80]; rfl) (by decide) rfl (fun ls hl => ?_)
        refine lv_goto (tgt := 2) hx hb dX4_sailOnFrom_83 (by decide) ?_
        exact hw _ _ _ (lv_sub hl [1, 2, 3, 0] rfl) G)
      refine lv_if_le (tgt := 80) hx hb dX4_sailOnFrom_22 (by decide) (fun c_22 => ?_) (fun c_22 => ?_)
      · have hw := hw.1 c_22
        exact hw _ _ _ (lv_sub hl [1, 2, 3, 4] rfl) G
      · have hw := hw.2 c_22
        refine lv_aload_n hx hb dX4_sailOnFrom_25 rfl (lv_at hl 1 rfl) ?_
        refine x_get (C := RX4) (T := TX4) (n := 2) S G inX4 (xe_5 kx_417) rfl 1 (by decide) kf_X4_15 rfl dX4_sailOnFrom_26 ?_
        refine lv_iload_n hx hb dX4_sailOnFrom_29 rfl (lv_at hl 4 rfl) ?_
        obtain ⟨i_30, hw⟩ := hw
        refine x_iald (k := b3_2.toNatClampNeg) S G (xe_20 kx_419 lx_419) i_30 rfl rfl dX4_sailOnFrom_30 ?_
        refine lv_if_ne (tgt := 80) hx hb dX4_sailOnFrom_31 (by decide) (fun c_31 => ?_) (fun c_31 => ?_)
        · have hw := hw.1 c_31
          exact hw _ _ _ (lv_sub hl [1, 2, 3, 4] rfl) G
        · have hw := hw.2 c_31
          refine lv_aload_n hx hb dX4_sailOnFrom_34 rfl (lv_at hl 2 rfl) ?_
          refine x_get (C := RX5) (T := TX5) (n := 17) S G inX5 (xe_6 kx_3) rfl 16 (by decide) kf_X4_42 rfl dX4_sailOnFrom_35 ?_
          refine lv_aload_n hx hb dX4_sailOnFrom_38 rfl (lv_at hl 1 rfl) ?_
          refine x_get (C := RX4) (T := TX4) (n := 2) S G inX4 (xe_5 kx_417) rfl 0 (by decide) kf_X4_9 rfl dX4_sailOnFrom_39 ?_
          refine lv_iload_n hx hb dX4_sailOnFrom_42 rfl (lv_at hl 3 rfl) ?_
          obtain ⟨i_43, hw⟩ := hw
          refine x_iald (k := a2.toNatClampNeg) S G (xe_20 kx_418 lx_418) i_43 rfl rfl dX4_sailOnFrom_43 ?_
          refine lv_iload hx hb dX4_sailOnFrom_44 (lv_at hl 0 rfl) ?_
          refine x_SiP S hl.1 G (c_Ship_endOfLeg l D q A ad 42 (gi g_2 418 a2.toNatClampNeg) a4_18 kx_42 g_2 _ hw) (cw_X4_45 S.2.2.2.2 ⟨Nat.le_trans (Nat.le_of_ble_eq_true rfl) hR1, Nat.le_trans (Nat.le_of_ble_eq_true rfl) hR2⟩) rfl rfl (Nat.le_of_ble_eq_true rfl) dX4_sailOnFrom_46 (fun r_46 H locs G hw => ?_)
          refine lv_istore (lv' := [(5, .int r_46), (4, .int a4_18), (0, .ref (ad 417)), (1, .ref (ad 3)), (2, .int a2), (3, .int b3_2)]) hx hb dX4_sailOnFrom_49 hl (by decide) rfl (fun ls hl => ?_)
          refine lv_aload_n hx hb dX4_sailOnFrom_51 rfl (lv_at hl 2 rfl) ?_
          refine x_get (C := RX4) (T := TX4) (n := 2) S G inX4 (xe_5 kx_417) rfl 0 (by decide) kf_X4_9 rfl dX4_sailOnFrom_52 ?_
          refine lv_iload_n hx hb dX4_sailOnFrom_55 rfl (lv_at hl 5 rfl) ?_
          obtain ⟨i_56, hw⟩ := hw
          refine x_iald (k := b3_2.toNatClampNeg) S G (xe_20 kx_418 lx_418) i_56 rfl rfl dX4_sailOnFrom_56 ?_
          refine lv_iconst (v := (-1)) hx hb dX4_sailOnFrom_57 (by decide) ?_
          have hw := hw (∀ (ls : Array Slot) (H : Heap) (locs : List Loc), lv_has ls 6 [(0, .ref (ad 417)), (1, .ref (ad 3)), (2, .int a2), (3, .int b3_2), (5, .int r_46)] → okW D q A s (wX q ad g_2) H locs → W p l e R s m args below meth c H locs 0 0 Qm (F0 m 72 ls [])) (by
            intro hw ls H locs hl G
            refine lv_aload_n hx hb dX4_sailOnFrom_72 rfl (lv_at hl 0 rfl) ?_
            refine x_get (C := RX4) (T := TX4) (n := 2) S G inX4 (xe_5 kx_417) rfl 0 (by decide) kf_X4_9 rfl dX4_sailOnFrom_73 ?_
            refine lv_iload_n hx hb dX4_sailOnFrom_76 rfl (lv_at hl 3 rfl) ?_
            refine lv_iload hx hb dX4_sailOnFrom_77 (lv_at hl 4 rfl) ?_
            obtain ⟨i_79, hw⟩ := hw
            refine x_iast (k := b3_2.toNatClampNeg) S G (xe_20 kx_418 lx_418) i_79 rfl (xs_20 kx_418 lx_418) dX4_sailOnFrom_79 (fun H locs G => ?_)
            obtain ⟨h_79, eh_79⟩ : ∃ y : Hs, y = si g_2 418 b3_2.toNatClampNeg r_46 := ⟨_, rfl⟩
            rw [← eh_79] at G
            have hw := hw h_79 eh_79
            exact hw _ _ _ (lv_sub hl [0, 1, 2, 3] rfl) G)
          refine lv_icmp_eq (tgt := 72) hx hb dX4_sailOnFrom_58 (by decide) (fun c_58 => ?_) (fun c_58 => ?_)
          · have hw := hw.1 c_58
            exact hw _ _ _ (lv_sub hl [2, 3, 4, 5, 0] rfl) G
          · have hw := hw.2 c_58
            refine lv_iload hx hb dX4_sailOnFrom_61 (lv_at hl 0 rfl) ?_
            refine lv_aload_n hx hb dX4_sailOnFrom_63 rfl (lv_at hl 2 rfl) ?_
            refine x_get (C := RX4) (T := TX4) (n := 2) S G inX4 (xe_5 kx_417) rfl 0 (by decide) kf_X4_9 rfl dX4_sailOnFrom_64 ?_
            refine lv_iload_n hx hb dX4_sailOnFrom_67 rfl (lv_at hl 5 rfl) ?_
            obtain ⟨i_68, hw⟩ := hw
            refine x_iald (k := b3_2.toNatClampNeg) S G (xe_20 kx_418 lx_418) i_68 rfl rfl dX4_sailOnFrom_68 ?_
            refine lv_icmp_ge (tgt := 80) hx hb dX4_sailOnFrom_69 (by decide) (fun c_69 => ?_) (fun c_69 => ?_)
            · have hw := hw.1 c_69
              exact hw _ _ _ (lv_sub hl [2, 3, 4, 5] rfl) G
            · have hw := hw.2 c_69
              exact hw _ _ _ (lv_sub hl [2, 3, 4, 5, 0] rfl) G)
  exact hw _ _ _ (lv_sub hl [1, 2, 3, 0] rfl) G
theorem cw_X4_34 {R : Room} {s : State} {args : Array Value} (hts : ∀ w ∈ gW, w.before args s = true) (hR : rm_Ship_sailOnFrom.frames + 1 ≤ R.frames ∧ 8 + (6 + 11) + rm_Ship_sailOnFrom.locals ≤ R.locals) : CallW R s args RX4 RX4 34 yX4_sailOnFrom cX4_sailOnFrom 6 none (mw yX4_sailOnFrom cX4_sailOnFrom 6 none) rm_Ship_sailOnFrom 0 0 2 := cwV9 hts km_X4_34 ki_X4_sailOnFrom ks_X4_sailOnFrom kn_X4 kk_X4_sailOnFrom rfl rfl (by decide +kernel) hR
abbrev rm_Ship_firstDayAt : Room := { frames := 2, cells := 0, slots := 0, locals := 49 }
set_option maxHeartbeats 4000000 in
set_option maxRecDepth 100000 in
theorem c_Ship_firstDayAt (l : Launch) (D : va_G) (q : Nat → ClassId) (A : Nat → Prop) (ad : Nat → Nat) (a2 : Int32) (a3 : Int32) (a4 : Int32) (h : Hs) (Q : Int32 → Hs → Prop) (hw : p_Ship_firstDayAt a2 a3 a4 h Q) : Met l yX4_firstDayAt (mw yX4_firstDayAt cX4_firstDayAt 7 (some .int)) rm_Ship_firstDayAt (va_Pc [.ref (ad 417), .ref (ad 3), .int a2, .int a3, .int a4] (pW D q A (wX q ad h))) (va_Qi Q (fun h t => pW D q A (wX q ad h) t) A) 0 0 A := by
  refine met_i (Qp := Q) (by decide) (Nat.le_of_ble_eq_true rfl) ?_
  intro p e R s m args below meth c Qm ls hR1 hR2 S RT hl G
  have hx := S.1
  have hb := S.2.1
  have hl : lv_has ls 7 [(0, .ref (ad 417)), (1, .ref (ad 3)), (2, .int a2), (3, .int a3), (4, .int a4)] := hl
  unfold p_Ship_firstDayAt at hw
  refine lv_aload_n hx hb dX4_firstDayAt_0 rfl (lv_at hl 0 rfl) ?_
  refine x_get (C := RX4) (T := TX4) (n := 2) S G inX4 (xe_5 kx_417) rfl 0 (by decide) kf_X4_9 rfl dX4_firstDayAt_1 ?_
  refine lv_iconst (v := (-1)) hx hb dX4_firstDayAt_4 (by decide) ?_
  refine x_Sv S hl.1 G (c_Arr_fill l D q A ad 418 (-1) kx_418 h _ hw) (cw_X4_18 S.2.2.2.2 ⟨Nat.le_trans (Nat.le_of_ble_eq_true rfl) hR1, Nat.le_trans (Nat.le_of_ble_eq_true rfl) hR2⟩) rfl rfl (Nat.le_of_ble_eq_true rfl) dX4_firstDayAt_5 (fun h_5 H locs G hw => ?_)
  refine lv_aload_n hx hb dX4_firstDayAt_8 rfl (lv_at hl 0 rfl) ?_
  refine x_get (C := RX4) (T := TX4) (n := 2) S G inX4 (xe_5 kx_417) rfl 1 (by decide) kf_X4_15 rfl dX4_firstDayAt_9 ?_
  refine lv_iconst (v := 0) hx hb dX4_firstDayAt_12 (by decide) ?_
  refine x_Sv S hl.1 G (c_Arr_fill l D q A ad 419 0 kx_419 h_5 _ hw) (cw_X4_18 S.2.2.2.2 ⟨Nat.le_trans (Nat.le_of_ble_eq_true rfl) hR1, Nat.le_trans (Nat.le_of_ble_eq_true rfl) hR2⟩) rfl rfl (Nat.le_of_ble_eq_true rfl) dX4_firstDayAt_13 (fun h_13 H locs G hw => ?_)
  refine lv_aload_n hx hb dX4_firstDayAt_16 rfl (lv_at hl 0 rfl) ?_
  refine x_get (C := RX4) (T := TX4) (n := 2) S G inX4 (xe_5 kx_417) rfl 0 (by decide) kf_X4_9 rfl dX4_firstDayAt_17 ?_
  refine lv_iload_n hx hb dX4_firstDayAt_20 rfl (lv_at hl 2 rfl) ?_
  refine lv_iload hx hb dX4_firstDayAt_21 (lv_at hl 4 rfl) ?_
  obtain ⟨i_23, hw⟩ := hw
  refine x_iast (k := a2.toNatClampNeg) S G (xe_20 kx_418 lx_418) i_23 rfl (xs_20 kx_418 lx_418) dX4_firstDayAt_23 (fun H locs G => ?_)
  obtain ⟨h_23, eh_23⟩ : ∃ y : Hs, y = si h_13 418 a2.toNatClampNeg a4 := ⟨_, rfl⟩
  rw [← eh_23] at G
  have hw := hw h_23 eh_23
  refine lv_iconst (v := 0) hx hb dX4_firstDayAt_24 (by decide) ?_
  refine lv_istore (lv' := [(5, .int 0), (0, .ref (ad 417)), (1, .ref (ad 3)), (2, .int a2), (3, .int a3), (4, .int a4)]) hx hb dX4_firstDayAt_25 hl (by decide) rfl (fun ls hl => ?_)
  have hw := hw (fun (b5_27 : Int32) (g_27 : Hs) => ∀ (ls : Array Slot) (H : Heap) (locs : List Loc), lv_has ls 7 [(0, .ref (ad 417)), (1, .ref (ad 3)), (3, .int a3), (5, .int b5_27)] → okW D q A s (wX q ad g_27) H locs → W p l e R s m args below meth c H locs 0 0 Qm (F0 m 27 ls [])) (by
    intro b5_27 g_27 hw ls H locs hl G
    refine lv_iload hx hb dX4_firstDayAt_27 (lv_at hl 3 rfl) ?_
    refine lv_aload_n hx hb dX4_firstDayAt_29 rfl (lv_at hl 1 rfl) ?_
    refine x_get (C := RX5) (T := TX5) (n := 17) S G inX5 (xe_6 kx_3) rfl 0 (by decide) kf_X4_24 rfl dX4_firstDayAt_30 ?_
    refine lv_icmp_ge (tgt := 69) hx hb dX4_firstDayAt_33 (by decide) (fun c_33 => ?_) (fun c_33 => ?_)
    · have hw := hw.1 c_33
      refine lv_aload_n hx hb dX4_firstDayAt_69 rfl (lv_at hl 0 rfl) ?_
      refine x_get (C := RX4) (T := TX4) (n := 2) S G inX4 (xe_5 kx_417) rfl 0 (by decide) kf_X4_9 rfl dX4_firstDayAt_70 ?_
      refine lv_iload_n hx hb dX4_firstDayAt_73 rfl (lv_at hl 2 rfl) ?_
      obtain ⟨i_74, hw⟩ := hw
      refine x_iald (k := a3.toNatClampNeg) S G (xe_20 kx_418 lx_418) i_74 rfl rfl dX4_firstDayAt_74 ?_
      exact RT _ _ _ _ _ _ G hw dX4_firstDayAt_75
    · have hw := hw.2 c_33
      refine lv_aload_n hx hb dX4_firstDayAt_36 rfl (lv_at hl 0 rfl) ?_
      refine x_ViP S hl.1 G (c_Ship_soonest l D q A ad g_27 _ hw) (cw_X4_30 S.2.2.2.2 ⟨Nat.le_trans (Nat.le_of_ble_eq_true rfl) hR1, Nat.le_trans (Nat.le_of_ble_eq_true rfl) hR2⟩) (xe_5 kx_417) rfl rfl rfl (Nat.le_of_ble_eq_true rfl) dX4_firstDayAt_37 (fun r_37 H locs G hw => ?_)
      refine lv_istore (lv' := [(6, .int r_37), (0, .ref (ad 417)), (1, .ref (ad 3)), (3, .int a3), (5, .int b5_27)]) hx hb dX4_firstDayAt_40 hl (by decide) rfl (fun ls hl => ?_)
      refine lv_iload hx hb dX4_firstDayAt_42 (lv_at hl 0 rfl) ?_
      refine lv_iconst (v := (-1)) hx hb dX4_firstDayAt_44 (by decide) ?_
      have hw := hw (fun (g_63 : Hs) => ∀ (ls : Array Slot) (H : Heap) (locs : List Loc), lv_has ls 7 [(0, .ref (ad 417)), (1, .ref (ad 3)), (3, .int a3), (5, .int b5_27)] → okW D q A s (wX q ad g_63) H locs → W p l e R s m args below meth c H locs 0 0 Qm (F0 m 63 ls [])) (by
        intro g_63 hw ls H locs hl G
        obtain ⟨a5_63, ea5_63⟩ : ∃ y : Int32, y = b5_27 + 1 := ⟨_, rfl⟩
        have hw := hw a5_63 ea5_63
        refine lv_iinc (v := a5_63) (lv' := [(5, .int a5_63), (0, .ref (ad 417)), (1, .ref (ad 3)), (3, .int a3)]) hx hb dX4_firstDayAt_63 hl (k := 3) rfl (by rw [ea5_63]; rfl) (by decide) rfl (fun ls hl => ?_)
        refine lv_goto (tgt := 27) hx hb dX4_firstDayAt_66 (by decide) ?_
        exact hw _ _ _ (lv_sub hl [1, 2, 3, 0] rfl) G)
      refine lv_icmp_eq (tgt := 63) hx hb dX4_firstDayAt_45 (by decide) (fun c_45 => ?_) (fun c_45 => ?_)
      · have hw := hw.1 c_45
        exact hw _ _ _ (lv_sub hl [1, 2, 3, 4] rfl) G
      · have hw := hw.2 c_45
        refine lv_aload_n hx hb dX4_firstDayAt_48 rfl (lv_at hl 1 rfl) ?_
        refine x_get (C := RX4) (T := TX4) (n := 2) S G inX4 (xe_5 kx_417) rfl 1 (by decide) kf_X4_15 rfl dX4_firstDayAt_49 ?_
        refine lv_iload hx hb dX4_firstDayAt_52 (lv_at hl 0 rfl) ?_
        refine lv_iconst (v := 1) hx hb dX4_firstDayAt_54 (by decide) ?_
        obtain ⟨i_55, hw⟩ := hw
        refine x_iast (k := r_37.toNatClampNeg) S G (xe_20 kx_419 lx_419) i_55 rfl (xs_20 kx_419 lx_419) dX4_firstDayAt_55 (fun H locs G => ?_)
        obtain ⟨h_55, eh_55⟩ : ∃ y : Hs, y = si g_27 419 r_37.toNatClampNeg 1 := ⟨_, rfl⟩
        rw [← eh_55] at G
        have hw := hw h_55 eh_55
        refine lv_aload_n hx hb dX4_firstDayAt_56 rfl (lv_at hl 1 rfl) ?_
        refine lv_aload_n hx hb dX4_firstDayAt_57 rfl (lv_at hl 2 rfl) ?_
        refine lv_iload hx hb dX4_firstDayAt_58 (lv_at hl 0 rfl) ?_
        refine x_Vv S hl.1 G (c_Ship_sailOnFrom l D q A ad r_37 h_55 _ hw) (cw_X4_34 S.2.2.2.2 ⟨Nat.le_trans (Nat.le_of_ble_eq_true rfl) hR1, Nat.le_trans (Nat.le_of_ble_eq_true rfl) hR2⟩) (xe_5 kx_417) rfl rfl rfl (Nat.le_of_ble_eq_true rfl) dX4_firstDayAt_60 (fun h_60 H locs G hw => ?_)
        exact hw _ _ _ (lv_sub hl [1, 2, 3, 4] rfl) G)
  exact hw _ _ _ (lv_sub hl [1, 2, 4, 0] rfl) G
theorem cw_X9_240 {R : Room} {s : State} {args : Array Value} (hts : ∀ w ∈ gW, w.before args s = true) (hR : rm_Ship_firstDayAt.frames + 1 ≤ R.frames ∧ 8 + (7 + 11) + rm_Ship_firstDayAt.locals ≤ R.locals) : CallW R s args RX9 RX4 240 yX4_firstDayAt cX4_firstDayAt 7 (some .int) (mw yX4_firstDayAt cX4_firstDayAt 7 (some .int)) rm_Ship_firstDayAt 0 0 4 := cwV9 hts km_X9_240 ki_X4_firstDayAt ks_X4_firstDayAt kn_X4 kk_X4_firstDayAt rfl rfl (by decide +kernel) hR
abbrev rm_State_copyRow : Room := { frames := 1, cells := 0, slots := 0, locals := 26 }
set_option maxHeartbeats 4000000 in
set_option maxRecDepth 100000 in
theorem c_State_copyRow (l : Launch) (D : va_G) (q : Nat → ClassId) (A : Nat → Prop) (ad : Nat → Nat) (a0 : Nat) (a1 : Nat) (k0 : kX a0 = 20) (k1 : kX a1 = 20) (h : Hs) (Q : Hs → Prop) (hw : p_State_copyRow a0 a1 h Q) : Met l yX5_copyRow (mw yX5_copyRow cX5_copyRow 2 none) rm_State_copyRow (va_Pc [.ref (ad a0), .ref (ad a1)] (pW D q A (wX q ad h))) (va_Qv Q (fun h t => pW D q A (wX q ad h) t) A) 0 0 A := by
  refine met_v (Qp := Q) (by decide) (Nat.le_of_ble_eq_true rfl) ?_
  intro p e R s m args below meth c Qm ls hR1 hR2 S RT hl G
  have hx := S.1
  have hb := S.2.1
  have hl : lv_has ls 2 [(0, .ref (ad a0)), (1, .ref (ad a1))] := hl
  unfold p_State_copyRow at hw
  refine lv_aload_n hx hb dX5_copyRow_0 rfl (lv_at hl 0 rfl) ?_
  refine lv_iconst (v := 0) hx hb dX5_copyRow_1 (by decide) ?_
  refine lv_aload_n hx hb dX5_copyRow_2 rfl (lv_at hl 1 rfl) ?_
  refine lv_iconst (v := 0) hx hb dX5_copyRow_3 (by decide) ?_
  refine lv_aload_n hx hb dX5_copyRow_4 rfl (lv_at hl 0 rfl) ?_
  refine x_alen (v := nI (lX a0)) S G 0 (xe_20 k0 rfl) rfl rfl dX5_copyRow_5 ?_
  refine lv_aload_n hx hb dX5_copyRow_6 rfl (lv_at hl 1 rfl) ?_
  refine x_alen (v := nI (lX a1)) S G 0 (xe_20 k1 rfl) rfl rfl dX5_copyRow_7 ?_
  refine va_mmin hx hb (S.2.2.1.trans hl.1.symm) S.2.2.2.1 (S.2.2.2.2 _ km_X5_80) (S.2.2.2.2 _ kt_J9_min_7cf53) (S.2.2.2.2 _ kn_J9) (S.2.2.2.2 _ kk_J9_min_7cf53) (Nat.le_trans (Nat.le_of_ble_eq_true rfl) hR1) (Nat.le_trans (Nat.le_of_ble_eq_true rfl) hR2) (Nat.zero_le _) (Nat.zero_le _) dX5_copyRow_8 ?_
  obtain ⟨y1_11, y2_11, y3_11, hw⟩ := hw
  refine x_copy S hl.1 G km_X5_86 kv_copy kt_J10_arraycopy kn_J10 (xe_20 k0 rfl) (xe_20 k1 rfl) (by decide) (by decide) y1_11 (by rw [z0c, Nat.zero_add]; exact y2_11) (by rw [z0c, Nat.zero_add]; exact y3_11) (xt_20 k1 rfl) (Nat.le_trans (Nat.le_of_ble_eq_true rfl) hR1) (Nat.le_trans (Nat.le_of_ble_eq_true rfl) hR2) dX5_copyRow_11 (fun H locs G => ?_)
  obtain ⟨h_11, eh_11⟩ : ∃ y : Hs, y = sa h a1 (va_cpy (gi h a0) (gi h a1) (0 : Int32).toNatClampNeg (0 : Int32).toNatClampNeg (if (nI (lX a1)) < (nI (lX a0)) then (nI (lX a1)) else (nI (lX a0))).toNatClampNeg) := ⟨_, rfl⟩
  rw [← eh_11] at G
  have hw := hw h_11 eh_11
  exact RT _ _ _ _ _ G hw dX5_copyRow_14
theorem cw_X5_72 {R : Room} {s : State} {args : Array Value} (hts : ∀ w ∈ gW, w.before args s = true) (hR : rm_State_copyRow.frames + 1 ≤ R.frames ∧ 8 + (2 + 11) + rm_State_copyRow.locals ≤ R.locals) : CallB R s args RX5 72 yX5_copyRow cX5_copyRow 2 none (mw yX5_copyRow cX5_copyRow 2 none) rm_State_copyRow 0 0 2 ∧ (Cond.static yX5_copyRow).before args s = true := cwS9 hts km_X5_72 kt_X5_copyRow kn_X5 kk_X5_copyRow rfl rfl (by decide +kernel) hR
abbrev rm_State_copyRows : Room := { frames := 2, cells := 0, slots := 0, locals := 47 }
set_option maxHeartbeats 4000000 in
set_option maxRecDepth 100000 in
theorem c_State_copyRows (l : Launch) (D : va_G) (q : Nat → ClassId) (A : Nat → Prop) (ad : Nat → Nat) (a0 : Nat) (a1 : Nat) (k0 : kX a0 = 22) (k1 : kX a1 = 22) (h : Hs) (Q : Hs → Prop) (hw : p_State_copyRows a0 a1 h Q) : Met l yX5_copyRows (mw yX5_copyRows cX5_copyRows 3 none) rm_State_copyRows (va_Pc [.ref (ad a0), .ref (ad a1)] (pW D q A (wX q ad h))) (va_Qv Q (fun h t => pW D q A (wX q ad h) t) A) 0 0 A := by
  refine met_v (Qp := Q) (by decide) (Nat.le_of_ble_eq_true rfl) ?_
  intro p e R s m args below meth c Qm ls hR1 hR2 S RT hl G
  have hx := S.1
  have hb := S.2.1
  have hl : lv_has ls 3 [(0, .ref (ad a0)), (1, .ref (ad a1))] := hl
  unfold p_State_copyRows at hw
  refine lv_iconst (v := 0) hx hb dX5_copyRows_0 (by decide) ?_
  refine lv_istore_n (lv' := [(2, .int 0), (0, .ref (ad a0)), (1, .ref (ad a1))]) hx hb dX5_copyRows_1 rfl hl (by decide) rfl (fun ls hl => ?_)
  have hw := hw (fun (b2_2 : Int32) (g_2 : Hs) => ∀ (ls : Array Slot) (H : Heap) (locs : List Loc), lv_has ls 3 [(0, .ref (ad a0)), (1, .ref (ad a1)), (2, .int b2_2)] → okW D q A s (wX q ad g_2) H locs → W p l e R s m args below meth c H locs 0 0 Qm (F0 m 2 ls [])) (by
    intro b2_2 g_2 hw ls H locs hl G
    refine lv_iload_n hx hb dX5_copyRows_2 rfl (lv_at hl 2 rfl) ?_
    refine lv_aload_n hx hb dX5_copyRows_3 rfl (lv_at hl 0 rfl) ?_
    refine x_alen (v := nI (lX a0)) S G 2 (xe_22 k0 rfl) rfl rfl dX5_copyRows_4 ?_
    have hw := hw (∀ (ls : Array Slot) (H : Heap) (locs : List Loc), lv_has ls 3 [] → okW D q A s (wX q ad g_2) H locs → W p l e R s m args below meth c H locs 0 0 Qm (F0 m 29 ls [])) (by
      intro hw ls H locs hl G
      exact RT _ _ _ _ _ G hw dX5_copyRows_29)
    refine lv_icmp_ge (tgt := 29) hx hb dX5_copyRows_5 (by decide) (fun c_5 => ?_) (fun c_5 => ?_)
    · have hw := hw.1 c_5
      exact hw _ _ _ (lv_sub hl [] rfl) G
    · have hw := hw.2 c_5
      refine lv_iload_n hx hb dX5_copyRows_8 rfl (lv_at hl 2 rfl) ?_
      refine lv_aload_n hx hb dX5_copyRows_9 rfl (lv_at hl 1 rfl) ?_
      refine x_alen (v := nI (lX a1)) S G 2 (xe_22 k1 rfl) rfl rfl dX5_copyRows_10 ?_
      refine lv_icmp_ge (tgt := 29) hx hb dX5_copyRows_11 (by decide) (fun c_11 => ?_) (fun c_11 => ?_)
      · have hw := hw.1 c_11
        exact hw _ _ _ (lv_sub hl [] rfl) G
      · have hw := hw.2 c_11
        refine lv_aload_n hx hb dX5_copyRows_14 rfl (lv_at hl 0 rfl) ?_
        refine lv_iload_n hx hb dX5_copyRows_15 rfl (lv_at hl 2 rfl) ?_
        obtain ⟨i_16, hw⟩ := hw
        refine x_aald (k := b2_2.toNatClampNeg) S G 2 (xe_22 k0 rfl) rfl rfl i_16 rfl (if_pos (vpl i_16)) dX5_copyRows_16 ?_
        refine lv_aload_n hx hb dX5_copyRows_17 rfl (lv_at hl 1 rfl) ?_
        refine lv_iload_n hx hb dX5_copyRows_18 rfl (lv_at hl 2 rfl) ?_
        obtain ⟨i_19, hw⟩ := hw
        refine x_aald (k := b2_2.toNatClampNeg) S G 2 (xe_22 k1 rfl) rfl rfl i_19 rfl (if_pos (vpl i_19)) dX5_copyRows_19 ?_
        refine x_Sv S hl.1 G (c_State_copyRow l D q A ad (a0 + 1 + 1 * b2_2.toNatClampNeg) (a1 + 1 + 1 * b2_2.toNatClampNeg) (kxe22 _ (kX_lt k0) k0 _ (vpl i_16)) (kxe22 _ (kX_lt k1) k1 _ (vpl i_19)) g_2 _ hw) (cw_X5_72 S.2.2.2.2 ⟨Nat.le_trans (Nat.le_of_ble_eq_true rfl) hR1, Nat.le_trans (Nat.le_of_ble_eq_true rfl) hR2⟩) rfl rfl (Nat.le_of_ble_eq_true rfl) dX5_copyRows_20 (fun h_20 H locs G hw => ?_)
        obtain ⟨a2_23, ea2_23⟩ : ∃ y : Int32, y = b2_2 + 1 := ⟨_, rfl⟩
        have hw := hw a2_23 ea2_23
        refine lv_iinc (v := a2_23) (lv' := [(2, .int a2_23), (0, .ref (ad a0)), (1, .ref (ad a1))]) hx hb dX5_copyRows_23 hl (k := 2) rfl (by rw [ea2_23]; rfl) (by decide) rfl (fun ls hl => ?_)
        refine lv_goto (tgt := 2) hx hb dX5_copyRows_26 (by decide) ?_
        exact hw _ _ _ (lv_sub hl [1, 2, 0] rfl) G)
  exact hw _ _ _ (lv_sub hl [1, 2, 0] rfl) G
theorem cw_X5_76 {R : Room} {s : State} {args : Array Value} (hts : ∀ w ∈ gW, w.before args s = true) (hR : rm_State_copyRows.frames + 1 ≤ R.frames ∧ 8 + (3 + 11) + rm_State_copyRows.locals ≤ R.locals) : CallB R s args RX5 76 yX5_copyRows cX5_copyRows 3 none (mw yX5_copyRows cX5_copyRows 3 none) rm_State_copyRows 0 0 2 ∧ (Cond.static yX5_copyRows).before args s = true := cwS9 hts km_X5_76 kt_X5_copyRows kn_X5 kk_X5_copyRows rfl rfl (by decide +kernel) hR
abbrev rm_State_copy : Room := { frames := 3, cells := 0, slots := 0, locals := 69 }
set_option maxHeartbeats 4000000 in
set_option maxRecDepth 100000 in
theorem c_State_copy (l : Launch) (D : va_G) (q : Nat → ClassId) (A : Nat → Prop) (ad : Nat → Nat) (a0 : Nat) (a1 : Nat) (k0 : kX a0 = 6) (k1 : kX a1 = 6) (h : Hs) (Q : Hs → Prop) (hw : p_State_copy a0 a1 h Q) : Met l yX5_copy (mw yX5_copy cX5_copy 2 none) rm_State_copy (va_Pc [.ref (ad a0), .ref (ad a1)] (pW D q A (wX q ad h))) (va_Qv Q (fun h t => pW D q A (wX q ad h) t) A) 0 0 A := by
  refine met_v (Qp := Q) (by decide) (Nat.le_of_ble_eq_true rfl) ?_
  intro p e R s m args below meth c Qm ls hR1 hR2 S RT hl G
  have hx := S.1
  have hb := S.2.1
  have hl : lv_has ls 2 [(0, .ref (ad a0)), (1, .ref (ad a1))] := hl
  unfold p_State_copy at hw
  refine lv_aload_n hx hb dX5_copy_0 rfl (lv_at hl 0 rfl) ?_
  refine lv_aload_n hx hb dX5_copy_1 rfl (lv_at hl 1 rfl) ?_
  refine x_get (C := RX5) (T := TX5) (n := 17) S G inX5 (xe_6 k1) rfl 0 (by decide) kf_X5_59 rfl dX5_copy_2 ?_
  refine x_put (C := RX5) (T := TX5) (n := 17) S G inX5 tyX5 tyX5_ok nmX5 (xe_6 k0) rfl 0 (by decide) kf_X5_59 rfl rfl rfl (Nat.le_of_ble_eq_true rfl) (xp_6_0 k0) dX5_copy_5 (fun H locs G => ?_)
  obtain ⟨h_5, eh_5⟩ : ∃ y : Hs, y = si h a0 0 (gi h a1 0) := ⟨_, rfl⟩
  rw [← eh_5] at G
  have hw := hw h_5 eh_5
  refine lv_aload_n hx hb dX5_copy_8 rfl (lv_at hl 0 rfl) ?_
  refine lv_aload_n hx hb dX5_copy_9 rfl (lv_at hl 1 rfl) ?_
  refine x_get (C := RX5) (T := TX5) (n := 17) S G inX5 (xe_6 k1) rfl 1 (by decide) kf_X5_63 rfl dX5_copy_10 ?_
  refine x_put (C := RX5) (T := TX5) (n := 17) S G inX5 tyX5 tyX5_ok nmX5 (xe_6 k0) rfl 1 (by decide) kf_X5_63 rfl rfl rfl (Nat.le_of_ble_eq_true rfl) (xp_6_1 k0) dX5_copy_13 (fun H locs G => ?_)
  obtain ⟨h_13, eh_13⟩ : ∃ y : Hs, y = si h_5 a0 1 (gi h_5 a1 1) := ⟨_, rfl⟩
  rw [← eh_13] at G
  have hw := hw h_13 eh_13
  refine lv_aload_n hx hb dX5_copy_16 rfl (lv_at hl 0 rfl) ?_
  refine lv_aload_n hx hb dX5_copy_17 rfl (lv_at hl 1 rfl) ?_
  refine x_get (C := RX5) (T := TX5) (n := 17) S G inX5 (xe_6 k1) rfl 2 (by decide) kf_X5_66 rfl dX5_copy_18 ?_
  refine x_put (C := RX5) (T := TX5) (n := 17) S G inX5 tyX5 tyX5_ok nmX5 (xe_6 k0) rfl 2 (by decide) kf_X5_66 rfl rfl rfl (Nat.le_of_ble_eq_true rfl) (xp_6_2 k0) dX5_copy_21 (fun H locs G => ?_)
  obtain ⟨h_21, eh_21⟩ : ∃ y : Hs, y = si h_13 a0 2 (gi h_13 a1 2) := ⟨_, rfl⟩
  rw [← eh_21] at G
  have hw := hw h_21 eh_21
  refine lv_aload_n hx hb dX5_copy_24 rfl (lv_at hl 0 rfl) ?_
  refine lv_aload_n hx hb dX5_copy_25 rfl (lv_at hl 1 rfl) ?_
  refine x_get (C := RX5) (T := TX5) (n := 17) S G inX5 (xe_6 k1) rfl 3 (by decide) kf_X5_69 rfl dX5_copy_26 ?_
  refine x_put (C := RX5) (T := TX5) (n := 17) S G inX5 tyX5 tyX5_ok nmX5 (xe_6 k0) rfl 3 (by decide) kf_X5_69 rfl rfl rfl (Nat.le_of_ble_eq_true rfl) (xp_6_3 k0) dX5_copy_29 (fun H locs G => ?_)
  obtain ⟨h_29, eh_29⟩ : ∃ y : Hs, y = si h_21 a0 3 (gi h_21 a1 3) := ⟨_, rfl⟩
  rw [← eh_29] at G
  have hw := hw h_29 eh_29
  refine lv_aload_n hx hb dX5_copy_32 rfl (lv_at hl 1 rfl) ?_
  refine x_get (C := RX5) (T := TX5) (n := 17) S G inX5 (xe_6 k1) rfl 4 (by decide) kf_X5_9 rfl dX5_copy_33 ?_
  refine lv_aload_n hx hb dX5_copy_36 rfl (lv_at hl 0 rfl) ?_
  refine x_get (C := RX5) (T := TX5) (n := 17) S G inX5 (xe_6 k0) rfl 4 (by decide) kf_X5_9 rfl dX5_copy_37 ?_
  refine x_Sv S hl.1 G (c_State_copyRow l D q A ad (a1 + 1) (a0 + 1) ((kxr_6_1 _ (kX_lt k1) k1).1) ((kxr_6_1 _ (kX_lt k0) k0).1) h_29 _ hw) (cw_X5_72 S.2.2.2.2 ⟨Nat.le_trans (Nat.le_of_ble_eq_true rfl) hR1, Nat.le_trans (Nat.le_of_ble_eq_true rfl) hR2⟩) rfl rfl (Nat.le_of_ble_eq_true rfl) dX5_copy_40 (fun h_40 H locs G hw => ?_)
  refine lv_aload_n hx hb dX5_copy_43 rfl (lv_at hl 1 rfl) ?_
  refine x_get (C := RX5) (T := TX5) (n := 17) S G inX5 (xe_6 k1) rfl 5 (by decide) kf_X5_15 rfl dX5_copy_44 ?_
  refine lv_aload_n hx hb dX5_copy_47 rfl (lv_at hl 0 rfl) ?_
  refine x_get (C := RX5) (T := TX5) (n := 17) S G inX5 (xe_6 k0) rfl 5 (by decide) kf_X5_15 rfl dX5_copy_48 ?_
  refine x_Sv S hl.1 G (c_State_copyRow l D q A ad (a1 + 2) (a0 + 2) ((kxr_6_2 _ (kX_lt k1) k1).1) ((kxr_6_2 _ (kX_lt k0) k0).1) h_40 _ hw) (cw_X5_72 S.2.2.2.2 ⟨Nat.le_trans (Nat.le_of_ble_eq_true rfl) hR1, Nat.le_trans (Nat.le_of_ble_eq_true rfl) hR2⟩) rfl rfl (Nat.le_of_ble_eq_true rfl) dX5_copy_51 (fun h_51 H locs G hw => ?_)
  refine lv_aload_n hx hb dX5_copy_54 rfl (lv_at hl 1 rfl) ?_
  refine x_get (C := RX5) (T := TX5) (n := 17) S G inX5 (xe_6 k1) rfl 6 (by decide) kf_X5_18 rfl dX5_copy_55 ?_
  refine lv_aload_n hx hb dX5_copy_58 rfl (lv_at hl 0 rfl) ?_
  refine x_get (C := RX5) (T := TX5) (n := 17) S G inX5 (xe_6 k0) rfl 6 (by decide) kf_X5_18 rfl dX5_copy_59 ?_
  refine x_Sv S hl.1 G (c_State_copyRow l D q A ad (a1 + 3) (a0 + 3) ((kxr_6_3 _ (kX_lt k1) k1).1) ((kxr_6_3 _ (kX_lt k0) k0).1) h_51 _ hw) (cw_X5_72 S.2.2.2.2 ⟨Nat.le_trans (Nat.le_of_ble_eq_true rfl) hR1, Nat.le_trans (Nat.le_of_ble_eq_true rfl) hR2⟩) rfl rfl (Nat.le_of_ble_eq_true rfl) dX5_copy_62 (fun h_62 H locs G hw => ?_)
  refine lv_aload_n hx hb dX5_copy_65 rfl (lv_at hl 1 rfl) ?_
  refine x_get (C := RX5) (T := TX5) (n := 17) S G inX5 (xe_6 k1) rfl 7 (by decide) kf_X5_21 rfl dX5_copy_66 ?_
  refine lv_aload_n hx hb dX5_copy_69 rfl (lv_at hl 0 rfl) ?_
  refine x_get (C := RX5) (T := TX5) (n := 17) S G inX5 (xe_6 k0) rfl 7 (by decide) kf_X5_21 rfl dX5_copy_70 ?_
  refine x_Sv S hl.1 G (c_State_copyRow l D q A ad (a1 + 4) (a0 + 4) ((kxr_6_4 _ (kX_lt k1) k1).1) ((kxr_6_4 _ (kX_lt k0) k0).1) h_62 _ hw) (cw_X5_72 S.2.2.2.2 ⟨Nat.le_trans (Nat.le_of_ble_eq_true rfl) hR1, Nat.le_trans (Nat.le_of_ble_eq_true rfl) hR2⟩) rfl rfl (Nat.le_of_ble_eq_true rfl) dX5_copy_73 (fun h_73 H locs G hw => ?_)
  refine lv_aload_n hx hb dX5_copy_76 rfl (lv_at hl 1 rfl) ?_
  refine x_get (C := RX5) (T := TX5) (n := 17) S G inX5 (xe_6 k1) rfl 8 (by decide) kf_X5_26 rfl dX5_copy_77 ?_
  refine lv_aload_n hx hb dX5_copy_80 rfl (lv_at hl 0 rfl) ?_
  refine x_get (C := RX5) (T := TX5) (n := 17) S G inX5 (xe_6 k0) rfl 8 (by decide) kf_X5_26 rfl dX5_copy_81 ?_
  refine x_Sv S hl.1 G (c_State_copyRows l D q A ad (a1 + 5) (a0 + 5) ((kxr_6_5 _ (kX_lt k1) k1).1) ((kxr_6_5 _ (kX_lt k0) k0).1) h_73 _ hw) (cw_X5_76 S.2.2.2.2 ⟨Nat.le_trans (Nat.le_of_ble_eq_true rfl) hR1, Nat.le_trans (Nat.le_of_ble_eq_true rfl) hR2⟩) rfl rfl (Nat.le_of_ble_eq_true rfl) dX5_copy_84 (fun h_84 H locs G hw => ?_)
  refine lv_aload_n hx hb dX5_copy_87 rfl (lv_at hl 1 rfl) ?_
  refine x_get (C := RX5) (T := TX5) (n := 17) S G inX5 (xe_6 k1) rfl 9 (by decide) kf_X5_29 rfl dX5_copy_88 ?_
  refine lv_aload_n hx hb dX5_copy_91 rfl (lv_at hl 0 rfl) ?_
  refine x_get (C := RX5) (T := TX5) (n := 17) S G inX5 (xe_6 k0) rfl 9 (by decide) kf_X5_29 rfl dX5_copy_92 ?_
  refine x_Sv S hl.1 G (c_State_copyRow l D q A ad (a1 + 10) (a0 + 10) ((kxr_6_10 _ (kX_lt k1) k1).1) ((kxr_6_10 _ (kX_lt k0) k0).1) h_84 _ hw) (cw_X5_72 S.2.2.2.2 ⟨Nat.le_trans (Nat.le_of_ble_eq_true rfl) hR1, Nat.le_trans (Nat.le_of_ble_eq_true rfl) hR2⟩) rfl rfl (Nat.le_of_ble_eq_true rfl) dX5_copy_95 (fun h_95 H locs G hw => ?_)
  refine lv_aload_n hx hb dX5_copy_98 rfl (lv_at hl 1 rfl) ?_
  refine x_get (C := RX5) (T := TX5) (n := 17) S G inX5 (xe_6 k1) rfl 10 (by decide) kf_X5_32 rfl dX5_copy_99 ?_
  refine lv_aload_n hx hb dX5_copy_102 rfl (lv_at hl 0 rfl) ?_
  refine x_get (C := RX5) (T := TX5) (n := 17) S G inX5 (xe_6 k0) rfl 10 (by decide) kf_X5_32 rfl dX5_copy_103 ?_
  refine x_Sv S hl.1 G (c_State_copyRow l D q A ad (a1 + 11) (a0 + 11) ((kxr_6_11 _ (kX_lt k1) k1).1) ((kxr_6_11 _ (kX_lt k0) k0).1) h_95 _ hw) (cw_X5_72 S.2.2.2.2 ⟨Nat.le_trans (Nat.le_of_ble_eq_true rfl) hR1, Nat.le_trans (Nat.le_of_ble_eq_true rfl) hR2⟩) rfl rfl (Nat.le_of_ble_eq_true rfl) dX5_copy_106 (fun h_106 H locs G hw => ?_)
  refine lv_aload_n hx hb dX5_copy_109 rfl (lv_at hl 1 rfl) ?_
  refine x_get (C := RX5) (T := TX5) (n := 17) S G inX5 (xe_6 k1) rfl 11 (by decide) kf_X5_35 rfl dX5_copy_110 ?_
  refine lv_aload_n hx hb dX5_copy_113 rfl (lv_at hl 0 rfl) ?_
  refine x_get (C := RX5) (T := TX5) (n := 17) S G inX5 (xe_6 k0) rfl 11 (by decide) kf_X5_35 rfl dX5_copy_114 ?_
  refine x_Sv S hl.1 G (c_State_copyRows l D q A ad (a1 + 12) (a0 + 12) ((kxr_6_12 _ (kX_lt k1) k1).1) ((kxr_6_12 _ (kX_lt k0) k0).1) h_106 _ hw) (cw_X5_76 S.2.2.2.2 ⟨Nat.le_trans (Nat.le_of_ble_eq_true rfl) hR1, Nat.le_trans (Nat.le_of_ble_eq_true rfl) hR2⟩) rfl rfl (Nat.le_of_ble_eq_true rfl) dX5_copy_117 (fun h_117 H locs G hw => ?_)
  refine lv_aload_n hx hb dX5_copy_120 rfl (lv_at hl 1 rfl) ?_
  refine x_get (C := RX5) (T := TX5) (n := 17) S G inX5 (xe_6 k1) rfl 12 (by decide) kf_X5_38 rfl dX5_copy_121 ?_
  refine lv_aload_n hx hb dX5_copy_124 rfl (lv_at hl 0 rfl) ?_
  refine x_get (C := RX5) (T := TX5) (n := 17) S G inX5 (xe_6 k0) rfl 12 (by decide) kf_X5_38 rfl dX5_copy_125 ?_
  refine x_Sv S hl.1 G (c_State_copyRows l D q A ad (a1 + 17) (a0 + 17) ((kxr_6_17 _ (kX_lt k1) k1).1) ((kxr_6_17 _ (kX_lt k0) k0).1) h_117 _ hw) (cw_X5_76 S.2.2.2.2 ⟨Nat.le_trans (Nat.le_of_ble_eq_true rfl) hR1, Nat.le_trans (Nat.le_of_ble_eq_true rfl) hR2⟩) rfl rfl (Nat.le_of_ble_eq_true rfl) dX5_copy_128 (fun h_128 H locs G hw => ?_)
  refine lv_aload_n hx hb dX5_copy_131 rfl (lv_at hl 1 rfl) ?_
  refine x_get (C := RX5) (T := TX5) (n := 17) S G inX5 (xe_6 k1) rfl 13 (by decide) kf_X5_41 rfl dX5_copy_132 ?_
  refine lv_aload_n hx hb dX5_copy_135 rfl (lv_at hl 0 rfl) ?_
  refine x_get (C := RX5) (T := TX5) (n := 17) S G inX5 (xe_6 k0) rfl 13 (by decide) kf_X5_41 rfl dX5_copy_136 ?_
  refine x_Sv S hl.1 G (c_State_copyRow l D q A ad (a1 + 24) (a0 + 24) ((kxr_6_24 _ (kX_lt k1) k1).1) ((kxr_6_24 _ (kX_lt k0) k0).1) h_128 _ hw) (cw_X5_72 S.2.2.2.2 ⟨Nat.le_trans (Nat.le_of_ble_eq_true rfl) hR1, Nat.le_trans (Nat.le_of_ble_eq_true rfl) hR2⟩) rfl rfl (Nat.le_of_ble_eq_true rfl) dX5_copy_139 (fun h_139 H locs G hw => ?_)
  refine lv_aload_n hx hb dX5_copy_142 rfl (lv_at hl 1 rfl) ?_
  refine x_get (C := RX5) (T := TX5) (n := 17) S G inX5 (xe_6 k1) rfl 14 (by decide) kf_X5_44 rfl dX5_copy_143 ?_
  refine lv_aload_n hx hb dX5_copy_146 rfl (lv_at hl 0 rfl) ?_
  refine x_get (C := RX5) (T := TX5) (n := 17) S G inX5 (xe_6 k0) rfl 14 (by decide) kf_X5_44 rfl dX5_copy_147 ?_
  refine x_Sv S hl.1 G (c_State_copyRows l D q A ad (a1 + 25) (a0 + 25) ((kxr_6_25 _ (kX_lt k1) k1).1) ((kxr_6_25 _ (kX_lt k0) k0).1) h_139 _ hw) (cw_X5_76 S.2.2.2.2 ⟨Nat.le_trans (Nat.le_of_ble_eq_true rfl) hR1, Nat.le_trans (Nat.le_of_ble_eq_true rfl) hR2⟩) rfl rfl (Nat.le_of_ble_eq_true rfl) dX5_copy_150 (fun h_150 H locs G hw => ?_)
  refine lv_aload_n hx hb dX5_copy_153 rfl (lv_at hl 1 rfl) ?_
  refine x_get (C := RX5) (T := TX5) (n := 17) S G inX5 (xe_6 k1) rfl 15 (by decide) kf_X5_47 rfl dX5_copy_154 ?_
  refine lv_aload_n hx hb dX5_copy_157 rfl (lv_at hl 0 rfl) ?_
  refine x_get (C := RX5) (T := TX5) (n := 17) S G inX5 (xe_6 k0) rfl 15 (by decide) kf_X5_47 rfl dX5_copy_158 ?_
  refine x_Sv S hl.1 G (c_State_copyRows l D q A ad (a1 + 32) (a0 + 32) ((kxr_6_32 _ (kX_lt k1) k1).1) ((kxr_6_32 _ (kX_lt k0) k0).1) h_150 _ hw) (cw_X5_76 S.2.2.2.2 ⟨Nat.le_trans (Nat.le_of_ble_eq_true rfl) hR1, Nat.le_trans (Nat.le_of_ble_eq_true rfl) hR2⟩) rfl rfl (Nat.le_of_ble_eq_true rfl) dX5_copy_161 (fun h_161 H locs G hw => ?_)
  refine lv_aload_n hx hb dX5_copy_164 rfl (lv_at hl 1 rfl) ?_
  refine x_get (C := RX5) (T := TX5) (n := 17) S G inX5 (xe_6 k1) rfl 16 (by decide) kf_X5_50 rfl dX5_copy_165 ?_
  refine lv_aload_n hx hb dX5_copy_168 rfl (lv_at hl 0 rfl) ?_
  refine x_get (C := RX5) (T := TX5) (n := 17) S G inX5 (xe_6 k0) rfl 16 (by decide) kf_X5_50 rfl dX5_copy_169 ?_
  refine x_Sv S hl.1 G (c_State_copyRow l D q A ad (a1 + 39) (a0 + 39) ((kxr_6_39 _ (kX_lt k1) k1).1) ((kxr_6_39 _ (kX_lt k0) k0).1) h_161 _ hw) (cw_X5_72 S.2.2.2.2 ⟨Nat.le_trans (Nat.le_of_ble_eq_true rfl) hR1, Nat.le_trans (Nat.le_of_ble_eq_true rfl) hR2⟩) rfl rfl (Nat.le_of_ble_eq_true rfl) dX5_copy_172 (fun h_172 H locs G hw => ?_)
  exact RT _ _ _ _ _ G hw dX5_copy_175
theorem cw_X9_259 {R : Room} {s : State} {args : Array Value} (hts : ∀ w ∈ gW, w.before args s = true) (hR : rm_State_copy.frames + 1 ≤ R.frames ∧ 8 + (2 + 11) + rm_State_copy.locals ≤ R.locals) : CallW R s args RX9 RX5 259 yX5_copy cX5_copy 2 none (mw yX5_copy cX5_copy 2 none) rm_State_copy 0 0 1 := cwV9 hts km_X9_259 ki_X5_copy ks_X5_copy kn_X5 kk_X5_copy rfl rfl (by decide +kernel) hR
abbrev rm_State_hasSign : Room := { frames := 0, cells := 0, slots := 0, locals := 0 }
set_option maxHeartbeats 4000000 in
set_option maxRecDepth 100000 in
theorem c_State_hasSign (l : Launch) (D : va_G) (q : Nat → ClassId) (A : Nat → Prop) (ad : Nat → Nat) (a1 : Int32) (a2 : Int32) (h : Hs) (Q : Int32 → Prop) (hw : p_State_hasSign a1 a2 h Q) : Met l yX5_hasSign (mw yX5_hasSign cX5_hasSign 4 (some .boolean)) rm_State_hasSign (va_Pc [.ref (ad 3), .int a1, .int a2] (pW D q A (wX q ad h))) (va_Qi (fun r h9 => zb r ∧ h9 = h ∧ Q r) (fun h t => pW D q A (wX q ad h) t) A) 0 0 A := by
  refine met_z (Qp := (fun r h9 => h9 = h ∧ Q r)) (by decide) (Nat.le_of_ble_eq_true rfl) ?_
  intro p e R s m args below meth c Qm ls hR1 hR2 S RT hl G
  have hx := S.1
  have hb := S.2.1
  have hl : lv_has ls 4 [(0, .ref (ad 3)), (1, .int a1), (2, .int a2)] := hl
  unfold p_State_hasSign at hw
  refine lv_iconst (v := 0) hx hb dX5_hasSign_0 (by decide) ?_
  refine lv_istore_n (lv' := [(3, .int 0), (0, .ref (ad 3)), (1, .int a1), (2, .int a2)]) hx hb dX5_hasSign_1 rfl hl (by decide) rfl (fun ls hl => ?_)
  have hw := hw (fun (b3_2 : Int32) => ∀ (ls : Array Slot) (H : Heap) (locs : List Loc), lv_has ls 4 [(0, .ref (ad 3)), (1, .int a1), (2, .int a2), (3, .int b3_2)] → okW D q A s (wX q ad h) H locs → W p l e R s m args below meth c H locs 0 0 Qm (F0 m 2 ls [])) (by
    intro b3_2 hw ls H locs hl G
    refine lv_iload_n hx hb dX5_hasSign_2 rfl (lv_at hl 3 rfl) ?_
    refine lv_aload_n hx hb dX5_hasSign_3 rfl (lv_at hl 0 rfl) ?_
    refine x_get (C := RX5) (T := TX5) (n := 17) S G inX5 (xe_6 kx_3) rfl 2 (by decide) kf_X5_66 rfl dX5_hasSign_4 ?_
    refine lv_icmp_ge (tgt := 42) hx hb dX5_hasSign_7 (by decide) (fun c_7 => ?_) (fun c_7 => ?_)
    · have hw := hw.1 c_7
      refine lv_iconst (v := 0) hx hb dX5_hasSign_42 (by decide) ?_
      exact RT _ _ _ _ _ _ G zb0 ⟨rfl, hw⟩ dX5_hasSign_43
    · have hw := hw.2 c_7
      refine lv_aload_n hx hb dX5_hasSign_10 rfl (lv_at hl 0 rfl) ?_
      refine x_get (C := RX5) (T := TX5) (n := 17) S G inX5 (xe_6 kx_3) rfl 12 (by decide) kf_X5_38 rfl dX5_hasSign_11 ?_
      refine lv_iload_n hx hb dX5_hasSign_14 rfl (lv_at hl 3 rfl) ?_
      obtain ⟨i_15, hw⟩ := hw
      refine x_aald (k := b3_2.toNatClampNeg) S G 2 (xe_22 kx_20 lx_20) rfl rfl i_15 rfl (if_pos (vpl i_15)) dX5_hasSign_15 ?_
      refine lv_iconst (v := 0) hx hb dX5_hasSign_16 (by decide) ?_
      refine x_iald (k := 0) S G (xe_20 (kxe_20 _ (vpl i_15)) (lxe_20 _ (vpl i_15))) (vpi (by decide)) rfl rfl dX5_hasSign_17 ?_
      refine lv_iload_n hx hb dX5_hasSign_18 rfl (lv_at hl 1 rfl) ?_
      have hw := hw (∀ (ls : Array Slot) (H : Heap) (locs : List Loc), lv_has ls 4 [(0, .ref (ad 3)), (1, .int a1), (2, .int a2), (3, .int b3_2)] → okW D q A s (wX q ad h) H locs → W p l e R s m args below meth c H locs 0 0 Qm (F0 m 36 ls [])) (by
        intro hw ls H locs hl G
        obtain ⟨a3_36, ea3_36⟩ : ∃ y : Int32, y = b3_2 + 1 := ⟨_, rfl⟩
        have hw := hw a3_36 ea3_36
        refine lv_iinc (v := a3_36) (lv' := [(3, .int a3_36), (0, .ref (ad 3)), (1, .int a1), (2, .int a2)]) hx hb dX5_hasSign_36 hl (k := 3) rfl (by rw [ea3_36]; rfl) (by decide) rfl (fun ls hl => ?_)
        refine lv_goto (tgt := 2) hx hb dX5_hasSign_39 (by decide) ?_
        exact hw _ _ _ (lv_sub hl [1, 2, 3, 0] rfl) G)
      refine lv_icmp_ne (tgt := 36) hx hb dX5_hasSign_19 (by decide) (fun c_19 => ?_) (fun c_19 => ?_)
      · have hw := hw.1 c_19
        exact hw _ _ _ (lv_sub hl [0, 1, 2, 3] rfl) G
      · have hw := hw.2 c_19
        refine lv_aload_n hx hb dX5_hasSign_22 rfl (lv_at hl 0 rfl) ?_
        refine x_get (C := RX5) (T := TX5) (n := 17) S G inX5 (xe_6 kx_3) rfl 12 (by decide) kf_X5_38 rfl dX5_hasSign_23 ?_
        refine lv_iload_n hx hb dX5_hasSign_26 rfl (lv_at hl 3 rfl) ?_
        obtain ⟨i_27, hw⟩ := hw
        refine x_aald (k := b3_2.toNatClampNeg) S G 2 (xe_22 kx_20 lx_20) rfl rfl i_27 rfl (if_pos (vpl i_27)) dX5_hasSign_27 ?_
        refine lv_iconst (v := 1) hx hb dX5_hasSign_28 (by decide) ?_
        refine x_iald (k := 1) S G (xe_20 (kxe_20 _ (vpl i_27)) (lxe_20 _ (vpl i_27))) (vpi (by decide)) rfl rfl dX5_hasSign_29 ?_
        refine lv_iload_n hx hb dX5_hasSign_30 rfl (lv_at hl 2 rfl) ?_
        refine lv_icmp_ne (tgt := 36) hx hb dX5_hasSign_31 (by decide) (fun c_31 => ?_) (fun c_31 => ?_)
        · have hw := hw.1 c_31
          exact hw _ _ _ (lv_sub hl [0, 1, 2, 3] rfl) G
        · have hw := hw.2 c_31
          refine lv_iconst (v := 1) hx hb dX5_hasSign_34 (by decide) ?_
          exact RT _ _ _ _ _ _ G zb1 ⟨rfl, hw⟩ dX5_hasSign_35)
  exact hw _ _ _ (lv_sub hl [1, 2, 3, 0] rfl) G
theorem cw_X8_194 {R : Room} {s : State} {args : Array Value} (hts : ∀ w ∈ gW, w.before args s = true) (hR : rm_State_hasSign.frames + 1 ≤ R.frames ∧ 8 + (4 + 11) + rm_State_hasSign.locals ≤ R.locals) : CallW R s args RX8 RX5 194 yX5_hasSign cX5_hasSign 4 (some .boolean) (mw yX5_hasSign cX5_hasSign 4 (some .boolean)) rm_State_hasSign 0 0 2 := cwV9 hts km_X8_194 ki_X5_hasSign ks_X5_hasSign kn_X5 kk_X5_hasSign rfl rfl (by decide +kernel) hR
theorem cw_X9_138 {R : Room} {s : State} {args : Array Value} (hts : ∀ w ∈ gW, w.before args s = true) (hR : rm_State_hasSign.frames + 1 ≤ R.frames ∧ 8 + (4 + 11) + rm_State_hasSign.locals ≤ R.locals) : CallW R s args RX9 RX5 138 yX5_hasSign cX5_hasSign 4 (some .boolean) (mw yX5_hasSign cX5_hasSign 4 (some .boolean)) rm_State_hasSign 0 0 2 := cwV9 hts km_X9_138 ki_X5_hasSign ks_X5_hasSign kn_X5 kk_X5_hasSign rfl rfl (by decide +kernel) hR
abbrev rm_State_isHeard : Room := { frames := 0, cells := 0, slots := 0, locals := 0 }
set_option maxHeartbeats 4000000 in
set_option maxRecDepth 100000 in
theorem c_State_isHeard (l : Launch) (D : va_G) (q : Nat → ClassId) (A : Nat → Prop) (ad : Nat → Nat) (a1 : Int32) (h : Hs) (Q : Int32 → Prop) (hw : p_State_isHeard a1 h Q) : Met l yX5_isHeard (mw yX5_isHeard cX5_isHeard 3 (some .boolean)) rm_State_isHeard (va_Pc [.ref (ad 3), .int a1] (pW D q A (wX q ad h))) (va_Qi (fun r h9 => zb r ∧ h9 = h ∧ Q r) (fun h t => pW D q A (wX q ad h) t) A) 0 0 A := by
  refine met_z (Qp := (fun r h9 => h9 = h ∧ Q r)) (by decide) (Nat.le_of_ble_eq_true rfl) ?_
  intro p e R s m args below meth c Qm ls hR1 hR2 S RT hl G
  have hx := S.1
  have hb := S.2.1
  have hl : lv_has ls 3 [(0, .ref (ad 3)), (1, .int a1)] := hl
  unfold p_State_isHeard at hw
  refine lv_iconst (v := 0) hx hb dX5_isHeard_0 (by decide) ?_
  refine lv_istore_n (lv' := [(2, .int 0), (0, .ref (ad 3)), (1, .int a1)]) hx hb dX5_isHeard_1 rfl hl (by decide) rfl (fun ls hl => ?_)
  have hw := hw (fun (b2_2 : Int32) => ∀ (ls : Array Slot) (H : Heap) (locs : List Loc), lv_has ls 3 [(0, .ref (ad 3)), (1, .int a1), (2, .int b2_2)] → okW D q A s (wX q ad h) H locs → W p l e R s m args below meth c H locs 0 0 Qm (F0 m 2 ls [])) (by
    intro b2_2 hw ls H locs hl G
    refine lv_iload_n hx hb dX5_isHeard_2 rfl (lv_at hl 2 rfl) ?_
    refine lv_iload_n hx hb dX5_isHeard_3 rfl (lv_at hl 1 rfl) ?_
    refine lv_icmp_ge (tgt := 34) hx hb dX5_isHeard_4 (by decide) (fun c_4 => ?_) (fun c_4 => ?_)
    · have hw := hw.1 c_4
      refine lv_iconst (v := 1) hx hb dX5_isHeard_34 (by decide) ?_
      exact RT _ _ _ _ _ _ G zb1 ⟨rfl, hw⟩ dX5_isHeard_35
    · have hw := hw.2 c_4
      refine lv_aload_n hx hb dX5_isHeard_7 rfl (lv_at hl 0 rfl) ?_
      refine x_get (C := RX5) (T := TX5) (n := 17) S G inX5 (xe_6 kx_3) rfl 14 (by decide) kf_X5_44 rfl dX5_isHeard_8 ?_
      refine lv_iload_n hx hb dX5_isHeard_11 rfl (lv_at hl 2 rfl) ?_
      obtain ⟨i_12, hw⟩ := hw
      refine x_aald (k := b2_2.toNatClampNeg) S G 2 (xe_22 kx_28 lx_28) rfl rfl i_12 rfl (if_pos (vpl i_12)) dX5_isHeard_12 ?_
      refine lv_iconst (v := 0) hx hb dX5_isHeard_13 (by decide) ?_
      refine x_iald (k := 0) S G (xe_20 (kxe_28 _ (vpl i_12)) (lxe_28 _ (vpl i_12))) (vpi (by decide)) rfl rfl dX5_isHeard_14 ?_
      refine lv_aload_n hx hb dX5_isHeard_15 rfl (lv_at hl 0 rfl) ?_
      refine x_get (C := RX5) (T := TX5) (n := 17) S G inX5 (xe_6 kx_3) rfl 14 (by decide) kf_X5_44 rfl dX5_isHeard_16 ?_
      refine lv_iload_n hx hb dX5_isHeard_19 rfl (lv_at hl 1 rfl) ?_
      obtain ⟨i_20, hw⟩ := hw
      refine x_aald (k := a1.toNatClampNeg) S G 2 (xe_22 kx_28 lx_28) rfl rfl i_20 rfl (if_pos (vpl i_20)) dX5_isHeard_20 ?_
      refine lv_iconst (v := 0) hx hb dX5_isHeard_21 (by decide) ?_
      refine x_iald (k := 0) S G (xe_20 (kxe_28 _ (vpl i_20)) (lxe_28 _ (vpl i_20))) (vpi (by decide)) rfl rfl dX5_isHeard_22 ?_
      refine lv_icmp_ne (tgt := 28) hx hb dX5_isHeard_23 (by decide) (fun c_23 => ?_) (fun c_23 => ?_)
      · have hw := hw.1 c_23
        obtain ⟨a2_28, ea2_28⟩ : ∃ y : Int32, y = b2_2 + 1 := ⟨_, rfl⟩
        have hw := hw a2_28 ea2_28
        refine lv_iinc (v := a2_28) (lv' := [(2, .int a2_28), (0, .ref (ad 3)), (1, .int a1)]) hx hb dX5_isHeard_28 hl (k := 2) rfl (by rw [ea2_28]; rfl) (by decide) rfl (fun ls hl => ?_)
        refine lv_goto (tgt := 2) hx hb dX5_isHeard_31 (by decide) ?_
        exact hw _ _ _ (lv_sub hl [1, 2, 0] rfl) G
      · have hw := hw.2 c_23
        refine lv_iconst (v := 0) hx hb dX5_isHeard_26 (by decide) ?_
        exact RT _ _ _ _ _ _ G zb0 ⟨rfl, hw⟩ dX5_isHeard_27)
  exact hw _ _ _ (lv_sub hl [1, 2, 0] rfl) G
theorem cw_X8_125 {R : Room} {s : State} {args : Array Value} (hts : ∀ w ∈ gW, w.before args s = true) (hR : rm_State_isHeard.frames + 1 ≤ R.frames ∧ 8 + (3 + 11) + rm_State_isHeard.locals ≤ R.locals) : CallW R s args RX8 RX5 125 yX5_isHeard cX5_isHeard 3 (some .boolean) (mw yX5_isHeard cX5_isHeard 3 (some .boolean)) rm_State_isHeard 0 0 1 := cwV9 hts km_X8_125 ki_X5_isHeard ks_X5_isHeard kn_X5 kk_X5_isHeard rfl rfl (by decide +kernel) hR
abbrev rm_State_countOf : Room := { frames := 0, cells := 0, slots := 0, locals := 0 }
set_option maxHeartbeats 4000000 in
set_option maxRecDepth 100000 in
theorem c_State_countOf (l : Launch) (D : va_G) (q : Nat → ClassId) (A : Nat → Prop) (ad : Nat → Nat) (a1 : Int32) (h : Hs) (Q : Int32 → Prop) (hw : p_State_countOf a1 h Q) : Met l yX5_countOf (mw yX5_countOf cX5_countOf 2 (some .int)) rm_State_countOf (va_Pc [.ref (ad 3), .int a1] (pW D q A (wX q ad h))) (va_Qi (fun r h9 => h9 = h ∧ Q r) (fun h t => pW D q A (wX q ad h) t) A) 0 0 A := by
  refine met_i (Qp := (fun r h9 => h9 = h ∧ Q r)) (by decide) (Nat.le_of_ble_eq_true rfl) ?_
  intro p e R s m args below meth c Qm ls hR1 hR2 S RT hl G
  have hx := S.1
  have hb := S.2.1
  have hl : lv_has ls 2 [(0, .ref (ad 3)), (1, .int a1)] := hl
  unfold p_State_countOf at hw
  refine lv_iload_n hx hb dX5_countOf_0 rfl (lv_at hl 1 rfl) ?_
  by_cases c_1_0 : a1 = 0
  · have hw := hw.1 c_1_0
    refine lv_tableIn (tgt := 32) hx hb dX5_countOf_1 (by rw [c_1_0]; decide) (by rw [c_1_0]; decide) (by rw [c_1_0]; rfl) (by decide) ?_
    refine lv_aload_n hx hb dX5_countOf_32 rfl (lv_at hl 0 rfl) ?_
    refine x_get (C := RX5) (T := TX5) (n := 17) S G inX5 (xe_6 kx_3) rfl 0 (by decide) kf_X5_59 rfl dX5_countOf_33 ?_
    exact RT _ _ _ _ _ _ G ⟨rfl, hw⟩ dX5_countOf_36
  have hw := hw.2
  by_cases c_1_1 : a1 = 1
  · have hw := hw.1 c_1_1
    refine lv_tableIn (tgt := 37) hx hb dX5_countOf_1 (by rw [c_1_1]; decide) (by rw [c_1_1]; decide) (by rw [c_1_1]; rfl) (by decide) ?_
    refine lv_aload_n hx hb dX5_countOf_37 rfl (lv_at hl 0 rfl) ?_
    refine x_get (C := RX5) (T := TX5) (n := 17) S G inX5 (xe_6 kx_3) rfl 1 (by decide) kf_X5_63 rfl dX5_countOf_38 ?_
    exact RT _ _ _ _ _ _ G ⟨rfl, hw⟩ dX5_countOf_41
  have hw := hw.2
  by_cases c_1_2 : a1 = 2
  · have hw := hw.1 c_1_2
    refine lv_tableIn (tgt := 42) hx hb dX5_countOf_1 (by rw [c_1_2]; decide) (by rw [c_1_2]; decide) (by rw [c_1_2]; rfl) (by decide) ?_
    refine lv_aload_n hx hb dX5_countOf_42 rfl (lv_at hl 0 rfl) ?_
    refine x_get (C := RX5) (T := TX5) (n := 17) S G inX5 (xe_6 kx_3) rfl 2 (by decide) kf_X5_66 rfl dX5_countOf_43 ?_
    exact RT _ _ _ _ _ _ G ⟨rfl, hw⟩ dX5_countOf_46
  have hw := hw.2
  by_cases c_1_3 : a1 = 3
  · have hw := hw.1 c_1_3
    refine lv_tableIn (tgt := 47) hx hb dX5_countOf_1 (by rw [c_1_3]; decide) (by rw [c_1_3]; decide) (by rw [c_1_3]; rfl) (by decide) ?_
    refine lv_aload_n hx hb dX5_countOf_47 rfl (lv_at hl 0 rfl) ?_
    refine x_get (C := RX5) (T := TX5) (n := 17) S G inX5 (xe_6 kx_3) rfl 3 (by decide) kf_X5_69 rfl dX5_countOf_48 ?_
    exact RT _ _ _ _ _ _ G ⟨rfl, hw⟩ dX5_countOf_51
  have hw := hw.2
  have hw := hw c_1_0 c_1_1 c_1_2 c_1_3
  have hsw : (a1).toInt < 0 ∨ 3 < (a1).toInt := by
    have := neTI (k := 0) (n := 0) (by decide) c_1_0; have := neTI (k := 1) (n := 1) (by decide) c_1_1; have := neTI (k := 2) (n := 2) (by decide) c_1_2; have := neTI (k := 3) (n := 3) (by decide) c_1_3; omega
  refine lv_tableOut (tgt := 52) hx hb dX5_countOf_1 hsw (by decide) ?_
  refine lv_iload_n hx hb dX5_countOf_52 rfl (lv_at hl 1 rfl) ?_
  refine lv_iconst (v := 4) hx hb dX5_countOf_53 (by decide) ?_
  have hw := hw (fun (t0_75 : Int32) => ∀ (ls : Array Slot) (H : Heap) (locs : List Loc), lv_has ls 2 [] → okW D q A s (wX q ad h) H locs → W p l e R s m args below meth c H locs 0 0 Qm (F0 m 75 ls [.int t0_75])) (by
    intro t0_75 hw ls H locs hl G
    exact RT _ _ _ _ _ _ G ⟨rfl, hw⟩ dX5_countOf_75)
  have hw := hw (∀ (ls : Array Slot) (H : Heap) (locs : List Loc), lv_has ls 2 [] → okW D q A s (wX q ad h) H locs → W p l e R s m args below meth c H locs 0 0 Qm (F0 m 74 ls [])) (by
    intro hw ls H locs hl G
    refine lv_iconst (v := 0) hx hb dX5_countOf_74 (by decide) ?_
    exact hw _ _ _ (lv_sub hl [] rfl) G)
  refine lv_icmp_lt (tgt := 74) hx hb dX5_countOf_54 (by decide) (fun c_54 => ?_) (fun c_54 => ?_)
  · have hw := hw.1 c_54
    exact hw _ _ _ (lv_sub hl [] rfl) G
  · have hw := hw.2 c_54
    refine lv_iload_n hx hb dX5_countOf_57 rfl (lv_at hl 1 rfl) ?_
    refine lv_bipush (v := 8) hx hb dX5_countOf_58 (by decide) ?_
    refine lv_icmp_ge (tgt := 74) hx hb dX5_countOf_60 (by decide) (fun c_60 => ?_) (fun c_60 => ?_)
    · have hw := hw.1 c_60
      exact hw _ _ _ (lv_sub hl [] rfl) G
    · have hw := hw.2 c_60
      refine lv_aload_n hx hb dX5_countOf_63 rfl (lv_at hl 0 rfl) ?_
      refine x_get (C := RX5) (T := TX5) (n := 17) S G inX5 (xe_6 kx_3) rfl 10 (by decide) kf_X5_32 rfl dX5_countOf_64 ?_
      refine lv_iload_n hx hb dX5_countOf_67 rfl (lv_at hl 1 rfl) ?_
      refine lv_iconst (v := 4) hx hb dX5_countOf_68 (by decide) ?_
      refine lv_isub hx hb dX5_countOf_69 ?_
      obtain ⟨i_70, hw⟩ := hw
      refine x_iald (k := (a1 - 4).toNatClampNeg) S G (xe_20 kx_14 lx_14) i_70 rfl rfl dX5_countOf_70 ?_
      refine lv_goto (tgt := 75) hx hb dX5_countOf_71 (by decide) ?_
      exact hw _ _ _ (lv_sub hl [] rfl) G
theorem cw_X5_94 {R : Room} {s : State} {args : Array Value} (hts : ∀ w ∈ gW, w.before args s = true) (hR : rm_State_countOf.frames + 1 ≤ R.frames ∧ 8 + (2 + 11) + rm_State_countOf.locals ≤ R.locals) : CallW R s args RX5 RX5 94 yX5_countOf cX5_countOf 2 (some .int) (mw yX5_countOf cX5_countOf 2 (some .int)) rm_State_countOf 0 0 1 := cwV9 hts km_X5_94 ki_X5_countOf ks_X5_countOf kn_X5 kk_X5_countOf rfl rfl (by decide +kernel) hR
theorem cw_X9_272 {R : Room} {s : State} {args : Array Value} (hts : ∀ w ∈ gW, w.before args s = true) (hR : rm_State_countOf.frames + 1 ≤ R.frames ∧ 8 + (2 + 11) + rm_State_countOf.locals ≤ R.locals) : CallW R s args RX9 RX5 272 yX5_countOf cX5_countOf 2 (some .int) (mw yX5_countOf cX5_countOf 2 (some .int)) rm_State_countOf 0 0 1 := cwV9 hts km_X9_272 ki_X5_countOf ks_X5_countOf kn_X5 kk_X5_countOf rfl rfl (by decide +kernel) hR
