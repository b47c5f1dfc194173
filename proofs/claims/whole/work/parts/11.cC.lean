abbrev rm_X_digestRow : Room := { frames := 0, cells := 0, slots := 0, locals := 0 }
set_option maxHeartbeats 4000000 in
set_option maxRecDepth 100000 in
theorem c_X_digestRow (l : Launch) (D : va_G) (q : Nat → ClassId) (A : Nat → Prop) (ad : Nat → Nat) (a0 : Int64) (a2 : Nat) (a3 : Int32) (k2 : kX a2 = 20) (h : Hs) (Q : Int64 → Prop) (hw : p_X_digestRow a0 a2 a3 h Q) : Met l yX9_digestRow (mw yX9_digestRow cX9_digestRow 7 (some .long)) rm_X_digestRow (va_Pc [.long a0, .ref (ad a2), .int a3] (pW D q A (wX q ad h))) (va_Ql (fun r h9 => h9 = h ∧ Q r) (fun h t => pW D q A (wX q ad h) t) A) 0 0 A := by
  refine met_l (Qp := (fun r h9 => h9 = h ∧ Q r)) (by decide) (Nat.le_of_ble_eq_true rfl) ?_
  intro p e R s m args below meth c Qm ls hR1 hR2 S RT hl G
  have hx := S.1
  have hb := S.2.1
  have hl : lv_has ls 7 [(0, .long a0), (2, .ref (ad a2)), (3, .int a3)] := hl
  unfold p_X_digestRow at hw
  refine lv_lload_n hx hb dX9_digestRow_0 rfl (lv_at hl 0 rfl) ?_
  refine lv_lstore (lv' := [(4, .long a0), (0, .long a0), (2, .ref (ad a2)), (3, .int a3)]) hx hb dX9_digestRow_1 hl (by decide) rfl (fun ls hl => ?_)
  refine lv_iconst (v := 0) hx hb dX9_digestRow_3 (by decide) ?_
  refine lv_istore (lv' := [(6, .int 0), (4, .long a0), (0, .long a0), (2, .ref (ad a2)), (3, .int a3)]) hx hb dX9_digestRow_4 hl (by decide) rfl (fun ls hl => ?_)
  have hw := hw (fun (b4_6 : Int64) (b6_6 : Int32) => ∀ (ls : Array Slot) (H : Heap) (locs : List Loc), lv_has ls 7 [(2, .ref (ad a2)), (3, .int a3), (4, .long b4_6), (6, .int b6_6)] → okW D q A s (wX q ad h) H locs → W p l e R s m args below meth c H locs 0 0 Qm (F0 m 6 ls [])) (by
    intro b4_6 b6_6 hw ls H locs hl G
    refine lv_iload hx hb dX9_digestRow_6 (lv_at hl 3 rfl) ?_
    refine lv_iload_n hx hb dX9_digestRow_8 rfl (lv_at hl 1 rfl) ?_
    have hw := hw (∀ (ls : Array Slot) (H : Heap) (locs : List Loc), lv_has ls 7 [(4, .long b4_6)] → okW D q A s (wX q ad h) H locs → W p l e R s m args below meth c H locs 0 0 Qm (F0 m 39 ls [])) (by
      intro hw ls H locs hl G
      refine lv_lload hx hb dX9_digestRow_39 (lv_at hl 0 rfl) ?_
      exact RT _ _ _ _ _ _ G ⟨rfl, hw⟩ dX9_digestRow_41)
    refine lv_icmp_ge (tgt := 39) hx hb dX9_digestRow_9 (by decide) (fun c_9 => ?_) (fun c_9 => ?_)
    · have hw := hw.1 c_9
      exact hw _ _ _ (lv_sub hl [2] rfl) G
    · have hw := hw.2 c_9
      refine lv_iload hx hb dX9_digestRow_12 (lv_at hl 3 rfl) ?_
      refine lv_aload_n hx hb dX9_digestRow_14 rfl (lv_at hl 0 rfl) ?_
      refine x_alen (v := nI (lX a2)) S G 0 (xe_20 k2 rfl) rfl rfl dX9_digestRow_15 ?_
      refine lv_icmp_ge (tgt := 39) hx hb dX9_digestRow_16 (by decide) (fun c_16 => ?_) (fun c_16 => ?_)
      · have hw := hw.1 c_16
        exact hw _ _ _ (lv_sub hl [2] rfl) G
      · have hw := hw.2 c_16
        refine lv_ldc2 (v := 31) hx hb S.2.2.2.1 (S.2.2.2.2 _ kl_X9_281) dX9_digestRow_19 ?_
        refine lv_lload hx hb dX9_digestRow_22 (lv_at hl 2 rfl) ?_
        refine lv_lmul hx hb dX9_digestRow_24 ?_
        refine lv_aload_n hx hb dX9_digestRow_25 rfl (lv_at hl 0 rfl) ?_
        refine lv_iload hx hb dX9_digestRow_26 (lv_at hl 3 rfl) ?_
        obtain ⟨i_28, hw⟩ := hw
        refine x_iald (k := b6_6.toNatClampNeg) S G (xe_20 k2 rfl) i_28 rfl rfl dX9_digestRow_28 ?_
        refine lv_i2l hx hb dX9_digestRow_29 rfl ?_
        refine lv_ladd hx hb dX9_digestRow_30 ?_
        refine lv_topl (fun a4_31 ea4_31 => ?_)
        have hw := hw a4_31 ea4_31
        refine lv_lstore (lv' := [(4, .long a4_31), (2, .ref (ad a2)), (3, .int a3), (6, .int b6_6)]) hx hb dX9_digestRow_31 hl (by decide) rfl (fun ls hl => ?_)
        obtain ⟨a6_33, ea6_33⟩ : ∃ y : Int32, y = b6_6 + 1 := ⟨_, rfl⟩
        have hw := hw a6_33 ea6_33
        refine lv_iinc (v := a6_33) (lv' := [(6, .int a6_33), (4, .long a4_31), (2, .ref (ad a2)), (3, .int a3)]) hx hb dX9_digestRow_33 hl (k := 3) rfl (by rw [ea6_33]; rfl) (by decide) rfl (fun ls hl => ?_)
        refine lv_goto (tgt := 6) hx hb dX9_digestRow_36 (by decide) ?_
        exact hw _ _ _ (lv_sub hl [2, 3, 1, 0] rfl) G)
  exact hw _ _ _ (lv_sub hl [3, 4, 1, 0] rfl) G
theorem cw_X5_98 {R : Room} {s : State} {args : Array Value} (hN : nwD s) (hts : ∀ w ∈ gW, w.before args s = true) (hR : rm_X_digestRow.frames + 1 ≤ R.frames ∧ 8 + (7 + 11) + rm_X_digestRow.locals ≤ R.locals) : va_CN R s args RX5 98 yX9_digestRow "WordOnPost" cX9_digestRow 7 (some .long) (mw yX9_digestRow cX9_digestRow 7 (some .long)) rm_X_digestRow 0 0 3 ∧ (Cond.static yX9_digestRow).before args s = true ∧ True := cwN9 hts hN kt_X9_digestRow kn_X9 kk_X9_digestRow rfl rfl (by decide +kernel) hR
theorem cw_X9_286 {R : Room} {s : State} {args : Array Value} (hts : ∀ w ∈ gW, w.before args s = true) (hR : rm_X_digestRow.frames + 1 ≤ R.frames ∧ 8 + (7 + 11) + rm_X_digestRow.locals ≤ R.locals) : CallB R s args RX9 286 yX9_digestRow cX9_digestRow 7 (some .long) (mw yX9_digestRow cX9_digestRow 7 (some .long)) rm_X_digestRow 0 0 3 ∧ (Cond.static yX9_digestRow).before args s = true := cwS9 hts km_X9_286 kt_X9_digestRow kn_X9 kk_X9_digestRow rfl rfl (by decide +kernel) hR
abbrev rm_State_digestRows : Room := { frames := 1, cells := 0, slots := 0, locals := 26 }
set_option maxHeartbeats 4000000 in
set_option maxRecDepth 100000 in
theorem c_State_digestRows (l : Launch) (D : va_G) (q : Nat → ClassId) (A : Nat → Prop) (ad : Nat → Nat) (a0 : Int64) (a2 : Nat) (a3 : Int32) (k2 : kX a2 = 22) (h : Hs) (Q : Int64 → Prop) (hw : p_State_digestRows a0 a2 a3 h Q) : Met l yX5_digestRows (mw yX5_digestRows cX5_digestRows 7 (some .long)) rm_State_digestRows (va_Pc [.long a0, .ref (ad a2), .int a3] (pW D q A (wX q ad h))) (va_Ql (fun r h9 => h9 = h ∧ Q r) (fun h t => pW D q A (wX q ad h) t) A) 0 0 A := by
  refine met_l (Qp := (fun r h9 => h9 = h ∧ Q r)) (by decide) (Nat.le_of_ble_eq_true rfl) ?_
  intro p e R s m args below meth c Qm ls hR1 hR2 S RT hl G
  have hx := S.1
  have hb := S.2.1
  have hl : lv_has ls 7 [(0, .long a0), (2, .ref (ad a2)), (3, .int a3)] := hl
  unfold p_State_digestRows at hw
  refine lv_lload_n hx hb dX5_digestRows_0 rfl (lv_at hl 0 rfl) ?_
  refine lv_lstore (lv' := [(4, .long a0), (0, .long a0), (2, .ref (ad a2)), (3, .int a3)]) hx hb dX5_digestRows_1 hl (by decide) rfl (fun ls hl => ?_)
  refine lv_iconst (v := 0) hx hb dX5_digestRows_3 (by decide) ?_
  refine lv_istore (lv' := [(6, .int 0), (4, .long a0), (0, .long a0), (2, .ref (ad a2)), (3, .int a3)]) hx hb dX5_digestRows_4 hl (by decide) rfl (fun ls hl => ?_)
  have hw := hw (fun (b4_6 : Int64) (b6_6 : Int32) => ∀ (ls : Array Slot) (H : Heap) (locs : List Loc), lv_has ls 7 [(2, .ref (ad a2)), (3, .int a3), (4, .long b4_6), (6, .int b6_6)] → okW D q A s (wX q ad h) H locs → W p l e R s m args below meth c H locs 0 0 Qm (F0 m 6 ls [])) (by
    intro b4_6 b6_6 hw ls H locs hl G
    refine lv_iload hx hb dX5_digestRows_6 (lv_at hl 3 rfl) ?_
    refine lv_iload_n hx hb dX5_digestRows_8 rfl (lv_at hl 1 rfl) ?_
    have hw := hw (∀ (ls : Array Slot) (H : Heap) (locs : List Loc), lv_has ls 7 [(4, .long b4_6)] → okW D q A s (wX q ad h) H locs → W p l e R s m args below meth c H locs 0 0 Qm (F0 m 41 ls [])) (by
      intro hw ls H locs hl G
      refine lv_lload hx hb dX5_digestRows_41 (lv_at hl 0 rfl) ?_
      exact RT _ _ _ _ _ _ G ⟨rfl, hw⟩ dX5_digestRows_43)
    refine lv_icmp_ge (tgt := 41) hx hb dX5_digestRows_9 (by decide) (fun c_9 => ?_) (fun c_9 => ?_)
    · have hw := hw.1 c_9
      exact hw _ _ _ (lv_sub hl [2] rfl) G
    · have hw := hw.2 c_9
      refine lv_iload hx hb dX5_digestRows_12 (lv_at hl 3 rfl) ?_
      refine lv_aload_n hx hb dX5_digestRows_14 rfl (lv_at hl 0 rfl) ?_
      refine x_alen (v := nI (lX a2)) S G 2 (xe_22 k2 rfl) rfl rfl dX5_digestRows_15 ?_
      refine lv_icmp_ge (tgt := 41) hx hb dX5_digestRows_16 (by decide) (fun c_16 => ?_) (fun c_16 => ?_)
      · have hw := hw.1 c_16
        exact hw _ _ _ (lv_sub hl [2] rfl) G
      · have hw := hw.2 c_16
        refine lv_lload hx hb dX5_digestRows_19 (lv_at hl 2 rfl) ?_
        refine lv_aload_n hx hb dX5_digestRows_21 rfl (lv_at hl 0 rfl) ?_
        refine lv_iload hx hb dX5_digestRows_22 (lv_at hl 3 rfl) ?_
        obtain ⟨i_24, hw⟩ := hw
        refine x_aald (k := b6_6.toNatClampNeg) S G 2 (xe_22 k2 rfl) rfl rfl i_24 rfl (if_pos (vpl i_24)) dX5_digestRows_24 ?_
        refine lv_aload_n hx hb dX5_digestRows_25 rfl (lv_at hl 0 rfl) ?_
        refine lv_iload hx hb dX5_digestRows_26 (lv_at hl 3 rfl) ?_
        obtain ⟨i_28, hw⟩ := hw
        refine x_aald (k := b6_6.toNatClampNeg) S G 2 (xe_22 k2 rfl) rfl rfl i_28 rfl (if_pos (vpl i_28)) dX5_digestRows_28 ?_
        refine x_alen (v := nI (lX (a2 + 1 + 1 * b6_6.toNatClampNeg))) S G 0 (xe_20 (kxe22 _ (kX_lt k2) k2 _ (vpl i_28)) rfl) rfl rfl dX5_digestRows_29 ?_
        refine x_NlP S hl.1 G (c_X_digestRow l D q A ad b4_6 (a2 + 1 + 1 * b6_6.toNatClampNeg) (nI (lX (a2 + 1 + 1 * b6_6.toNatClampNeg))) (kxe22 _ (kX_lt k2) k2 _ (vpl i_24)) h _ hw) (cw_X5_98 G.2.1 S.2.2.2.2 ⟨Nat.le_trans (Nat.le_of_ble_eq_true rfl) hR1, Nat.le_trans (Nat.le_of_ble_eq_true rfl) hR2⟩) rfl rfl (Nat.le_of_ble_eq_true rfl) dX5_digestRows_30 (fun r_30 H locs G hw => ?_)
        refine lv_lstore (lv' := [(4, .long r_30), (2, .ref (ad a2)), (3, .int a3), (6, .int b6_6)]) hx hb dX5_digestRows_33 hl (by decide) rfl (fun ls hl => ?_)
        obtain ⟨a6_35, ea6_35⟩ : ∃ y : Int32, y = b6_6 + 1 := ⟨_, rfl⟩
        have hw := hw a6_35 ea6_35
        refine lv_iinc (v := a6_35) (lv' := [(6, .int a6_35), (4, .long r_30), (2, .ref (ad a2)), (3, .int a3)]) hx hb dX5_digestRows_35 hl (k := 3) rfl (by rw [ea6_35]; rfl) (by decide) rfl (fun ls hl => ?_)
        refine lv_goto (tgt := 6) hx hb dX5_digestRows_38 (by decide) ?_
        exact hw _ _ _ (lv_sub hl [2, 3, 1, 0] rfl) G)
  exact hw _ _ _ (lv_sub hl [3, 4, 1, 0] rfl) G
theorem cw_X5_102 {R : Room} {s : State} {args : Array Value} (hts : ∀ w ∈ gW, w.before args s = true) (hR : rm_State_digestRows.frames + 1 ≤ R.frames ∧ 8 + (7 + 11) + rm_State_digestRows.locals ≤ R.locals) : CallB R s args RX5 102 yX5_digestRows cX5_digestRows 7 (some .long) (mw yX5_digestRows cX5_digestRows 7 (some .long)) rm_State_digestRows 0 0 3 ∧ (Cond.static yX5_digestRows).before args s = true := cwS9 hts km_X5_102 kt_X5_digestRows kn_X5 kk_X5_digestRows rfl rfl (by decide +kernel) hR
abbrev rm_State_digestOnto : Room := { frames := 2, cells := 0, slots := 0, locals := 52 }
set_option maxHeartbeats 4000000 in
set_option maxRecDepth 100000 in
theorem c_State_digestOnto (l : Launch) (D : va_G) (q : Nat → ClassId) (A : Nat → Prop) (ad : Nat → Nat) (a1 : Int64) (h : Hs) (Q : Int64 → Prop) (hw : p_State_digestOnto a1 h Q) : Met l yX5_digestOnto (mw yX5_digestOnto cX5_digestOnto 6 (some .long)) rm_State_digestOnto (va_Pc [.ref (ad 3), .long a1] (pW D q A (wX q ad h))) (va_Ql (fun r h9 => h9 = h ∧ Q r) (fun h t => pW D q A (wX q ad h) t) A) 0 0 A := by
  refine met_l (Qp := (fun r h9 => h9 = h ∧ Q r)) (by decide) (Nat.le_of_ble_eq_true rfl) ?_
  intro p e R s m args below meth c Qm ls hR1 hR2 S RT hl G
  have hx := S.1
  have hb := S.2.1
  have hl : lv_has ls 6 [(0, .ref (ad 3)), (1, .long a1)] := hl
  unfold p_State_digestOnto at hw
  refine lv_lload_n hx hb dX5_digestOnto_0 rfl (lv_at hl 1 rfl) ?_
  refine lv_lstore_n (lv' := [(3, .long a1), (0, .ref (ad 3)), (1, .long a1)]) hx hb dX5_digestOnto_1 rfl hl (by decide) rfl (fun ls hl => ?_)
  refine lv_iconst (v := 0) hx hb dX5_digestOnto_2 (by decide) ?_
  refine lv_istore (lv' := [(5, .int 0), (3, .long a1), (0, .ref (ad 3)), (1, .long a1)]) hx hb dX5_digestOnto_3 hl (by decide) rfl (fun ls hl => ?_)
  have hw := hw (fun (b3_5 : Int64) (b5_5 : Int32) => ∀ (ls : Array Slot) (H : Heap) (locs : List Loc), lv_has ls 6 [(0, .ref (ad 3)), (3, .long b3_5), (5, .int b5_5)] → okW D q A s (wX q ad h) H locs → W p l e R s m args below meth c H locs 0 0 Qm (F0 m 5 ls [])) (by
    intro b3_5 b5_5 hw ls H locs hl G
    refine lv_iload hx hb dX5_digestOnto_5 (lv_at hl 2 rfl) ?_
    refine lv_bipush (v := 8) hx hb dX5_digestOnto_7 (by decide) ?_
    refine lv_icmp_ge (tgt := 32) hx hb dX5_digestOnto_9 (by decide) (fun c_9 => ?_) (fun c_9 => ?_)
    · have hw := hw.1 c_9
      refine lv_lload_n hx hb dX5_digestOnto_32 rfl (lv_at hl 1 rfl) ?_
      refine lv_aload_n hx hb dX5_digestOnto_33 rfl (lv_at hl 0 rfl) ?_
      refine x_get (C := RX5) (T := TX5) (n := 17) S G inX5 (xe_6 kx_3) rfl 4 (by decide) kf_X5_9 rfl dX5_digestOnto_34 ?_
      refine lv_aload_n hx hb dX5_digestOnto_37 rfl (lv_at hl 0 rfl) ?_
      refine x_get (C := RX5) (T := TX5) (n := 17) S G inX5 (xe_6 kx_3) rfl 0 (by decide) kf_X5_59 rfl dX5_digestOnto_38 ?_
      refine x_NlP S hl.1 G (c_X_digestRow l D q A ad b3_5 4 (gi h 3 0) kx_4 h _ hw) (cw_X5_98 G.2.1 S.2.2.2.2 ⟨Nat.le_trans (Nat.le_of_ble_eq_true rfl) hR1, Nat.le_trans (Nat.le_of_ble_eq_true rfl) hR2⟩) rfl rfl (Nat.le_of_ble_eq_true rfl) dX5_digestOnto_41 (fun r_41 H locs G hw => ?_)
      refine lv_lstore_n (lv' := [(3, .long r_41), (0, .ref (ad 3)), (5, .int b5_5)]) hx hb dX5_digestOnto_44 rfl hl (by decide) rfl (fun ls hl => ?_)
      refine lv_lload_n hx hb dX5_digestOnto_45 rfl (lv_at hl 0 rfl) ?_
      refine lv_aload_n hx hb dX5_digestOnto_46 rfl (lv_at hl 1 rfl) ?_
      refine x_get (C := RX5) (T := TX5) (n := 17) S G inX5 (xe_6 kx_3) rfl 5 (by decide) kf_X5_15 rfl dX5_digestOnto_47 ?_
      refine lv_bipush (v := 10) hx hb dX5_digestOnto_50 (by decide) ?_
      refine x_NlP S hl.1 G (c_X_digestRow l D q A ad r_41 5 10 kx_5 h _ hw) (cw_X5_98 G.2.1 S.2.2.2.2 ⟨Nat.le_trans (Nat.le_of_ble_eq_true rfl) hR1, Nat.le_trans (Nat.le_of_ble_eq_true rfl) hR2⟩) rfl rfl (Nat.le_of_ble_eq_true rfl) dX5_digestOnto_52 (fun r_52 H locs G hw => ?_)
      refine lv_lstore_n (lv' := [(3, .long r_52), (0, .ref (ad 3)), (5, .int b5_5)]) hx hb dX5_digestOnto_55 rfl hl (by decide) rfl (fun ls hl => ?_)
      refine lv_lload_n hx hb dX5_digestOnto_56 rfl (lv_at hl 0 rfl) ?_
      refine lv_aload_n hx hb dX5_digestOnto_57 rfl (lv_at hl 1 rfl) ?_
      refine x_get (C := RX5) (T := TX5) (n := 17) S G inX5 (xe_6 kx_3) rfl 6 (by decide) kf_X5_18 rfl dX5_digestOnto_58 ?_
      refine lv_aload_n hx hb dX5_digestOnto_61 rfl (lv_at hl 1 rfl) ?_
      refine x_get (C := RX5) (T := TX5) (n := 17) S G inX5 (xe_6 kx_3) rfl 1 (by decide) kf_X5_63 rfl dX5_digestOnto_62 ?_
      refine x_NlP S hl.1 G (c_X_digestRow l D q A ad r_52 6 (gi h 3 1) kx_6 h _ hw) (cw_X5_98 G.2.1 S.2.2.2.2 ⟨Nat.le_trans (Nat.le_of_ble_eq_true rfl) hR1, Nat.le_trans (Nat.le_of_ble_eq_true rfl) hR2⟩) rfl rfl (Nat.le_of_ble_eq_true rfl) dX5_digestOnto_65 (fun r_65 H locs G hw => ?_)
      refine lv_lstore_n (lv' := [(3, .long r_65), (0, .ref (ad 3)), (5, .int b5_5)]) hx hb dX5_digestOnto_68 rfl hl (by decide) rfl (fun ls hl => ?_)
      refine lv_lload_n hx hb dX5_digestOnto_69 rfl (lv_at hl 0 rfl) ?_
      refine lv_aload_n hx hb dX5_digestOnto_70 rfl (lv_at hl 1 rfl) ?_
      refine x_get (C := RX5) (T := TX5) (n := 17) S G inX5 (xe_6 kx_3) rfl 7 (by decide) kf_X5_21 rfl dX5_digestOnto_71 ?_
      refine lv_aload_n hx hb dX5_digestOnto_74 rfl (lv_at hl 1 rfl) ?_
      refine x_get (C := RX5) (T := TX5) (n := 17) S G inX5 (xe_6 kx_3) rfl 7 (by decide) kf_X5_21 rfl dX5_digestOnto_75 ?_
      refine x_alen (v := 2) S G 0 (xe_20 kx_7 lx_7) rfl rfl dX5_digestOnto_78 ?_
      refine x_NlP S hl.1 G (c_X_digestRow l D q A ad r_65 7 2 kx_7 h _ hw) (cw_X5_98 G.2.1 S.2.2.2.2 ⟨Nat.le_trans (Nat.le_of_ble_eq_true rfl) hR1, Nat.le_trans (Nat.le_of_ble_eq_true rfl) hR2⟩) rfl rfl (Nat.le_of_ble_eq_true rfl) dX5_digestOnto_79 (fun r_79 H locs G hw => ?_)
      refine lv_lstore_n (lv' := [(3, .long r_79), (0, .ref (ad 3)), (5, .int b5_5)]) hx hb dX5_digestOnto_82 rfl hl (by decide) rfl (fun ls hl => ?_)
      refine lv_lload_n hx hb dX5_digestOnto_83 rfl (lv_at hl 0 rfl) ?_
      refine lv_aload_n hx hb dX5_digestOnto_84 rfl (lv_at hl 1 rfl) ?_
      refine x_get (C := RX5) (T := TX5) (n := 17) S G inX5 (xe_6 kx_3) rfl 8 (by decide) kf_X5_26 rfl dX5_digestOnto_85 ?_
      refine lv_iconst (v := 4) hx hb dX5_digestOnto_88 (by decide) ?_
      refine x_SlP S hl.1 G (c_State_digestRows l D q A ad r_79 8 4 kx_8 h _ hw) (cw_X5_102 S.2.2.2.2 ⟨Nat.le_trans (Nat.le_of_ble_eq_true rfl) hR1, Nat.le_trans (Nat.le_of_ble_eq_true rfl) hR2⟩) rfl rfl (Nat.le_of_ble_eq_true rfl) dX5_digestOnto_89 (fun r_89 H locs G hw => ?_)
      refine lv_lstore_n (lv' := [(3, .long r_89), (0, .ref (ad 3)), (5, .int b5_5)]) hx hb dX5_digestOnto_92 rfl hl (by decide) rfl (fun ls hl => ?_)
      refine lv_iconst (v := 0) hx hb dX5_digestOnto_93 (by decide) ?_
      refine lv_istore (lv' := [(5, .int 0), (3, .long r_89), (0, .ref (ad 3))]) hx hb dX5_digestOnto_94 hl (by decide) rfl (fun ls hl => ?_)
      have hw := hw (fun (b3_96 : Int64) (b5_96 : Int32) => ∀ (ls : Array Slot) (H : Heap) (locs : List Loc), lv_has ls 6 [(0, .ref (ad 3)), (3, .long b3_96), (5, .int b5_96)] → okW D q A s (wX q ad h) H locs → W p l e R s m args below meth c H locs 0 0 Qm (F0 m 96 ls [])) (by
        intro b3_96 b5_96 hw ls H locs hl G
        refine lv_iload hx hb dX5_digestOnto_96 (lv_at hl 2 rfl) ?_
        refine lv_iconst (v := 4) hx hb dX5_digestOnto_98 (by decide) ?_
        refine lv_icmp_ge (tgt := 142) hx hb dX5_digestOnto_99 (by decide) (fun c_99 => ?_) (fun c_99 => ?_)
        · have hw := hw.1 c_99
          refine lv_lload_n hx hb dX5_digestOnto_142 rfl (lv_at hl 1 rfl) ?_
          refine lv_aload_n hx hb dX5_digestOnto_143 rfl (lv_at hl 0 rfl) ?_
          refine x_get (C := RX5) (T := TX5) (n := 17) S G inX5 (xe_6 kx_3) rfl 12 (by decide) kf_X5_38 rfl dX5_digestOnto_144 ?_
          refine lv_aload_n hx hb dX5_digestOnto_147 rfl (lv_at hl 0 rfl) ?_
          refine x_get (C := RX5) (T := TX5) (n := 17) S G inX5 (xe_6 kx_3) rfl 2 (by decide) kf_X5_66 rfl dX5_digestOnto_148 ?_
          refine x_SlP S hl.1 G (c_State_digestRows l D q A ad b3_96 20 (gi h 3 2) kx_20 h _ hw) (cw_X5_102 S.2.2.2.2 ⟨Nat.le_trans (Nat.le_of_ble_eq_true rfl) hR1, Nat.le_trans (Nat.le_of_ble_eq_true rfl) hR2⟩) rfl rfl (Nat.le_of_ble_eq_true rfl) dX5_digestOnto_151 (fun r_151 H locs G hw => ?_)
          refine lv_lstore_n (lv' := [(3, .long r_151), (0, .ref (ad 3)), (5, .int b5_96)]) hx hb dX5_digestOnto_154 rfl hl (by decide) rfl (fun ls hl => ?_)
          refine lv_lload_n hx hb dX5_digestOnto_155 rfl (lv_at hl 0 rfl) ?_
          refine lv_aload_n hx hb dX5_digestOnto_156 rfl (lv_at hl 1 rfl) ?_
          refine x_get (C := RX5) (T := TX5) (n := 17) S G inX5 (xe_6 kx_3) rfl 13 (by decide) kf_X5_41 rfl dX5_digestOnto_157 ?_
          refine lv_iconst (v := 3) hx hb dX5_digestOnto_160 (by decide) ?_
          refine x_NlP S hl.1 G (c_X_digestRow l D q A ad r_151 27 3 kx_27 h _ hw) (cw_X5_98 G.2.1 S.2.2.2.2 ⟨Nat.le_trans (Nat.le_of_ble_eq_true rfl) hR1, Nat.le_trans (Nat.le_of_ble_eq_true rfl) hR2⟩) rfl rfl (Nat.le_of_ble_eq_true rfl) dX5_digestOnto_161 (fun r_161 H locs G hw => ?_)
          refine lv_lstore_n (lv' := [(3, .long r_161), (0, .ref (ad 3)), (5, .int b5_96)]) hx hb dX5_digestOnto_164 rfl hl (by decide) rfl (fun ls hl => ?_)
          refine lv_lload_n hx hb dX5_digestOnto_165 rfl (lv_at hl 0 rfl) ?_
          refine lv_aload_n hx hb dX5_digestOnto_166 rfl (lv_at hl 1 rfl) ?_
          refine x_get (C := RX5) (T := TX5) (n := 17) S G inX5 (xe_6 kx_3) rfl 14 (by decide) kf_X5_44 rfl dX5_digestOnto_167 ?_
          refine lv_aload_n hx hb dX5_digestOnto_170 rfl (lv_at hl 1 rfl) ?_
          refine x_get (C := RX5) (T := TX5) (n := 17) S G inX5 (xe_6 kx_3) rfl 3 (by decide) kf_X5_69 rfl dX5_digestOnto_171 ?_
          refine x_SlP S hl.1 G (c_State_digestRows l D q A ad r_161 28 (gi h 3 3) kx_28 h _ hw) (cw_X5_102 S.2.2.2.2 ⟨Nat.le_trans (Nat.le_of_ble_eq_true rfl) hR1, Nat.le_trans (Nat.le_of_ble_eq_true rfl) hR2⟩) rfl rfl (Nat.le_of_ble_eq_true rfl) dX5_digestOnto_174 (fun r_174 H locs G hw => ?_)
          refine lv_lstore_n (lv' := [(3, .long r_174), (0, .ref (ad 3)), (5, .int b5_96)]) hx hb dX5_digestOnto_177 rfl hl (by decide) rfl (fun ls hl => ?_)
          refine lv_iconst (v := 0) hx hb dX5_digestOnto_178 (by decide) ?_
          refine lv_istore (lv' := [(5, .int 0), (3, .long r_174), (0, .ref (ad 3))]) hx hb dX5_digestOnto_179 hl (by decide) rfl (fun ls hl => ?_)
          have hw := hw (fun (b3_181 : Int64) (b5_181 : Int32) => ∀ (ls : Array Slot) (H : Heap) (locs : List Loc), lv_has ls 6 [(0, .ref (ad 3)), (3, .long b3_181), (5, .int b5_181)] → okW D q A s (wX q ad h) H locs → W p l e R s m args below meth c H locs 0 0 Qm (F0 m 181 ls [])) (by
            intro b3_181 b5_181 hw ls H locs hl G
            refine lv_iload hx hb dX5_digestOnto_181 (lv_at hl 2 rfl) ?_
            refine lv_aload_n hx hb dX5_digestOnto_183 rfl (lv_at hl 0 rfl) ?_
            refine x_get (C := RX5) (T := TX5) (n := 17) S G inX5 (xe_6 kx_3) rfl 0 (by decide) kf_X5_59 rfl dX5_digestOnto_184 ?_
            refine lv_icmp_ge (tgt := 210) hx hb dX5_digestOnto_187 (by decide) (fun c_187 => ?_) (fun c_187 => ?_)
            · have hw := hw.1 c_187
              refine lv_lload_n hx hb dX5_digestOnto_210 rfl (lv_at hl 1 rfl) ?_
              refine lv_aload_n hx hb dX5_digestOnto_211 rfl (lv_at hl 0 rfl) ?_
              refine x_get (C := RX5) (T := TX5) (n := 17) S G inX5 (xe_6 kx_3) rfl 16 (by decide) kf_X5_50 rfl dX5_digestOnto_212 ?_
              refine lv_bipush (v := 60) hx hb dX5_digestOnto_215 (by decide) ?_
              refine x_NlP S hl.1 G (c_X_digestRow l D q A ad b3_181 42 60 kx_42 h _ hw) (cw_X5_98 G.2.1 S.2.2.2.2 ⟨Nat.le_trans (Nat.le_of_ble_eq_true rfl) hR1, Nat.le_trans (Nat.le_of_ble_eq_true rfl) hR2⟩) rfl rfl (Nat.le_of_ble_eq_true rfl) dX5_digestOnto_217 (fun r_217 H locs G hw => ?_)
              exact RT _ _ _ _ _ _ G ⟨rfl, hw⟩ dX5_digestOnto_220
            · have hw := hw.2 c_187
              refine lv_lload_n hx hb dX5_digestOnto_190 rfl (lv_at hl 1 rfl) ?_
              refine lv_aload_n hx hb dX5_digestOnto_191 rfl (lv_at hl 0 rfl) ?_
              refine x_get (C := RX5) (T := TX5) (n := 17) S G inX5 (xe_6 kx_3) rfl 15 (by decide) kf_X5_47 rfl dX5_digestOnto_192 ?_
              refine lv_iload hx hb dX5_digestOnto_195 (lv_at hl 2 rfl) ?_
              obtain ⟨i_197, hw⟩ := hw
              refine x_aald (k := b5_181.toNatClampNeg) S G 2 (xe_22 kx_35 lx_35) rfl rfl i_197 rfl (if_pos (vpl i_197)) dX5_digestOnto_197 ?_
              refine lv_iload hx hb dX5_digestOnto_198 (lv_at hl 2 rfl) ?_
              refine x_NlP S hl.1 G (c_X_digestRow l D q A ad b3_181 (35 + 1 + 1 * b5_181.toNatClampNeg) b5_181 (kxe_35 _ (vpl i_197)) h _ hw) (cw_X5_98 G.2.1 S.2.2.2.2 ⟨Nat.le_trans (Nat.le_of_ble_eq_true rfl) hR1, Nat.le_trans (Nat.le_of_ble_eq_true rfl) hR2⟩) rfl rfl (Nat.le_of_ble_eq_true rfl) dX5_digestOnto_200 (fun r_200 H locs G hw => ?_)
              refine lv_lstore_n (lv' := [(3, .long r_200), (0, .ref (ad 3)), (5, .int b5_181)]) hx hb dX5_digestOnto_203 rfl hl (by decide) rfl (fun ls hl => ?_)
              obtain ⟨a5_204, ea5_204⟩ : ∃ y : Int32, y = b5_181 + 1 := ⟨_, rfl⟩
              have hw := hw a5_204 ea5_204
              refine lv_iinc (v := a5_204) (lv' := [(5, .int a5_204), (3, .long r_200), (0, .ref (ad 3))]) hx hb dX5_digestOnto_204 hl (k := 2) rfl (by rw [ea5_204]; rfl) (by decide) rfl (fun ls hl => ?_)
              refine lv_goto (tgt := 181) hx hb dX5_digestOnto_207 (by decide) ?_
              exact hw _ _ _ (lv_sub hl [2, 1, 0] rfl) G)
          exact hw _ _ _ (lv_sub hl [2, 1, 0] rfl) G
        · have hw := hw.2 c_99
          refine lv_ldc2 (v := 31) hx hb S.2.2.2.1 (S.2.2.2.2 _ kl_X5_92) dX5_digestOnto_102 ?_
          refine lv_lload_n hx hb dX5_digestOnto_105 rfl (lv_at hl 1 rfl) ?_
          refine lv_lmul hx hb dX5_digestOnto_106 ?_
          refine lv_aload_n hx hb dX5_digestOnto_107 rfl (lv_at hl 0 rfl) ?_
          refine x_get (C := RX5) (T := TX5) (n := 17) S G inX5 (xe_6 kx_3) rfl 9 (by decide) kf_X5_29 rfl dX5_digestOnto_108 ?_
          refine lv_iload hx hb dX5_digestOnto_111 (lv_at hl 2 rfl) ?_
          obtain ⟨i_113, hw⟩ := hw
          refine x_iald (k := b5_96.toNatClampNeg) S G (xe_20 kx_13 lx_13) i_113 rfl rfl dX5_digestOnto_113 ?_
          refine lv_i2l hx hb dX5_digestOnto_114 rfl ?_
          refine lv_ladd hx hb dX5_digestOnto_115 ?_
          refine lv_topl (fun a3_116 ea3_116 => ?_)
          have hw := hw a3_116 ea3_116
          refine lv_lstore_n (lv' := [(3, .long a3_116), (0, .ref (ad 3)), (5, .int b5_96)]) hx hb dX5_digestOnto_116 rfl hl (by decide) rfl (fun ls hl => ?_)
          refine lv_lload_n hx hb dX5_digestOnto_117 rfl (lv_at hl 0 rfl) ?_
          refine lv_aload_n hx hb dX5_digestOnto_118 rfl (lv_at hl 1 rfl) ?_
          refine x_get (C := RX5) (T := TX5) (n := 17) S G inX5 (xe_6 kx_3) rfl 11 (by decide) kf_X5_35 rfl dX5_digestOnto_119 ?_
          refine lv_iload hx hb dX5_digestOnto_122 (lv_at hl 2 rfl) ?_
          obtain ⟨i_124, hw⟩ := hw
          refine x_aald (k := b5_96.toNatClampNeg) S G 2 (xe_22 kx_15 lx_15) rfl rfl i_124 rfl (if_pos (vpl i_124)) dX5_digestOnto_124 ?_
          refine lv_aload_n hx hb dX5_digestOnto_125 rfl (lv_at hl 1 rfl) ?_
          refine x_get (C := RX5) (T := TX5) (n := 17) S G inX5 (xe_6 kx_3) rfl 10 (by decide) kf_X5_32 rfl dX5_digestOnto_126 ?_
          refine lv_iload hx hb dX5_digestOnto_129 (lv_at hl 2 rfl) ?_
          obtain ⟨i_131, hw⟩ := hw
          refine x_iald (k := b5_96.toNatClampNeg) S G (xe_20 kx_14 lx_14) i_131 rfl rfl dX5_digestOnto_131 ?_
          refine x_NlP S hl.1 G (c_X_digestRow l D q A ad a3_116 (15 + 1 + 1 * b5_96.toNatClampNeg) (gi h 14 b5_96.toNatClampNeg) (kxe_15 _ (vpl i_124)) h _ hw) (cw_X5_98 G.2.1 S.2.2.2.2 ⟨Nat.le_trans (Nat.le_of_ble_eq_true rfl) hR1, Nat.le_trans (Nat.le_of_ble_eq_true rfl) hR2⟩) rfl rfl (Nat.le_of_ble_eq_true rfl) dX5_digestOnto_132 (fun r_132 H locs G hw => ?_)
          refine lv_lstore_n (lv' := [(3, .long r_132), (0, .ref (ad 3)), (5, .int b5_96)]) hx hb dX5_digestOnto_135 rfl hl (by decide) rfl (fun ls hl => ?_)
          obtain ⟨a5_136, ea5_136⟩ : ∃ y : Int32, y = b5_96 + 1 := ⟨_, rfl⟩
          have hw := hw a5_136 ea5_136
          refine lv_iinc (v := a5_136) (lv' := [(5, .int a5_136), (3, .long r_132), (0, .ref (ad 3))]) hx hb dX5_digestOnto_136 hl (k := 2) rfl (by rw [ea5_136]; rfl) (by decide) rfl (fun ls hl => ?_)
          refine lv_goto (tgt := 96) hx hb dX5_digestOnto_139 (by decide) ?_
          exact hw _ _ _ (lv_sub hl [2, 1, 0] rfl) G)
      exact hw _ _ _ (lv_sub hl [2, 1, 0] rfl) G
    · have hw := hw.2 c_9
      refine lv_ldc2 (v := 31) hx hb S.2.2.2.1 (S.2.2.2.2 _ kl_X5_92) dX5_digestOnto_12 ?_
      refine lv_lload_n hx hb dX5_digestOnto_15 rfl (lv_at hl 1 rfl) ?_
      refine lv_lmul hx hb dX5_digestOnto_16 ?_
      refine lv_aload_n hx hb dX5_digestOnto_17 rfl (lv_at hl 0 rfl) ?_
      refine lv_iload hx hb dX5_digestOnto_18 (lv_at hl 2 rfl) ?_
      refine x_ViP S hl.1 G (c_State_countOf l D q A ad b5_5 h _ hw) (cw_X5_94 S.2.2.2.2 ⟨Nat.le_trans (Nat.le_of_ble_eq_true rfl) hR1, Nat.le_trans (Nat.le_of_ble_eq_true rfl) hR2⟩) (xe_6 kx_3) rfl rfl rfl (Nat.le_of_ble_eq_true rfl) dX5_digestOnto_20 (fun r_20 H locs G hw => ?_)
      refine lv_i2l hx hb dX5_digestOnto_23 rfl ?_
      refine lv_ladd hx hb dX5_digestOnto_24 ?_
      refine lv_topl (fun a3_25 ea3_25 => ?_)
      have hw := hw a3_25 ea3_25
      refine lv_lstore_n (lv' := [(3, .long a3_25), (0, .ref (ad 3)), (5, .int b5_5)]) hx hb dX5_digestOnto_25 rfl hl (by decide) rfl (fun ls hl => ?_)
      obtain ⟨a5_26, ea5_26⟩ : ∃ y : Int32, y = b5_5 + 1 := ⟨_, rfl⟩
      have hw := hw a5_26 ea5_26
      refine lv_iinc (v := a5_26) (lv' := [(5, .int a5_26), (3, .long a3_25), (0, .ref (ad 3))]) hx hb dX5_digestOnto_26 hl (k := 2) rfl (by rw [ea5_26]; rfl) (by decide) rfl (fun ls hl => ?_)
      refine lv_goto (tgt := 5) hx hb dX5_digestOnto_29 (by decide) ?_
      exact hw _ _ _ (lv_sub hl [2, 1, 0] rfl) G)
  exact hw _ _ _ (lv_sub hl [2, 1, 0] rfl) G
theorem cw_X9_277 {R : Room} {s : State} {args : Array Value} (hts : ∀ w ∈ gW, w.before args s = true) (hR : rm_State_digestOnto.frames + 1 ≤ R.frames ∧ 8 + (6 + 11) + rm_State_digestOnto.locals ≤ R.locals) : CallW R s args RX9 RX5 277 yX5_digestOnto cX5_digestOnto 6 (some .long) (mw yX5_digestOnto cX5_digestOnto 6 (some .long)) rm_State_digestOnto 0 0 1 := cwV9 hts km_X9_277 ki_X5_digestOnto ks_X5_digestOnto kn_X5 kk_X5_digestOnto rfl rfl (by decide +kernel) hR
abbrev rm_Worlds_livedBy : Room := { frames := 0, cells := 0, slots := 0, locals := 0 }
set_option maxHeartbeats 4000000 in
set_option maxRecDepth 100000 in
theorem c_Worlds_livedBy (l : Launch) (D : va_G) (q : Nat → ClassId) (A : Nat → Prop) (ad : Nat → Nat) (a1 : Int32) (a2 : Int32) (h : Hs) (Q : Nat → Prop) (hw : p_Worlds_livedBy a1 a2 h Q) : Met l yX8_livedBy (mw yX8_livedBy cX8_livedBy 3 (some (.object "WordOnPost$Big"))) rm_Worlds_livedBy (va_Pc [.ref (ad 1), .int a1, .int a2] (pW D q A (wX q ad h))) (va_Qr (Qrf (fun r h9 => h9 = h ∧ Q r)) (Brf D q A 504 (eX q ad) ad) A) 0 0 A := by
  refine met_r (Qp := (fun r h9 => h9 = h ∧ Q r)) (Or.inl ⟨_, rfl⟩) (by decide) (Nat.le_of_ble_eq_true rfl) ?_
  intro p e R s m args below meth c Qm ls hR1 hR2 S RT hl G
  have hx := S.1
  have hb := S.2.1
  have hl : lv_has ls 3 [(0, .ref (ad 1)), (1, .int a1), (2, .int a2)] := hl
  unfold p_Worlds_livedBy at hw
  refine lv_aload_n hx hb dX8_livedBy_0 rfl (lv_at hl 0 rfl) ?_
  refine x_get (C := RX8) (T := TX8) (n := 12) S G inX8 (xe_9 kx_1) rfl 4 (by decide) kf_X8_37 rfl dX8_livedBy_1 ?_
  refine lv_iload_n hx hb dX8_livedBy_4 rfl (lv_at hl 1 rfl) ?_
  refine lv_iconst (v := 4) hx hb dX8_livedBy_5 (by decide) ?_
  refine lv_imul hx hb dX8_livedBy_6 ?_
  refine lv_iload_n hx hb dX8_livedBy_7 rfl (lv_at hl 2 rfl) ?_
  refine lv_iadd hx hb dX8_livedBy_8 ?_
  obtain ⟨i_9, hw⟩ := hw
  refine x_aald (k := ((a1 * 4) + a2).toNatClampNeg) S G 3 (xe_23 kx_354 lx_354 rfl) rfl rfl i_9 rfl (if_pos (vpl i_9)) dX8_livedBy_9 ?_
  exact RT _ _ _ _ _ _ G ⟨rfl, hw⟩ dX8_livedBy_10
theorem cw_X8_185 {R : Room} {s : State} {args : Array Value} (hts : ∀ w ∈ gW, w.before args s = true) (hR : rm_Worlds_livedBy.frames + 1 ≤ R.frames ∧ 8 + (3 + 11) + rm_Worlds_livedBy.locals ≤ R.locals) : CallW R s args RX8 RX8 185 yX8_livedBy cX8_livedBy 3 (some (.object "WordOnPost$Big")) (mw yX8_livedBy cX8_livedBy 3 (some (.object "WordOnPost$Big"))) rm_Worlds_livedBy 0 0 2 := cwV9 hts km_X8_185 ki_X8_livedBy ks_X8_livedBy kn_X8 kk_X8_livedBy rfl rfl (by decide +kernel) hR
theorem cw_X9_189 {R : Room} {s : State} {args : Array Value} (hts : ∀ w ∈ gW, w.before args s = true) (hR : rm_Worlds_livedBy.frames + 1 ≤ R.frames ∧ 8 + (3 + 11) + rm_Worlds_livedBy.locals ≤ R.locals) : CallW R s args RX9 RX8 189 yX8_livedBy cX8_livedBy 3 (some (.object "WordOnPost$Big")) (mw yX8_livedBy cX8_livedBy 3 (some (.object "WordOnPost$Big"))) rm_Worlds_livedBy 0 0 2 := cwV9 hts km_X9_189 ki_X8_livedBy ks_X8_livedBy kn_X8 kk_X8_livedBy rfl rfl (by decide +kernel) hR
abbrev rm_Worlds_forgetSums : Room := { frames := 1, cells := 0, slots := 0, locals := 24 }
set_option maxHeartbeats 4000000 in
set_option maxRecDepth 100000 in
theorem c_Worlds_forgetSums (l : Launch) (D : va_G) (q : Nat → ClassId) (A : Nat → Prop) (ad : Nat → Nat) (h : Hs) (Q : Hs → Prop) (hw : p_Worlds_forgetSums h Q) : Met l yX8_forgetSums (mw yX8_forgetSums cX8_forgetSums 2 none) rm_Worlds_forgetSums (va_Pc [.ref (ad 1)] (pW D q A (wX q ad h))) (va_Qv Q (fun h t => pW D q A (wX q ad h) t) A) 0 0 A := by
  refine met_v (Qp := Q) (by decide) (Nat.le_of_ble_eq_true rfl) ?_
  intro p e R s m args below meth c Qm ls hR1 hR2 S RT hl G
  have hx := S.1
  have hb := S.2.1
  have hl : lv_has ls 2 [(0, .ref (ad 1))] := hl
  unfold p_Worlds_forgetSums at hw
  refine lv_aload_n hx hb dX8_forgetSums_0 rfl (lv_at hl 0 rfl) ?_
  refine x_get (C := RX8) (T := TX8) (n := 12) S G inX8 (xe_9 kx_1) rfl 10 (by decide) kf_X8_57 rfl dX8_forgetSums_1 ?_
  refine lv_lconst (v := 0) hx hb dX8_forgetSums_4 (by decide) ?_
  refine x_Vv S hl.1 G (c_Big_become l D q A ad 362 0 kx_362 h _ hw) (cw_X8_100 S.2.2.2.2 ⟨Nat.le_trans (Nat.le_of_ble_eq_true rfl) hR1, Nat.le_trans (Nat.le_of_ble_eq_true rfl) hR2⟩) (xe_1 kx_362) rfl rfl rfl (Nat.le_of_ble_eq_true rfl) dX8_forgetSums_5 (fun h_5 H locs G hw => ?_)
  refine lv_iconst (v := 0) hx hb dX8_forgetSums_8 (by decide) ?_
  refine lv_istore_n (lv' := [(1, .int 0), (0, .ref (ad 1))]) hx hb dX8_forgetSums_9 rfl hl (by decide) rfl (fun ls hl => ?_)
  have hw := hw (fun (b1_10 : Int32) (g_10 : Hs) => ∀ (ls : Array Slot) (H : Heap) (locs : List Loc), lv_has ls 2 [(0, .ref (ad 1)), (1, .int b1_10)] → okW D q A s (wX q ad g_10) H locs → W p l e R s m args below meth c H locs 0 0 Qm (F0 m 10 ls [])) (by
    intro b1_10 g_10 hw ls H locs hl G
    refine lv_iload_n hx hb dX8_forgetSums_10 rfl (lv_at hl 1 rfl) ?_
    refine lv_aload_n hx hb dX8_forgetSums_11 rfl (lv_at hl 0 rfl) ?_
    refine x_get (C := RX8) (T := TX8) (n := 12) S G inX8 (xe_9 kx_1) rfl 4 (by decide) kf_X8_37 rfl dX8_forgetSums_12 ?_
    refine x_alen (v := 16) S G 3 (xe_23 kx_354 lx_354 rfl) rfl rfl dX8_forgetSums_15 ?_
    refine lv_icmp_ge (tgt := 35) hx hb dX8_forgetSums_16 (by decide) (fun c_16 => ?_) (fun c_16 => ?_)
    · have hw := hw.1 c_16
      refine lv_iconst (v := 0) hx hb dX8_forgetSums_35 (by decide) ?_
      refine lv_istore_n (lv' := [(1, .int 0), (0, .ref (ad 1))]) hx hb dX8_forgetSums_36 rfl hl (by decide) rfl (fun ls hl => ?_)
      have hw := hw (fun (b1_37 : Int32) (g_37 : Hs) => ∀ (ls : Array Slot) (H : Heap) (locs : List Loc), lv_has ls 2 [(0, .ref (ad 1)), (1, .int b1_37)] → okW D q A s (wX q ad g_37) H locs → W p l e R s m args below meth c H locs 0 0 Qm (F0 m 37 ls [])) (by
        intro b1_37 g_37 hw ls H locs hl G
        refine lv_iload_n hx hb dX8_forgetSums_37 rfl (lv_at hl 1 rfl) ?_
        refine lv_iconst (v := 4) hx hb dX8_forgetSums_38 (by decide) ?_
        refine lv_icmp_ge (tgt := 58) hx hb dX8_forgetSums_39 (by decide) (fun c_39 => ?_) (fun c_39 => ?_)
        · have hw := hw.1 c_39
          exact RT _ _ _ _ _ G hw dX8_forgetSums_58
        · have hw := hw.2 c_39
          refine lv_aload_n hx hb dX8_forgetSums_42 rfl (lv_at hl 0 rfl) ?_
          refine x_get (C := RX8) (T := TX8) (n := 12) S G inX8 (xe_9 kx_1) rfl 9 (by decide) kf_X8_54 rfl dX8_forgetSums_43 ?_
          refine lv_iload_n hx hb dX8_forgetSums_46 rfl (lv_at hl 1 rfl) ?_
          obtain ⟨i_47, hw⟩ := hw
          refine x_aald (k := b1_37.toNatClampNeg) S G 3 (xe_23 kx_361 lx_361 rfl) rfl rfl i_47 rfl (if_pos (vpl i_47)) dX8_forgetSums_47 ?_
          refine lv_lconst (v := 0) hx hb dX8_forgetSums_48 (by decide) ?_
          refine x_Vv S hl.1 G (c_Big_become l D q A ad (396 + 2 * b1_37.toNatClampNeg) 0 (kxe_361 _ (vpl i_47)) g_37 _ hw) (cw_X8_100 S.2.2.2.2 ⟨Nat.le_trans (Nat.le_of_ble_eq_true rfl) hR1, Nat.le_trans (Nat.le_of_ble_eq_true rfl) hR2⟩) (xe_1 (kxe_361 _ (vpl i_47))) rfl rfl rfl (Nat.le_of_ble_eq_true rfl) dX8_forgetSums_49 (fun h_49 H locs G hw => ?_)
          obtain ⟨a1_52, ea1_52⟩ : ∃ y : Int32, y = b1_37 + 1 := ⟨_, rfl⟩
          have hw := hw a1_52 ea1_52
          refine lv_iinc (v := a1_52) (lv' := [(1, .int a1_52), (0, .ref (ad 1))]) hx hb dX8_forgetSums_52 hl (k := 1) rfl (by rw [ea1_52]; rfl) (by decide) rfl (fun ls hl => ?_)
          refine lv_goto (tgt := 37) hx hb dX8_forgetSums_55 (by decide) ?_
          exact hw _ _ _ (lv_sub hl [1, 0] rfl) G)
      exact hw _ _ _ (lv_sub hl [1, 0] rfl) G
    · have hw := hw.2 c_16
      refine lv_aload_n hx hb dX8_forgetSums_19 rfl (lv_at hl 0 rfl) ?_
      refine x_get (C := RX8) (T := TX8) (n := 12) S G inX8 (xe_9 kx_1) rfl 4 (by decide) kf_X8_37 rfl dX8_forgetSums_20 ?_
      refine lv_iload_n hx hb dX8_forgetSums_23 rfl (lv_at hl 1 rfl) ?_
      obtain ⟨i_24, hw⟩ := hw
      refine x_aald (k := b1_10.toNatClampNeg) S G 3 (xe_23 kx_354 lx_354 rfl) rfl rfl i_24 rfl (if_pos (vpl i_24)) dX8_forgetSums_24 ?_
      refine lv_lconst (v := 0) hx hb dX8_forgetSums_25 (by decide) ?_
      refine x_Vv S hl.1 G (c_Big_become l D q A ad (364 + 2 * b1_10.toNatClampNeg) 0 (kxe_354 _ (vpl i_24)) g_10 _ hw) (cw_X8_100 S.2.2.2.2 ⟨Nat.le_trans (Nat.le_of_ble_eq_true rfl) hR1, Nat.le_trans (Nat.le_of_ble_eq_true rfl) hR2⟩) (xe_1 (kxe_354 _ (vpl i_24))) rfl rfl rfl (Nat.le_of_ble_eq_true rfl) dX8_forgetSums_26 (fun h_26 H locs G hw => ?_)
      obtain ⟨a1_29, ea1_29⟩ : ∃ y : Int32, y = b1_10 + 1 := ⟨_, rfl⟩
      have hw := hw a1_29 ea1_29
      refine lv_iinc (v := a1_29) (lv' := [(1, .int a1_29), (0, .ref (ad 1))]) hx hb dX8_forgetSums_29 hl (k := 1) rfl (by rw [ea1_29]; rfl) (by decide) rfl (fun ls hl => ?_)
      refine lv_goto (tgt := 10) hx hb dX8_forgetSums_32 (by decide) ?_
      exact hw _ _ _ (lv_sub hl [1, 0] rfl) G)
  exact hw _ _ _ (lv_sub hl [1, 0] rfl) G
theorem cw_X8_64 {R : Room} {s : State} {args : Array Value} (hts : ∀ w ∈ gW, w.before args s = true) (hR : rm_Worlds_forgetSums.frames + 1 ≤ R.frames ∧ 8 + (2 + 11) + rm_Worlds_forgetSums.locals ≤ R.locals) : CallW R s args RX8 RX8 64 yX8_forgetSums cX8_forgetSums 2 none (mw yX8_forgetSums cX8_forgetSums 2 none) rm_Worlds_forgetSums 0 0 0 := cwV9 hts km_X8_64 ki_X8_forgetSums ks_X8_forgetSums kn_X8 kk_X8_forgetSums rfl rfl (by decide +kernel) hR
abbrev rm_Worlds_of10 : Room := { frames := 0, cells := 0, slots := 0, locals := 0 }
set_option maxHeartbeats 4000000 in
set_option maxRecDepth 100000 in
theorem c_Worlds_of10 (l : Launch) (D : va_G) (q : Nat → ClassId) (A : Nat → Prop) (ad : Nat → Nat) (a0 : Int32) (a1 : Int32) (h : Hs) (Q : Int32 → Prop) (hw : p_Worlds_of10 a0 a1 h Q) : Met l yX8_of10 (mw yX8_of10 cX8_of10 2 (some .int)) rm_Worlds_of10 (va_Pc [.int a0, .int a1] (pW D q A (wX q ad h))) (va_Qi (fun r h9 => h9 = h ∧ Q r) (fun h t => pW D q A (wX q ad h) t) A) 0 0 A := by
  refine met_i (Qp := (fun r h9 => h9 = h ∧ Q r)) (by decide) (Nat.le_of_ble_eq_true rfl) ?_
  intro p e R s m args below meth c Qm ls hR1 hR2 S RT hl G
  have hx := S.1
  have hb := S.2.1
  have hl : lv_has ls 2 [(0, .int a0), (1, .int a1)] := hl
  unfold p_Worlds_of10 at hw
  refine lv_iload_n hx hb dX8_of10_0 rfl (lv_at hl 0 rfl) ?_
  have hw := hw (fun (t0_12 : Int32) => ∀ (ls : Array Slot) (H : Heap) (locs : List Loc), lv_has ls 2 [] → okW D q A s (wX q ad h) H locs → W p l e R s m args below meth c H locs 0 0 Qm (F0 m 12 ls [.int t0_12])) (by
    intro t0_12 hw ls H locs hl G
    exact RT _ _ _ _ _ _ G ⟨rfl, hw⟩ dX8_of10_12)
  refine lv_if_eq (tgt := 8) hx hb dX8_of10_1 (by decide) (fun c_1 => ?_) (fun c_1 => ?_)
  · have hw := hw.1 c_1
    refine lv_bipush (v := 10) hx hb dX8_of10_8 (by decide) ?_
    refine lv_iload_n hx hb dX8_of10_10 rfl (lv_at hl 1 rfl) ?_
    refine lv_isub hx hb dX8_of10_11 ?_
    exact hw _ _ _ (lv_sub hl [] rfl) G
  · have hw := hw.2 c_1
    refine lv_iload_n hx hb dX8_of10_4 rfl (lv_at hl 1 rfl) ?_
    refine lv_goto (tgt := 12) hx hb dX8_of10_5 (by decide) ?_
    exact hw _ _ _ (lv_sub hl [] rfl) G
theorem cw_X8_133 {R : Room} {s : State} {args : Array Value} (hts : ∀ w ∈ gW, w.before args s = true) (hR : rm_Worlds_of10.frames + 1 ≤ R.frames ∧ 8 + (2 + 11) + rm_Worlds_of10.locals ≤ R.locals) : CallB R s args RX8 133 yX8_of10 cX8_of10 2 (some .int) (mw yX8_of10 cX8_of10 2 (some .int)) rm_Worlds_of10 0 0 2 ∧ (Cond.static yX8_of10).before args s = true := cwS9 hts km_X8_133 kt_X8_of10 kn_X8 kk_X8_of10 rfl rfl (by decide +kernel) hR
abbrev rm_Worlds_tellersShare : Room := { frames := 1, cells := 0, slots := 0, locals := 22 }
set_option maxHeartbeats 4000000 in
set_option maxRecDepth 100000 in
theorem c_Worlds_tellersShare (l : Launch) (D : va_G) (q : Nat → ClassId) (A : Nat → Prop) (ad : Nat → Nat) (a1 : Int32) (a2 : Nat) (k2 : kX a2 = 7) (h : Hs) (Q : Int32 → Prop) (hw : p_Worlds_tellersShare a1 a2 h Q) : Met l yX8_tellersShare (mw yX8_tellersShare cX8_tellersShare 8 (some .int)) rm_Worlds_tellersShare (va_Pc [.ref (ad 1), .int a1, .ref (ad a2)] (pW D q A (wX q ad h))) (va_Qi (fun r h9 => h9 = h ∧ Q r) (fun h t => pW D q A (wX q ad h) t) A) 0 0 A := by
  refine met_i (Qp := (fun r h9 => h9 = h ∧ Q r)) (by decide) (Nat.le_of_ble_eq_true rfl) ?_
  intro p e R s m args below meth c Qm ls hR1 hR2 S RT hl G
  have hx := S.1
  have hb := S.2.1
  have hl : lv_has ls 8 [(0, .ref (ad 1)), (1, .int a1), (2, .ref (ad a2))] := hl
  unfold p_Worlds_tellersShare at hw
  refine lv_iconst (v := 1) hx hb dX8_tellersShare_0 (by decide) ?_
  refine lv_istore_n (lv' := [(3, .int 1), (0, .ref (ad 1)), (1, .int a1), (2, .ref (ad a2))]) hx hb dX8_tellersShare_1 rfl hl (by decide) rfl (fun ls hl => ?_)
  refine lv_iconst (v := 0) hx hb dX8_tellersShare_2 (by decide) ?_
  refine lv_istore (lv' := [(4, .int 0), (3, .int 1), (0, .ref (ad 1)), (1, .int a1), (2, .ref (ad a2))]) hx hb dX8_tellersShare_3 hl (by decide) rfl (fun ls hl => ?_)
  have hw := hw (fun (b3_5 : Int32) (b4_5 : Int32) => ∀ (ls : Array Slot) (H : Heap) (locs : List Loc), lv_has ls 8 [(0, .ref (ad 1)), (1, .int a1), (2, .ref (ad a2)), (3, .int b3_5), (4, .int b4_5)] → okW D q A s (wX q ad h) H locs → W p l e R s m args below meth c H locs 0 0 Qm (F0 m 5 ls [])) (by
    intro b3_5 b4_5 hw ls H locs hl G
    refine lv_iload hx hb dX8_tellersShare_5 (lv_at hl 4 rfl) ?_
    refine lv_aload_n hx hb dX8_tellersShare_7 rfl (lv_at hl 0 rfl) ?_
    refine x_get (C := RX8) (T := TX8) (n := 12) S G inX8 (xe_9 kx_1) rfl 1 (by decide) kf_X8_22 rfl dX8_tellersShare_8 ?_
    refine x_get (C := RX5) (T := TX5) (n := 17) S G inX5 (xe_6 kx_3) rfl 3 (by decide) kf_X8_119 rfl dX8_tellersShare_11 ?_
    refine lv_icmp_ge (tgt := 94) hx hb dX8_tellersShare_14 (by decide) (fun c_14 => ?_) (fun c_14 => ?_)
    · have hw := hw.1 c_14
      refine lv_iload_n hx hb dX8_tellersShare_94 rfl (lv_at hl 3 rfl) ?_
      exact RT _ _ _ _ _ _ G ⟨rfl, hw⟩ dX8_tellersShare_95
    · have hw := hw.2 c_14
      refine lv_aload_n hx hb dX8_tellersShare_17 rfl (lv_at hl 0 rfl) ?_
      refine x_get (C := RX8) (T := TX8) (n := 12) S G inX8 (xe_9 kx_1) rfl 1 (by decide) kf_X8_22 rfl dX8_tellersShare_18 ?_
      refine x_get (C := RX5) (T := TX5) (n := 17) S G inX5 (xe_6 kx_3) rfl 14 (by decide) kf_X8_122 rfl dX8_tellersShare_21 ?_
      refine lv_iload hx hb dX8_tellersShare_24 (lv_at hl 4 rfl) ?_
      obtain ⟨i_26, hw⟩ := hw
      refine x_aald (k := b4_5.toNatClampNeg) S G 2 (xe_22 kx_28 lx_28) rfl rfl i_26 rfl (if_pos (vpl i_26)) dX8_tellersShare_26 ?_
      refine lv_astore (lv' := [(5, .ref (ad (28 + 1 + 1 * b4_5.toNatClampNeg))), (0, .ref (ad 1)), (1, .int a1), (2, .ref (ad a2)), (3, .int b3_5), (4, .int b4_5)]) hx hb dX8_tellersShare_27 hl (by decide) rfl (fun ls hl => ?_)
      refine lv_aload hx hb dX8_tellersShare_29 (lv_at hl 0 rfl) ?_
      refine lv_iconst (v := 1) hx hb dX8_tellersShare_31 (by decide) ?_
      refine x_iald (k := 1) S G (xe_20 (kxe_28 _ (vpl i_26)) (lxe_28 _ (vpl i_26))) (vpi (by decide)) rfl rfl dX8_tellersShare_32 ?_
      refine lv_iload_n hx hb dX8_tellersShare_33 rfl (lv_at hl 2 rfl) ?_
      have hw := hw (fun (b3_88 : Int32) => ∀ (ls : Array Slot) (H : Heap) (locs : List Loc), lv_has ls 8 [(0, .ref (ad 1)), (1, .int a1), (2, .ref (ad a2)), (3, .int b3_88), (4, .int b4_5)] → okW D q A s (wX q ad h) H locs → W p l e R s m args below meth c H locs 0 0 Qm (F0 m 88 ls [])) (by
        intro b3_88 hw ls H locs hl G
        obtain ⟨a4_88, ea4_88⟩ : ∃ y : Int32, y = b4_5 + 1 := ⟨_, rfl⟩
        have hw := hw a4_88 ea4_88
        refine lv_iinc (v := a4_88) (lv' := [(4, .int a4_88), (0, .ref (ad 1)), (1, .int a1), (2, .ref (ad a2)), (3, .int b3_88)]) hx hb dX8_tellersShare_88 hl (k := 4) rfl (by rw [ea4_88]; rfl) (by decide) rfl (fun ls hl => ?_)
        refine lv_goto (tgt := 5) hx hb dX8_tellersShare_91 (by decide) ?_
        exact hw _ _ _ (lv_sub hl [1, 2, 3, 4, 0] rfl) G)
      refine lv_icmp_ne (tgt := 88) hx hb dX8_tellersShare_34 (by decide) (fun c_34 => ?_) (fun c_34 => ?_)
      · have hw := hw.1 c_34
        exact hw _ _ _ (lv_sub hl [1, 2, 3, 4, 5] rfl) G
      · have hw := hw.2 c_34
        refine lv_aload_n hx hb dX8_tellersShare_37 rfl (lv_at hl 1 rfl) ?_
        refine x_get (C := RX8) (T := TX8) (n := 12) S G inX8 (xe_9 kx_1) rfl 1 (by decide) kf_X8_22 rfl dX8_tellersShare_38 ?_
        refine lv_iload hx hb dX8_tellersShare_41 (lv_at hl 5 rfl) ?_
        refine x_VzP S hl.1 G (c_State_isHeard l D q A ad b4_5 h _ hw) (cw_X8_125 S.2.2.2.2 ⟨Nat.le_trans (Nat.le_of_ble_eq_true rfl) hR1, Nat.le_trans (Nat.le_of_ble_eq_true rfl) hR2⟩) (xe_6 kx_3) rfl rfl rfl (Nat.le_of_ble_eq_true rfl) dX8_tellersShare_43 (fun r_43 H locs G z_43 hw => ?_)
        refine lv_if_eq (tgt := 88) hx hb dX8_tellersShare_46 (by decide) (fun c_46 => ?_) (fun c_46 => ?_)
        · have hw := hw.1 c_46
          exact hw _ _ _ (lv_sub hl [1, 2, 3, 4, 5] rfl) G
        · have hw := hw.2 c_46
          refine lv_aload hx hb dX8_tellersShare_49 (lv_at hl 0 rfl) ?_
          refine lv_iconst (v := 2) hx hb dX8_tellersShare_51 (by decide) ?_
          refine x_iald (k := 2) S G (xe_20 (kxe_28 _ (vpl i_26)) (lxe_28 _ (vpl i_26))) (vpi (by decide)) rfl rfl dX8_tellersShare_52 ?_
          refine lv_topi (fun a6_53 ea6_53 => ?_)
          have hw := hw a6_53 ea6_53
          refine lv_istore (lv' := [(6, .int a6_53), (5, .ref (ad (28 + 1 + 1 * b4_5.toNatClampNeg))), (0, .ref (ad 1)), (1, .int a1), (2, .ref (ad a2)), (3, .int b3_5), (4, .int b4_5)]) hx hb dX8_tellersShare_53 hl (by decide) rfl (fun ls hl => ?_)
          refine lv_aload_n hx hb dX8_tellersShare_55 rfl (lv_at hl 4 rfl) ?_
          refine x_get (C := RX6) (T := TX6) (n := 8) S G inX6 (xe_7 k2) rfl 0 (by decide) kf_X8_128 rfl dX8_tellersShare_56 ?_
          refine lv_iload hx hb dX8_tellersShare_59 (lv_at hl 0 rfl) ?_
          obtain ⟨i_61, hw⟩ := hw
          refine x_iald (k := a6_53.toNatClampNeg) S G (xe_20 ((kxr_7 _ (kX_lt k2) k2).1.1) ((kxr_7 _ (kX_lt k2) k2).1.2)) i_61 rfl rfl dX8_tellersShare_61 ?_
          refine lv_aload hx hb dX8_tellersShare_62 (lv_at hl 1 rfl) ?_
          refine lv_iconst (v := 3) hx hb dX8_tellersShare_64 (by decide) ?_
          refine x_iald (k := 3) S G (xe_20 (kxe_28 _ (vpl i_26)) (lxe_28 _ (vpl i_26))) (vpi (by decide)) rfl rfl dX8_tellersShare_65 ?_
          have hw := hw (fun (t0_74 : Int32) => ∀ (ls : Array Slot) (H : Heap) (locs : List Loc), lv_has ls 8 [(0, .ref (ad 1)), (1, .int a1), (2, .ref (ad a2)), (3, .int b3_5), (4, .int b4_5), (5, .ref (ad (28 + 1 + 1 * b4_5.toNatClampNeg)))] → okW D q A s (wX q ad h) H locs → W p l e R s m args below meth c H locs 0 0 Qm (F0 m 74 ls [.int t0_74])) (by
            intro t0_74 hw ls H locs hl G
            refine lv_istore (lv' := [(7, .int t0_74), (0, .ref (ad 1)), (1, .int a1), (2, .ref (ad a2)), (3, .int b3_5), (4, .int b4_5), (5, .ref (ad (28 + 1 + 1 * b4_5.toNatClampNeg)))]) hx hb dX8_tellersShare_74 hl (by decide) rfl (fun ls hl => ?_)
            refine lv_iload_n hx hb dX8_tellersShare_76 rfl (lv_at hl 4 rfl) ?_
            refine lv_iload hx hb dX8_tellersShare_77 (lv_at hl 0 rfl) ?_
            refine lv_aload hx hb dX8_tellersShare_79 (lv_at hl 6 rfl) ?_
            refine lv_iconst (v := 4) hx hb dX8_tellersShare_81 (by decide) ?_
            refine x_iald (k := 4) S G (xe_20 (kxe_28 _ (vpl i_26)) (lxe_28 _ (vpl i_26))) (vpi (by decide)) rfl rfl dX8_tellersShare_82 ?_
            refine x_SiP S hl.1 G (c_Worlds_of10 l D q A ad t0_74 (gi h (28 + 1 + 1 * b4_5.toNatClampNeg) 4) h _ hw) (cw_X8_133 S.2.2.2.2 ⟨Nat.le_trans (Nat.le_of_ble_eq_true rfl) hR1, Nat.le_trans (Nat.le_of_ble_eq_true rfl) hR2⟩) rfl rfl (Nat.le_of_ble_eq_true rfl) dX8_tellersShare_83 (fun r_83 H locs G hw => ?_)
            refine lv_imul hx hb dX8_tellersShare_86 ?_
            refine lv_topi (fun a3_87 ea3_87 => ?_)
            have hw := hw a3_87 ea3_87
            refine lv_istore_n (lv' := [(3, .int a3_87), (7, .int t0_74), (0, .ref (ad 1)), (1, .int a1), (2, .ref (ad a2)), (4, .int b4_5), (5, .ref (ad (28 + 1 + 1 * b4_5.toNatClampNeg)))]) hx hb dX8_tellersShare_87 rfl hl (by decide) rfl (fun ls hl => ?_)
            exact hw _ _ _ (lv_sub hl [2, 3, 4, 0, 5] rfl) G)
          refine lv_icmp_ne (tgt := 73) hx hb dX8_tellersShare_66 (by decide) (fun c_66 => ?_) (fun c_66 => ?_)
          · have hw := hw.1 c_66
            refine lv_iconst (v := 0) hx hb dX8_tellersShare_73 (by decide) ?_
            exact hw _ _ _ (lv_sub hl [2, 3, 4, 5, 6, 1] rfl) G
          · have hw := hw.2 c_66
            refine lv_iconst (v := 1) hx hb dX8_tellersShare_69 (by decide) ?_
            refine lv_goto (tgt := 74) hx hb dX8_tellersShare_70 (by decide) ?_
            exact hw _ _ _ (lv_sub hl [2, 3, 4, 5, 6, 1] rfl) G)
  exact hw _ _ _ (lv_sub hl [2, 3, 4, 1, 0] rfl) G
theorem cw_X8_111 {R : Room} {s : State} {args : Array Value} (hts : ∀ w ∈ gW, w.before args s = true) (hR : rm_Worlds_tellersShare.frames + 1 ≤ R.frames ∧ 8 + (8 + 11) + rm_Worlds_tellersShare.locals ≤ R.locals) : CallW R s args RX8 RX8 111 yX8_tellersShare cX8_tellersShare 8 (some .int) (mw yX8_tellersShare cX8_tellersShare 8 (some .int)) rm_Worlds_tellersShare 0 0 2 := cwV9 hts km_X8_111 ki_X8_tellersShare ks_X8_tellersShare kn_X8 kk_X8_tellersShare rfl rfl (by decide +kernel) hR
abbrev rm_Worlds_postShare : Room := { frames := 1, cells := 0, slots := 0, locals := 21 }
set_option maxHeartbeats 4000000 in
set_option maxRecDepth 100000 in
theorem c_Worlds_postShare (l : Launch) (D : va_G) (q : Nat → ClassId) (A : Nat → Prop) (ad : Nat → Nat) (a1 : Nat) (k1 : kX a1 = 7) (h : Hs) (Q : Int32 → Prop) (hw : p_Worlds_postShare a1 h Q) : Met l yX8_postShare (mw yX8_postShare cX8_postShare 4 (some .int)) rm_Worlds_postShare (va_Pc [.ref (ad 1), .ref (ad a1)] (pW D q A (wX q ad h))) (va_Qi (fun r h9 => h9 = h ∧ Q r) (fun h t => pW D q A (wX q ad h) t) A) 0 0 A := by
  refine met_i (Qp := (fun r h9 => h9 = h ∧ Q r)) (by decide) (Nat.le_of_ble_eq_true rfl) ?_
  intro p e R s m args below meth c Qm ls hR1 hR2 S RT hl G
  have hx := S.1
  have hb := S.2.1
  have hl : lv_has ls 4 [(0, .ref (ad 1)), (1, .ref (ad a1))] := hl
  unfold p_Worlds_postShare at hw
  refine lv_aload_n hx hb dX8_postShare_0 rfl (lv_at hl 0 rfl) ?_
  refine x_get (C := RX8) (T := TX8) (n := 12) S G inX8 (xe_9 kx_1) rfl 1 (by decide) kf_X8_22 rfl dX8_postShare_1 ?_
  refine x_get (C := RX5) (T := TX5) (n := 17) S G inX5 (xe_6 kx_3) rfl 13 (by decide) kf_X8_137 rfl dX8_postShare_4 ?_
  refine lv_iconst (v := 0) hx hb dX8_postShare_7 (by decide) ?_
  refine x_iald (k := 0) S G (xe_20 kx_27 lx_27) (vpi (by decide)) rfl rfl dX8_postShare_8 ?_
  refine lv_if_ne (tgt := 14) hx hb dX8_postShare_9 (by decide) (fun c_9 => ?_) (fun c_9 => ?_)
  · have hw := hw.1 c_9
    refine lv_aload_n hx hb dX8_postShare_14 rfl (lv_at hl 1 rfl) ?_
    refine x_get (C := RX6) (T := TX6) (n := 8) S G inX6 (xe_7 k1) rfl 3 (by decide) kf_X8_140 rfl dX8_postShare_15 ?_
    refine lv_aload_n hx hb dX8_postShare_18 rfl (lv_at hl 0 rfl) ?_
    refine x_get (C := RX8) (T := TX8) (n := 12) S G inX8 (xe_9 kx_1) rfl 1 (by decide) kf_X8_22 rfl dX8_postShare_19 ?_
    refine x_get (C := RX5) (T := TX5) (n := 17) S G inX5 (xe_6 kx_3) rfl 13 (by decide) kf_X8_137 rfl dX8_postShare_22 ?_
    refine lv_iconst (v := 1) hx hb dX8_postShare_25 (by decide) ?_
    refine x_iald (k := 1) S G (xe_20 kx_27 lx_27) (vpi (by decide)) rfl rfl dX8_postShare_26 ?_
    have hw := hw (fun (t0_35 : Int32) => ∀ (ls : Array Slot) (H : Heap) (locs : List Loc), lv_has ls 4 [(0, .ref (ad 1)), (1, .ref (ad a1))] → okW D q A s (wX q ad h) H locs → W p l e R s m args below meth c H locs 0 0 Qm (F0 m 35 ls [.int t0_35])) (by
      intro t0_35 hw ls H locs hl G
      refine lv_istore_n (lv' := [(2, .int t0_35), (0, .ref (ad 1)), (1, .ref (ad a1))]) hx hb dX8_postShare_35 rfl hl (by decide) rfl (fun ls hl => ?_)
      refine lv_aload_n hx hb dX8_postShare_36 rfl (lv_at hl 2 rfl) ?_
      refine x_get (C := RX6) (T := TX6) (n := 8) S G inX6 (xe_7 k1) rfl 4 (by decide) kf_X8_143 rfl dX8_postShare_37 ?_
      refine lv_aload_n hx hb dX8_postShare_40 rfl (lv_at hl 1 rfl) ?_
      refine x_get (C := RX8) (T := TX8) (n := 12) S G inX8 (xe_9 kx_1) rfl 1 (by decide) kf_X8_22 rfl dX8_postShare_41 ?_
      refine x_get (C := RX5) (T := TX5) (n := 17) S G inX5 (xe_6 kx_3) rfl 13 (by decide) kf_X8_137 rfl dX8_postShare_44 ?_
      refine lv_iconst (v := 2) hx hb dX8_postShare_47 (by decide) ?_
      refine x_iald (k := 2) S G (xe_20 kx_27 lx_27) (vpi (by decide)) rfl rfl dX8_postShare_48 ?_
      refine lv_iconst (v := 1) hx hb dX8_postShare_49 (by decide) ?_
      have hw := hw (fun (t1_58 : Int32) => ∀ (ls : Array Slot) (H : Heap) (locs : List Loc), lv_has ls 4 [(0, .ref (ad 1)), (2, .int t0_35)] → okW D q A s (wX q ad h) H locs → W p l e R s m args below meth c H locs 0 0 Qm (F0 m 58 ls [.int t1_58, .int (gi h a1 4)])) (by
        intro t1_58 hw ls H locs hl G
        have hw := hw (fun (t0_66 : Int32) => ∀ (ls : Array Slot) (H : Heap) (locs : List Loc), lv_has ls 4 [(0, .ref (ad 1)), (2, .int t0_35)] → okW D q A s (wX q ad h) H locs → W p l e R s m args below meth c H locs 0 0 Qm (F0 m 66 ls [.int t0_66])) (by
          intro t0_66 hw ls H locs hl G
          refine lv_istore_n (lv' := [(3, .int t0_66), (0, .ref (ad 1)), (2, .int t0_35)]) hx hb dX8_postShare_66 rfl hl (by decide) rfl (fun ls hl => ?_)
          refine lv_iload_n hx hb dX8_postShare_67 rfl (lv_at hl 2 rfl) ?_
          refine lv_aload_n hx hb dX8_postShare_68 rfl (lv_at hl 1 rfl) ?_
          refine x_get (C := RX8) (T := TX8) (n := 12) S G inX8 (xe_9 kx_1) rfl 1 (by decide) kf_X8_22 rfl dX8_postShare_69 ?_
          refine x_get (C := RX5) (T := TX5) (n := 17) S G inX5 (xe_6 kx_3) rfl 7 (by decide) kf_X8_74 rfl dX8_postShare_72 ?_
          refine lv_iconst (v := 1) hx hb dX8_postShare_75 (by decide) ?_
          refine x_iald (k := 1) S G (xe_20 kx_7 lx_7) (vpi (by decide)) rfl rfl dX8_postShare_76 ?_
          refine x_SiP S hl.1 G (c_Worlds_of10 l D q A ad t0_35 (gi h 7 1) h _ hw) (cw_X8_133 S.2.2.2.2 ⟨Nat.le_trans (Nat.le_of_ble_eq_true rfl) hR1, Nat.le_trans (Nat.le_of_ble_eq_true rfl) hR2⟩) rfl rfl (Nat.le_of_ble_eq_true rfl) dX8_postShare_77 (fun r_77 H locs G hw => ?_)
          refine lv_iload_n hx hb dX8_postShare_80 rfl (lv_at hl 0 rfl) ?_
          refine lv_aload_n hx hb dX8_postShare_81 rfl (lv_at hl 1 rfl) ?_
          refine x_get (C := RX8) (T := TX8) (n := 12) S G inX8 (xe_9 kx_1) rfl 1 (by decide) kf_X8_22 rfl dX8_postShare_82 ?_
          refine x_get (C := RX5) (T := TX5) (n := 17) S G inX5 (xe_6 kx_3) rfl 7 (by decide) kf_X8_74 rfl dX8_postShare_85 ?_
          refine lv_iconst (v := 1) hx hb dX8_postShare_88 (by decide) ?_
          refine x_iald (k := 1) S G (xe_20 kx_7 lx_7) (vpi (by decide)) rfl rfl dX8_postShare_89 ?_
          refine x_SiP S hl.1 G (c_Worlds_of10 l D q A ad t0_66 (gi h 7 1) h _ hw) (cw_X8_133 S.2.2.2.2 ⟨Nat.le_trans (Nat.le_of_ble_eq_true rfl) hR1, Nat.le_trans (Nat.le_of_ble_eq_true rfl) hR2⟩) rfl rfl (Nat.le_of_ble_eq_true rfl) dX8_postShare_90 (fun r_90 H locs G hw => ?_)
          refine lv_imul hx hb dX8_postShare_93 ?_
          exact RT _ _ _ _ _ _ G ⟨rfl, hw⟩ dX8_postShare_94)
        refine lv_icmp_ne (tgt := 65) hx hb dX8_postShare_58 (by decide) (fun c_58 => ?_) (fun c_58 => ?_)
        · have hw := hw.1 c_58
          refine lv_iconst (v := 0) hx hb dX8_postShare_65 (by decide) ?_
          exact hw _ _ _ (lv_sub hl [0, 1] rfl) G
        · have hw := hw.2 c_58
          refine lv_iconst (v := 1) hx hb dX8_postShare_61 (by decide) ?_
          refine lv_goto (tgt := 66) hx hb dX8_postShare_62 (by decide) ?_
          exact hw _ _ _ (lv_sub hl [0, 1] rfl) G)
      refine lv_icmp_ne (tgt := 57) hx hb dX8_postShare_50 (by decide) (fun c_50 => ?_) (fun c_50 => ?_)
      · have hw := hw.1 c_50
        refine lv_iconst (v := 0) hx hb dX8_postShare_57 (by decide) ?_
        exact hw _ _ _ (lv_sub hl [1, 0] rfl) G
      · have hw := hw.2 c_50
        refine lv_iconst (v := 1) hx hb dX8_postShare_53 (by decide) ?_
        refine lv_goto (tgt := 58) hx hb dX8_postShare_54 (by decide) ?_
        exact hw _ _ _ (lv_sub hl [1, 0] rfl) G)
    refine lv_icmp_ne (tgt := 34) hx hb dX8_postShare_27 (by decide) (fun c_27 => ?_) (fun c_27 => ?_)
    · have hw := hw.1 c_27
      refine lv_iconst (v := 0) hx hb dX8_postShare_34 (by decide) ?_
      exact hw _ _ _ (lv_sub hl [0, 1] rfl) G
    · have hw := hw.2 c_27
      refine lv_iconst (v := 1) hx hb dX8_postShare_30 (by decide) ?_
      refine lv_goto (tgt := 35) hx hb dX8_postShare_31 (by decide) ?_
      exact hw _ _ _ (lv_sub hl [0, 1] rfl) G
  · have hw := hw.2 c_9
    refine lv_iconst (v := 1) hx hb dX8_postShare_12 (by decide) ?_
    exact RT _ _ _ _ _ _ G ⟨rfl, hw⟩ dX8_postShare_13
theorem cw_X8_115 {R : Room} {s : State} {args : Array Value} (hts : ∀ w ∈ gW, w.before args s = true) (hR : rm_Worlds_postShare.frames + 1 ≤ R.frames ∧ 8 + (4 + 11) + rm_Worlds_postShare.locals ≤ R.locals) : CallW R s args RX8 RX8 115 yX8_postShare cX8_postShare 4 (some .int) (mw yX8_postShare cX8_postShare 4 (some .int)) rm_Worlds_postShare 0 0 1 := cwV9 hts km_X8_115 ki_X8_postShare ks_X8_postShare kn_X8 kk_X8_postShare rfl rfl (by decide +kernel) hR
abbrev rm_Worlds_shareOut : Room := { frames := 2, cells := 0, slots := 0, locals := 49 }
set_option maxHeartbeats 4000000 in
set_option maxRecDepth 100000 in
theorem c_Worlds_shareOut (l : Launch) (D : va_G) (q : Nat → ClassId) (A : Nat → Prop) (ad : Nat → Nat) (h : Hs) (Q : Hs → Prop) (hw : p_Worlds_shareOut h Q) : Met l yX8_shareOut (mw yX8_shareOut cX8_shareOut 4 none) rm_Worlds_shareOut (va_Pc [.ref (ad 1)] (pW D q A (wX q ad h))) (va_Qv Q (fun h t => pW D q A (wX q ad h) t) A) 0 0 A := by
  refine met_v (Qp := Q) (by decide) (Nat.le_of_ble_eq_true rfl) ?_
  intro p e R s m args below meth c Qm ls hR1 hR2 S RT hl G
  have hx := S.1
  have hb := S.2.1
  have hl : lv_has ls 4 [(0, .ref (ad 1))] := hl
  unfold p_Worlds_shareOut at hw
  refine lv_iconst (v := 0) hx hb dX8_shareOut_0 (by decide) ?_
  refine lv_istore_n (lv' := [(1, .int 0), (0, .ref (ad 1))]) hx hb dX8_shareOut_1 rfl hl (by decide) rfl (fun ls hl => ?_)
  have hw := hw (fun (b1_2 : Int32) (g_2 : Hs) => ∀ (ls : Array Slot) (H : Heap) (locs : List Loc), lv_has ls 4 [(0, .ref (ad 1)), (1, .int b1_2)] → okW D q A s (wX q ad g_2) H locs → W p l e R s m args below meth c H locs 0 0 Qm (F0 m 2 ls [])) (by
    intro b1_2 g_2 hw ls H locs hl G
    refine lv_iload_n hx hb dX8_shareOut_2 rfl (lv_at hl 1 rfl) ?_
    refine lv_aload_n hx hb dX8_shareOut_3 rfl (lv_at hl 0 rfl) ?_
    refine x_get (C := RX8) (T := TX8) (n := 12) S G inX8 (xe_9 kx_1) rfl 1 (by decide) kf_X8_22 rfl dX8_shareOut_4 ?_
    refine x_get (C := RX5) (T := TX5) (n := 17) S G inX5 (xe_6 kx_3) rfl 1 (by decide) kf_X8_87 rfl dX8_shareOut_7 ?_
    refine lv_icmp_ge (tgt := 88) hx hb dX8_shareOut_10 (by decide) (fun c_10 => ?_) (fun c_10 => ?_)
    · have hw := hw.1 c_10
      exact RT _ _ _ _ _ G hw dX8_shareOut_88
    · have hw := hw.2 c_10
      refine lv_iconst (v := 0) hx hb dX8_shareOut_13 (by decide) ?_
      refine lv_istore_n (lv' := [(2, .int 0), (0, .ref (ad 1)), (1, .int b1_2)]) hx hb dX8_shareOut_14 rfl hl (by decide) rfl (fun ls hl => ?_)
      have hw := hw (fun (b2_15 : Int32) (g_15 : Hs) => ∀ (ls : Array Slot) (H : Heap) (locs : List Loc), lv_has ls 4 [(0, .ref (ad 1)), (1, .int b1_2), (2, .int b2_15)] → okW D q A s (wX q ad g_15) H locs → W p l e R s m args below meth c H locs 0 0 Qm (F0 m 15 ls [])) (by
        intro b2_15 g_15 hw ls H locs hl G
        refine lv_iload_n hx hb dX8_shareOut_15 rfl (lv_at hl 2 rfl) ?_
        refine lv_iconst (v := 4) hx hb dX8_shareOut_16 (by decide) ?_
        refine lv_icmp_ge (tgt := 82) hx hb dX8_shareOut_17 (by decide) (fun c_17 => ?_) (fun c_17 => ?_)
        · have hw := hw.1 c_17
          obtain ⟨a1_82, ea1_82⟩ : ∃ y : Int32, y = b1_2 + 1 := ⟨_, rfl⟩
          have hw := hw a1_82 ea1_82
          refine lv_iinc (v := a1_82) (lv' := [(1, .int a1_82), (0, .ref (ad 1)), (2, .int b2_15)]) hx hb dX8_shareOut_82 hl (k := 1) rfl (by rw [ea1_82]; rfl) (by decide) rfl (fun ls hl => ?_)
          refine lv_goto (tgt := 2) hx hb dX8_shareOut_85 (by decide) ?_
          exact hw _ _ _ (lv_sub hl [1, 0] rfl) G
        · have hw := hw.2 c_17
          refine lv_aload_n hx hb dX8_shareOut_20 rfl (lv_at hl 0 rfl) ?_
          refine x_get (C := RX8) (T := TX8) (n := 12) S G inX8 (xe_9 kx_1) rfl 1 (by decide) kf_X8_22 rfl dX8_shareOut_21 ?_
          refine x_get (C := RX5) (T := TX5) (n := 17) S G inX5 (xe_6 kx_3) rfl 9 (by decide) kf_X8_104 rfl dX8_shareOut_24 ?_
          refine lv_iload_n hx hb dX8_shareOut_27 rfl (lv_at hl 2 rfl) ?_
          obtain ⟨i_28, hw⟩ := hw
          refine x_iald (k := b2_15.toNatClampNeg) S G (xe_20 kx_13 lx_13) i_28 rfl rfl dX8_shareOut_28 ?_
          refine lv_aload_n hx hb dX8_shareOut_29 rfl (lv_at hl 0 rfl) ?_
          refine lv_iload_n hx hb dX8_shareOut_30 rfl (lv_at hl 1 rfl) ?_
          refine lv_aload_n hx hb dX8_shareOut_31 rfl (lv_at hl 0 rfl) ?_
          refine x_get (C := RX8) (T := TX8) (n := 12) S G inX8 (xe_9 kx_1) rfl 0 (by decide) kf_X8_12 rfl dX8_shareOut_32 ?_
          refine x_get (C := RX3) (T := TX3) (n := 10) S G inX3 (xe_4 kx_2) rfl 2 (by decide) kf_X8_107 rfl dX8_shareOut_35 ?_
          refine lv_iload_n hx hb dX8_shareOut_38 rfl (lv_at hl 2 rfl) ?_
          obtain ⟨i_39, hw⟩ := hw
          refine x_aald (k := b2_15.toNatClampNeg) S G 4 (xe_24 kx_47 lx_47 rfl) rfl rfl i_39 rfl (if_pos (vpl i_39)) dX8_shareOut_39 ?_
          refine x_ViP S hl.1 G (c_Worlds_tellersShare l D q A ad b1_2 (59 + 3 * b2_15.toNatClampNeg) (kxe_47 _ (vpl i_39)) g_15 _ hw) (cw_X8_111 S.2.2.2.2 ⟨Nat.le_trans (Nat.le_of_ble_eq_true rfl) hR1, Nat.le_trans (Nat.le_of_ble_eq_true rfl) hR2⟩) (xe_9 kx_1) rfl rfl rfl (Nat.le_of_ble_eq_true rfl) dX8_shareOut_40 (fun r_40 H locs G hw => ?_)
          refine lv_imul hx hb dX8_shareOut_43 ?_
          refine lv_topi (fun a3_44 ea3_44 => ?_)
          have hw := hw a3_44 ea3_44
          refine lv_istore_n (lv' := [(3, .int a3_44), (0, .ref (ad 1)), (1, .int b1_2), (2, .int b2_15)]) hx hb dX8_shareOut_44 rfl hl (by decide) rfl (fun ls hl => ?_)
          refine lv_aload_n hx hb dX8_shareOut_45 rfl (lv_at hl 1 rfl) ?_
          refine x_get (C := RX8) (T := TX8) (n := 12) S G inX8 (xe_9 kx_1) rfl 3 (by decide) kf_X8_32 rfl dX8_shareOut_46 ?_
          refine lv_iload_n hx hb dX8_shareOut_49 rfl (lv_at hl 2 rfl) ?_
          obtain ⟨i_50, hw⟩ := hw
          refine x_aald (k := b1_2.toNatClampNeg) S G 2 (xe_22 kx_349 lx_349) rfl rfl i_50 rfl (if_pos (vpl i_50)) dX8_shareOut_50 ?_
          refine lv_iload_n hx hb dX8_shareOut_51 rfl (lv_at hl 3 rfl) ?_
          refine lv_iload_n hx hb dX8_shareOut_52 rfl (lv_at hl 2 rfl) ?_
          have hw := hw (fun (t2_75 : Int32) => ∀ (ls : Array Slot) (H : Heap) (locs : List Loc), lv_has ls 4 [(0, .ref (ad 1)), (1, .int b1_2), (2, .int b2_15)] → okW D q A s (wX q ad g_15) H locs → W p l e R s m args below meth c H locs 0 0 Qm (F0 m 75 ls [.int t2_75, .int b2_15, .ref (ad (349 + 1 + 1 * b1_2.toNatClampNeg))])) (by
            intro t2_75 hw ls H locs hl G
            obtain ⟨i_75, hw⟩ := hw
            refine x_iast (k := b2_15.toNatClampNeg) S G (xe_20 (kxe_349 _ (vpl i_50)) (lxe_349 _ (vpl i_50))) i_75 rfl (xs_20 (kxe_349 _ (vpl i_50)) (lxe_349 _ (vpl i_50))) dX8_shareOut_75 (fun H locs G => ?_)
            obtain ⟨h_75, eh_75⟩ : ∃ y : Hs, y = si g_15 (349 + 1 + 1 * b1_2.toNatClampNeg) b2_15.toNatClampNeg t2_75 := ⟨_, rfl⟩
            rw [← eh_75] at G
            have hw := hw h_75 eh_75
            obtain ⟨a2_76, ea2_76⟩ : ∃ y : Int32, y = b2_15 + 1 := ⟨_, rfl⟩
            have hw := hw a2_76 ea2_76
            refine lv_iinc (v := a2_76) (lv' := [(2, .int a2_76), (0, .ref (ad 1)), (1, .int b1_2)]) hx hb dX8_shareOut_76 hl (k := 2) rfl (by rw [ea2_76]; rfl) (by decide) rfl (fun ls hl => ?_)
            refine lv_goto (tgt := 15) hx hb dX8_shareOut_79 (by decide) ?_
            exact hw _ _ _ (lv_sub hl [1, 2, 0] rfl) G)
          refine lv_if_ne (tgt := 74) hx hb dX8_shareOut_53 (by decide) (fun c_53 => ?_) (fun c_53 => ?_)
          · have hw := hw.1 c_53
            refine lv_iload_n hx hb dX8_shareOut_74 rfl (lv_at hl 0 rfl) ?_
            exact hw _ _ _ (lv_sub hl [1, 2, 3] rfl) G
          · have hw := hw.2 c_53
            refine lv_iload_n hx hb dX8_shareOut_56 rfl (lv_at hl 0 rfl) ?_
            refine lv_aload_n hx hb dX8_shareOut_57 rfl (lv_at hl 1 rfl) ?_
            refine lv_aload_n hx hb dX8_shareOut_58 rfl (lv_at hl 1 rfl) ?_
            refine x_get (C := RX8) (T := TX8) (n := 12) S G inX8 (xe_9 kx_1) rfl 0 (by decide) kf_X8_12 rfl dX8_shareOut_59 ?_
            refine x_get (C := RX3) (T := TX3) (n := 10) S G inX3 (xe_4 kx_2) rfl 2 (by decide) kf_X8_107 rfl dX8_shareOut_62 ?_
            refine lv_iload_n hx hb dX8_shareOut_65 rfl (lv_at hl 3 rfl) ?_
            obtain ⟨i_66, hw⟩ := hw
            refine x_aald (k := b2_15.toNatClampNeg) S G 4 (xe_24 kx_47 lx_47 rfl) rfl rfl i_66 rfl (if_pos (vpl i_66)) dX8_shareOut_66 ?_
            refine x_ViP S hl.1 G (c_Worlds_postShare l D q A ad (59 + 3 * b2_15.toNatClampNeg) (kxe_47 _ (vpl i_66)) g_15 _ hw) (cw_X8_115 S.2.2.2.2 ⟨Nat.le_trans (Nat.le_of_ble_eq_true rfl) hR1, Nat.le_trans (Nat.le_of_ble_eq_true rfl) hR2⟩) (xe_9 kx_1) rfl rfl rfl (Nat.le_of_ble_eq_true rfl) dX8_shareOut_67 (fun r_67 H locs G hw => ?_)
            refine lv_imul hx hb dX8_shareOut_70 ?_
            refine lv_goto (tgt := 75) hx hb dX8_shareOut_71 (by decide) ?_
            exact hw _ _ _ (lv_sub hl [1, 2, 3] rfl) G)
      exact hw _ _ _ (lv_sub hl [1, 2, 0] rfl) G)
  exact hw _ _ _ (lv_sub hl [1, 0] rfl) G
theorem cw_X8_67 {R : Room} {s : State} {args : Array Value} (hts : ∀ w ∈ gW, w.before args s = true) (hR : rm_Worlds_shareOut.frames + 1 ≤ R.frames ∧ 8 + (4 + 11) + rm_Worlds_shareOut.locals ≤ R.locals) : CallW R s args RX8 RX8 67 yX8_shareOut cX8_shareOut 4 none (mw yX8_shareOut cX8_shareOut 4 none) rm_Worlds_shareOut 0 0 0 := cwV9 hts km_X8_67 ki_X8_shareOut ks_X8_shareOut kn_X8 kk_X8_shareOut rfl rfl (by decide +kernel) hR
abbrev rm_Worlds_weigh : Room := { frames := 3, cells := 0, slots := 0, locals := 70 }
set_option maxHeartbeats 4000000 in
set_option maxRecDepth 100000 in
theorem c_Worlds_weigh (l : Launch) (D : va_G) (q : Nat → ClassId) (A : Nat → Prop) (ad : Nat → Nat) (h : Hs) (Q : Hs → Prop) (hw : p_Worlds_weigh h Q) : Met l yX8_weigh (mw yX8_weigh cX8_weigh 5 none) rm_Worlds_weigh (va_Pc [.ref (ad 1)] (pW D q A (wX q ad h))) (va_Qv Q (fun h t => pW D q A (wX q ad h) t) A) 0 0 A := by
  refine met_v (Qp := Q) (by decide) (Nat.le_of_ble_eq_true rfl) ?_
  intro p e R s m args below meth c Qm ls hR1 hR2 S RT hl G
  have hx := S.1
  have hb := S.2.1
  have hl : lv_has ls 5 [(0, .ref (ad 1))] := hl
  unfold p_Worlds_weigh at hw
  refine lv_aload_n hx hb dX8_weigh_0 rfl (lv_at hl 0 rfl) ?_
  refine x_get (C := RX8) (T := TX8) (n := 12) S G inX8 (xe_9 kx_1) rfl 6 (by decide) kf_X8_48 rfl dX8_weigh_1 ?_
  obtain ⟨kz_1, hw⟩ := hw
  refine lv_lconst (v := 1) hx hb dX8_weigh_4 (by decide) ?_
  refine x_Vv S hl.1 G (c_Big_become l D q A ad (gr h 1 6) 1 kz_1 h _ hw) (cw_X8_100 S.2.2.2.2 ⟨Nat.le_trans (Nat.le_of_ble_eq_true rfl) hR1, Nat.le_trans (Nat.le_of_ble_eq_true rfl) hR2⟩) (xe_1 kz_1) rfl rfl rfl (Nat.le_of_ble_eq_true rfl) dX8_weigh_5 (fun h_5 H locs G hw => ?_)
  refine lv_iconst (v := 0) hx hb dX8_weigh_8 (by decide) ?_
  refine lv_istore_n (lv' := [(1, .int 0), (0, .ref (ad 1))]) hx hb dX8_weigh_9 rfl hl (by decide) rfl (fun ls hl => ?_)
  have hw := hw (fun (b1_10 : Int32) (g_10 : Hs) => ∀ (ls : Array Slot) (H : Heap) (locs : List Loc), lv_has ls 5 [(0, .ref (ad 1)), (1, .int b1_10)] → okW D q A s (wX q ad g_10) H locs → W p l e R s m args below meth c H locs 0 0 Qm (F0 m 10 ls [])) (by
    intro b1_10 g_10 hw ls H locs hl G
    refine lv_iload_n hx hb dX8_weigh_10 rfl (lv_at hl 1 rfl) ?_
    refine lv_aload_n hx hb dX8_weigh_11 rfl (lv_at hl 0 rfl) ?_
    refine x_get (C := RX8) (T := TX8) (n := 12) S G inX8 (xe_9 kx_1) rfl 1 (by decide) kf_X8_22 rfl dX8_weigh_12 ?_
    refine x_get (C := RX5) (T := TX5) (n := 17) S G inX5 (xe_6 kx_3) rfl 1 (by decide) kf_X8_87 rfl dX8_weigh_15 ?_
    refine lv_icmp_ge (tgt := 50) hx hb dX8_weigh_18 (by decide) (fun c_18 => ?_) (fun c_18 => ?_)
    · have hw := hw.1 c_18
      refine lv_iconst (v := 0) hx hb dX8_weigh_50 (by decide) ?_
      refine lv_istore_n (lv' := [(1, .int 0), (0, .ref (ad 1))]) hx hb dX8_weigh_51 rfl hl (by decide) rfl (fun ls hl => ?_)
      have hw := hw (fun (b1_52 : Int32) (g_52 : Hs) => ∀ (ls : Array Slot) (H : Heap) (locs : List Loc), lv_has ls 5 [(0, .ref (ad 1)), (1, .int b1_52)] → okW D q A s (wX q ad g_52) H locs → W p l e R s m args below meth c H locs 0 0 Qm (F0 m 52 ls [])) (by
        intro b1_52 g_52 hw ls H locs hl G
        refine lv_iload_n hx hb dX8_weigh_52 rfl (lv_at hl 1 rfl) ?_
        refine lv_aload_n hx hb dX8_weigh_53 rfl (lv_at hl 0 rfl) ?_
        refine x_get (C := RX8) (T := TX8) (n := 12) S G inX8 (xe_9 kx_1) rfl 1 (by decide) kf_X8_22 rfl dX8_weigh_54 ?_
        refine x_get (C := RX5) (T := TX5) (n := 17) S G inX5 (xe_6 kx_3) rfl 2 (by decide) kf_X8_152 rfl dX8_weigh_57 ?_
        have hw := hw (∀ (ls : Array Slot) (H : Heap) (locs : List Loc), lv_has ls 5 [(0, .ref (ad 1))] → okW D q A s (wX q ad g_52) H locs → W p l e R s m args below meth c H locs 0 0 Qm (F0 m 143 ls [])) (by
          intro hw ls H locs hl G
          refine lv_aload_n hx hb dX8_weigh_143 rfl (lv_at hl 0 rfl) ?_
          refine x_get (C := RX8) (T := TX8) (n := 12) S G inX8 (xe_9 kx_1) rfl 8 (by decide) kf_X8_84 rfl dX8_weigh_144 ?_
          have hw := hw (fun (g_200 : Hs) => ∀ (ls : Array Slot) (H : Heap) (locs : List Loc), lv_has ls 5 [] → okW D q A s (wX q ad g_200) H locs → W p l e R s m args below meth c H locs 0 0 Qm (F0 m 200 ls [])) (by
            intro g_200 hw ls H locs hl G
            exact RT _ _ _ _ _ G hw dX8_weigh_200)
          refine lv_if_le (tgt := 200) hx hb dX8_weigh_147 (by decide) (fun c_147 => ?_) (fun c_147 => ?_)
          · have hw := hw.1 c_147
            exact hw _ _ _ (lv_sub hl [] rfl) G
          · have hw := hw.2 c_147
            refine lv_aload_n hx hb dX8_weigh_150 rfl (lv_at hl 0 rfl) ?_
            refine x_get (C := RX8) (T := TX8) (n := 12) S G inX8 (xe_9 kx_1) rfl 6 (by decide) kf_X8_48 rfl dX8_weigh_151 ?_
            obtain ⟨kz_151, hw⟩ := hw
            refine x_VzP S hl.1 G (c_Big_isZero l D q A ad (gr g_52 1 6) kz_151 g_52 _ hw) (cw_X8_155 S.2.2.2.2 ⟨Nat.le_trans (Nat.le_of_ble_eq_true rfl) hR1, Nat.le_trans (Nat.le_of_ble_eq_true rfl) hR2⟩) (xe_1 kz_151) rfl rfl rfl (Nat.le_of_ble_eq_true rfl) dX8_weigh_154 (fun r_154 H locs G z_154 hw => ?_)
            refine lv_if_ne (tgt := 200) hx hb dX8_weigh_157 (by decide) (fun c_157 => ?_) (fun c_157 => ?_)
            · have hw := hw.1 c_157
              exact hw _ _ _ (lv_sub hl [] rfl) G
            · have hw := hw.2 c_157
              refine lv_aload_n hx hb dX8_weigh_160 rfl (lv_at hl 0 rfl) ?_
              refine x_get (C := RX8) (T := TX8) (n := 12) S G inX8 (xe_9 kx_1) rfl 0 (by decide) kf_X8_12 rfl dX8_weigh_161 ?_
              refine x_Vi S hl.1 G (c_Lives_hungerYears l D q A ad g_52 _ hw) (cw_X8_174 S.2.2.2.2 ⟨Nat.le_trans (Nat.le_of_ble_eq_true rfl) hR1, Nat.le_trans (Nat.le_of_ble_eq_true rfl) hR2⟩) (xe_4 kx_2) rfl rfl rfl (Nat.le_of_ble_eq_true rfl) dX8_weigh_164 (fun r_164 h_164 H locs G hw => ?_)
              refine lv_istore_n (lv' := [(1, .int r_164), (0, .ref (ad 1))]) hx hb dX8_weigh_167 rfl hl (by decide) rfl (fun ls hl => ?_)
              refine lv_aload_n hx hb dX8_weigh_168 rfl (lv_at hl 1 rfl) ?_
              refine x_get (C := RX8) (T := TX8) (n := 12) S G inX8 (xe_9 kx_1) rfl 6 (by decide) kf_X8_48 rfl dX8_weigh_169 ?_
              obtain ⟨kz_169, hw⟩ := hw
              refine lv_aload_n hx hb dX8_weigh_172 rfl (lv_at hl 1 rfl) ?_
              refine x_get (C := RX8) (T := TX8) (n := 12) S G inX8 (xe_9 kx_1) rfl 1 (by decide) kf_X8_22 rfl dX8_weigh_173 ?_
              refine x_get (C := RX5) (T := TX5) (n := 17) S G inX5 (xe_6 kx_3) rfl 7 (by decide) kf_X8_74 rfl dX8_weigh_176 ?_
              refine lv_iconst (v := 0) hx hb dX8_weigh_179 (by decide) ?_
              refine x_iald (k := 0) S G (xe_20 kx_7 lx_7) (vpi (by decide)) rfl rfl dX8_weigh_180 ?_
              refine lv_iload_n hx hb dX8_weigh_181 rfl (lv_at hl 0 rfl) ?_
              refine x_Vv S hl.1 G (c_Big_timesPower l D q A ad (gr h_164 1 6) (gi h_164 7 0) r_164 kz_169 h_164 _ hw) (cw_X8_177 S.2.2.2.2 ⟨Nat.le_trans (Nat.le_of_ble_eq_true rfl) hR1, Nat.le_trans (Nat.le_of_ble_eq_true rfl) hR2⟩) (xe_1 kz_169) rfl rfl rfl (Nat.le_of_ble_eq_true rfl) dX8_weigh_182 (fun h_182 H locs G hw => ?_)
              refine lv_aload_n hx hb dX8_weigh_185 rfl (lv_at hl 1 rfl) ?_
              refine x_get (C := RX8) (T := TX8) (n := 12) S G inX8 (xe_9 kx_1) rfl 6 (by decide) kf_X8_48 rfl dX8_weigh_186 ?_
              obtain ⟨kz_186, hw⟩ := hw
              refine lv_bipush (v := 9) hx hb dX8_weigh_189 (by decide) ?_
              refine lv_aload_n hx hb dX8_weigh_191 rfl (lv_at hl 1 rfl) ?_
              refine x_get (C := RX8) (T := TX8) (n := 12) S G inX8 (xe_9 kx_1) rfl 8 (by decide) kf_X8_84 rfl dX8_weigh_192 ?_
              refine lv_iload_n hx hb dX8_weigh_195 rfl (lv_at hl 0 rfl) ?_
              refine lv_isub hx hb dX8_weigh_196 ?_
              refine x_Vv S hl.1 G (c_Big_timesPower l D q A ad (gr h_182 1 6) 9 ((gi h_182 1 8) - r_164) kz_186 h_182 _ hw) (cw_X8_177 S.2.2.2.2 ⟨Nat.le_trans (Nat.le_of_ble_eq_true rfl) hR1, Nat.le_trans (Nat.le_of_ble_eq_true rfl) hR2⟩) (xe_1 kz_186) rfl rfl rfl (Nat.le_of_ble_eq_true rfl) dX8_weigh_197 (fun h_197 H locs G hw => ?_)
              exact hw _ _ _ (lv_sub hl [] rfl) G)
        refine lv_icmp_ge (tgt := 143) hx hb dX8_weigh_60 (by decide) (fun c_60 => ?_) (fun c_60 => ?_)
        · have hw := hw.1 c_60
          exact hw _ _ _ (lv_sub hl [0] rfl) G
        · have hw := hw.2 c_60
          refine lv_aload_n hx hb dX8_weigh_63 rfl (lv_at hl 0 rfl) ?_
          refine x_get (C := RX8) (T := TX8) (n := 12) S G inX8 (xe_9 kx_1) rfl 6 (by decide) kf_X8_48 rfl dX8_weigh_64 ?_
          obtain ⟨kz_64, hw⟩ := hw
          refine x_VzP S hl.1 G (c_Big_isZero l D q A ad (gr g_52 1 6) kz_64 g_52 _ hw) (cw_X8_155 S.2.2.2.2 ⟨Nat.le_trans (Nat.le_of_ble_eq_true rfl) hR1, Nat.le_trans (Nat.le_of_ble_eq_true rfl) hR2⟩) (xe_1 kz_64) rfl rfl rfl (Nat.le_of_ble_eq_true rfl) dX8_weigh_67 (fun r_67 H locs G z_67 hw => ?_)
          refine lv_if_ne (tgt := 143) hx hb dX8_weigh_70 (by decide) (fun c_70 => ?_) (fun c_70 => ?_)
          · have hw := hw.1 c_70
            exact hw _ _ _ (lv_sub hl [0] rfl) G
          · have hw := hw.2 c_70
            refine lv_aload_n hx hb dX8_weigh_73 rfl (lv_at hl 0 rfl) ?_
            refine x_get (C := RX8) (T := TX8) (n := 12) S G inX8 (xe_9 kx_1) rfl 1 (by decide) kf_X8_22 rfl dX8_weigh_74 ?_
            refine x_get (C := RX5) (T := TX5) (n := 17) S G inX5 (xe_6 kx_3) rfl 12 (by decide) kf_X8_159 rfl dX8_weigh_77 ?_
            refine lv_iload_n hx hb dX8_weigh_80 rfl (lv_at hl 1 rfl) ?_
            obtain ⟨i_81, hw⟩ := hw
            refine x_aald (k := b1_52.toNatClampNeg) S G 2 (xe_22 kx_20 lx_20) rfl rfl i_81 rfl (if_pos (vpl i_81)) dX8_weigh_81 ?_
            refine lv_astore_n (lv' := [(2, .ref (ad (20 + 1 + 1 * b1_52.toNatClampNeg))), (0, .ref (ad 1)), (1, .int b1_52)]) hx hb dX8_weigh_82 rfl hl (by decide) rfl (fun ls hl => ?_)
            refine lv_aload_n hx hb dX8_weigh_83 rfl (lv_at hl 1 rfl) ?_
            refine x_get (C := RX8) (T := TX8) (n := 12) S G inX8 (xe_9 kx_1) rfl 0 (by decide) kf_X8_12 rfl dX8_weigh_84 ?_
            refine lv_aload_n hx hb dX8_weigh_87 rfl (lv_at hl 0 rfl) ?_
            refine lv_iconst (v := 0) hx hb dX8_weigh_88 (by decide) ?_
            refine x_iald (k := 0) S G (xe_20 (kxe_20 _ (vpl i_81)) (lxe_20 _ (vpl i_81))) (vpi (by decide)) rfl rfl dX8_weigh_89 ?_
            refine lv_aload_n hx hb dX8_weigh_90 rfl (lv_at hl 0 rfl) ?_
            refine lv_iconst (v := 1) hx hb dX8_weigh_91 (by decide) ?_
            refine x_iald (k := 1) S G (xe_20 (kxe_20 _ (vpl i_81)) (lxe_20 _ (vpl i_81))) (vpi (by decide)) rfl rfl dX8_weigh_92 ?_
            refine x_ViP S hl.1 G (c_Lives_left l D q A ad (gi g_52 (20 + 1 + 1 * b1_52.toNatClampNeg) 0) (gi g_52 (20 + 1 + 1 * b1_52.toNatClampNeg) 1) g_52 _ hw) (cw_X8_162 S.2.2.2.2 ⟨Nat.le_trans (Nat.le_of_ble_eq_true rfl) hR1, Nat.le_trans (Nat.le_of_ble_eq_true rfl) hR2⟩) (xe_4 kx_2) rfl rfl rfl (Nat.le_of_ble_eq_true rfl) dX8_weigh_93 (fun r_93 H locs G hw => ?_)
            refine lv_istore_n (lv' := [(3, .int r_93), (2, .ref (ad (20 + 1 + 1 * b1_52.toNatClampNeg))), (0, .ref (ad 1)), (1, .int b1_52)]) hx hb dX8_weigh_96 rfl hl (by decide) rfl (fun ls hl => ?_)
            refine lv_aload_n hx hb dX8_weigh_97 rfl (lv_at hl 2 rfl) ?_
            refine x_get (C := RX8) (T := TX8) (n := 12) S G inX8 (xe_9 kx_1) rfl 7 (by decide) kf_X8_51 rfl dX8_weigh_98 ?_
            obtain ⟨kz_98, hw⟩ := hw
            refine lv_aload_n hx hb dX8_weigh_101 rfl (lv_at hl 2 rfl) ?_
            refine x_get (C := RX8) (T := TX8) (n := 12) S G inX8 (xe_9 kx_1) rfl 6 (by decide) kf_X8_48 rfl dX8_weigh_102 ?_
            obtain ⟨kz_102, hw⟩ := hw
            refine lv_aload_n hx hb dX8_weigh_105 rfl (lv_at hl 2 rfl) ?_
            refine x_get (C := RX8) (T := TX8) (n := 12) S G inX8 (xe_9 kx_1) rfl 2 (by decide) kf_X8_26 rfl dX8_weigh_106 ?_
            refine lv_iload_n hx hb dX8_weigh_109 rfl (lv_at hl 3 rfl) ?_
            refine lv_iload_n hx hb dX8_weigh_110 rfl (lv_at hl 0 rfl) ?_
            refine x_VrP S hl.1 G (c_Chances_of l D q A ad b1_52 r_93 g_52 _ hw) (cw_X8_166 S.2.2.2.2 ⟨Nat.le_trans (Nat.le_of_ble_eq_true rfl) hR1, Nat.le_trans (Nat.le_of_ble_eq_true rfl) hR2⟩) (xe_2 kx_71) rfl rfl rfl (Nat.le_of_ble_eq_true rfl) dX8_weigh_111 (fun r_111 H locs G hw => ?_)
            obtain ⟨kr_111, hw⟩ := hw
            refine x_Vv S hl.1 G (c_Big_product l D q A ad (gr g_52 1 7) (gr g_52 1 6) r_111 kz_98 kz_102 kr_111 g_52 _ hw) (cw_X8_170 S.2.2.2.2 ⟨Nat.le_trans (Nat.le_of_ble_eq_true rfl) hR1, Nat.le_trans (Nat.le_of_ble_eq_true rfl) hR2⟩) (xe_1 kz_98) rfl rfl rfl (Nat.le_of_ble_eq_true rfl) dX8_weigh_114 (fun h_114 H locs G hw => ?_)
            refine lv_aload_n hx hb dX8_weigh_117 rfl (lv_at hl 2 rfl) ?_
            refine x_get (C := RX8) (T := TX8) (n := 12) S G inX8 (xe_9 kx_1) rfl 7 (by decide) kf_X8_51 rfl dX8_weigh_118 ?_
            obtain ⟨kz_118, hw⟩ := hw
            refine lv_astore (lv' := [(4, .ref (ad (gr h_114 1 7))), (3, .int r_93), (2, .ref (ad (20 + 1 + 1 * b1_52.toNatClampNeg))), (0, .ref (ad 1)), (1, .int b1_52)]) hx hb dX8_weigh_121 hl (by decide) rfl (fun ls hl => ?_)
            refine lv_aload_n hx hb dX8_weigh_123 rfl (lv_at hl 3 rfl) ?_
            refine lv_aload_n hx hb dX8_weigh_124 rfl (lv_at hl 3 rfl) ?_
            refine x_get (C := RX8) (T := TX8) (n := 12) S G inX8 (xe_9 kx_1) rfl 6 (by decide) kf_X8_48 rfl dX8_weigh_125 ?_
            obtain ⟨kz_125, hw⟩ := hw
            refine x_put (C := RX8) (T := TX8) (n := 12) S G inX8 tyX8 tyX8_ok nmX8 (xe_9 kx_1) rfl 7 (by decide) kf_X8_51 rfl rfl rfl (Nat.le_of_ble_eq_true rfl) (xp_9_7 kx_1) dX8_weigh_128 (fun H locs G => ?_)
            obtain ⟨h_128, eh_128⟩ : ∃ y : Hs, y = sr h_114 1 7 (gr h_114 1 6) := ⟨_, rfl⟩
            rw [← eh_128] at G
            have hw := hw h_128 eh_128
            refine lv_aload_n hx hb dX8_weigh_131 rfl (lv_at hl 3 rfl) ?_
            refine lv_aload hx hb dX8_weigh_132 (lv_at hl 0 rfl) ?_
            refine x_put (C := RX8) (T := TX8) (n := 12) S G inX8 tyX8 tyX8_ok nmX8 (xe_9 kx_1) rfl 6 (by decide) kf_X8_48 rfl rfl rfl (Nat.le_of_ble_eq_true rfl) (xp_9_6 kx_1) dX8_weigh_134 (fun H locs G => ?_)
            obtain ⟨h_134, eh_134⟩ : ∃ y : Hs, y = sr h_128 1 6 (gr h_114 1 7) := ⟨_, rfl⟩
            rw [← eh_134] at G
            have hw := hw h_134 eh_134
            obtain ⟨a1_137, ea1_137⟩ : ∃ y : Int32, y = b1_52 + 1 := ⟨_, rfl⟩
            have hw := hw a1_137 ea1_137
            refine lv_iinc (v := a1_137) (lv' := [(1, .int a1_137), (4, .ref (ad (gr h_114 1 7))), (3, .int r_93), (2, .ref (ad (20 + 1 + 1 * b1_52.toNatClampNeg))), (0, .ref (ad 1))]) hx hb dX8_weigh_137 hl (k := 4) rfl (by rw [ea1_137]; rfl) (by decide) rfl (fun ls hl => ?_)
            refine lv_goto (tgt := 52) hx hb dX8_weigh_140 (by decide) ?_
            exact hw _ _ _ (lv_sub hl [4, 0] rfl) G)
      exact hw _ _ _ (lv_sub hl [1, 0] rfl) G
    · have hw := hw.2 c_18
      refine lv_aload_n hx hb dX8_weigh_21 rfl (lv_at hl 0 rfl) ?_
      refine x_get (C := RX8) (T := TX8) (n := 12) S G inX8 (xe_9 kx_1) rfl 6 (by decide) kf_X8_48 rfl dX8_weigh_22 ?_
      obtain ⟨kz_22, hw⟩ := hw
      refine lv_aload_n hx hb dX8_weigh_25 rfl (lv_at hl 0 rfl) ?_
      refine x_get (C := RX8) (T := TX8) (n := 12) S G inX8 (xe_9 kx_1) rfl 3 (by decide) kf_X8_32 rfl dX8_weigh_26 ?_
      refine lv_iload_n hx hb dX8_weigh_29 rfl (lv_at hl 1 rfl) ?_
      obtain ⟨i_30, hw⟩ := hw
      refine x_aald (k := b1_10.toNatClampNeg) S G 2 (xe_22 kx_349 lx_349) rfl rfl i_30 rfl (if_pos (vpl i_30)) dX8_weigh_30 ?_
      refine lv_aload_n hx hb dX8_weigh_31 rfl (lv_at hl 0 rfl) ?_
      refine x_get (C := RX8) (T := TX8) (n := 12) S G inX8 (xe_9 kx_1) rfl 0 (by decide) kf_X8_12 rfl dX8_weigh_32 ?_
      refine x_get (C := RX3) (T := TX3) (n := 10) S G inX3 (xe_4 kx_2) rfl 3 (by decide) kf_X8_146 rfl dX8_weigh_35 ?_
      refine lv_iload_n hx hb dX8_weigh_38 rfl (lv_at hl 1 rfl) ?_
      obtain ⟨i_39, hw⟩ := hw
      refine x_iald (k := b1_10.toNatClampNeg) S G (xe_20 kx_48 lx_48) i_39 rfl rfl dX8_weigh_39 ?_
      obtain ⟨i_40, hw⟩ := hw
      refine x_iald (k := (gi g_10 48 b1_10.toNatClampNeg).toNatClampNeg) S G (xe_20 (kxe_349 _ (vpl i_30)) (lxe_349 _ (vpl i_30))) i_40 rfl rfl dX8_weigh_40 ?_
      refine x_Vv S hl.1 G (c_Big_times l D q A ad (gr g_10 1 6) (gi g_10 (349 + 1 + 1 * b1_10.toNatClampNeg) ((gi g_10 48 b1_10.toNatClampNeg).toNatClampNeg)) kz_22 g_10 _ hw) (cw_X8_149 S.2.2.2.2 ⟨Nat.le_trans (Nat.le_of_ble_eq_true rfl) hR1, Nat.le_trans (Nat.le_of_ble_eq_true rfl) hR2⟩) (xe_1 kz_22) rfl rfl rfl (Nat.le_of_ble_eq_true rfl) dX8_weigh_41 (fun h_41 H locs G hw => ?_)
      obtain ⟨a1_44, ea1_44⟩ : ∃ y : Int32, y = b1_10 + 1 := ⟨_, rfl⟩
      have hw := hw a1_44 ea1_44
      refine lv_iinc (v := a1_44) (lv' := [(1, .int a1_44), (0, .ref (ad 1))]) hx hb dX8_weigh_44 hl (k := 1) rfl (by rw [ea1_44]; rfl) (by decide) rfl (fun ls hl => ?_)
      refine lv_goto (tgt := 10) hx hb dX8_weigh_47 (by decide) ?_
      exact hw _ _ _ (lv_sub hl [1, 0] rfl) G)
  exact hw _ _ _ (lv_sub hl [1, 0] rfl) G
theorem cw_X8_94 {R : Room} {s : State} {args : Array Value} (hts : ∀ w ∈ gW, w.before args s = true) (hR : rm_Worlds_weigh.frames + 1 ≤ R.frames ∧ 8 + (5 + 11) + rm_Worlds_weigh.locals ≤ R.locals) : CallW R s args RX8 RX8 94 yX8_weigh cX8_weigh 5 none (mw yX8_weigh cX8_weigh 5 none) rm_Worlds_weigh 0 0 0 := cwV9 hts km_X8_94 ki_X8_weigh ks_X8_weigh kn_X8 kk_X8_weigh rfl rfl (by decide +kernel) hR
abbrev rm_Worlds_addUp : Room := { frames := 2, cells := 0, slots := 0, locals := 44 }
set_option maxHeartbeats 4000000 in
set_option maxRecDepth 100000 in
theorem c_Worlds_addUp (l : Launch) (D : va_G) (q : Nat → ClassId) (A : Nat → Prop) (ad : Nat → Nat) (h : Hs) (Q : Hs → Prop) (hw : p_Worlds_addUp h Q) : Met l yX8_addUp (mw yX8_addUp cX8_addUp 2 none) rm_Worlds_addUp (va_Pc [.ref (ad 1)] (pW D q A (wX q ad h))) (va_Qv Q (fun h t => pW D q A (wX q ad h) t) A) 0 0 A := by
  refine met_v (Qp := Q) (by decide) (Nat.le_of_ble_eq_true rfl) ?_
  intro p e R s m args below meth c Qm ls hR1 hR2 S RT hl G
  have hx := S.1
  have hb := S.2.1
  have hl : lv_has ls 2 [(0, .ref (ad 1))] := hl
  unfold p_Worlds_addUp at hw
  refine lv_aload_n hx hb dX8_addUp_0 rfl (lv_at hl 0 rfl) ?_
  refine x_get (C := RX8) (T := TX8) (n := 12) S G inX8 (xe_9 kx_1) rfl 6 (by decide) kf_X8_48 rfl dX8_addUp_1 ?_
  obtain ⟨kz_1, hw⟩ := hw
  refine x_VzP S hl.1 G (c_Big_isZero l D q A ad (gr h 1 6) kz_1 h _ hw) (cw_X8_155 S.2.2.2.2 ⟨Nat.le_trans (Nat.le_of_ble_eq_true rfl) hR1, Nat.le_trans (Nat.le_of_ble_eq_true rfl) hR2⟩) (xe_1 kz_1) rfl rfl rfl (Nat.le_of_ble_eq_true rfl) dX8_addUp_4 (fun r_4 H locs G z_4 hw => ?_)
  refine lv_if_eq (tgt := 11) hx hb dX8_addUp_7 (by decide) (fun c_7 => ?_) (fun c_7 => ?_)
  · have hw := hw.1 c_7
    refine lv_aload_n hx hb dX8_addUp_11 rfl (lv_at hl 0 rfl) ?_
    refine x_get (C := RX8) (T := TX8) (n := 12) S G inX8 (xe_9 kx_1) rfl 10 (by decide) kf_X8_57 rfl dX8_addUp_12 ?_
    refine lv_aload_n hx hb dX8_addUp_15 rfl (lv_at hl 0 rfl) ?_
    refine x_get (C := RX8) (T := TX8) (n := 12) S G inX8 (xe_9 kx_1) rfl 6 (by decide) kf_X8_48 rfl dX8_addUp_16 ?_
    obtain ⟨kz_16, hw⟩ := hw
    refine x_Vv S hl.1 G (c_Big_plus l D q A ad 362 (gr h 1 6) kx_362 kz_16 h _ hw) (cw_X8_181 S.2.2.2.2 ⟨Nat.le_trans (Nat.le_of_ble_eq_true rfl) hR1, Nat.le_trans (Nat.le_of_ble_eq_true rfl) hR2⟩) (xe_1 kx_362) rfl rfl rfl (Nat.le_of_ble_eq_true rfl) dX8_addUp_19 (fun h_19 H locs G hw => ?_)
    refine lv_iconst (v := 0) hx hb dX8_addUp_22 (by decide) ?_
    refine lv_istore_n (lv' := [(1, .int 0), (0, .ref (ad 1))]) hx hb dX8_addUp_23 rfl hl (by decide) rfl (fun ls hl => ?_)
    have hw := hw (fun (b1_24 : Int32) (g_24 : Hs) => ∀ (ls : Array Slot) (H : Heap) (locs : List Loc), lv_has ls 2 [(0, .ref (ad 1)), (1, .int b1_24)] → okW D q A s (wX q ad g_24) H locs → W p l e R s m args below meth c H locs 0 0 Qm (F0 m 24 ls [])) (by
      intro b1_24 g_24 hw ls H locs hl G
      refine lv_iload_n hx hb dX8_addUp_24 rfl (lv_at hl 1 rfl) ?_
      refine lv_aload_n hx hb dX8_addUp_25 rfl (lv_at hl 0 rfl) ?_
      refine x_get (C := RX8) (T := TX8) (n := 12) S G inX8 (xe_9 kx_1) rfl 1 (by decide) kf_X8_22 rfl dX8_addUp_26 ?_
      refine x_get (C := RX5) (T := TX5) (n := 17) S G inX5 (xe_6 kx_3) rfl 1 (by decide) kf_X8_87 rfl dX8_addUp_29 ?_
      refine lv_icmp_ge (tgt := 62) hx hb dX8_addUp_32 (by decide) (fun c_32 => ?_) (fun c_32 => ?_)
      · have hw := hw.1 c_32
        refine lv_iconst (v := 0) hx hb dX8_addUp_62 (by decide) ?_
        refine lv_istore_n (lv' := [(1, .int 0), (0, .ref (ad 1))]) hx hb dX8_addUp_63 rfl hl (by decide) rfl (fun ls hl => ?_)
        have hw := hw (fun (b1_64 : Int32) (g_64 : Hs) => ∀ (ls : Array Slot) (H : Heap) (locs : List Loc), lv_has ls 2 [(0, .ref (ad 1)), (1, .int b1_64)] → okW D q A s (wX q ad g_64) H locs → W p l e R s m args below meth c H locs 0 0 Qm (F0 m 64 ls [])) (by
          intro b1_64 g_64 hw ls H locs hl G
          refine lv_iload_n hx hb dX8_addUp_64 rfl (lv_at hl 1 rfl) ?_
          refine lv_iconst (v := 4) hx hb dX8_addUp_65 (by decide) ?_
          refine lv_icmp_ge (tgt := 99) hx hb dX8_addUp_66 (by decide) (fun c_66 => ?_) (fun c_66 => ?_)
          · have hw := hw.1 c_66
            exact RT _ _ _ _ _ G hw dX8_addUp_99
          · have hw := hw.2 c_66
            refine lv_aload_n hx hb dX8_addUp_69 rfl (lv_at hl 0 rfl) ?_
            refine x_get (C := RX8) (T := TX8) (n := 12) S G inX8 (xe_9 kx_1) rfl 0 (by decide) kf_X8_12 rfl dX8_addUp_70 ?_
            refine lv_iload_n hx hb dX8_addUp_73 rfl (lv_at hl 1 rfl) ?_
            refine x_VzP S hl.1 G (c_Lives_doAllLive l D q A ad b1_64 g_64 _ hw) (cw_X8_188 S.2.2.2.2 ⟨Nat.le_trans (Nat.le_of_ble_eq_true rfl) hR1, Nat.le_trans (Nat.le_of_ble_eq_true rfl) hR2⟩) (xe_4 kx_2) rfl rfl rfl (Nat.le_of_ble_eq_true rfl) dX8_addUp_74 (fun r_74 H locs G z_74 hw => ?_)
            have hw := hw (fun (g_93 : Hs) => ∀ (ls : Array Slot) (H : Heap) (locs : List Loc), lv_has ls 2 [(0, .ref (ad 1)), (1, .int b1_64)] → okW D q A s (wX q ad g_93) H locs → W p l e R s m args below meth c H locs 0 0 Qm (F0 m 93 ls [])) (by
              intro g_93 hw ls H locs hl G
              obtain ⟨a1_93, ea1_93⟩ : ∃ y : Int32, y = b1_64 + 1 := ⟨_, rfl⟩
              have hw := hw a1_93 ea1_93
              refine lv_iinc (v := a1_93) (lv' := [(1, .int a1_93), (0, .ref (ad 1))]) hx hb dX8_addUp_93 hl (k := 1) rfl (by rw [ea1_93]; rfl) (by decide) rfl (fun ls hl => ?_)
              refine lv_goto (tgt := 64) hx hb dX8_addUp_96 (by decide) ?_
              exact hw _ _ _ (lv_sub hl [1, 0] rfl) G)
            refine lv_if_eq (tgt := 93) hx hb dX8_addUp_77 (by decide) (fun c_77 => ?_) (fun c_77 => ?_)
            · have hw := hw.1 c_77
              exact hw _ _ _ (lv_sub hl [0, 1] rfl) G
            · have hw := hw.2 c_77
              refine lv_aload_n hx hb dX8_addUp_80 rfl (lv_at hl 0 rfl) ?_
              refine x_get (C := RX8) (T := TX8) (n := 12) S G inX8 (xe_9 kx_1) rfl 9 (by decide) kf_X8_54 rfl dX8_addUp_81 ?_
              refine lv_iload_n hx hb dX8_addUp_84 rfl (lv_at hl 1 rfl) ?_
              obtain ⟨i_85, hw⟩ := hw
              refine x_aald (k := b1_64.toNatClampNeg) S G 3 (xe_23 kx_361 lx_361 rfl) rfl rfl i_85 rfl (if_pos (vpl i_85)) dX8_addUp_85 ?_
              refine lv_aload_n hx hb dX8_addUp_86 rfl (lv_at hl 0 rfl) ?_
              refine x_get (C := RX8) (T := TX8) (n := 12) S G inX8 (xe_9 kx_1) rfl 6 (by decide) kf_X8_48 rfl dX8_addUp_87 ?_
              obtain ⟨kz_87, hw⟩ := hw
              refine x_Vv S hl.1 G (c_Big_plus l D q A ad (396 + 2 * b1_64.toNatClampNeg) (gr g_64 1 6) (kxe_361 _ (vpl i_85)) kz_87 g_64 _ hw) (cw_X8_181 S.2.2.2.2 ⟨Nat.le_trans (Nat.le_of_ble_eq_true rfl) hR1, Nat.le_trans (Nat.le_of_ble_eq_true rfl) hR2⟩) (xe_1 (kxe_361 _ (vpl i_85))) rfl rfl rfl (Nat.le_of_ble_eq_true rfl) dX8_addUp_90 (fun h_90 H locs G hw => ?_)
              exact hw _ _ _ (lv_sub hl [0, 1] rfl) G)
        exact hw _ _ _ (lv_sub hl [1, 0] rfl) G
      · have hw := hw.2 c_32
        refine lv_aload_n hx hb dX8_addUp_35 rfl (lv_at hl 0 rfl) ?_
        refine lv_iload_n hx hb dX8_addUp_36 rfl (lv_at hl 1 rfl) ?_
        refine lv_aload_n hx hb dX8_addUp_37 rfl (lv_at hl 0 rfl) ?_
        refine x_get (C := RX8) (T := TX8) (n := 12) S G inX8 (xe_9 kx_1) rfl 0 (by decide) kf_X8_12 rfl dX8_addUp_38 ?_
        refine x_get (C := RX3) (T := TX3) (n := 10) S G inX3 (xe_4 kx_2) rfl 3 (by decide) kf_X8_146 rfl dX8_addUp_41 ?_
        refine lv_iload_n hx hb dX8_addUp_44 rfl (lv_at hl 1 rfl) ?_
        obtain ⟨i_45, hw⟩ := hw
        refine x_iald (k := b1_24.toNatClampNeg) S G (xe_20 kx_48 lx_48) i_45 rfl rfl dX8_addUp_45 ?_
        refine x_VrP S hl.1 G (c_Worlds_livedBy l D q A ad b1_24 (gi g_24 48 b1_24.toNatClampNeg) g_24 _ hw) (cw_X8_185 S.2.2.2.2 ⟨Nat.le_trans (Nat.le_of_ble_eq_true rfl) hR1, Nat.le_trans (Nat.le_of_ble_eq_true rfl) hR2⟩) (xe_9 kx_1) rfl rfl rfl (Nat.le_of_ble_eq_true rfl) dX8_addUp_46 (fun r_46 H locs G hw => ?_)
        obtain ⟨kr_46, hw⟩ := hw
        refine lv_aload_n hx hb dX8_addUp_49 rfl (lv_at hl 0 rfl) ?_
        refine x_get (C := RX8) (T := TX8) (n := 12) S G inX8 (xe_9 kx_1) rfl 6 (by decide) kf_X8_48 rfl dX8_addUp_50 ?_
        obtain ⟨kz_50, hw⟩ := hw
        refine x_Vv S hl.1 G (c_Big_plus l D q A ad r_46 (gr g_24 1 6) kr_46 kz_50 g_24 _ hw) (cw_X8_181 S.2.2.2.2 ⟨Nat.le_trans (Nat.le_of_ble_eq_true rfl) hR1, Nat.le_trans (Nat.le_of_ble_eq_true rfl) hR2⟩) (xe_1 kr_46) rfl rfl rfl (Nat.le_of_ble_eq_true rfl) dX8_addUp_53 (fun h_53 H locs G hw => ?_)
        obtain ⟨a1_56, ea1_56⟩ : ∃ y : Int32, y = b1_24 + 1 := ⟨_, rfl⟩
        have hw := hw a1_56 ea1_56
        refine lv_iinc (v := a1_56) (lv' := [(1, .int a1_56), (0, .ref (ad 1))]) hx hb dX8_addUp_56 hl (k := 1) rfl (by rw [ea1_56]; rfl) (by decide) rfl (fun ls hl => ?_)
        refine lv_goto (tgt := 24) hx hb dX8_addUp_59 (by decide) ?_
        exact hw _ _ _ (lv_sub hl [1, 0] rfl) G)
    exact hw _ _ _ (lv_sub hl [1, 0] rfl) G
  · have hw := hw.2 c_7
    exact RT _ _ _ _ _ G hw dX8_addUp_10
theorem cw_X8_97 {R : Room} {s : State} {args : Array Value} (hts : ∀ w ∈ gW, w.before args s = true) (hR : rm_Worlds_addUp.frames + 1 ≤ R.frames ∧ 8 + (2 + 11) + rm_Worlds_addUp.locals ≤ R.locals) : CallW R s args RX8 RX8 97 yX8_addUp cX8_addUp 2 none (mw yX8_addUp cX8_addUp 2 none) rm_Worlds_addUp 0 0 0 := cwV9 hts km_X8_97 ki_X8_addUp ks_X8_addUp kn_X8 kk_X8_addUp rfl rfl (by decide +kernel) hR
abbrev rm_Worlds_refresh : Room := { frames := 4, cells := 0, slots := 0, locals := 101 }
set_option maxHeartbeats 4000000 in
set_option maxRecDepth 100000 in
theorem c_Worlds_refresh (l : Launch) (D : va_G) (q : Nat → ClassId) (A : Nat → Prop) (ad : Nat → Nat) (h : Hs) (Q : Hs → Prop) (hw : p_Worlds_refresh h Q) : Met l yX8_refresh (mw yX8_refresh cX8_refresh 3 none) rm_Worlds_refresh (va_Pc [.ref (ad 1)] (pW D q A (wX q ad h))) (va_Qv Q (fun h t => pW D q A (wX q ad h) t) A) 0 0 A := by
  refine met_v (Qp := Q) (by decide) (Nat.le_of_ble_eq_true rfl) ?_
  intro p e R s m args below meth c Qm ls hR1 hR2 S RT hl G
  have hx := S.1
  have hb := S.2.1
  have hl : lv_has ls 3 [(0, .ref (ad 1))] := hl
  unfold p_Worlds_refresh at hw
  refine lv_aload_n hx hb dX8_refresh_0 rfl (lv_at hl 0 rfl) ?_
  refine x_get (C := RX8) (T := TX8) (n := 12) S G inX8 (xe_9 kx_1) rfl 11 (by decide) kf_X8_60 rfl dX8_refresh_1 ?_
  refine lv_if_eq (tgt := 8) hx hb dX8_refresh_4 (by decide) (fun c_4 => ?_) (fun c_4 => ?_)
  · have hw := hw.1 c_4
    refine lv_aload_n hx hb dX8_refresh_8 rfl (lv_at hl 0 rfl) ?_
    refine lv_iconst (v := 1) hx hb dX8_refresh_9 (by decide) ?_
    refine x_put (C := RX8) (T := TX8) (n := 12) S G inX8 tyX8 tyX8_ok nmX8 (xe_9 kx_1) rfl 11 (by decide) kf_X8_60 rfl (zb_n zb1) (zb_f zb1) (Nat.le_of_ble_eq_true rfl) (xp_9_11 kx_1) dX8_refresh_10 (fun H locs G => ?_)
    obtain ⟨h_10, eh_10⟩ : ∃ y : Hs, y = si h 1 11 1 := ⟨_, rfl⟩
    rw [← eh_10] at G
    have hw := hw h_10 eh_10
    refine lv_aload_n hx hb dX8_refresh_13 rfl (lv_at hl 0 rfl) ?_
    refine x_Vv S hl.1 G (c_Worlds_forgetSums l D q A ad h_10 _ hw) (cw_X8_64 S.2.2.2.2 ⟨Nat.le_trans (Nat.le_of_ble_eq_true rfl) hR1, Nat.le_trans (Nat.le_of_ble_eq_true rfl) hR2⟩) (xe_9 kx_1) rfl rfl rfl (Nat.le_of_ble_eq_true rfl) dX8_refresh_14 (fun h_14 H locs G hw => ?_)
    refine lv_aload_n hx hb dX8_refresh_17 rfl (lv_at hl 0 rfl) ?_
    refine x_Vv S hl.1 G (c_Worlds_shareOut l D q A ad h_14 _ hw) (cw_X8_67 S.2.2.2.2 ⟨Nat.le_trans (Nat.le_of_ble_eq_true rfl) hR1, Nat.le_trans (Nat.le_of_ble_eq_true rfl) hR2⟩) (xe_9 kx_1) rfl rfl rfl (Nat.le_of_ble_eq_true rfl) dX8_refresh_18 (fun h_18 H locs G hw => ?_)
    refine lv_aload_n hx hb dX8_refresh_21 rfl (lv_at hl 0 rfl) ?_
    refine x_get (C := RX8) (T := TX8) (n := 12) S G inX8 (xe_9 kx_1) rfl 2 (by decide) kf_X8_26 rfl dX8_refresh_22 ?_
    refine lv_aload_n hx hb dX8_refresh_25 rfl (lv_at hl 0 rfl) ?_
    refine x_get (C := RX8) (T := TX8) (n := 12) S G inX8 (xe_9 kx_1) rfl 1 (by decide) kf_X8_22 rfl dX8_refresh_26 ?_
    refine x_Vv S hl.1 G (c_Chances_refresh l D q A ad h_18 _ hw) (cw_X8_70 S.2.2.2.2 ⟨Nat.le_trans (Nat.le_of_ble_eq_true rfl) hR1, Nat.le_trans (Nat.le_of_ble_eq_true rfl) hR2⟩) (xe_2 kx_71) rfl rfl rfl (Nat.le_of_ble_eq_true rfl) dX8_refresh_29 (fun h_29 H locs G hw => ?_)
    refine lv_aload_n hx hb dX8_refresh_32 rfl (lv_at hl 0 rfl) ?_
    refine lv_aload_n hx hb dX8_refresh_33 rfl (lv_at hl 0 rfl) ?_
    refine x_get (C := RX8) (T := TX8) (n := 12) S G inX8 (xe_9 kx_1) rfl 1 (by decide) kf_X8_22 rfl dX8_refresh_34 ?_
    refine x_get (C := RX5) (T := TX5) (n := 17) S G inX5 (xe_6 kx_3) rfl 7 (by decide) kf_X8_74 rfl dX8_refresh_37 ?_
    refine lv_iconst (v := 0) hx hb dX8_refresh_40 (by decide) ?_
    refine x_iald (k := 0) S G (xe_20 kx_7 lx_7) (vpi (by decide)) rfl rfl dX8_refresh_41 ?_
    refine lv_bipush (v := 9) hx hb dX8_refresh_42 (by decide) ?_
    have hw := hw (fun (t1_58 : Int32) => ∀ (ls : Array Slot) (H : Heap) (locs : List Loc), lv_has ls 3 [(0, .ref (ad 1))] → okW D q A s (wX q ad h_29) H locs → W p l e R s m args below meth c H locs 0 0 Qm (F0 m 58 ls [.int t1_58, .ref (ad 1)])) (by
      intro t1_58 hw ls H locs hl G
      refine x_put (C := RX8) (T := TX8) (n := 12) S G inX8 tyX8 tyX8_ok nmX8 (xe_9 kx_1) rfl 8 (by decide) kf_X8_84 rfl rfl rfl (Nat.le_of_ble_eq_true rfl) (xp_9_8 kx_1) dX8_refresh_58 (fun H locs G => ?_)
      obtain ⟨h_58, eh_58⟩ : ∃ y : Hs, y = si h_29 1 8 t1_58 := ⟨_, rfl⟩
      rw [← eh_58] at G
      have hw := hw h_58 eh_58
      refine lv_iconst (v := 1) hx hb dX8_refresh_61 (by decide) ?_
      refine lv_iconst (v := 2) hx hb dX8_refresh_62 (by decide) ?_
      refine lv_aload_n hx hb dX8_refresh_63 rfl (lv_at hl 0 rfl) ?_
      refine x_get (C := RX8) (T := TX8) (n := 12) S G inX8 (xe_9 kx_1) rfl 1 (by decide) kf_X8_22 rfl dX8_refresh_64 ?_
      refine x_get (C := RX5) (T := TX5) (n := 17) S G inX5 (xe_6 kx_3) rfl 1 (by decide) kf_X8_87 rfl dX8_refresh_67 ?_
      refine lv_imul hx hb dX8_refresh_70 ?_
      refine lv_ishl hx hb dX8_refresh_71 ?_
      refine lv_topi (fun a1_72 ea1_72 => ?_)
      have hw := hw a1_72 ea1_72
      refine lv_istore_n (lv' := [(1, .int a1_72), (0, .ref (ad 1))]) hx hb dX8_refresh_72 rfl hl (by decide) rfl (fun ls hl => ?_)
      refine lv_iconst (v := 0) hx hb dX8_refresh_73 (by decide) ?_
      refine lv_istore_n (lv' := [(2, .int 0), (1, .int a1_72), (0, .ref (ad 1))]) hx hb dX8_refresh_74 rfl hl (by decide) rfl (fun ls hl => ?_)
      have hw := hw (fun (b2_75 : Int32) (g_75 : Hs) => ∀ (ls : Array Slot) (H : Heap) (locs : List Loc), lv_has ls 3 [(0, .ref (ad 1)), (1, .int a1_72), (2, .int b2_75)] → okW D q A s (wX q ad g_75) H locs → W p l e R s m args below meth c H locs 0 0 Qm (F0 m 75 ls [])) (by
        intro b2_75 g_75 hw ls H locs hl G
        refine lv_iload_n hx hb dX8_refresh_75 rfl (lv_at hl 2 rfl) ?_
        refine lv_iload_n hx hb dX8_refresh_76 rfl (lv_at hl 1 rfl) ?_
        refine lv_icmp_ge (tgt := 105) hx hb dX8_refresh_77 (by decide) (fun c_77 => ?_) (fun c_77 => ?_)
        · have hw := hw.1 c_77
          exact RT _ _ _ _ _ G hw dX8_refresh_105
        · have hw := hw.2 c_77
          refine lv_aload_n hx hb dX8_refresh_80 rfl (lv_at hl 0 rfl) ?_
          refine x_get (C := RX8) (T := TX8) (n := 12) S G inX8 (xe_9 kx_1) rfl 0 (by decide) kf_X8_12 rfl dX8_refresh_81 ?_
          refine lv_iload_n hx hb dX8_refresh_84 rfl (lv_at hl 2 rfl) ?_
          refine x_Vi S hl.1 G (c_Lives_choose l D q A ad b2_75 g_75 _ hw) (cw_X8_90 S.2.2.2.2 ⟨Nat.le_trans (Nat.le_of_ble_eq_true rfl) hR1, Nat.le_trans (Nat.le_of_ble_eq_true rfl) hR2⟩) (xe_4 kx_2) rfl rfl rfl (Nat.le_of_ble_eq_true rfl) dX8_refresh_85 (fun r_85 h_85 H locs G hw => ?_)
          obtain ⟨z_85, hw⟩ := hw
          have hw := hw (fun (g_99 : Hs) => ∀ (ls : Array Slot) (H : Heap) (locs : List Loc), lv_has ls 3 [(0, .ref (ad 1)), (1, .int a1_72), (2, .int b2_75)] → okW D q A s (wX q ad g_99) H locs → W p l e R s m args below meth c H locs 0 0 Qm (F0 m 99 ls [])) (by
            intro g_99 hw ls H locs hl G
            obtain ⟨a2_99, ea2_99⟩ : ∃ y : Int32, y = b2_75 + 1 := ⟨_, rfl⟩
            have hw := hw a2_99 ea2_99
            refine lv_iinc (v := a2_99) (lv' := [(2, .int a2_99), (0, .ref (ad 1)), (1, .int a1_72)]) hx hb dX8_refresh_99 hl (k := 2) rfl (by rw [ea2_99]; rfl) (by decide) rfl (fun ls hl => ?_)
            refine lv_goto (tgt := 75) hx hb dX8_refresh_102 (by decide) ?_
            exact hw _ _ _ (lv_sub hl [1, 2, 0] rfl) G)
          refine lv_if_eq (tgt := 99) hx hb dX8_refresh_88 (by decide) (fun c_88 => ?_) (fun c_88 => ?_)
          · have hw := hw.1 c_88
            exact hw _ _ _ (lv_sub hl [0, 1, 2] rfl) G
          · have hw := hw.2 c_88
            refine lv_aload_n hx hb dX8_refresh_91 rfl (lv_at hl 0 rfl) ?_
            refine x_Vv S hl.1 G (c_Worlds_weigh l D q A ad h_85 _ hw) (cw_X8_94 S.2.2.2.2 ⟨Nat.le_trans (Nat.le_of_ble_eq_true rfl) hR1, Nat.le_trans (Nat.le_of_ble_eq_true rfl) hR2⟩) (xe_9 kx_1) rfl rfl rfl (Nat.le_of_ble_eq_true rfl) dX8_refresh_92 (fun h_92 H locs G hw => ?_)
            refine lv_aload_n hx hb dX8_refresh_95 rfl (lv_at hl 0 rfl) ?_
            refine x_Vv S hl.1 G (c_Worlds_addUp l D q A ad h_92 _ hw) (cw_X8_97 S.2.2.2.2 ⟨Nat.le_trans (Nat.le_of_ble_eq_true rfl) hR1, Nat.le_trans (Nat.le_of_ble_eq_true rfl) hR2⟩) (xe_9 kx_1) rfl rfl rfl (Nat.le_of_ble_eq_true rfl) dX8_refresh_96 (fun h_96 H locs G hw => ?_)
            exact hw _ _ _ (lv_sub hl [0, 1, 2] rfl) G)
      exact hw _ _ _ (lv_sub hl [2, 1, 0] rfl) G)
    refine lv_icmp_ge (tgt := 57) hx hb dX8_refresh_44 (by decide) (fun c_44 => ?_) (fun c_44 => ?_)
    · have hw := hw.1 c_44
      refine lv_iconst (v := 0) hx hb dX8_refresh_57 (by decide) ?_
      exact hw _ _ _ (lv_sub hl [0] rfl) G
    · have hw := hw.2 c_44
      refine lv_aload_n hx hb dX8_refresh_47 rfl (lv_at hl 0 rfl) ?_
      refine x_get (C := RX8) (T := TX8) (n := 12) S G inX8 (xe_9 kx_1) rfl 0 (by decide) kf_X8_12 rfl dX8_refresh_48 ?_
      refine x_ViP S hl.1 G (c_Lives_mostHunger l D q A ad h_29 _ hw) (cw_X8_80 S.2.2.2.2 ⟨Nat.le_trans (Nat.le_of_ble_eq_true rfl) hR1, Nat.le_trans (Nat.le_of_ble_eq_true rfl) hR2⟩) (xe_4 kx_2) rfl rfl rfl (Nat.le_of_ble_eq_true rfl) dX8_refresh_51 (fun r_51 H locs G hw => ?_)
      refine lv_goto (tgt := 58) hx hb dX8_refresh_54 (by decide) ?_
      exact hw _ _ _ (lv_sub hl [0] rfl) G
  · have hw := hw.2 c_4
    exact RT _ _ _ _ _ G hw dX8_refresh_7
theorem cw_X9_295 {R : Room} {s : State} {args : Array Value} (hts : ∀ w ∈ gW, w.before args s = true) (hR : rm_Worlds_refresh.frames + 1 ≤ R.frames ∧ 8 + (3 + 11) + rm_Worlds_refresh.locals ≤ R.locals) : CallW R s args RX9 RX8 295 yX8_refresh cX8_refresh 3 none (mw yX8_refresh cX8_refresh 3 none) rm_Worlds_refresh 0 0 0 := cwV9 hts km_X9_295 ki_X8_refresh ks_X8_refresh kn_X8 kk_X8_refresh rfl rfl (by decide +kernel) hR
abbrev rm_Worlds_gatherWhere : Room := { frames := 2, cells := 0, slots := 0, locals := 44 }
set_option maxHeartbeats 4000000 in
set_option maxRecDepth 100000 in
theorem c_Worlds_gatherWhere (l : Launch) (D : va_G) (q : Nat → ClassId) (A : Nat → Prop) (ad : Nat → Nat) (a1 : Int32) (a2 : Int32) (a3 : Int32) (h : Hs) (Q : Nat → Hs → Prop) (hw : p_Worlds_gatherWhere a1 a2 a3 h Q) : Met l yX8_gatherWhere (mw yX8_gatherWhere cX8_gatherWhere 5 (some (.object "WordOnPost$Big"))) rm_Worlds_gatherWhere (va_Pc [.ref (ad 1), .int a1, .int a2, .int a3] (pW D q A (wX q ad h))) (va_Qr (Qrf Q) (Brf D q A 504 (eX q ad) ad) A) 0 0 A := by
  refine met_r (Qp := Q) (Or.inl ⟨_, rfl⟩) (by decide) (Nat.le_of_ble_eq_true rfl) ?_
  intro p e R s m args below meth c Qm ls hR1 hR2 S RT hl G
  have hx := S.1
  have hb := S.2.1
  have hl : lv_has ls 5 [(0, .ref (ad 1)), (1, .int a1), (2, .int a2), (3, .int a3)] := hl
  unfold p_Worlds_gatherWhere at hw
  refine lv_aload_n hx hb dX8_gatherWhere_0 rfl (lv_at hl 0 rfl) ?_
  refine x_get (C := RX8) (T := TX8) (n := 12) S G inX8 (xe_9 kx_1) rfl 5 (by decide) kf_X8_44 rfl dX8_gatherWhere_1 ?_
  refine lv_lconst (v := 0) hx hb dX8_gatherWhere_4 (by decide) ?_
  refine x_Vv S hl.1 G (c_Big_become l D q A ad 355 0 kx_355 h _ hw) (cw_X8_100 S.2.2.2.2 ⟨Nat.le_trans (Nat.le_of_ble_eq_true rfl) hR1, Nat.le_trans (Nat.le_of_ble_eq_true rfl) hR2⟩) (xe_1 kx_355) rfl rfl rfl (Nat.le_of_ble_eq_true rfl) dX8_gatherWhere_5 (fun h_5 H locs G hw => ?_)
  refine lv_iconst (v := 0) hx hb dX8_gatherWhere_8 (by decide) ?_
  refine lv_istore (lv' := [(4, .int 0), (0, .ref (ad 1)), (1, .int a1), (2, .int a2), (3, .int a3)]) hx hb dX8_gatherWhere_9 hl (by decide) rfl (fun ls hl => ?_)
  have hw := hw (fun (b4_11 : Int32) (g_11 : Hs) => ∀ (ls : Array Slot) (H : Heap) (locs : List Loc), lv_has ls 5 [(0, .ref (ad 1)), (1, .int a1), (2, .int a2), (3, .int a3), (4, .int b4_11)] → okW D q A s (wX q ad g_11) H locs → W p l e R s m args below meth c H locs 0 0 Qm (F0 m 11 ls [])) (by
    intro b4_11 g_11 hw ls H locs hl G
    refine lv_iload hx hb dX8_gatherWhere_11 (lv_at hl 4 rfl) ?_
    refine lv_iconst (v := 4) hx hb dX8_gatherWhere_13 (by decide) ?_
    refine lv_icmp_ge (tgt := 56) hx hb dX8_gatherWhere_14 (by decide) (fun c_14 => ?_) (fun c_14 => ?_)
    · have hw := hw.1 c_14
      refine lv_aload_n hx hb dX8_gatherWhere_56 rfl (lv_at hl 0 rfl) ?_
      refine x_get (C := RX8) (T := TX8) (n := 12) S G inX8 (xe_9 kx_1) rfl 5 (by decide) kf_X8_44 rfl dX8_gatherWhere_57 ?_
      exact RT _ _ _ _ _ _ G hw dX8_gatherWhere_60
    · have hw := hw.2 c_14
      refine lv_aload_n hx hb dX8_gatherWhere_17 rfl (lv_at hl 0 rfl) ?_
      refine x_get (C := RX8) (T := TX8) (n := 12) S G inX8 (xe_9 kx_1) rfl 0 (by decide) kf_X8_12 rfl dX8_gatherWhere_18 ?_
      refine x_get (C := RX3) (T := TX3) (n := 10) S G inX3 (xe_4 kx_2) rfl 2 (by decide) kf_X8_107 rfl dX8_gatherWhere_21 ?_
      refine lv_iload hx hb dX8_gatherWhere_24 (lv_at hl 4 rfl) ?_
      obtain ⟨i_26, hw⟩ := hw
      refine x_aald (k := b4_11.toNatClampNeg) S G 4 (xe_24 kx_47 lx_47 rfl) rfl rfl i_26 rfl (if_pos (vpl i_26)) dX8_gatherWhere_26 ?_
      refine x_get (C := RX6) (T := TX6) (n := 8) S G inX6 (xe_7 (kxe_47 _ (vpl i_26))) rfl 0 (by decide) kf_X8_128 rfl dX8_gatherWhere_27 ?_
      refine lv_iload_n hx hb dX8_gatherWhere_30 rfl (lv_at hl 2 rfl) ?_
      obtain ⟨i_31, hw⟩ := hw
      refine x_iald (k := a2.toNatClampNeg) S G (xe_20 ((kxr_7 _ (kX_lt (kxe_47 _ (vpl i_26))) (kxe_47 _ (vpl i_26))).1.1) ((kxr_7 _ (kX_lt (kxe_47 _ (vpl i_26))) (kxe_47 _ (vpl i_26))).1.2)) i_31 rfl rfl dX8_gatherWhere_31 ?_
      refine lv_iload_n hx hb dX8_gatherWhere_32 rfl (lv_at hl 3 rfl) ?_
      have hw := hw (fun (g_50 : Hs) => ∀ (ls : Array Slot) (H : Heap) (locs : List Loc), lv_has ls 5 [(0, .ref (ad 1)), (1, .int a1), (2, .int a2), (3, .int a3), (4, .int b4_11)] → okW D q A s (wX q ad g_50) H locs → W p l e R s m args below meth c H locs 0 0 Qm (F0 m 50 ls [])) (by
        intro g_50 hw ls H locs hl G
        obtain ⟨a4_50, ea4_50⟩ : ∃ y : Int32, y = b4_11 + 1 := ⟨_, rfl⟩
        have hw := hw a4_50 ea4_50
        refine lv_iinc (v := a4_50) (lv' := [(4, .int a4_50), (0, .ref (ad 1)), (1, .int a1), (2, .int a2), (3, .int a3)]) hx hb dX8_gatherWhere_50 hl (k := 4) rfl (by rw [ea4_50]; rfl) (by decide) rfl (fun ls hl => ?_)
        refine lv_goto (tgt := 11) hx hb dX8_gatherWhere_53 (by decide) ?_
        exact hw _ _ _ (lv_sub hl [1, 2, 3, 4, 0] rfl) G)
      refine lv_icmp_ne (tgt := 50) hx hb dX8_gatherWhere_33 (by decide) (fun c_33 => ?_) (fun c_33 => ?_)
      · have hw := hw.1 c_33
        exact hw _ _ _ (lv_sub hl [0, 1, 2, 3, 4] rfl) G
      · have hw := hw.2 c_33
        refine lv_aload_n hx hb dX8_gatherWhere_36 rfl (lv_at hl 0 rfl) ?_
        refine x_get (C := RX8) (T := TX8) (n := 12) S G inX8 (xe_9 kx_1) rfl 5 (by decide) kf_X8_44 rfl dX8_gatherWhere_37 ?_
        refine lv_aload_n hx hb dX8_gatherWhere_40 rfl (lv_at hl 0 rfl) ?_
        refine lv_iload_n hx hb dX8_gatherWhere_41 rfl (lv_at hl 1 rfl) ?_
        refine lv_iload hx hb dX8_gatherWhere_42 (lv_at hl 4 rfl) ?_
        refine x_VrP S hl.1 G (c_Worlds_livedBy l D q A ad a1 b4_11 g_11 _ hw) (cw_X8_185 S.2.2.2.2 ⟨Nat.le_trans (Nat.le_of_ble_eq_true rfl) hR1, Nat.le_trans (Nat.le_of_ble_eq_true rfl) hR2⟩) (xe_9 kx_1) rfl rfl rfl (Nat.le_of_ble_eq_true rfl) dX8_gatherWhere_44 (fun r_44 H locs G hw => ?_)
        obtain ⟨kr_44, hw⟩ := hw
        refine x_Vv S hl.1 G (c_Big_plus l D q A ad 355 r_44 kx_355 kr_44 g_11 _ hw) (cw_X8_181 S.2.2.2.2 ⟨Nat.le_trans (Nat.le_of_ble_eq_true rfl) hR1, Nat.le_trans (Nat.le_of_ble_eq_true rfl) hR2⟩) (xe_1 kx_355) rfl rfl rfl (Nat.le_of_ble_eq_true rfl) dX8_gatherWhere_47 (fun h_47 H locs G hw => ?_)
        exact hw _ _ _ (lv_sub hl [0, 1, 2, 3, 4] rfl) G)
  exact hw _ _ _ (lv_sub hl [1, 2, 3, 4, 0] rfl) G
theorem cw_X9_201 {R : Room} {s : State} {args : Array Value} (hts : ∀ w ∈ gW, w.before args s = true) (hR : rm_Worlds_gatherWhere.frames + 1 ≤ R.frames ∧ 8 + (5 + 11) + rm_Worlds_gatherWhere.locals ≤ R.locals) : CallW R s args RX9 RX8 201 yX8_gatherWhere cX8_gatherWhere 5 (some (.object "WordOnPost$Big")) (mw yX8_gatherWhere cX8_gatherWhere 5 (some (.object "WordOnPost$Big"))) rm_Worlds_gatherWhere 0 0 3 := cwV9 hts km_X9_201 ki_X8_gatherWhere ks_X8_gatherWhere kn_X8 kk_X8_gatherWhere rfl rfl (by decide +kernel) hR
abbrev rm_Worlds_lostOf : Room := { frames := 1, cells := 0, slots := 0, locals := 22 }
set_option maxHeartbeats 4000000 in
set_option maxRecDepth 100000 in
theorem c_Worlds_lostOf (l : Launch) (D : va_G) (q : Nat → ClassId) (A : Nat → Prop) (ad : Nat → Nat) (a1 : Int32) (h : Hs) (Q : Int32 → Prop) (hw : p_Worlds_lostOf a1 h Q) : Met l yX8_lostOf (mw yX8_lostOf cX8_lostOf 7 (some .int)) rm_Worlds_lostOf (va_Pc [.ref (ad 1), .int a1] (pW D q A (wX q ad h))) (va_Qi (fun r h9 => h9 = h ∧ Q r) (fun h t => pW D q A (wX q ad h) t) A) 0 0 A := by
  refine met_i (Qp := (fun r h9 => h9 = h ∧ Q r)) (by decide) (Nat.le_of_ble_eq_true rfl) ?_
  intro p e R s m args below meth c Qm ls hR1 hR2 S RT hl G
  have hx := S.1
  have hb := S.2.1
  have hl : lv_has ls 7 [(0, .ref (ad 1)), (1, .int a1)] := hl
  unfold p_Worlds_lostOf at hw
  refine lv_iconst (v := 0) hx hb dX8_lostOf_0 (by decide) ?_
  refine lv_istore_n (lv' := [(2, .int 0), (0, .ref (ad 1)), (1, .int a1)]) hx hb dX8_lostOf_1 rfl hl (by decide) rfl (fun ls hl => ?_)
  refine lv_iconst (v := 0) hx hb dX8_lostOf_2 (by decide) ?_
  refine lv_istore_n (lv' := [(3, .int 0), (2, .int 0), (0, .ref (ad 1)), (1, .int a1)]) hx hb dX8_lostOf_3 rfl hl (by decide) rfl (fun ls hl => ?_)
  refine lv_iconst (v := 0) hx hb dX8_lostOf_4 (by decide) ?_
  refine lv_istore (lv' := [(4, .int 0), (3, .int 0), (2, .int 0), (0, .ref (ad 1)), (1, .int a1)]) hx hb dX8_lostOf_5 hl (by decide) rfl (fun ls hl => ?_)
  have hw := hw (fun (b2_7 : Int32) (b3_7 : Int32) (b4_7 : Int32) => ∀ (ls : Array Slot) (H : Heap) (locs : List Loc), lv_has ls 7 [(0, .ref (ad 1)), (1, .int a1), (2, .int b2_7), (3, .int b3_7), (4, .int b4_7)] → okW D q A s (wX q ad h) H locs → W p l e R s m args below meth c H locs 0 0 Qm (F0 m 7 ls [])) (by
    intro b2_7 b3_7 b4_7 hw ls H locs hl G
    refine lv_iload hx hb dX8_lostOf_7 (lv_at hl 4 rfl) ?_
    refine lv_iconst (v := 4) hx hb dX8_lostOf_9 (by decide) ?_
    refine lv_icmp_ge (tgt := 107) hx hb dX8_lostOf_10 (by decide) (fun c_10 => ?_) (fun c_10 => ?_)
    · have hw := hw.1 c_10
      refine lv_iload_n hx hb dX8_lostOf_107 rfl (lv_at hl 2 rfl) ?_
      have hw := hw (fun (t0_128 : Int32) => ∀ (ls : Array Slot) (H : Heap) (locs : List Loc), lv_has ls 7 [] → okW D q A s (wX q ad h) H locs → W p l e R s m args below meth c H locs 0 0 Qm (F0 m 128 ls [.int t0_128])) (by
        intro t0_128 hw ls H locs hl G
        exact RT _ _ _ _ _ _ G ⟨rfl, hw⟩ dX8_lostOf_128)
      have hw := hw (∀ (ls : Array Slot) (H : Heap) (locs : List Loc), lv_has ls 7 [(2, .int b2_7)] → okW D q A s (wX q ad h) H locs → W p l e R s m args below meth c H locs 0 0 Qm (F0 m 119 ls [])) (by
        intro hw ls H locs hl G
        refine lv_iload_n hx hb dX8_lostOf_119 rfl (lv_at hl 0 rfl) ?_
        refine lv_if_eq (tgt := 127) hx hb dX8_lostOf_120 (by decide) (fun c_120 => ?_) (fun c_120 => ?_)
        · have hw := hw.1 c_120
          refine lv_iconst (v := 0) hx hb dX8_lostOf_127 (by decide) ?_
          exact hw _ _ _ (lv_sub hl [] rfl) G
        · have hw := hw.2 c_120
          refine lv_iconst (v := 1) hx hb dX8_lostOf_123 (by decide) ?_
          refine lv_goto (tgt := 128) hx hb dX8_lostOf_124 (by decide) ?_
          exact hw _ _ _ (lv_sub hl [] rfl) G)
      refine lv_if_eq (tgt := 119) hx hb dX8_lostOf_108 (by decide) (fun c_108 => ?_) (fun c_108 => ?_)
      · have hw := hw.1 c_108
        exact hw _ _ _ (lv_sub hl [2] rfl) G
      · have hw := hw.2 c_108
        refine lv_iload_n hx hb dX8_lostOf_111 rfl (lv_at hl 3 rfl) ?_
        refine lv_if_eq (tgt := 119) hx hb dX8_lostOf_112 (by decide) (fun c_112 => ?_) (fun c_112 => ?_)
        · have hw := hw.1 c_112
          exact hw _ _ _ (lv_sub hl [2] rfl) G
        · have hw := hw.2 c_112
          refine lv_iconst (v := 2) hx hb dX8_lostOf_115 (by decide) ?_
          refine lv_goto (tgt := 128) hx hb dX8_lostOf_116 (by decide) ?_
          exact hw _ _ _ (lv_sub hl [] rfl) G
    · have hw := hw.2 c_10
      refine lv_aload_n hx hb dX8_lostOf_13 rfl (lv_at hl 0 rfl) ?_
      refine x_get (C := RX8) (T := TX8) (n := 12) S G inX8 (xe_9 kx_1) rfl 0 (by decide) kf_X8_12 rfl dX8_lostOf_14 ?_
      refine x_get (C := RX3) (T := TX3) (n := 10) S G inX3 (xe_4 kx_2) rfl 2 (by decide) kf_X8_107 rfl dX8_lostOf_17 ?_
      refine lv_iload hx hb dX8_lostOf_20 (lv_at hl 4 rfl) ?_
      obtain ⟨i_22, hw⟩ := hw
      refine x_aald (k := b4_7.toNatClampNeg) S G 4 (xe_24 kx_47 lx_47 rfl) rfl rfl i_22 rfl (if_pos (vpl i_22)) dX8_lostOf_22 ?_
      refine x_get (C := RX6) (T := TX6) (n := 8) S G inX6 (xe_7 (kxe_47 _ (vpl i_22))) rfl 0 (by decide) kf_X8_128 rfl dX8_lostOf_23 ?_
      refine lv_bipush (v := 119) hx hb dX8_lostOf_26 (by decide) ?_
      refine x_iald (k := 119) S G (xe_20 ((kxr_7 _ (kX_lt (kxe_47 _ (vpl i_22))) (kxe_47 _ (vpl i_22))).1.1) ((kxr_7 _ (kX_lt (kxe_47 _ (vpl i_22))) (kxe_47 _ (vpl i_22))).1.2)) (vpi (by decide)) rfl rfl dX8_lostOf_28 ?_
      refine lv_bipush (v := 7) hx hb dX8_lostOf_29 (by decide) ?_
      have hw := hw (fun (t0_39 : Int32) => ∀ (ls : Array Slot) (H : Heap) (locs : List Loc), lv_has ls 7 [(0, .ref (ad 1)), (1, .int a1), (2, .int b2_7), (3, .int b3_7), (4, .int b4_7)] → okW D q A s (wX q ad h) H locs → W p l e R s m args below meth c H locs 0 0 Qm (F0 m 39 ls [.int t0_39])) (by
        intro t0_39 hw ls H locs hl G
        refine lv_istore (lv' := [(5, .int t0_39), (0, .ref (ad 1)), (1, .int a1), (2, .int b2_7), (3, .int b3_7), (4, .int b4_7)]) hx hb dX8_lostOf_39 hl (by decide) rfl (fun ls hl => ?_)
        refine lv_aload_n hx hb dX8_lostOf_41 rfl (lv_at hl 1 rfl) ?_
        refine lv_iload_n hx hb dX8_lostOf_42 rfl (lv_at hl 2 rfl) ?_
        refine lv_iload hx hb dX8_lostOf_43 (lv_at hl 5 rfl) ?_
        refine x_VrP S hl.1 G (c_Worlds_livedBy l D q A ad a1 b4_7 h _ hw) (cw_X8_185 S.2.2.2.2 ⟨Nat.le_trans (Nat.le_of_ble_eq_true rfl) hR1, Nat.le_trans (Nat.le_of_ble_eq_true rfl) hR2⟩) (xe_9 kx_1) rfl rfl rfl (Nat.le_of_ble_eq_true rfl) dX8_lostOf_45 (fun r_45 H locs G hw => ?_)
        obtain ⟨kr_45, hw⟩ := hw
        refine x_VzP S hl.1 G (c_Big_isZero l D q A ad r_45 kr_45 h _ hw) (cw_X8_155 S.2.2.2.2 ⟨Nat.le_trans (Nat.le_of_ble_eq_true rfl) hR1, Nat.le_trans (Nat.le_of_ble_eq_true rfl) hR2⟩) (xe_1 kr_45) rfl rfl rfl (Nat.le_of_ble_eq_true rfl) dX8_lostOf_48 (fun r_48 H locs G z_48 hw => ?_)
        have hw := hw (fun (t0_59 : Int32) => ∀ (ls : Array Slot) (H : Heap) (locs : List Loc), lv_has ls 7 [(0, .ref (ad 1)), (1, .int a1), (2, .int b2_7), (3, .int b3_7), (4, .int b4_7), (5, .int t0_39)] → okW D q A s (wX q ad h) H locs → W p l e R s m args below meth c H locs 0 0 Qm (F0 m 59 ls [.int t0_59])) (by
          intro t0_59 hw ls H locs hl G
          refine lv_istore (lv' := [(6, .int t0_59), (0, .ref (ad 1)), (1, .int a1), (2, .int b2_7), (3, .int b3_7), (4, .int b4_7), (5, .int t0_39)]) hx hb dX8_lostOf_59 hl (by decide) rfl (fun ls hl => ?_)
          refine lv_iload_n hx hb dX8_lostOf_61 rfl (lv_at hl 3 rfl) ?_
          have hw := hw (fun (t0_80 : Int32) => ∀ (ls : Array Slot) (H : Heap) (locs : List Loc), lv_has ls 7 [(0, .ref (ad 1)), (1, .int a1), (3, .int b3_7), (4, .int b4_7), (5, .int t0_39), (6, .int t0_59)] → okW D q A s (wX q ad h) H locs → W p l e R s m args below meth c H locs 0 0 Qm (F0 m 80 ls [.int t0_80])) (by
            intro t0_80 hw ls H locs hl G
            refine lv_istore_n (lv' := [(2, .int t0_80), (0, .ref (ad 1)), (1, .int a1), (3, .int b3_7), (4, .int b4_7), (5, .int t0_39), (6, .int t0_59)]) hx hb dX8_lostOf_80 rfl hl (by decide) rfl (fun ls hl => ?_)
            refine lv_iload_n hx hb dX8_lostOf_81 rfl (lv_at hl 3 rfl) ?_
            have hw := hw (fun (t0_100 : Int32) => ∀ (ls : Array Slot) (H : Heap) (locs : List Loc), lv_has ls 7 [(0, .ref (ad 1)), (1, .int a1), (2, .int t0_80), (4, .int b4_7)] → okW D q A s (wX q ad h) H locs → W p l e R s m args below meth c H locs 0 0 Qm (F0 m 100 ls [.int t0_100])) (by
              intro t0_100 hw ls H locs hl G
              refine lv_istore_n (lv' := [(3, .int t0_100), (0, .ref (ad 1)), (1, .int a1), (2, .int t0_80), (4, .int b4_7)]) hx hb dX8_lostOf_100 rfl hl (by decide) rfl (fun ls hl => ?_)
              obtain ⟨a4_101, ea4_101⟩ : ∃ y : Int32, y = b4_7 + 1 := ⟨_, rfl⟩
              have hw := hw a4_101 ea4_101
              refine lv_iinc (v := a4_101) (lv' := [(4, .int a4_101), (3, .int t0_100), (0, .ref (ad 1)), (1, .int a1), (2, .int t0_80)]) hx hb dX8_lostOf_101 hl (k := 4) rfl (by rw [ea4_101]; rfl) (by decide) rfl (fun ls hl => ?_)
              refine lv_goto (tgt := 7) hx hb dX8_lostOf_104 (by decide) ?_
              exact hw _ _ _ (lv_sub hl [2, 3, 4, 1, 0] rfl) G)
            have hw := hw (∀ (ls : Array Slot) (H : Heap) (locs : List Loc), lv_has ls 7 [(0, .ref (ad 1)), (1, .int a1), (2, .int t0_80), (4, .int b4_7)] → okW D q A s (wX q ad h) H locs → W p l e R s m args below meth c H locs 0 0 Qm (F0 m 95 ls [])) (by
              intro hw ls H locs hl G
              refine lv_iconst (v := 1) hx hb dX8_lostOf_95 (by decide) ?_
              refine lv_goto (tgt := 100) hx hb dX8_lostOf_96 (by decide) ?_
              exact hw _ _ _ (lv_sub hl [0, 1, 2, 3] rfl) G)
            refine lv_if_ne (tgt := 95) hx hb dX8_lostOf_82 (by decide) (fun c_82 => ?_) (fun c_82 => ?_)
            · have hw := hw.1 c_82
              exact hw _ _ _ (lv_sub hl [1, 2, 0, 4] rfl) G
            · have hw := hw.2 c_82
              refine lv_iload hx hb dX8_lostOf_85 (lv_at hl 6 rfl) ?_
              have hw := hw (∀ (ls : Array Slot) (H : Heap) (locs : List Loc), lv_has ls 7 [(0, .ref (ad 1)), (1, .int a1), (2, .int t0_80), (4, .int b4_7)] → okW D q A s (wX q ad h) H locs → W p l e R s m args below meth c H locs 0 0 Qm (F0 m 99 ls [])) (by
                intro hw ls H locs hl G
                refine lv_iconst (v := 0) hx hb dX8_lostOf_99 (by decide) ?_
                exact hw _ _ _ (lv_sub hl [0, 1, 2, 3] rfl) G)
              refine lv_if_eq (tgt := 99) hx hb dX8_lostOf_87 (by decide) (fun c_87 => ?_) (fun c_87 => ?_)
              · have hw := hw.1 c_87
                exact hw _ _ _ (lv_sub hl [1, 2, 0, 4] rfl) G
              · have hw := hw.2 c_87
                refine lv_iload hx hb dX8_lostOf_90 (lv_at hl 5 rfl) ?_
                refine lv_if_ne (tgt := 99) hx hb dX8_lostOf_92 (by decide) (fun c_92 => ?_) (fun c_92 => ?_)
                · have hw := hw.1 c_92
                  exact hw _ _ _ (lv_sub hl [1, 2, 0, 4] rfl) G
                · have hw := hw.2 c_92
                  exact hw _ _ _ (lv_sub hl [1, 2, 0, 4] rfl) G)
          have hw := hw (∀ (ls : Array Slot) (H : Heap) (locs : List Loc), lv_has ls 7 [(0, .ref (ad 1)), (1, .int a1), (3, .int b3_7), (4, .int b4_7), (5, .int t0_39), (6, .int t0_59)] → okW D q A s (wX q ad h) H locs → W p l e R s m args below meth c H locs 0 0 Qm (F0 m 75 ls [])) (by
            intro hw ls H locs hl G
            refine lv_iconst (v := 1) hx hb dX8_lostOf_75 (by decide) ?_
            refine lv_goto (tgt := 80) hx hb dX8_lostOf_76 (by decide) ?_
            exact hw _ _ _ (lv_sub hl [0, 1, 2, 3, 4, 5] rfl) G)
          refine lv_if_ne (tgt := 75) hx hb dX8_lostOf_62 (by decide) (fun c_62 => ?_) (fun c_62 => ?_)
          · have hw := hw.1 c_62
            exact hw _ _ _ (lv_sub hl [1, 2, 4, 5, 6, 0] rfl) G
          · have hw := hw.2 c_62
            refine lv_iload hx hb dX8_lostOf_65 (lv_at hl 0 rfl) ?_
            have hw := hw (∀ (ls : Array Slot) (H : Heap) (locs : List Loc), lv_has ls 7 [(0, .ref (ad 1)), (1, .int a1), (3, .int b3_7), (4, .int b4_7), (5, .int t0_39), (6, .int t0_59)] → okW D q A s (wX q ad h) H locs → W p l e R s m args below meth c H locs 0 0 Qm (F0 m 79 ls [])) (by
              intro hw ls H locs hl G
              refine lv_iconst (v := 0) hx hb dX8_lostOf_79 (by decide) ?_
              exact hw _ _ _ (lv_sub hl [0, 1, 2, 3, 4, 5] rfl) G)
            refine lv_if_eq (tgt := 79) hx hb dX8_lostOf_67 (by decide) (fun c_67 => ?_) (fun c_67 => ?_)
            · have hw := hw.1 c_67
              exact hw _ _ _ (lv_sub hl [1, 2, 4, 5, 6, 0] rfl) G
            · have hw := hw.2 c_67
              refine lv_iload hx hb dX8_lostOf_70 (lv_at hl 6 rfl) ?_
              refine lv_if_eq (tgt := 79) hx hb dX8_lostOf_72 (by decide) (fun c_72 => ?_) (fun c_72 => ?_)
              · have hw := hw.1 c_72
                exact hw _ _ _ (lv_sub hl [1, 2, 4, 5, 6, 0] rfl) G
              · have hw := hw.2 c_72
                exact hw _ _ _ (lv_sub hl [1, 2, 4, 5, 6, 0] rfl) G)
        refine lv_if_ne (tgt := 58) hx hb dX8_lostOf_51 (by decide) (fun c_51 => ?_) (fun c_51 => ?_)
        · have hw := hw.1 c_51
          refine lv_iconst (v := 0) hx hb dX8_lostOf_58 (by decide) ?_
          exact hw _ _ _ (lv_sub hl [1, 2, 3, 4, 5, 0] rfl) G
        · have hw := hw.2 c_51
          refine lv_iconst (v := 1) hx hb dX8_lostOf_54 (by decide) ?_
          refine lv_goto (tgt := 59) hx hb dX8_lostOf_55 (by decide) ?_
          exact hw _ _ _ (lv_sub hl [1, 2, 3, 4, 5, 0] rfl) G)
      refine lv_icmp_ne (tgt := 38) hx hb dX8_lostOf_31 (by decide) (fun c_31 => ?_) (fun c_31 => ?_)
      · have hw := hw.1 c_31
        refine lv_iconst (v := 0) hx hb dX8_lostOf_38 (by decide) ?_
        exact hw _ _ _ (lv_sub hl [0, 1, 2, 3, 4] rfl) G
      · have hw := hw.2 c_31
        refine lv_iconst (v := 1) hx hb dX8_lostOf_34 (by decide) ?_
        refine lv_goto (tgt := 39) hx hb dX8_lostOf_35 (by decide) ?_
        exact hw _ _ _ (lv_sub hl [0, 1, 2, 3, 4] rfl) G)
  exact hw _ _ _ (lv_sub hl [3, 4, 2, 1, 0] rfl) G
theorem cw_X9_205 {R : Room} {s : State} {args : Array Value} (hts : ∀ w ∈ gW, w.before args s = true) (hR : rm_Worlds_lostOf.frames + 1 ≤ R.frames ∧ 8 + (7 + 11) + rm_Worlds_lostOf.locals ≤ R.locals) : CallW R s args RX9 RX8 205 yX8_lostOf cX8_lostOf 7 (some .int) (mw yX8_lostOf cX8_lostOf 7 (some .int)) rm_Worlds_lostOf 0 0 1 := cwV9 hts km_X9_205 ki_X8_lostOf ks_X8_lostOf kn_X8 kk_X8_lostOf rfl rfl (by decide +kernel) hR
abbrev rm_Worlds_differenceAt : Room := { frames := 2, cells := 0, slots := 0, locals := 46 }
set_option maxHeartbeats 4000000 in
set_option maxRecDepth 100000 in
theorem c_Worlds_differenceAt (l : Launch) (D : va_G) (q : Nat → ClassId) (A : Nat → Prop) (ad : Nat → Nat) (a1 : Int32) (a2 : Int32) (h : Hs) (Q : Int32 → Hs → Prop) (hw : p_Worlds_differenceAt a1 a2 h Q) : Met l yX8_differenceAt (mw yX8_differenceAt cX8_differenceAt 7 (some .int)) rm_Worlds_differenceAt (va_Pc [.ref (ad 1), .int a1, .int a2] (pW D q A (wX q ad h))) (va_Qi Q (fun h t => pW D q A (wX q ad h) t) A) 0 0 A := by
  refine met_i (Qp := Q) (by decide) (Nat.le_of_ble_eq_true rfl) ?_
  intro p e R s m args below meth c Qm ls hR1 hR2 S RT hl G
  have hx := S.1
  have hb := S.2.1
  have hl : lv_has ls 7 [(0, .ref (ad 1)), (1, .int a1), (2, .int a2)] := hl
  unfold p_Worlds_differenceAt at hw
  refine lv_bipush (v := 20) hx hb dX8_differenceAt_0 (by decide) ?_
  refine lv_istore_n (lv' := [(3, .int 20), (0, .ref (ad 1)), (1, .int a1), (2, .int a2)]) hx hb dX8_differenceAt_2 rfl hl (by decide) rfl (fun ls hl => ?_)
  refine lv_iconst (v := 0) hx hb dX8_differenceAt_3 (by decide) ?_
  refine lv_istore (lv' := [(4, .int 0), (3, .int 20), (0, .ref (ad 1)), (1, .int a1), (2, .int a2)]) hx hb dX8_differenceAt_4 hl (by decide) rfl (fun ls hl => ?_)
  refine lv_iconst (v := 0) hx hb dX8_differenceAt_6 (by decide) ?_
  refine lv_istore (lv' := [(5, .int 0), (4, .int 0), (3, .int 20), (0, .ref (ad 1)), (1, .int a1), (2, .int a2)]) hx hb dX8_differenceAt_7 hl (by decide) rfl (fun ls hl => ?_)
  have hw := hw (fun (b3_9 : Int32) (b4_9 : Int32) (b5_9 : Int32) (g_9 : Hs) => ∀ (ls : Array Slot) (H : Heap) (locs : List Loc), lv_has ls 7 [(0, .ref (ad 1)), (1, .int a1), (2, .int a2), (3, .int b3_9), (4, .int b4_9), (5, .int b5_9)] → okW D q A s (wX q ad g_9) H locs → W p l e R s m args below meth c H locs 0 0 Qm (F0 m 9 ls [])) (by
    intro b3_9 b4_9 b5_9 g_9 hw ls H locs hl G
    refine lv_iload hx hb dX8_differenceAt_9 (lv_at hl 5 rfl) ?_
    refine lv_iconst (v := 4) hx hb dX8_differenceAt_11 (by decide) ?_
    refine lv_icmp_ge (tgt := 70) hx hb dX8_differenceAt_12 (by decide) (fun c_12 => ?_) (fun c_12 => ?_)
    · have hw := hw.1 c_12
      refine lv_iload hx hb dX8_differenceAt_70 (lv_at hl 4 rfl) ?_
      refine lv_iload_n hx hb dX8_differenceAt_72 rfl (lv_at hl 3 rfl) ?_
      refine lv_isub hx hb dX8_differenceAt_73 ?_
      exact RT _ _ _ _ _ _ G hw dX8_differenceAt_74
    · have hw := hw.2 c_12
      refine lv_aload_n hx hb dX8_differenceAt_15 rfl (lv_at hl 0 rfl) ?_
      refine x_get (C := RX8) (T := TX8) (n := 12) S G inX8 (xe_9 kx_1) rfl 9 (by decide) kf_X8_54 rfl dX8_differenceAt_16 ?_
      refine lv_iload hx hb dX8_differenceAt_19 (lv_at hl 5 rfl) ?_
      obtain ⟨i_21, hw⟩ := hw
      refine x_aald (k := b5_9.toNatClampNeg) S G 3 (xe_23 kx_361 lx_361 rfl) rfl rfl i_21 rfl (if_pos (vpl i_21)) dX8_differenceAt_21 ?_
      refine x_VzP S hl.1 G (c_Big_isZero l D q A ad (396 + 2 * b5_9.toNatClampNeg) (kxe_361 _ (vpl i_21)) g_9 _ hw) (cw_X8_155 S.2.2.2.2 ⟨Nat.le_trans (Nat.le_of_ble_eq_true rfl) hR1, Nat.le_trans (Nat.le_of_ble_eq_true rfl) hR2⟩) (xe_1 (kxe_361 _ (vpl i_21))) rfl rfl rfl (Nat.le_of_ble_eq_true rfl) dX8_differenceAt_22 (fun r_22 H locs G z_22 hw => ?_)
      have hw := hw (fun (b3_64 : Int32) (b4_64 : Int32) (g_64 : Hs) => ∀ (ls : Array Slot) (H : Heap) (locs : List Loc), lv_has ls 7 [(0, .ref (ad 1)), (1, .int a1), (2, .int a2), (3, .int b3_64), (4, .int b4_64), (5, .int b5_9)] → okW D q A s (wX q ad g_64) H locs → W p l e R s m args below meth c H locs 0 0 Qm (F0 m 64 ls [])) (by
        intro b3_64 b4_64 g_64 hw ls H locs hl G
        obtain ⟨a5_64, ea5_64⟩ : ∃ y : Int32, y = b5_9 + 1 := ⟨_, rfl⟩
        have hw := hw a5_64 ea5_64
        refine lv_iinc (v := a5_64) (lv' := [(5, .int a5_64), (0, .ref (ad 1)), (1, .int a1), (2, .int a2), (3, .int b3_64), (4, .int b4_64)]) hx hb dX8_differenceAt_64 hl (k := 5) rfl (by rw [ea5_64]; rfl) (by decide) rfl (fun ls hl => ?_)
        refine lv_goto (tgt := 9) hx hb dX8_differenceAt_67 (by decide) ?_
        exact hw _ _ _ (lv_sub hl [1, 2, 3, 4, 5, 0] rfl) G)
      refine lv_if_ne (tgt := 64) hx hb dX8_differenceAt_25 (by decide) (fun c_25 => ?_) (fun c_25 => ?_)
      · have hw := hw.1 c_25
        exact hw _ _ _ (lv_sub hl [0, 1, 2, 3, 4, 5] rfl) G
      · have hw := hw.2 c_25
        refine lv_aload_n hx hb dX8_differenceAt_28 rfl (lv_at hl 0 rfl) ?_
        refine x_get (C := RX8) (T := TX8) (n := 12) S G inX8 (xe_9 kx_1) rfl 0 (by decide) kf_X8_12 rfl dX8_differenceAt_29 ?_
        refine lv_iload hx hb dX8_differenceAt_32 (lv_at hl 5 rfl) ?_
        refine x_Vv S hl.1 G (c_Lives_allLive l D q A ad b5_9 g_9 _ hw) (cw_X8_201 S.2.2.2.2 ⟨Nat.le_trans (Nat.le_of_ble_eq_true rfl) hR1, Nat.le_trans (Nat.le_of_ble_eq_true rfl) hR2⟩) (xe_4 kx_2) rfl rfl rfl (Nat.le_of_ble_eq_true rfl) dX8_differenceAt_34 (fun h_34 H locs G hw => ?_)
        refine lv_aload_n hx hb dX8_differenceAt_37 rfl (lv_at hl 0 rfl) ?_
        refine x_get (C := RX8) (T := TX8) (n := 12) S G inX8 (xe_9 kx_1) rfl 0 (by decide) kf_X8_12 rfl dX8_differenceAt_38 ?_
        refine lv_iload_n hx hb dX8_differenceAt_41 rfl (lv_at hl 1 rfl) ?_
        refine lv_iload_n hx hb dX8_differenceAt_42 rfl (lv_at hl 2 rfl) ?_
        refine x_ViP S hl.1 G (c_Lives_left l D q A ad a1 a2 h_34 _ hw) (cw_X8_162 S.2.2.2.2 ⟨Nat.le_trans (Nat.le_of_ble_eq_true rfl) hR1, Nat.le_trans (Nat.le_of_ble_eq_true rfl) hR2⟩) (xe_4 kx_2) rfl rfl rfl (Nat.le_of_ble_eq_true rfl) dX8_differenceAt_43 (fun r_43 H locs G hw => ?_)
        refine lv_istore (lv' := [(6, .int r_43), (0, .ref (ad 1)), (1, .int a1), (2, .int a2), (3, .int b3_9), (4, .int b4_9), (5, .int b5_9)]) hx hb dX8_differenceAt_46 hl (by decide) rfl (fun ls hl => ?_)
        refine lv_iload_n hx hb dX8_differenceAt_48 rfl (lv_at hl 4 rfl) ?_
        refine lv_iload hx hb dX8_differenceAt_49 (lv_at hl 0 rfl) ?_
        refine va_mmin hx hb (S.2.2.1.trans hl.1.symm) S.2.2.2.1 (S.2.2.2.2 _ km_X8_204) (S.2.2.2.2 _ kt_J9_min_7cf53) (S.2.2.2.2 _ kn_J9) (S.2.2.2.2 _ kk_J9_min_7cf53) (Nat.le_trans (Nat.le_of_ble_eq_true rfl) hR1) (Nat.le_trans (Nat.le_of_ble_eq_true rfl) hR2) (Nat.zero_le _) (Nat.zero_le _) dX8_differenceAt_51 ?_
        refine lv_topi (fun a3_54 ea3_54 => ?_)
        have hw := hw a3_54 ea3_54
        refine lv_istore_n (lv' := [(3, .int a3_54), (6, .int r_43), (0, .ref (ad 1)), (1, .int a1), (2, .int a2), (4, .int b4_9), (5, .int b5_9)]) hx hb dX8_differenceAt_54 rfl hl (by decide) rfl (fun ls hl => ?_)
        refine lv_iload hx hb dX8_differenceAt_55 (lv_at hl 5 rfl) ?_
        refine lv_iload hx hb dX8_differenceAt_57 (lv_at hl 1 rfl) ?_
        refine va_mmax hx hb (S.2.2.1.trans hl.1.symm) S.2.2.2.1 (S.2.2.2.2 _ km_X8_209) (S.2.2.2.2 _ kt_J9_max_7cf53) (S.2.2.2.2 _ kn_J9) (S.2.2.2.2 _ kk_J9_max_7cf53) (Nat.le_trans (Nat.le_of_ble_eq_true rfl) hR1) (Nat.le_trans (Nat.le_of_ble_eq_true rfl) hR2) (Nat.zero_le _) (Nat.zero_le _) dX8_differenceAt_59 ?_
        refine lv_topi (fun a4_62 ea4_62 => ?_)
        have hw := hw a4_62 ea4_62
        refine lv_istore (lv' := [(4, .int a4_62), (3, .int a3_54), (6, .int r_43), (0, .ref (ad 1)), (1, .int a1), (2, .int a2), (5, .int b5_9)]) hx hb dX8_differenceAt_62 hl (by decide) rfl (fun ls hl => ?_)
        exact hw _ _ _ (lv_sub hl [3, 4, 5, 1, 0, 6] rfl) G)
  exact hw _ _ _ (lv_sub hl [3, 4, 5, 2, 1, 0] rfl) G
theorem cw_X8_198 {R : Room} {s : State} {args : Array Value} (hts : ∀ w ∈ gW, w.before args s = true) (hR : rm_Worlds_differenceAt.frames + 1 ≤ R.frames ∧ 8 + (7 + 11) + rm_Worlds_differenceAt.locals ≤ R.locals) : CallW R s args RX8 RX8 198 yX8_differenceAt cX8_differenceAt 7 (some .int) (mw yX8_differenceAt cX8_differenceAt 7 (some .int)) rm_Worlds_differenceAt 0 0 2 := cwV9 hts km_X8_198 ki_X8_differenceAt ks_X8_differenceAt kn_X8 kk_X8_differenceAt rfl rfl (by decide +kernel) hR
abbrev rm_Worlds_digNext : Room := { frames := 3, cells := 0, slots := 0, locals := 72 }
set_option maxHeartbeats 4000000 in
set_option maxRecDepth 100000 in
theorem c_Worlds_digNext (l : Launch) (D : va_G) (q : Nat → ClassId) (A : Nat → Prop) (ad : Nat → Nat) (h : Hs) (Q : Int32 → Hs → Prop) (hw : p_Worlds_digNext h Q) : Met l yX8_digNext (mw yX8_digNext cX8_digNext 6 (some .int)) rm_Worlds_digNext (va_Pc [.ref (ad 1)] (pW D q A (wX q ad h))) (va_Qi Q (fun h t => pW D q A (wX q ad h) t) A) 0 0 A := by
  refine met_i (Qp := Q) (by decide) (Nat.le_of_ble_eq_true rfl) ?_
  intro p e R s m args below meth c Qm ls hR1 hR2 S RT hl G
  have hx := S.1
  have hb := S.2.1
  have hl : lv_has ls 6 [(0, .ref (ad 1))] := hl
  unfold p_Worlds_digNext at hw
  refine lv_iconst (v := (-1)) hx hb dX8_digNext_0 (by decide) ?_
  refine lv_istore_n (lv' := [(1, .int (-1)), (0, .ref (ad 1))]) hx hb dX8_digNext_1 rfl hl (by decide) rfl (fun ls hl => ?_)
  refine lv_iconst (v := 0) hx hb dX8_digNext_2 (by decide) ?_
  refine lv_istore_n (lv' := [(2, .int 0), (1, .int (-1)), (0, .ref (ad 1))]) hx hb dX8_digNext_3 rfl hl (by decide) rfl (fun ls hl => ?_)
  refine lv_iconst (v := 0) hx hb dX8_digNext_4 (by decide) ?_
  refine lv_istore_n (lv' := [(3, .int 0), (2, .int 0), (1, .int (-1)), (0, .ref (ad 1))]) hx hb dX8_digNext_5 rfl hl (by decide) rfl (fun ls hl => ?_)
  have hw := hw (fun (b1_6 : Int32) (b2_6 : Int32) (b3_6 : Int32) (g_6 : Hs) => ∀ (ls : Array Slot) (H : Heap) (locs : List Loc), lv_has ls 6 [(0, .ref (ad 1)), (1, .int b1_6), (2, .int b2_6), (3, .int b3_6)] → okW D q A s (wX q ad g_6) H locs → W p l e R s m args below meth c H locs 0 0 Qm (F0 m 6 ls [])) (by
    intro b1_6 b2_6 b3_6 g_6 hw ls H locs hl G
    refine lv_iload_n hx hb dX8_digNext_6 rfl (lv_at hl 3 rfl) ?_
    refine lv_aload_n hx hb dX8_digNext_7 rfl (lv_at hl 0 rfl) ?_
    refine x_get (C := RX8) (T := TX8) (n := 12) S G inX8 (xe_9 kx_1) rfl 1 (by decide) kf_X8_22 rfl dX8_digNext_8 ?_
    refine x_get (C := RX5) (T := TX5) (n := 17) S G inX5 (xe_6 kx_3) rfl 0 (by decide) kf_X8_191 rfl dX8_digNext_11 ?_
    refine lv_icmp_ge (tgt := 81) hx hb dX8_digNext_14 (by decide) (fun c_14 => ?_) (fun c_14 => ?_)
    · have hw := hw.1 c_14
      refine lv_iload_n hx hb dX8_digNext_81 rfl (lv_at hl 1 rfl) ?_
      exact RT _ _ _ _ _ _ G hw dX8_digNext_82
    · have hw := hw.2 c_14
      refine lv_iconst (v := 0) hx hb dX8_digNext_17 (by decide) ?_
      refine lv_istore (lv' := [(4, .int 0), (0, .ref (ad 1)), (1, .int b1_6), (2, .int b2_6), (3, .int b3_6)]) hx hb dX8_digNext_18 hl (by decide) rfl (fun ls hl => ?_)
      have hw := hw (fun (b1_20 : Int32) (b2_20 : Int32) (b4_20 : Int32) (g_20 : Hs) => ∀ (ls : Array Slot) (H : Heap) (locs : List Loc), lv_has ls 6 [(0, .ref (ad 1)), (1, .int b1_20), (2, .int b2_20), (3, .int b3_6), (4, .int b4_20)] → okW D q A s (wX q ad g_20) H locs → W p l e R s m args below meth c H locs 0 0 Qm (F0 m 20 ls [])) (by
        intro b1_20 b2_20 b4_20 g_20 hw ls H locs hl G
        refine lv_iload hx hb dX8_digNext_20 (lv_at hl 4 rfl) ?_
        refine lv_iconst (v := 4) hx hb dX8_digNext_22 (by decide) ?_
        refine lv_icmp_ge (tgt := 75) hx hb dX8_digNext_23 (by decide) (fun c_23 => ?_) (fun c_23 => ?_)
        · have hw := hw.1 c_23
          obtain ⟨a3_75, ea3_75⟩ : ∃ y : Int32, y = b3_6 + 1 := ⟨_, rfl⟩
          have hw := hw a3_75 ea3_75
          refine lv_iinc (v := a3_75) (lv' := [(3, .int a3_75), (0, .ref (ad 1)), (1, .int b1_20), (2, .int b2_20), (4, .int b4_20)]) hx hb dX8_digNext_75 hl (k := 3) rfl (by rw [ea3_75]; rfl) (by decide) rfl (fun ls hl => ?_)
          refine lv_goto (tgt := 6) hx hb dX8_digNext_78 (by decide) ?_
          exact hw _ _ _ (lv_sub hl [1, 2, 3, 0] rfl) G
        · have hw := hw.2 c_23
          refine lv_aload_n hx hb dX8_digNext_26 rfl (lv_at hl 0 rfl) ?_
          refine x_get (C := RX8) (T := TX8) (n := 12) S G inX8 (xe_9 kx_1) rfl 1 (by decide) kf_X8_22 rfl dX8_digNext_27 ?_
          refine lv_iload_n hx hb dX8_digNext_30 rfl (lv_at hl 3 rfl) ?_
          refine lv_iload hx hb dX8_digNext_31 (lv_at hl 4 rfl) ?_
          refine x_VzP S hl.1 G (c_State_hasSign l D q A ad b3_6 b4_20 g_20 _ hw) (cw_X8_194 S.2.2.2.2 ⟨Nat.le_trans (Nat.le_of_ble_eq_true rfl) hR1, Nat.le_trans (Nat.le_of_ble_eq_true rfl) hR2⟩) (xe_6 kx_3) rfl rfl rfl (Nat.le_of_ble_eq_true rfl) dX8_digNext_33 (fun r_33 H locs G z_33 hw => ?_)
          have hw := hw (fun (t0_50 : Int32) (g_50 : Hs) => ∀ (ls : Array Slot) (H : Heap) (locs : List Loc), lv_has ls 6 [(0, .ref (ad 1)), (1, .int b1_20), (2, .int b2_20), (3, .int b3_6), (4, .int b4_20)] → okW D q A s (wX q ad g_50) H locs → W p l e R s m args below meth c H locs 0 0 Qm (F0 m 50 ls [.int t0_50])) (by
            intro t0_50 g_50 hw ls H locs hl G
            refine lv_istore (lv' := [(5, .int t0_50), (0, .ref (ad 1)), (1, .int b1_20), (2, .int b2_20), (3, .int b3_6), (4, .int b4_20)]) hx hb dX8_digNext_50 hl (by decide) rfl (fun ls hl => ?_)
            refine lv_iload hx hb dX8_digNext_52 (lv_at hl 0 rfl) ?_
            refine lv_iload_n hx hb dX8_digNext_54 rfl (lv_at hl 3 rfl) ?_
            have hw := hw (fun (b1_69 : Int32) (b2_69 : Int32) => ∀ (ls : Array Slot) (H : Heap) (locs : List Loc), lv_has ls 6 [(0, .ref (ad 1)), (1, .int b1_69), (2, .int b2_69), (3, .int b3_6), (4, .int b4_20)] → okW D q A s (wX q ad g_50) H locs → W p l e R s m args below meth c H locs 0 0 Qm (F0 m 69 ls [])) (by
              intro b1_69 b2_69 hw ls H locs hl G
              obtain ⟨a4_69, ea4_69⟩ : ∃ y : Int32, y = b4_20 + 1 := ⟨_, rfl⟩
              have hw := hw a4_69 ea4_69
              refine lv_iinc (v := a4_69) (lv' := [(4, .int a4_69), (0, .ref (ad 1)), (1, .int b1_69), (2, .int b2_69), (3, .int b3_6)]) hx hb dX8_digNext_69 hl (k := 4) rfl (by rw [ea4_69]; rfl) (by decide) rfl (fun ls hl => ?_)
              refine lv_goto (tgt := 20) hx hb dX8_digNext_72 (by decide) ?_
              exact hw _ _ _ (lv_sub hl [1, 2, 3, 4, 0] rfl) G)
            refine lv_icmp_le (tgt := 69) hx hb dX8_digNext_55 (by decide) (fun c_55 => ?_) (fun c_55 => ?_)
            · have hw := hw.1 c_55
              exact hw _ _ _ (lv_sub hl [1, 2, 3, 4, 5] rfl) G
            · have hw := hw.2 c_55
              refine lv_iload hx hb dX8_digNext_58 (lv_at hl 0 rfl) ?_
              refine lv_istore_n (lv' := [(2, .int t0_50), (5, .int t0_50), (0, .ref (ad 1)), (1, .int b1_20), (3, .int b3_6), (4, .int b4_20)]) hx hb dX8_digNext_60 rfl hl (by decide) rfl (fun ls hl => ?_)
              refine lv_bipush (v := 10) hx hb dX8_digNext_61 (by decide) ?_
              refine lv_iload_n hx hb dX8_digNext_63 rfl (lv_at hl 4 rfl) ?_
              refine lv_imul hx hb dX8_digNext_64 ?_
              refine lv_iload hx hb dX8_digNext_65 (lv_at hl 5 rfl) ?_
              refine lv_iadd hx hb dX8_digNext_67 ?_
              refine lv_topi (fun a1_68 ea1_68 => ?_)
              have hw := hw a1_68 ea1_68
              refine lv_istore_n (lv' := [(1, .int a1_68), (2, .int t0_50), (5, .int t0_50), (0, .ref (ad 1)), (3, .int b3_6), (4, .int b4_20)]) hx hb dX8_digNext_68 rfl hl (by decide) rfl (fun ls hl => ?_)
              exact hw _ _ _ (lv_sub hl [3, 0, 1, 4, 5] rfl) G)
          refine lv_if_eq (tgt := 43) hx hb dX8_digNext_36 (by decide) (fun c_36 => ?_) (fun c_36 => ?_)
          · have hw := hw.1 c_36
            refine lv_aload_n hx hb dX8_digNext_43 rfl (lv_at hl 0 rfl) ?_
            refine lv_iload_n hx hb dX8_digNext_44 rfl (lv_at hl 3 rfl) ?_
            refine lv_iload hx hb dX8_digNext_45 (lv_at hl 4 rfl) ?_
            refine x_Vi S hl.1 G (c_Worlds_differenceAt l D q A ad b3_6 b4_20 g_20 _ hw) (cw_X8_198 S.2.2.2.2 ⟨Nat.le_trans (Nat.le_of_ble_eq_true rfl) hR1, Nat.le_trans (Nat.le_of_ble_eq_true rfl) hR2⟩) (xe_9 kx_1) rfl rfl rfl (Nat.le_of_ble_eq_true rfl) dX8_digNext_47 (fun r_47 h_47 H locs G hw => ?_)
            exact hw _ _ _ (lv_sub hl [0, 1, 2, 3, 4] rfl) G
          · have hw := hw.2 c_36
            refine lv_iconst (v := 0) hx hb dX8_digNext_39 (by decide) ?_
            refine lv_goto (tgt := 50) hx hb dX8_digNext_40 (by decide) ?_
            exact hw _ _ _ (lv_sub hl [0, 1, 2, 3, 4] rfl) G)
      exact hw _ _ _ (lv_sub hl [1, 2, 3, 4, 0] rfl) G)
  exact hw _ _ _ (lv_sub hl [3, 2, 1, 0] rfl) G
theorem cw_X9_209 {R : Room} {s : State} {args : Array Value} (hts : ∀ w ∈ gW, w.before args s = true) (hR : rm_Worlds_digNext.frames + 1 ≤ R.frames ∧ 8 + (6 + 11) + rm_Worlds_digNext.locals ≤ R.locals) : CallW R s args RX9 RX8 209 yX8_digNext cX8_digNext 6 (some .int) (mw yX8_digNext cX8_digNext 6 (some .int)) rm_Worlds_digNext 0 0 0 := cwV9 hts km_X9_209 ki_X8_digNext ks_X8_digNext kn_X8 kk_X8_digNext rfl rfl (by decide +kernel) hR
abbrev rm_X_outside : Room := { frames := 0, cells := 0, slots := 0, locals := 0 }
set_option maxHeartbeats 4000000 in
set_option maxRecDepth 100000 in
theorem c_X_outside (l : Launch) (D : va_G) (q : Nat → ClassId) (A : Nat → Prop) (ad : Nat → Nat) (a0 : Int32) (a1 : Int32) (a2 : Int32) (h : Hs) (Q : Int32 → Prop) (hw : p_X_outside a0 a1 a2 h Q) : Met l yX9_outside (mw yX9_outside cX9_outside 3 (some .boolean)) rm_X_outside (va_Pc [.int a0, .int a1, .int a2] (pW D q A (wX q ad h))) (va_Qi (fun r h9 => zb r ∧ h9 = h ∧ Q r) (fun h t => pW D q A (wX q ad h) t) A) 0 0 A := by
  refine met_z (Qp := (fun r h9 => h9 = h ∧ Q r)) (by decide) (Nat.le_of_ble_eq_true rfl) ?_
  intro p e R s m args below meth c Qm ls hR1 hR2 S RT hl G
  have hx := S.1
  have hb := S.2.1
  have hl : lv_has ls 3 [(0, .int a0), (1, .int a1), (2, .int a2)] := hl
  unfold p_X_outside at hw
  refine lv_iload_n hx hb dX9_outside_0 rfl (lv_at hl 0 rfl) ?_
  refine lv_iload_n hx hb dX9_outside_1 rfl (lv_at hl 1 rfl) ?_
  have hw := hw (fun (t0_15 : Int32) => ∀ (ls : Array Slot) (H : Heap) (locs : List Loc), lv_has ls 3 [] → okW D q A s (wX q ad h) H locs → W p l e R s m args below meth c H locs 0 0 Qm (F0 m 15 ls [.int t0_15])) (by
    intro t0_15 hw ls H locs hl G
    obtain ⟨z_15, hw⟩ := hw
    exact RT _ _ _ _ _ _ G z_15 ⟨rfl, hw⟩ dX9_outside_15)
  have hw := hw (∀ (ls : Array Slot) (H : Heap) (locs : List Loc), lv_has ls 3 [] → okW D q A s (wX q ad h) H locs → W p l e R s m args below meth c H locs 0 0 Qm (F0 m 10 ls [])) (by
    intro hw ls H locs hl G
    refine lv_iconst (v := 1) hx hb dX9_outside_10 (by decide) ?_
    refine lv_goto (tgt := 15) hx hb dX9_outside_11 (by decide) ?_
    exact hw _ _ _ (lv_sub hl [] rfl) G)
  refine lv_icmp_lt (tgt := 10) hx hb dX9_outside_2 (by decide) (fun c_2 => ?_) (fun c_2 => ?_)
  · have hw := hw.1 c_2
    exact hw _ _ _ (lv_sub hl [] rfl) G
  · have hw := hw.2 c_2
    refine lv_iload_n hx hb dX9_outside_5 rfl (lv_at hl 0 rfl) ?_
    refine lv_iload_n hx hb dX9_outside_6 rfl (lv_at hl 2 rfl) ?_
    refine lv_icmp_le (tgt := 14) hx hb dX9_outside_7 (by decide) (fun c_7 => ?_) (fun c_7 => ?_)
    · have hw := hw.1 c_7
      refine lv_iconst (v := 0) hx hb dX9_outside_14 (by decide) ?_
      exact hw _ _ _ (lv_sub hl [] rfl) G
    · have hw := hw.2 c_7
      exact hw _ _ _ (lv_sub hl [] rfl) G
theorem cw_X9_65 {R : Room} {s : State} {args : Array Value} (hts : ∀ w ∈ gW, w.before args s = true) (hR : rm_X_outside.frames + 1 ≤ R.frames ∧ 8 + (3 + 11) + rm_X_outside.locals ≤ R.locals) : CallB R s args RX9 65 yX9_outside cX9_outside 3 (some .boolean) (mw yX9_outside cX9_outside 3 (some .boolean)) rm_X_outside 0 0 3 ∧ (Cond.static yX9_outside).before args s = true := cwS9 hts km_X9_65 kt_X9_outside kn_X9 kk_X9_outside rfl rfl (by decide +kernel) hR
abbrev rm_X_bad : Room := { frames := 0, cells := 0, slots := 0, locals := 0 }
set_option maxHeartbeats 4000000 in
set_option maxRecDepth 100000 in
theorem c_X_bad (l : Launch) (D : va_G) (q : Nat → ClassId) (A : Nat → Prop) (ad : Nat → Nat) (h : Hs) (Q : Int32 → Hs → Prop) (hw : p_X_bad h Q) : Met l yX9_bad (mw yX9_bad cX9_bad 1 (some .int)) rm_X_bad (va_Pc [.ref (ad 0)] (pW D q A (wX q ad h))) (va_Qi Q (fun h t => pW D q A (wX q ad h) t) A) 0 0 A := by
  refine met_i (Qp := Q) (by decide) (Nat.le_of_ble_eq_true rfl) ?_
  intro p e R s m args below meth c Qm ls hR1 hR2 S RT hl G
  have hx := S.1
  have hb := S.2.1
  have hl : lv_has ls 1 [(0, .ref (ad 0))] := hl
  unfold p_X_bad at hw
  refine lv_aload_n hx hb dX9_bad_0 rfl (lv_at hl 0 rfl) ?_
  refine lv_dup hx hb dX9_bad_1 rfl ?_
  refine x_get (C := RX9) (T := TX9) (n := 12) S G inX9 (xe_10 kx_0) rfl 9 (by decide) kf_X9_263 rfl dX9_bad_2 ?_
  refine lv_iconst (v := 1) hx hb dX9_bad_5 (by decide) ?_
  refine lv_iadd hx hb dX9_bad_6 ?_
  refine x_put (C := RX9) (T := TX9) (n := 12) S G inX9 tyX9 tyX9_ok nmX9 (xe_10 kx_0) rfl 9 (by decide) kf_X9_263 rfl rfl rfl (Nat.le_of_ble_eq_true rfl) (xp_10_9 kx_0) dX9_bad_7 (fun H locs G => ?_)
  obtain ⟨h_7, eh_7⟩ : ∃ y : Hs, y = si h 0 9 ((gi h 0 9) + 1) := ⟨_, rfl⟩
  rw [← eh_7] at G
  have hw := hw h_7 eh_7
  refine lv_bipush (v := (-2)) hx hb dX9_bad_10 (by decide) ?_
  exact RT _ _ _ _ _ _ G hw dX9_bad_12
theorem cw_X9_69 {R : Room} {s : State} {args : Array Value} (hts : ∀ w ∈ gW, w.before args s = true) (hR : rm_X_bad.frames + 1 ≤ R.frames ∧ 8 + (1 + 11) + rm_X_bad.locals ≤ R.locals) : CallW R s args RX9 RX9 69 yX9_bad cX9_bad 1 (some .int) (mw yX9_bad cX9_bad 1 (some .int)) rm_X_bad 0 0 0 := cwV9 hts km_X9_69 ki_X9_bad ks_X9_bad kn_X9 kk_X9_bad rfl rfl (by decide +kernel) hR
abbrev rm_X_full : Room := { frames := 0, cells := 0, slots := 0, locals := 0 }
set_option maxHeartbeats 4000000 in
set_option maxRecDepth 100000 in
theorem c_X_full (l : Launch) (D : va_G) (q : Nat → ClassId) (A : Nat → Prop) (ad : Nat → Nat) (h : Hs) (Q : Int32 → Hs → Prop) (hw : p_X_full h Q) : Met l yX9_full (mw yX9_full cX9_full 1 (some .int)) rm_X_full (va_Pc [.ref (ad 0)] (pW D q A (wX q ad h))) (va_Qi Q (fun h t => pW D q A (wX q ad h) t) A) 0 0 A := by
  refine met_i (Qp := Q) (by decide) (Nat.le_of_ble_eq_true rfl) ?_
  intro p e R s m args below meth c Qm ls hR1 hR2 S RT hl G
  have hx := S.1
  have hb := S.2.1
  have hl : lv_has ls 1 [(0, .ref (ad 0))] := hl
  unfold p_X_full at hw
  refine lv_aload_n hx hb dX9_full_0 rfl (lv_at hl 0 rfl) ?_
  refine lv_dup hx hb dX9_full_1 rfl ?_
  refine x_get (C := RX9) (T := TX9) (n := 12) S G inX9 (xe_10 kx_0) rfl 11 (by decide) kf_X9_269 rfl dX9_full_2 ?_
  refine lv_iconst (v := 1) hx hb dX9_full_5 (by decide) ?_
  refine lv_iadd hx hb dX9_full_6 ?_
  refine x_put (C := RX9) (T := TX9) (n := 12) S G inX9 tyX9 tyX9_ok nmX9 (xe_10 kx_0) rfl 11 (by decide) kf_X9_269 rfl rfl rfl (Nat.le_of_ble_eq_true rfl) (xp_10_11 kx_0) dX9_full_7 (fun H locs G => ?_)
  obtain ⟨h_7, eh_7⟩ : ∃ y : Hs, y = si h 0 11 ((gi h 0 11) + 1) := ⟨_, rfl⟩
  rw [← eh_7] at G
  have hw := hw h_7 eh_7
  refine lv_bipush (v := (-4)) hx hb dX9_full_10 (by decide) ?_
  exact RT _ _ _ _ _ _ G hw dX9_full_12
theorem cw_X9_77 {R : Room} {s : State} {args : Array Value} (hts : ∀ w ∈ gW, w.before args s = true) (hR : rm_X_full.frames + 1 ≤ R.frames ∧ 8 + (1 + 11) + rm_X_full.locals ≤ R.locals) : CallW R s args RX9 RX9 77 yX9_full cX9_full 1 (some .int) (mw yX9_full cX9_full 1 (some .int)) rm_X_full 0 0 0 := cwV9 hts km_X9_77 ki_X9_full ks_X9_full kn_X9 kk_X9_full rfl rfl (by decide +kernel) hR
abbrev rm_X_changed : Room := { frames := 0, cells := 0, slots := 0, locals := 0 }
set_option maxHeartbeats 4000000 in
set_option maxRecDepth 100000 in
theorem c_X_changed (l : Launch) (D : va_G) (q : Nat → ClassId) (A : Nat → Prop) (ad : Nat → Nat) (h : Hs) (Q : Hs → Prop) (hw : p_X_changed h Q) : Met l yX9_changed (mw yX9_changed cX9_changed 1 none) rm_X_changed (va_Pc [.ref (ad 0)] (pW D q A (wX q ad h))) (va_Qv Q (fun h t => pW D q A (wX q ad h) t) A) 0 0 A := by
  refine met_v (Qp := Q) (by decide) (Nat.le_of_ble_eq_true rfl) ?_
  intro p e R s m args below meth c Qm ls hR1 hR2 S RT hl G
  have hx := S.1
  have hb := S.2.1
  have hl : lv_has ls 1 [(0, .ref (ad 0))] := hl
  unfold p_X_changed at hw
  refine lv_aload_n hx hb dX9_changed_0 rfl (lv_at hl 0 rfl) ?_
  refine x_get (C := RX9) (T := TX9) (n := 12) S G inX9 (xe_10 kx_0) rfl 1 (by decide) kf_X9_20 rfl dX9_changed_1 ?_
  refine lv_iconst (v := 0) hx hb dX9_changed_4 (by decide) ?_
  refine x_put (C := RX3) (T := TX3) (n := 10) S G inX3 tyX3 tyX3_ok nmX3 (xe_4 kx_2) rfl 9 (by decide) kf_X9_290 rfl (zb_n zb0) (zb_f zb0) (Nat.le_of_ble_eq_true rfl) (xp_4_9 kx_2) dX9_changed_5 (fun H locs G => ?_)
  obtain ⟨h_5, eh_5⟩ : ∃ y : Hs, y = si h 2 9 0 := ⟨_, rfl⟩
  rw [← eh_5] at G
  have hw := hw h_5 eh_5
  refine lv_aload_n hx hb dX9_changed_8 rfl (lv_at hl 0 rfl) ?_
  refine x_get (C := RX9) (T := TX9) (n := 12) S G inX9 (xe_10 kx_0) rfl 0 (by decide) kf_X9_10 rfl dX9_changed_9 ?_
  refine lv_iconst (v := 0) hx hb dX9_changed_12 (by decide) ?_
  refine x_put (C := RX8) (T := TX8) (n := 12) S G inX8 tyX8 tyX8_ok nmX8 (xe_9 kx_1) rfl 11 (by decide) kf_X9_294 rfl (zb_n zb0) (zb_f zb0) (Nat.le_of_ble_eq_true rfl) (xp_9_11 kx_1) dX9_changed_13 (fun H locs G => ?_)
  obtain ⟨h_13, eh_13⟩ : ∃ y : Hs, y = si h_5 1 11 0 := ⟨_, rfl⟩
  rw [← eh_13] at G
  have hw := hw h_13 eh_13
  exact RT _ _ _ _ _ G hw dX9_changed_16
theorem cw_X9_84 {R : Room} {s : State} {args : Array Value} (hts : ∀ w ∈ gW, w.before args s = true) (hR : rm_X_changed.frames + 1 ≤ R.frames ∧ 8 + (1 + 11) + rm_X_changed.locals ≤ R.locals) : CallW R s args RX9 RX9 84 yX9_changed cX9_changed 1 none (mw yX9_changed cX9_changed 1 none) rm_X_changed 0 0 0 := cwV9 hts km_X9_84 ki_X9_changed ks_X9_changed kn_X9 kk_X9_changed rfl rfl (by decide +kernel) hR
abbrev rm_X_place : Room := { frames := 1, cells := 0, slots := 0, locals := 22 }
set_option maxHeartbeats 4000000 in
set_option maxRecDepth 100000 in
theorem c_X_place (l : Launch) (D : va_G) (q : Nat → ClassId) (A : Nat → Prop) (ad : Nat → Nat) (a1 : Int32) (h : Hs) (Q : Int32 → Hs → Prop) (hw : p_X_place a1 h Q) : Met l yX9_place (mw yX9_place cX9_place 2 (some .int)) rm_X_place (va_Pc [.ref (ad 0), .int a1] (pW D q A (wX q ad h))) (va_Qi Q (fun h t => pW D q A (wX q ad h) t) A) 0 0 A := by
  refine met_i (Qp := Q) (by decide) (Nat.le_of_ble_eq_true rfl) ?_
  intro p e R s m args below meth c Qm ls hR1 hR2 S RT hl G
  have hx := S.1
  have hb := S.2.1
  have hl : lv_has ls 2 [(0, .ref (ad 0)), (1, .int a1)] := hl
  unfold p_X_place at hw
  refine lv_iload_n hx hb dX9_place_0 rfl (lv_at hl 1 rfl) ?_
  refine lv_iconst (v := 0) hx hb dX9_place_1 (by decide) ?_
  refine lv_sipush (v := 200) hx hb dX9_place_2 (by decide) ?_
  refine x_SzP S hl.1 G (c_X_outside l D q A ad a1 0 200 h _ hw) (cw_X9_65 S.2.2.2.2 ⟨Nat.le_trans (Nat.le_of_ble_eq_true rfl) hR1, Nat.le_trans (Nat.le_of_ble_eq_true rfl) hR2⟩) rfl rfl (Nat.le_of_ble_eq_true rfl) dX9_place_5 (fun r_5 H locs G z_5 hw => ?_)
  refine lv_if_eq (tgt := 16) hx hb dX9_place_8 (by decide) (fun c_8 => ?_) (fun c_8 => ?_)
  · have hw := hw.1 c_8
    refine lv_aload_n hx hb dX9_place_16 rfl (lv_at hl 0 rfl) ?_
    refine x_get (C := RX9) (T := TX9) (n := 12) S G inX9 (xe_10 kx_0) rfl 2 (by decide) kf_X9_27 rfl dX9_place_17 ?_
    refine x_get (C := RX5) (T := TX5) (n := 17) S G inX5 (xe_6 kx_3) rfl 0 (by decide) kf_X9_73 rfl dX9_place_20 ?_
    refine lv_bipush (v := 6) hx hb dX9_place_23 (by decide) ?_
    refine lv_icmp_lt (tgt := 33) hx hb dX9_place_25 (by decide) (fun c_25 => ?_) (fun c_25 => ?_)
    · have hw := hw.1 c_25
      refine lv_aload_n hx hb dX9_place_33 rfl (lv_at hl 0 rfl) ?_
      refine x_get (C := RX9) (T := TX9) (n := 12) S G inX9 (xe_10 kx_0) rfl 2 (by decide) kf_X9_27 rfl dX9_place_34 ?_
      refine x_get (C := RX5) (T := TX5) (n := 17) S G inX5 (xe_6 kx_3) rfl 4 (by decide) kf_X9_80 rfl dX9_place_37 ?_
      refine lv_aload_n hx hb dX9_place_40 rfl (lv_at hl 0 rfl) ?_
      refine x_get (C := RX9) (T := TX9) (n := 12) S G inX9 (xe_10 kx_0) rfl 2 (by decide) kf_X9_27 rfl dX9_place_41 ?_
      refine x_get (C := RX5) (T := TX5) (n := 17) S G inX5 (xe_6 kx_3) rfl 0 (by decide) kf_X9_73 rfl dX9_place_44 ?_
      refine lv_iload_n hx hb dX9_place_47 rfl (lv_at hl 1 rfl) ?_
      obtain ⟨i_48, hw⟩ := hw
      refine x_iast (k := (gi h 3 0).toNatClampNeg) S G (xe_20 kx_4 lx_4) i_48 rfl (xs_20 kx_4 lx_4) dX9_place_48 (fun H locs G => ?_)
      obtain ⟨h_48, eh_48⟩ : ∃ y : Hs, y = si h 4 ((gi h 3 0).toNatClampNeg) a1 := ⟨_, rfl⟩
      rw [← eh_48] at G
      have hw := hw h_48 eh_48
      refine lv_aload_n hx hb dX9_place_49 rfl (lv_at hl 0 rfl) ?_
      refine x_Vv S hl.1 G (c_X_changed l D q A ad h_48 _ hw) (cw_X9_84 S.2.2.2.2 ⟨Nat.le_trans (Nat.le_of_ble_eq_true rfl) hR1, Nat.le_trans (Nat.le_of_ble_eq_true rfl) hR2⟩) (xe_10 kx_0) rfl rfl rfl (Nat.le_of_ble_eq_true rfl) dX9_place_50 (fun h_50 H locs G hw => ?_)
      refine lv_aload_n hx hb dX9_place_53 rfl (lv_at hl 0 rfl) ?_
      refine x_get (C := RX9) (T := TX9) (n := 12) S G inX9 (xe_10 kx_0) rfl 2 (by decide) kf_X9_27 rfl dX9_place_54 ?_
      refine lv_dup hx hb dX9_place_57 rfl ?_
      refine x_get (C := RX5) (T := TX5) (n := 17) S G inX5 (xe_6 kx_3) rfl 0 (by decide) kf_X9_73 rfl dX9_place_58 ?_
      refine lv_dup_x1 hx hb dX9_place_61 rfl rfl ?_
      refine lv_iconst (v := 1) hx hb dX9_place_62 (by decide) ?_
      refine lv_iadd hx hb dX9_place_63 ?_
      refine x_put (C := RX5) (T := TX5) (n := 17) S G inX5 tyX5 tyX5_ok nmX5 (xe_6 kx_3) rfl 0 (by decide) kf_X9_73 rfl rfl rfl (Nat.le_of_ble_eq_true rfl) (xp_6_0 kx_3) dX9_place_64 (fun H locs G => ?_)
      obtain ⟨h_64, eh_64⟩ : ∃ y : Hs, y = si h_50 3 0 ((gi h_50 3 0) + 1) := ⟨_, rfl⟩
      rw [← eh_64] at G
      have hw := hw h_64 eh_64
      exact RT _ _ _ _ _ _ G hw dX9_place_67
    · have hw := hw.2 c_25
      refine lv_aload_n hx hb dX9_place_28 rfl (lv_at hl 0 rfl) ?_
      refine x_Vi S hl.1 G (c_X_full l D q A ad h _ hw) (cw_X9_77 S.2.2.2.2 ⟨Nat.le_trans (Nat.le_of_ble_eq_true rfl) hR1, Nat.le_trans (Nat.le_of_ble_eq_true rfl) hR2⟩) (xe_10 kx_0) rfl rfl rfl (Nat.le_of_ble_eq_true rfl) dX9_place_29 (fun r_29 h_29 H locs G hw => ?_)
      exact RT _ _ _ _ _ _ G hw dX9_place_32
  · have hw := hw.2 c_8
    refine lv_aload_n hx hb dX9_place_11 rfl (lv_at hl 0 rfl) ?_
    refine x_Vi S hl.1 G (c_X_bad l D q A ad h _ hw) (cw_X9_69 S.2.2.2.2 ⟨Nat.le_trans (Nat.le_of_ble_eq_true rfl) hR1, Nat.le_trans (Nat.le_of_ble_eq_true rfl) hR2⟩) (xe_10 kx_0) rfl rfl rfl (Nat.le_of_ble_eq_true rfl) dX9_place_12 (fun r_12 h_12 H locs G hw => ?_)
    exact RT _ _ _ _ _ _ G hw dX9_place_15

abbrev rm_X_exchange : Room := { frames := 1, cells := 0, slots := 0, locals := 20 }
set_option maxHeartbeats 4000000 in
set_option maxRecDepth 100000 in
theorem c_X_exchange (l : Launch) (D : va_G) (q : Nat → ClassId) (A : Nat → Prop) (ad : Nat → Nat) (a1 : Nat) (a2 : Int32) (a3 : Int32) (k1 : kX a1 = 20) (h : Hs) (Q : Int32 → Hs → Prop) (hw : p_X_exchange a1 a2 a3 h Q) : Met l yX9_exchange (mw yX9_exchange cX9_exchange 5 (some .int)) rm_X_exchange (va_Pc [.ref (ad 0), .ref (ad a1), .int a2, .int a3] (pW D q A (wX q ad h))) (va_Qi Q (fun h t => pW D q A (wX q ad h) t) A) 0 0 A := by
  refine met_i (Qp := Q) (by decide) (Nat.le_of_ble_eq_true rfl) ?_
  intro p e R s m args below meth c Qm ls hR1 hR2 S RT hl G
  have hx := S.1
  have hb := S.2.1
  have hl : lv_has ls 5 [(0, .ref (ad 0)), (1, .ref (ad a1)), (2, .int a2), (3, .int a3)] := hl
  unfold p_X_exchange at hw
  refine lv_aload_n hx hb dX9_exchange_0 rfl (lv_at hl 1 rfl) ?_
  refine lv_iload_n hx hb dX9_exchange_1 rfl (lv_at hl 2 rfl) ?_
  obtain ⟨i_2, hw⟩ := hw
  refine x_iald (k := a2.toNatClampNeg) S G (xe_20 k1 rfl) i_2 rfl rfl dX9_exchange_2 ?_
  refine lv_topi (fun a4_3 ea4_3 => ?_)
  have hw := hw a4_3 ea4_3
  refine lv_istore (lv' := [(4, .int a4_3), (0, .ref (ad 0)), (1, .ref (ad a1)), (2, .int a2), (3, .int a3)]) hx hb dX9_exchange_3 hl (by decide) rfl (fun ls hl => ?_)
  refine lv_aload_n hx hb dX9_exchange_5 rfl (lv_at hl 2 rfl) ?_
  refine lv_iload_n hx hb dX9_exchange_6 rfl (lv_at hl 3 rfl) ?_
  refine lv_iload_n hx hb dX9_exchange_7 rfl (lv_at hl 4 rfl) ?_
  obtain ⟨i_8, hw⟩ := hw
  refine x_iast (k := a2.toNatClampNeg) S G (xe_20 k1 rfl) i_8 rfl (xs_20 k1 rfl) dX9_exchange_8 (fun H locs G => ?_)
  obtain ⟨h_8, eh_8⟩ : ∃ y : Hs, y = si h a1 a2.toNatClampNeg a3 := ⟨_, rfl⟩
  rw [← eh_8] at G
  have hw := hw h_8 eh_8
  refine lv_aload_n hx hb dX9_exchange_9 rfl (lv_at hl 1 rfl) ?_
  refine x_Vv S hl.1 G (c_X_changed l D q A ad h_8 _ hw) (cw_X9_84 S.2.2.2.2 ⟨Nat.le_trans (Nat.le_of_ble_eq_true rfl) hR1, Nat.le_trans (Nat.le_of_ble_eq_true rfl) hR2⟩) (xe_10 kx_0) rfl rfl rfl (Nat.le_of_ble_eq_true rfl) dX9_exchange_10 (fun h_10 H locs G hw => ?_)
  refine lv_iload hx hb dX9_exchange_13 (lv_at hl 0 rfl) ?_
  exact RT _ _ _ _ _ _ G hw dX9_exchange_15
theorem cw_X9_90 {R : Room} {s : State} {args : Array Value} (hts : ∀ w ∈ gW, w.before args s = true) (hR : rm_X_exchange.frames + 1 ≤ R.frames ∧ 8 + (5 + 11) + rm_X_exchange.locals ≤ R.locals) : CallW R s args RX9 RX9 90 yX9_exchange cX9_exchange 5 (some .int) (mw yX9_exchange cX9_exchange 5 (some .int)) rm_X_exchange 0 0 3 := cwV9 hts km_X9_90 ki_X9_exchange ks_X9_exchange kn_X9 kk_X9_exchange rfl rfl (by decide +kernel) hR
abbrev rm_X_rain : Room := { frames := 2, cells := 0, slots := 0, locals := 44 }
set_option maxHeartbeats 4000000 in
set_option maxRecDepth 100000 in
theorem c_X_rain (l : Launch) (D : va_G) (q : Nat → ClassId) (A : Nat → Prop) (ad : Nat → Nat) (a1 : Int32) (a2 : Int32) (h : Hs) (Q : Int32 → Hs → Prop) (hw : p_X_rain a1 a2 h Q) : Met l yX9_rain (mw yX9_rain cX9_rain 3 (some .int)) rm_X_rain (va_Pc [.ref (ad 0), .int a1, .int a2] (pW D q A (wX q ad h))) (va_Qi Q (fun h t => pW D q A (wX q ad h) t) A) 0 0 A := by
  refine met_i (Qp := Q) (by decide) (Nat.le_of_ble_eq_true rfl) ?_
  intro p e R s m args below meth c Qm ls hR1 hR2 S RT hl G
  have hx := S.1
  have hb := S.2.1
  have hl : lv_has ls 3 [(0, .ref (ad 0)), (1, .int a1), (2, .int a2)] := hl
  unfold p_X_rain at hw
  refine lv_iload_n hx hb dX9_rain_0 rfl (lv_at hl 1 rfl) ?_
  refine lv_iconst (v := 0) hx hb dX9_rain_1 (by decide) ?_
  refine lv_bipush (v := 9) hx hb dX9_rain_2 (by decide) ?_
  refine x_SzP S hl.1 G (c_X_outside l D q A ad a1 0 9 h _ hw) (cw_X9_65 S.2.2.2.2 ⟨Nat.le_trans (Nat.le_of_ble_eq_true rfl) hR1, Nat.le_trans (Nat.le_of_ble_eq_true rfl) hR2⟩) rfl rfl (Nat.le_of_ble_eq_true rfl) dX9_rain_4 (fun r_4 H locs G z_4 hw => ?_)
  have hw := hw (∀ (ls : Array Slot) (H : Heap) (locs : List Loc), lv_has ls 3 [(0, .ref (ad 0))] → okW D q A s (wX q ad h) H locs → W p l e R s m args below meth c H locs 0 0 Qm (F0 m 20 ls [])) (by
    intro hw ls H locs hl G
    refine lv_aload_n hx hb dX9_rain_20 rfl (lv_at hl 0 rfl) ?_
    refine x_Vi S hl.1 G (c_X_bad l D q A ad h _ hw) (cw_X9_69 S.2.2.2.2 ⟨Nat.le_trans (Nat.le_of_ble_eq_true rfl) hR1, Nat.le_trans (Nat.le_of_ble_eq_true rfl) hR2⟩) (xe_10 kx_0) rfl rfl rfl (Nat.le_of_ble_eq_true rfl) dX9_rain_21 (fun r_21 h_21 H locs G hw => ?_)
    exact RT _ _ _ _ _ _ G hw dX9_rain_24)
  refine lv_if_ne (tgt := 20) hx hb dX9_rain_7 (by decide) (fun c_7 => ?_) (fun c_7 => ?_)
  · have hw := hw.1 c_7
    exact hw _ _ _ (lv_sub hl [0] rfl) G
  · have hw := hw.2 c_7
    refine lv_iload_n hx hb dX9_rain_10 rfl (lv_at hl 2 rfl) ?_
    refine lv_iconst (v := 0) hx hb dX9_rain_11 (by decide) ?_
    refine lv_bipush (v := 9) hx hb dX9_rain_12 (by decide) ?_
    refine x_SzP S hl.1 G (c_X_outside l D q A ad a2 0 9 h _ hw) (cw_X9_65 S.2.2.2.2 ⟨Nat.le_trans (Nat.le_of_ble_eq_true rfl) hR1, Nat.le_trans (Nat.le_of_ble_eq_true rfl) hR2⟩) rfl rfl (Nat.le_of_ble_eq_true rfl) dX9_rain_14 (fun r_14 H locs G z_14 hw => ?_)
    refine lv_if_eq (tgt := 25) hx hb dX9_rain_17 (by decide) (fun c_17 => ?_) (fun c_17 => ?_)
    · have hw := hw.1 c_17
      refine lv_aload_n hx hb dX9_rain_25 rfl (lv_at hl 0 rfl) ?_
      refine lv_aload_n hx hb dX9_rain_26 rfl (lv_at hl 0 rfl) ?_
      refine x_get (C := RX9) (T := TX9) (n := 12) S G inX9 (xe_10 kx_0) rfl 2 (by decide) kf_X9_27 rfl dX9_rain_27 ?_
      refine x_get (C := RX5) (T := TX5) (n := 17) S G inX5 (xe_6 kx_3) rfl 5 (by decide) kf_X9_87 rfl dX9_rain_30 ?_
      refine lv_iload_n hx hb dX9_rain_33 rfl (lv_at hl 1 rfl) ?_
      refine lv_iload_n hx hb dX9_rain_34 rfl (lv_at hl 2 rfl) ?_
      refine x_Vi S hl.1 G (c_X_exchange l D q A ad 5 a1 a2 kx_5 h _ hw) (cw_X9_90 S.2.2.2.2 ⟨Nat.le_trans (Nat.le_of_ble_eq_true rfl) hR1, Nat.le_trans (Nat.le_of_ble_eq_true rfl) hR2⟩) (xe_10 kx_0) rfl rfl rfl (Nat.le_of_ble_eq_true rfl) dX9_rain_35 (fun r_35 h_35 H locs G hw => ?_)
      exact RT _ _ _ _ _ _ G hw dX9_rain_38
    · have hw := hw.2 c_17
      exact hw _ _ _ (lv_sub hl [0] rfl) G

abbrev rm_X_lot : Room := { frames := 1, cells := 0, slots := 0, locals := 22 }
set_option maxHeartbeats 4000000 in
set_option maxRecDepth 100000 in
theorem c_X_lot (l : Launch) (D : va_G) (q : Nat → ClassId) (A : Nat → Prop) (ad : Nat → Nat) (a1 : Int32) (h : Hs) (Q : Int32 → Hs → Prop) (hw : p_X_lot a1 h Q) : Met l yX9_lot (mw yX9_lot cX9_lot 2 (some .int)) rm_X_lot (va_Pc [.ref (ad 0), .int a1] (pW D q A (wX q ad h))) (va_Qi Q (fun h t => pW D q A (wX q ad h) t) A) 0 0 A := by
  refine met_i (Qp := Q) (by decide) (Nat.le_of_ble_eq_true rfl) ?_
  intro p e R s m args below meth c Qm ls hR1 hR2 S RT hl G
  have hx := S.1
  have hb := S.2.1
  have hl : lv_has ls 2 [(0, .ref (ad 0)), (1, .int a1)] := hl
  unfold p_X_lot at hw
  refine lv_iload_n hx hb dX9_lot_0 rfl (lv_at hl 1 rfl) ?_
  refine lv_iconst (v := 1) hx hb dX9_lot_1 (by decide) ?_
  refine lv_bipush (v := 60) hx hb dX9_lot_2 (by decide) ?_
  refine x_SzP S hl.1 G (c_X_outside l D q A ad a1 1 60 h _ hw) (cw_X9_65 S.2.2.2.2 ⟨Nat.le_trans (Nat.le_of_ble_eq_true rfl) hR1, Nat.le_trans (Nat.le_of_ble_eq_true rfl) hR2⟩) rfl rfl (Nat.le_of_ble_eq_true rfl) dX9_lot_4 (fun r_4 H locs G z_4 hw => ?_)
  refine lv_if_eq (tgt := 15) hx hb dX9_lot_7 (by decide) (fun c_7 => ?_) (fun c_7 => ?_)
  · have hw := hw.1 c_7
    refine lv_aload_n hx hb dX9_lot_15 rfl (lv_at hl 0 rfl) ?_
    refine x_get (C := RX9) (T := TX9) (n := 12) S G inX9 (xe_10 kx_0) rfl 2 (by decide) kf_X9_27 rfl dX9_lot_16 ?_
    refine x_get (C := RX5) (T := TX5) (n := 17) S G inX5 (xe_6 kx_3) rfl 1 (by decide) kf_X9_94 rfl dX9_lot_19 ?_
    refine lv_iconst (v := 4) hx hb dX9_lot_22 (by decide) ?_
    refine lv_icmp_lt (tgt := 31) hx hb dX9_lot_23 (by decide) (fun c_23 => ?_) (fun c_23 => ?_)
    · have hw := hw.1 c_23
      refine lv_aload_n hx hb dX9_lot_31 rfl (lv_at hl 0 rfl) ?_
      refine x_get (C := RX9) (T := TX9) (n := 12) S G inX9 (xe_10 kx_0) rfl 2 (by decide) kf_X9_27 rfl dX9_lot_32 ?_
      refine x_get (C := RX5) (T := TX5) (n := 17) S G inX5 (xe_6 kx_3) rfl 6 (by decide) kf_X9_97 rfl dX9_lot_35 ?_
      refine lv_aload_n hx hb dX9_lot_38 rfl (lv_at hl 0 rfl) ?_
      refine x_get (C := RX9) (T := TX9) (n := 12) S G inX9 (xe_10 kx_0) rfl 2 (by decide) kf_X9_27 rfl dX9_lot_39 ?_
      refine x_get (C := RX5) (T := TX5) (n := 17) S G inX5 (xe_6 kx_3) rfl 1 (by decide) kf_X9_94 rfl dX9_lot_42 ?_
      refine lv_iload_n hx hb dX9_lot_45 rfl (lv_at hl 1 rfl) ?_
      obtain ⟨i_46, hw⟩ := hw
      refine x_iast (k := (gi h 3 1).toNatClampNeg) S G (xe_20 kx_6 lx_6) i_46 rfl (xs_20 kx_6 lx_6) dX9_lot_46 (fun H locs G => ?_)
      obtain ⟨h_46, eh_46⟩ : ∃ y : Hs, y = si h 6 ((gi h 3 1).toNatClampNeg) a1 := ⟨_, rfl⟩
      rw [← eh_46] at G
      have hw := hw h_46 eh_46
      refine lv_aload_n hx hb dX9_lot_47 rfl (lv_at hl 0 rfl) ?_
      refine x_Vv S hl.1 G (c_X_changed l D q A ad h_46 _ hw) (cw_X9_84 S.2.2.2.2 ⟨Nat.le_trans (Nat.le_of_ble_eq_true rfl) hR1, Nat.le_trans (Nat.le_of_ble_eq_true rfl) hR2⟩) (xe_10 kx_0) rfl rfl rfl (Nat.le_of_ble_eq_true rfl) dX9_lot_48 (fun h_48 H locs G hw => ?_)
      refine lv_aload_n hx hb dX9_lot_51 rfl (lv_at hl 0 rfl) ?_
      refine x_get (C := RX9) (T := TX9) (n := 12) S G inX9 (xe_10 kx_0) rfl 2 (by decide) kf_X9_27 rfl dX9_lot_52 ?_
      refine lv_dup hx hb dX9_lot_55 rfl ?_
      refine x_get (C := RX5) (T := TX5) (n := 17) S G inX5 (xe_6 kx_3) rfl 1 (by decide) kf_X9_94 rfl dX9_lot_56 ?_
      refine lv_dup_x1 hx hb dX9_lot_59 rfl rfl ?_
      refine lv_iconst (v := 1) hx hb dX9_lot_60 (by decide) ?_
      refine lv_iadd hx hb dX9_lot_61 ?_
      refine x_put (C := RX5) (T := TX5) (n := 17) S G inX5 tyX5 tyX5_ok nmX5 (xe_6 kx_3) rfl 1 (by decide) kf_X9_94 rfl rfl rfl (Nat.le_of_ble_eq_true rfl) (xp_6_1 kx_3) dX9_lot_62 (fun H locs G => ?_)
      obtain ⟨h_62, eh_62⟩ : ∃ y : Hs, y = si h_48 3 1 ((gi h_48 3 1) + 1) := ⟨_, rfl⟩
      rw [← eh_62] at G
      have hw := hw h_62 eh_62
      exact RT _ _ _ _ _ _ G hw dX9_lot_65
    · have hw := hw.2 c_23
      refine lv_aload_n hx hb dX9_lot_26 rfl (lv_at hl 0 rfl) ?_
      refine x_Vi S hl.1 G (c_X_full l D q A ad h _ hw) (cw_X9_77 S.2.2.2.2 ⟨Nat.le_trans (Nat.le_of_ble_eq_true rfl) hR1, Nat.le_trans (Nat.le_of_ble_eq_true rfl) hR2⟩) (xe_10 kx_0) rfl rfl rfl (Nat.le_of_ble_eq_true rfl) dX9_lot_27 (fun r_27 h_27 H locs G hw => ?_)
      exact RT _ _ _ _ _ _ G hw dX9_lot_30
  · have hw := hw.2 c_7
    refine lv_aload_n hx hb dX9_lot_10 rfl (lv_at hl 0 rfl) ?_
    refine x_Vi S hl.1 G (c_X_bad l D q A ad h _ hw) (cw_X9_69 S.2.2.2.2 ⟨Nat.le_trans (Nat.le_of_ble_eq_true rfl) hR1, Nat.le_trans (Nat.le_of_ble_eq_true rfl) hR2⟩) (xe_10 kx_0) rfl rfl rfl (Nat.le_of_ble_eq_true rfl) dX9_lot_11 (fun r_11 h_11 H locs G hw => ?_)
    exact RT _ _ _ _ _ _ G hw dX9_lot_14

abbrev rm_X_put : Room := { frames := 2, cells := 0, slots := 0, locals := 44 }
set_option maxHeartbeats 4000000 in
set_option maxRecDepth 100000 in
theorem c_X_put (l : Launch) (D : va_G) (q : Nat → ClassId) (A : Nat → Prop) (ad : Nat → Nat) (a1 : Int32) (a2 : Int32) (h : Hs) (Q : Int32 → Hs → Prop) (hw : p_X_put a1 a2 h Q) : Met l yX9_put (mw yX9_put cX9_put 3 (some .int)) rm_X_put (va_Pc [.ref (ad 0), .int a1, .int a2] (pW D q A (wX q ad h))) (va_Qi Q (fun h t => pW D q A (wX q ad h) t) A) 0 0 A := by
  refine met_i (Qp := Q) (by decide) (Nat.le_of_ble_eq_true rfl) ?_
  intro p e R s m args below meth c Qm ls hR1 hR2 S RT hl G
  have hx := S.1
  have hb := S.2.1
  have hl : lv_has ls 3 [(0, .ref (ad 0)), (1, .int a1), (2, .int a2)] := hl
  unfold p_X_put at hw
  refine lv_iload_n hx hb dX9_put_0 rfl (lv_at hl 1 rfl) ?_
  refine lv_iconst (v := 0) hx hb dX9_put_1 (by decide) ?_
  refine lv_iconst (v := 1) hx hb dX9_put_2 (by decide) ?_
  refine x_SzP S hl.1 G (c_X_outside l D q A ad a1 0 1 h _ hw) (cw_X9_65 S.2.2.2.2 ⟨Nat.le_trans (Nat.le_of_ble_eq_true rfl) hR1, Nat.le_trans (Nat.le_of_ble_eq_true rfl) hR2⟩) rfl rfl (Nat.le_of_ble_eq_true rfl) dX9_put_3 (fun r_3 H locs G z_3 hw => ?_)
  have hw := hw (∀ (ls : Array Slot) (H : Heap) (locs : List Loc), lv_has ls 3 [(0, .ref (ad 0))] → okW D q A s (wX q ad h) H locs → W p l e R s m args below meth c H locs 0 0 Qm (F0 m 27 ls [])) (by
    intro hw ls H locs hl G
    refine lv_aload_n hx hb dX9_put_27 rfl (lv_at hl 0 rfl) ?_
    refine x_Vi S hl.1 G (c_X_bad l D q A ad h _ hw) (cw_X9_69 S.2.2.2.2 ⟨Nat.le_trans (Nat.le_of_ble_eq_true rfl) hR1, Nat.le_trans (Nat.le_of_ble_eq_true rfl) hR2⟩) (xe_10 kx_0) rfl rfl rfl (Nat.le_of_ble_eq_true rfl) dX9_put_28 (fun r_28 h_28 H locs G hw => ?_)
    exact RT _ _ _ _ _ _ G hw dX9_put_31)
  refine lv_if_ne (tgt := 27) hx hb dX9_put_6 (by decide) (fun c_6 => ?_) (fun c_6 => ?_)
  · have hw := hw.1 c_6
    exact hw _ _ _ (lv_sub hl [0] rfl) G
  · have hw := hw.2 c_6
    refine lv_iload_n hx hb dX9_put_9 rfl (lv_at hl 2 rfl) ?_
    refine lv_iload_n hx hb dX9_put_10 rfl (lv_at hl 1 rfl) ?_
    have hw := hw (fun (t1_19 : Int32) => ∀ (ls : Array Slot) (H : Heap) (locs : List Loc), lv_has ls 3 [(0, .ref (ad 0)), (1, .int a1), (2, .int a2)] → okW D q A s (wX q ad h) H locs → W p l e R s m args below meth c H locs 0 0 Qm (F0 m 19 ls [.int t1_19, .int a2])) (by
      intro t1_19 hw ls H locs hl G
      refine lv_bipush (v := 9) hx hb dX9_put_19 (by decide) ?_
      refine x_SzP S hl.1 G (c_X_outside l D q A ad a2 t1_19 9 h _ hw) (cw_X9_65 S.2.2.2.2 ⟨Nat.le_trans (Nat.le_of_ble_eq_true rfl) hR1, Nat.le_trans (Nat.le_of_ble_eq_true rfl) hR2⟩) rfl rfl (Nat.le_of_ble_eq_true rfl) dX9_put_21 (fun r_21 H locs G z_21 hw => ?_)
      refine lv_if_eq (tgt := 32) hx hb dX9_put_24 (by decide) (fun c_24 => ?_) (fun c_24 => ?_)
      · have hw := hw.1 c_24
        refine lv_aload_n hx hb dX9_put_32 rfl (lv_at hl 0 rfl) ?_
        refine lv_aload_n hx hb dX9_put_33 rfl (lv_at hl 0 rfl) ?_
        refine x_get (C := RX9) (T := TX9) (n := 12) S G inX9 (xe_10 kx_0) rfl 2 (by decide) kf_X9_27 rfl dX9_put_34 ?_
        refine x_get (C := RX5) (T := TX5) (n := 17) S G inX5 (xe_6 kx_3) rfl 7 (by decide) kf_X9_100 rfl dX9_put_37 ?_
        refine lv_iload_n hx hb dX9_put_40 rfl (lv_at hl 1 rfl) ?_
        refine lv_iload_n hx hb dX9_put_41 rfl (lv_at hl 2 rfl) ?_
        refine x_Vi S hl.1 G (c_X_exchange l D q A ad 7 a1 a2 kx_7 h _ hw) (cw_X9_90 S.2.2.2.2 ⟨Nat.le_trans (Nat.le_of_ble_eq_true rfl) hR1, Nat.le_trans (Nat.le_of_ble_eq_true rfl) hR2⟩) (xe_10 kx_0) rfl rfl rfl (Nat.le_of_ble_eq_true rfl) dX9_put_42 (fun r_42 h_42 H locs G hw => ?_)
        exact RT _ _ _ _ _ _ G hw dX9_put_45
      · have hw := hw.2 c_24
        exact hw _ _ _ (lv_sub hl [0] rfl) G)
    refine lv_if_ne (tgt := 18) hx hb dX9_put_11 (by decide) (fun c_11 => ?_) (fun c_11 => ?_)
    · have hw := hw.1 c_11
      refine lv_iconst (v := 1) hx hb dX9_put_18 (by decide) ?_
      exact hw _ _ _ (lv_sub hl [0, 1, 2] rfl) G
    · have hw := hw.2 c_11
      refine lv_iconst (v := 0) hx hb dX9_put_14 (by decide) ?_
      refine lv_goto (tgt := 19) hx hb dX9_put_15 (by decide) ?_
      exact hw _ _ _ (lv_sub hl [0, 1, 2] rfl) G

abbrev rm_X_noKind : Room := { frames := 1, cells := 0, slots := 0, locals := 22 }
set_option maxHeartbeats 4000000 in
set_option maxRecDepth 100000 in
theorem c_X_noKind (l : Launch) (D : va_G) (q : Nat → ClassId) (A : Nat → Prop) (ad : Nat → Nat) (a0 : Int32) (h : Hs) (Q : Int32 → Prop) (hw : p_X_noKind a0 h Q) : Met l yX9_noKind (mw yX9_noKind cX9_noKind 1 (some .boolean)) rm_X_noKind (va_Pc [.int a0] (pW D q A (wX q ad h))) (va_Qi (fun r h9 => zb r ∧ h9 = h ∧ Q r) (fun h t => pW D q A (wX q ad h) t) A) 0 0 A := by
  refine met_z (Qp := (fun r h9 => h9 = h ∧ Q r)) (by decide) (Nat.le_of_ble_eq_true rfl) ?_
  intro p e R s m args below meth c Qm ls hR1 hR2 S RT hl G
  have hx := S.1
  have hb := S.2.1
  have hl : lv_has ls 1 [(0, .int a0)] := hl
  unfold p_X_noKind at hw
  refine lv_iload_n hx hb dX9_noKind_0 rfl (lv_at hl 0 rfl) ?_
  refine lv_iconst (v := 0) hx hb dX9_noKind_1 (by decide) ?_
  refine lv_iconst (v := 3) hx hb dX9_noKind_2 (by decide) ?_
  refine x_SzP S hl.1 G (c_X_outside l D q A ad a0 0 3 h _ hw) (cw_X9_65 S.2.2.2.2 ⟨Nat.le_trans (Nat.le_of_ble_eq_true rfl) hR1, Nat.le_trans (Nat.le_of_ble_eq_true rfl) hR2⟩) rfl rfl (Nat.le_of_ble_eq_true rfl) dX9_noKind_3 (fun r_3 H locs G z_3 hw => ?_)
  exact RT _ _ _ _ _ _ G z_3 ⟨rfl, hw⟩ dX9_noKind_6
theorem cw_X9_103 {R : Room} {s : State} {args : Array Value} (hts : ∀ w ∈ gW, w.before args s = true) (hR : rm_X_noKind.frames + 1 ≤ R.frames ∧ 8 + (1 + 11) + rm_X_noKind.locals ≤ R.locals) : CallB R s args RX9 103 yX9_noKind cX9_noKind 1 (some .boolean) (mw yX9_noKind cX9_noKind 1 (some .boolean)) rm_X_noKind 0 0 1 ∧ (Cond.static yX9_noKind).before args s = true := cwS9 hts km_X9_103 kt_X9_noKind kn_X9 kk_X9_noKind rfl rfl (by decide +kernel) hR
abbrev rm_X_kind : Room := { frames := 2, cells := 0, slots := 0, locals := 44 }
set_option maxHeartbeats 4000000 in
set_option maxRecDepth 100000 in
theorem c_X_kind (l : Launch) (D : va_G) (q : Nat → ClassId) (A : Nat → Prop) (ad : Nat → Nat) (a1 : Int32) (a2 : Int32) (a3 : Int32) (h : Hs) (Q : Int32 → Hs → Prop) (hw : p_X_kind a1 a2 a3 h Q) : Met l yX9_kind (mw yX9_kind cX9_kind 4 (some .int)) rm_X_kind (va_Pc [.ref (ad 0), .int a1, .int a2, .int a3] (pW D q A (wX q ad h))) (va_Qi Q (fun h t => pW D q A (wX q ad h) t) A) 0 0 A := by
  refine met_i (Qp := Q) (by decide) (Nat.le_of_ble_eq_true rfl) ?_
  intro p e R s m args below meth c Qm ls hR1 hR2 S RT hl G
  have hx := S.1
  have hb := S.2.1
  have hl : lv_has ls 4 [(0, .ref (ad 0)), (1, .int a1), (2, .int a2), (3, .int a3)] := hl
  unfold p_X_kind at hw
  refine lv_iload_n hx hb dX9_kind_0 rfl (lv_at hl 1 rfl) ?_
  refine x_SzP S hl.1 G (c_X_noKind l D q A ad a1 h _ hw) (cw_X9_103 S.2.2.2.2 ⟨Nat.le_trans (Nat.le_of_ble_eq_true rfl) hR1, Nat.le_trans (Nat.le_of_ble_eq_true rfl) hR2⟩) rfl rfl (Nat.le_of_ble_eq_true rfl) dX9_kind_1 (fun r_1 H locs G z_1 hw => ?_)
  have hw := hw (∀ (ls : Array Slot) (H : Heap) (locs : List Loc), lv_has ls 4 [(0, .ref (ad 0))] → okW D q A s (wX q ad h) H locs → W p l e R s m args below meth c H locs 0 0 Qm (F0 m 16 ls [])) (by
    intro hw ls H locs hl G
    refine lv_aload_n hx hb dX9_kind_16 rfl (lv_at hl 0 rfl) ?_
    refine x_Vi S hl.1 G (c_X_bad l D q A ad h _ hw) (cw_X9_69 S.2.2.2.2 ⟨Nat.le_trans (Nat.le_of_ble_eq_true rfl) hR1, Nat.le_trans (Nat.le_of_ble_eq_true rfl) hR2⟩) (xe_10 kx_0) rfl rfl rfl (Nat.le_of_ble_eq_true rfl) dX9_kind_17 (fun r_17 h_17 H locs G hw => ?_)
    exact RT _ _ _ _ _ _ G hw dX9_kind_20)
  refine lv_if_ne (tgt := 16) hx hb dX9_kind_4 (by decide) (fun c_4 => ?_) (fun c_4 => ?_)
  · have hw := hw.1 c_4
    exact hw _ _ _ (lv_sub hl [0] rfl) G
  · have hw := hw.2 c_4
    refine lv_iload_n hx hb dX9_kind_7 rfl (lv_at hl 2 rfl) ?_
    refine lv_iconst (v := 0) hx hb dX9_kind_8 (by decide) ?_
    refine lv_iconst (v := 1) hx hb dX9_kind_9 (by decide) ?_
    refine x_SzP S hl.1 G (c_X_outside l D q A ad a2 0 1 h _ hw) (cw_X9_65 S.2.2.2.2 ⟨Nat.le_trans (Nat.le_of_ble_eq_true rfl) hR1, Nat.le_trans (Nat.le_of_ble_eq_true rfl) hR2⟩) rfl rfl (Nat.le_of_ble_eq_true rfl) dX9_kind_10 (fun r_10 H locs G z_10 hw => ?_)
    refine lv_if_eq (tgt := 21) hx hb dX9_kind_13 (by decide) (fun c_13 => ?_) (fun c_13 => ?_)
    · have hw := hw.1 c_13
      refine lv_iload_n hx hb dX9_kind_21 rfl (lv_at hl 2 rfl) ?_
      have hw := hw (∀ (ls : Array Slot) (H : Heap) (locs : List Loc), lv_has ls 4 [(0, .ref (ad 0)), (1, .int a1), (2, .int a2), (3, .int a3)] → okW D q A s (wX q ad h) H locs → W p l e R s m args below meth c H locs 0 0 Qm (F0 m 54 ls [])) (by
        intro hw ls H locs hl G
        refine lv_aload_n hx hb dX9_kind_54 rfl (lv_at hl 0 rfl) ?_
        refine lv_aload_n hx hb dX9_kind_55 rfl (lv_at hl 0 rfl) ?_
        refine x_get (C := RX9) (T := TX9) (n := 12) S G inX9 (xe_10 kx_0) rfl 2 (by decide) kf_X9_27 rfl dX9_kind_56 ?_
        refine x_get (C := RX5) (T := TX5) (n := 17) S G inX5 (xe_6 kx_3) rfl 8 (by decide) kf_X9_107 rfl dX9_kind_59 ?_
        refine lv_iload_n hx hb dX9_kind_62 rfl (lv_at hl 1 rfl) ?_
        obtain ⟨i_63, hw⟩ := hw
        refine x_aald (k := a1.toNatClampNeg) S G 2 (xe_22 kx_8 lx_8) rfl rfl i_63 rfl (if_pos (vpl i_63)) dX9_kind_63 ?_
        refine lv_iload_n hx hb dX9_kind_64 rfl (lv_at hl 2 rfl) ?_
        refine lv_iload_n hx hb dX9_kind_65 rfl (lv_at hl 3 rfl) ?_
        refine x_Vi S hl.1 G (c_X_exchange l D q A ad (8 + 1 + 1 * a1.toNatClampNeg) a2 a3 (kxe_8 _ (vpl i_63)) h _ hw) (cw_X9_90 S.2.2.2.2 ⟨Nat.le_trans (Nat.le_of_ble_eq_true rfl) hR1, Nat.le_trans (Nat.le_of_ble_eq_true rfl) hR2⟩) (xe_10 kx_0) rfl rfl rfl (Nat.le_of_ble_eq_true rfl) dX9_kind_66 (fun r_66 h_66 H locs G hw => ?_)
        exact RT _ _ _ _ _ _ G hw dX9_kind_69)
      have hw := hw (∀ (ls : Array Slot) (H : Heap) (locs : List Loc), lv_has ls 4 [(0, .ref (ad 0))] → okW D q A s (wX q ad h) H locs → W p l e R s m args below meth c H locs 0 0 Qm (F0 m 49 ls [])) (by
        intro hw ls H locs hl G
        refine lv_aload_n hx hb dX9_kind_49 rfl (lv_at hl 0 rfl) ?_
        refine x_Vi S hl.1 G (c_X_bad l D q A ad h _ hw) (cw_X9_69 S.2.2.2.2 ⟨Nat.le_trans (Nat.le_of_ble_eq_true rfl) hR1, Nat.le_trans (Nat.le_of_ble_eq_true rfl) hR2⟩) (xe_10 kx_0) rfl rfl rfl (Nat.le_of_ble_eq_true rfl) dX9_kind_50 (fun r_50 h_50 H locs G hw => ?_)
        exact RT _ _ _ _ _ _ G hw dX9_kind_53)
      refine lv_if_ne (tgt := 39) hx hb dX9_kind_22 (by decide) (fun c_22 => ?_) (fun c_22 => ?_)
      · have hw := hw.1 c_22
        refine lv_iload_n hx hb dX9_kind_39 rfl (lv_at hl 3 rfl) ?_
        refine lv_iconst (v := 0) hx hb dX9_kind_40 (by decide) ?_
        refine lv_bipush (v := 9) hx hb dX9_kind_41 (by decide) ?_
        refine x_SzP S hl.1 G (c_X_outside l D q A ad a3 0 9 h _ hw) (cw_X9_65 S.2.2.2.2 ⟨Nat.le_trans (Nat.le_of_ble_eq_true rfl) hR1, Nat.le_trans (Nat.le_of_ble_eq_true rfl) hR2⟩) rfl rfl (Nat.le_of_ble_eq_true rfl) dX9_kind_43 (fun r_43 H locs G z_43 hw => ?_)
        refine lv_if_eq (tgt := 54) hx hb dX9_kind_46 (by decide) (fun c_46 => ?_) (fun c_46 => ?_)
        · have hw := hw.1 c_46
          exact hw _ _ _ (lv_sub hl [0, 1, 2, 3] rfl) G
        · have hw := hw.2 c_46
          exact hw _ _ _ (lv_sub hl [0] rfl) G
      · have hw := hw.2 c_22
        refine lv_iload_n hx hb dX9_kind_25 rfl (lv_at hl 3 rfl) ?_
        refine lv_iconst (v := 1) hx hb dX9_kind_26 (by decide) ?_
        refine lv_sipush (v := 999) hx hb dX9_kind_27 (by decide) ?_
        refine x_SzP S hl.1 G (c_X_outside l D q A ad a3 1 999 h _ hw) (cw_X9_65 S.2.2.2.2 ⟨Nat.le_trans (Nat.le_of_ble_eq_true rfl) hR1, Nat.le_trans (Nat.le_of_ble_eq_true rfl) hR2⟩) rfl rfl (Nat.le_of_ble_eq_true rfl) dX9_kind_30 (fun r_30 H locs G z_30 hw => ?_)
        refine lv_if_eq (tgt := 54) hx hb dX9_kind_33 (by decide) (fun c_33 => ?_) (fun c_33 => ?_)
        · have hw := hw.1 c_33
          exact hw _ _ _ (lv_sub hl [0, 1, 2, 3] rfl) G
        · have hw := hw.2 c_33
          refine lv_goto (tgt := 49) hx hb dX9_kind_36 (by decide) ?_
          exact hw _ _ _ (lv_sub hl [0] rfl) G
    · have hw := hw.2 c_13
      exact hw _ _ _ (lv_sub hl [0] rfl) G

abbrev rm_X_noStory : Room := { frames := 1, cells := 0, slots := 0, locals := 22 }
set_option maxHeartbeats 4000000 in
set_option maxRecDepth 100000 in
theorem c_X_noStory (l : Launch) (D : va_G) (q : Nat → ClassId) (A : Nat → Prop) (ad : Nat → Nat) (a0 : Int32) (h : Hs) (Q : Int32 → Prop) (hw : p_X_noStory a0 h Q) : Met l yX9_noStory (mw yX9_noStory cX9_noStory 1 (some .boolean)) rm_X_noStory (va_Pc [.int a0] (pW D q A (wX q ad h))) (va_Qi (fun r h9 => zb r ∧ h9 = h ∧ Q r) (fun h t => pW D q A (wX q ad h) t) A) 0 0 A := by
  refine met_z (Qp := (fun r h9 => h9 = h ∧ Q r)) (by decide) (Nat.le_of_ble_eq_true rfl) ?_
  intro p e R s m args below meth c Qm ls hR1 hR2 S RT hl G
  have hx := S.1
  have hb := S.2.1
  have hl : lv_has ls 1 [(0, .int a0)] := hl
  unfold p_X_noStory at hw
  refine lv_iload_n hx hb dX9_noStory_0 rfl (lv_at hl 0 rfl) ?_
  refine lv_iconst (v := 0) hx hb dX9_noStory_1 (by decide) ?_
  refine lv_iconst (v := 3) hx hb dX9_noStory_2 (by decide) ?_
  refine x_SzP S hl.1 G (c_X_outside l D q A ad a0 0 3 h _ hw) (cw_X9_65 S.2.2.2.2 ⟨Nat.le_trans (Nat.le_of_ble_eq_true rfl) hR1, Nat.le_trans (Nat.le_of_ble_eq_true rfl) hR2⟩) rfl rfl (Nat.le_of_ble_eq_true rfl) dX9_noStory_3 (fun r_3 H locs G z_3 hw => ?_)
  exact RT _ _ _ _ _ _ G z_3 ⟨rfl, hw⟩ dX9_noStory_6
theorem cw_X9_111 {R : Room} {s : State} {args : Array Value} (hts : ∀ w ∈ gW, w.before args s = true) (hR : rm_X_noStory.frames + 1 ≤ R.frames ∧ 8 + (1 + 11) + rm_X_noStory.locals ≤ R.locals) : CallB R s args RX9 111 yX9_noStory cX9_noStory 1 (some .boolean) (mw yX9_noStory cX9_noStory 1 (some .boolean)) rm_X_noStory 0 0 1 ∧ (Cond.static yX9_noStory).before args s = true := cwS9 hts km_X9_111 kt_X9_noStory kn_X9 kk_X9_noStory rfl rfl (by decide +kernel) hR
abbrev rm_X_prior : Room := { frames := 2, cells := 0, slots := 0, locals := 44 }
set_option maxHeartbeats 4000000 in
set_option maxRecDepth 100000 in
theorem c_X_prior (l : Launch) (D : va_G) (q : Nat → ClassId) (A : Nat → Prop) (ad : Nat → Nat) (a1 : Int32) (a2 : Int32) (h : Hs) (Q : Int32 → Hs → Prop) (hw : p_X_prior a1 a2 h Q) : Met l yX9_prior (mw yX9_prior cX9_prior 3 (some .int)) rm_X_prior (va_Pc [.ref (ad 0), .int a1, .int a2] (pW D q A (wX q ad h))) (va_Qi Q (fun h t => pW D q A (wX q ad h) t) A) 0 0 A := by
  refine met_i (Qp := Q) (by decide) (Nat.le_of_ble_eq_true rfl) ?_
  intro p e R s m args below meth c Qm ls hR1 hR2 S RT hl G
  have hx := S.1
  have hb := S.2.1
  have hl : lv_has ls 3 [(0, .ref (ad 0)), (1, .int a1), (2, .int a2)] := hl
  unfold p_X_prior at hw
  refine lv_iload_n hx hb dX9_prior_0 rfl (lv_at hl 1 rfl) ?_
  refine x_SzP S hl.1 G (c_X_noStory l D q A ad a1 h _ hw) (cw_X9_111 S.2.2.2.2 ⟨Nat.le_trans (Nat.le_of_ble_eq_true rfl) hR1, Nat.le_trans (Nat.le_of_ble_eq_true rfl) hR2⟩) rfl rfl (Nat.le_of_ble_eq_true rfl) dX9_prior_1 (fun r_1 H locs G z_1 hw => ?_)
  have hw := hw (∀ (ls : Array Slot) (H : Heap) (locs : List Loc), lv_has ls 3 [(0, .ref (ad 0))] → okW D q A s (wX q ad h) H locs → W p l e R s m args below meth c H locs 0 0 Qm (F0 m 17 ls [])) (by
    intro hw ls H locs hl G
    refine lv_aload_n hx hb dX9_prior_17 rfl (lv_at hl 0 rfl) ?_
    refine x_Vi S hl.1 G (c_X_bad l D q A ad h _ hw) (cw_X9_69 S.2.2.2.2 ⟨Nat.le_trans (Nat.le_of_ble_eq_true rfl) hR1, Nat.le_trans (Nat.le_of_ble_eq_true rfl) hR2⟩) (xe_10 kx_0) rfl rfl rfl (Nat.le_of_ble_eq_true rfl) dX9_prior_18 (fun r_18 h_18 H locs G hw => ?_)
    exact RT _ _ _ _ _ _ G hw dX9_prior_21)
  refine lv_if_ne (tgt := 17) hx hb dX9_prior_4 (by decide) (fun c_4 => ?_) (fun c_4 => ?_)
  · have hw := hw.1 c_4
    exact hw _ _ _ (lv_sub hl [0] rfl) G
  · have hw := hw.2 c_4
    refine lv_iload_n hx hb dX9_prior_7 rfl (lv_at hl 2 rfl) ?_
    refine lv_iconst (v := 1) hx hb dX9_prior_8 (by decide) ?_
    refine lv_bipush (v := 9) hx hb dX9_prior_9 (by decide) ?_
    refine x_SzP S hl.1 G (c_X_outside l D q A ad a2 1 9 h _ hw) (cw_X9_65 S.2.2.2.2 ⟨Nat.le_trans (Nat.le_of_ble_eq_true rfl) hR1, Nat.le_trans (Nat.le_of_ble_eq_true rfl) hR2⟩) rfl rfl (Nat.le_of_ble_eq_true rfl) dX9_prior_11 (fun r_11 H locs G z_11 hw => ?_)
    refine lv_if_eq (tgt := 22) hx hb dX9_prior_14 (by decide) (fun c_14 => ?_) (fun c_14 => ?_)
    · have hw := hw.1 c_14
      refine lv_aload_n hx hb dX9_prior_22 rfl (lv_at hl 0 rfl) ?_
      refine lv_aload_n hx hb dX9_prior_23 rfl (lv_at hl 0 rfl) ?_
      refine x_get (C := RX9) (T := TX9) (n := 12) S G inX9 (xe_10 kx_0) rfl 2 (by decide) kf_X9_27 rfl dX9_prior_24 ?_
      refine x_get (C := RX5) (T := TX5) (n := 17) S G inX5 (xe_6 kx_3) rfl 9 (by decide) kf_X9_114 rfl dX9_prior_27 ?_
      refine lv_iload_n hx hb dX9_prior_30 rfl (lv_at hl 1 rfl) ?_
      refine lv_iload_n hx hb dX9_prior_31 rfl (lv_at hl 2 rfl) ?_
      refine x_Vi S hl.1 G (c_X_exchange l D q A ad 13 a1 a2 kx_13 h _ hw) (cw_X9_90 S.2.2.2.2 ⟨Nat.le_trans (Nat.le_of_ble_eq_true rfl) hR1, Nat.le_trans (Nat.le_of_ble_eq_true rfl) hR2⟩) (xe_10 kx_0) rfl rfl rfl (Nat.le_of_ble_eq_true rfl) dX9_prior_32 (fun r_32 h_32 H locs G hw => ?_)
      exact RT _ _ _ _ _ _ G hw dX9_prior_35
    · have hw := hw.2 c_14
      exact hw _ _ _ (lv_sub hl [0] rfl) G

abbrev rm_X_type : Room := { frames := 2, cells := 0, slots := 0, locals := 42 }
set_option maxHeartbeats 4000000 in
set_option maxRecDepth 100000 in
theorem c_X_type (l : Launch) (D : va_G) (q : Nat → ClassId) (A : Nat → Prop) (ad : Nat → Nat) (a1 : Int32) (a2 : Int64) (a4 : Int32) (h : Hs) (Q : Int32 → Hs → Prop) (hw : p_X_type a1 a2 a4 h Q) : Met l yX9_type (mw yX9_type cX9_type 7 (some .int)) rm_X_type (va_Pc [.ref (ad 0), .int a1, .long a2, .int a4] (pW D q A (wX q ad h))) (va_Qi Q (fun h t => pW D q A (wX q ad h) t) A) 0 0 A := by
  refine met_i (Qp := Q) (by decide) (Nat.le_of_ble_eq_true rfl) ?_
  intro p e R s m args below meth c Qm ls hR1 hR2 S RT hl G
  have hx := S.1
  have hb := S.2.1
  have hl : lv_has ls 7 [(0, .ref (ad 0)), (1, .int a1), (2, .long a2), (4, .int a4)] := hl
  unfold p_X_type at hw
  refine lv_iload_n hx hb dX9_type_0 rfl (lv_at hl 1 rfl) ?_
  refine x_SzP S hl.1 G (c_X_noStory l D q A ad a1 h _ hw) (cw_X9_111 S.2.2.2.2 ⟨Nat.le_trans (Nat.le_of_ble_eq_true rfl) hR1, Nat.le_trans (Nat.le_of_ble_eq_true rfl) hR2⟩) rfl rfl (Nat.le_of_ble_eq_true rfl) dX9_type_1 (fun r_1 H locs G z_1 hw => ?_)
  have hw := hw (∀ (ls : Array Slot) (H : Heap) (locs : List Loc), lv_has ls 7 [(0, .ref (ad 0))] → okW D q A s (wX q ad h) H locs → W p l e R s m args below meth c H locs 0 0 Qm (F0 m 18 ls [])) (by
    intro hw ls H locs hl G
    refine lv_aload_n hx hb dX9_type_18 rfl (lv_at hl 0 rfl) ?_
    refine x_Vi S hl.1 G (c_X_bad l D q A ad h _ hw) (cw_X9_69 S.2.2.2.2 ⟨Nat.le_trans (Nat.le_of_ble_eq_true rfl) hR1, Nat.le_trans (Nat.le_of_ble_eq_true rfl) hR2⟩) (xe_10 kx_0) rfl rfl rfl (Nat.le_of_ble_eq_true rfl) dX9_type_19 (fun r_19 h_19 H locs G hw => ?_)
    exact RT _ _ _ _ _ _ G hw dX9_type_22)
  refine lv_if_ne (tgt := 18) hx hb dX9_type_4 (by decide) (fun c_4 => ?_) (fun c_4 => ?_)
  · have hw := hw.1 c_4
    exact hw _ _ _ (lv_sub hl [0] rfl) G
  · have hw := hw.2 c_4
    refine lv_iload hx hb dX9_type_7 (lv_at hl 3 rfl) ?_
    refine lv_iconst (v := 1) hx hb dX9_type_9 (by decide) ?_
    refine lv_bipush (v := 8) hx hb dX9_type_10 (by decide) ?_
    refine x_SzP S hl.1 G (c_X_outside l D q A ad a4 1 8 h _ hw) (cw_X9_65 S.2.2.2.2 ⟨Nat.le_trans (Nat.le_of_ble_eq_true rfl) hR1, Nat.le_trans (Nat.le_of_ble_eq_true rfl) hR2⟩) rfl rfl (Nat.le_of_ble_eq_true rfl) dX9_type_12 (fun r_12 H locs G z_12 hw => ?_)
    refine lv_if_eq (tgt := 23) hx hb dX9_type_15 (by decide) (fun c_15 => ?_) (fun c_15 => ?_)
    · have hw := hw.1 c_15
      refine lv_aload_n hx hb dX9_type_23 rfl (lv_at hl 0 rfl) ?_
      refine x_get (C := RX9) (T := TX9) (n := 12) S G inX9 (xe_10 kx_0) rfl 2 (by decide) kf_X9_27 rfl dX9_type_24 ?_
      refine x_get (C := RX5) (T := TX5) (n := 17) S G inX5 (xe_6 kx_3) rfl 10 (by decide) kf_X9_117 rfl dX9_type_27 ?_
      refine lv_iload_n hx hb dX9_type_30 rfl (lv_at hl 1 rfl) ?_
      obtain ⟨i_31, hw⟩ := hw
      refine x_iald (k := a1.toNatClampNeg) S G (xe_20 kx_14 lx_14) i_31 rfl rfl dX9_type_31 ?_
      refine lv_topi (fun a5_32 ea5_32 => ?_)
      have hw := hw a5_32 ea5_32
      refine lv_istore (lv' := [(5, .int a5_32), (0, .ref (ad 0)), (1, .int a1), (2, .long a2), (4, .int a4)]) hx hb dX9_type_32 hl (by decide) rfl (fun ls hl => ?_)
      refine lv_iload hx hb dX9_type_34 (lv_at hl 0 rfl) ?_
      refine lv_iload hx hb dX9_type_36 (lv_at hl 4 rfl) ?_
      refine lv_iadd hx hb dX9_type_38 ?_
      refine lv_bipush (v := 120) hx hb dX9_type_39 (by decide) ?_
      refine lv_icmp_le (tgt := 49) hx hb dX9_type_41 (by decide) (fun c_41 => ?_) (fun c_41 => ?_)
      · have hw := hw.1 c_41
        refine lv_iconst (v := 0) hx hb dX9_type_49 (by decide) ?_
        refine lv_istore (lv' := [(6, .int 0), (5, .int a5_32), (0, .ref (ad 0)), (1, .int a1), (2, .long a2), (4, .int a4)]) hx hb dX9_type_50 hl (by decide) rfl (fun ls hl => ?_)
        have hw := hw (fun (b6_52 : Int32) (g_52 : Hs) => ∀ (ls : Array Slot) (H : Heap) (locs : List Loc), lv_has ls 7 [(0, .ref (ad 0)), (1, .int a1), (2, .long a2), (4, .int a4), (5, .int a5_32), (6, .int b6_52)] → okW D q A s (wX q ad g_52) H locs → W p l e R s m args below meth c H locs 0 0 Qm (F0 m 52 ls [])) (by
          intro b6_52 g_52 hw ls H locs hl G
          refine lv_iload hx hb dX9_type_52 (lv_at hl 5 rfl) ?_
          refine lv_iload hx hb dX9_type_54 (lv_at hl 3 rfl) ?_
          refine lv_icmp_ge (tgt := 97) hx hb dX9_type_56 (by decide) (fun c_56 => ?_) (fun c_56 => ?_)
          · have hw := hw.1 c_56
            refine lv_aload_n hx hb dX9_type_97 rfl (lv_at hl 0 rfl) ?_
            refine x_get (C := RX9) (T := TX9) (n := 12) S G inX9 (xe_10 kx_0) rfl 2 (by decide) kf_X9_27 rfl dX9_type_98 ?_
            refine x_get (C := RX5) (T := TX5) (n := 17) S G inX5 (xe_6 kx_3) rfl 10 (by decide) kf_X9_117 rfl dX9_type_101 ?_
            refine lv_iload_n hx hb dX9_type_104 rfl (lv_at hl 1 rfl) ?_
            refine lv_iload hx hb dX9_type_105 (lv_at hl 4 rfl) ?_
            refine lv_iload hx hb dX9_type_107 (lv_at hl 3 rfl) ?_
            refine lv_iadd hx hb dX9_type_109 ?_
            obtain ⟨i_110, hw⟩ := hw
            refine x_iast (k := a1.toNatClampNeg) S G (xe_20 kx_14 lx_14) i_110 rfl (xs_20 kx_14 lx_14) dX9_type_110 (fun H locs G => ?_)
            obtain ⟨h_110, eh_110⟩ : ∃ y : Hs, y = si g_52 14 a1.toNatClampNeg (a5_32 + a4) := ⟨_, rfl⟩
            rw [← eh_110] at G
            have hw := hw h_110 eh_110
            refine lv_aload_n hx hb dX9_type_111 rfl (lv_at hl 0 rfl) ?_
            refine x_Vv S hl.1 G (c_X_changed l D q A ad h_110 _ hw) (cw_X9_84 S.2.2.2.2 ⟨Nat.le_trans (Nat.le_of_ble_eq_true rfl) hR1, Nat.le_trans (Nat.le_of_ble_eq_true rfl) hR2⟩) (xe_10 kx_0) rfl rfl rfl (Nat.le_of_ble_eq_true rfl) dX9_type_112 (fun h_112 H locs G hw => ?_)
            refine lv_iload hx hb dX9_type_115 (lv_at hl 4 rfl) ?_
            refine lv_iload hx hb dX9_type_117 (lv_at hl 3 rfl) ?_
            refine lv_iadd hx hb dX9_type_119 ?_
            exact RT _ _ _ _ _ _ G hw dX9_type_120
          · have hw := hw.2 c_56
            refine lv_aload_n hx hb dX9_type_59 rfl (lv_at hl 0 rfl) ?_
            refine x_get (C := RX9) (T := TX9) (n := 12) S G inX9 (xe_10 kx_0) rfl 2 (by decide) kf_X9_27 rfl dX9_type_60 ?_
            refine x_get (C := RX5) (T := TX5) (n := 17) S G inX5 (xe_6 kx_3) rfl 11 (by decide) kf_X9_120 rfl dX9_type_63 ?_
            refine lv_iload_n hx hb dX9_type_66 rfl (lv_at hl 1 rfl) ?_
            obtain ⟨i_67, hw⟩ := hw
            refine x_aald (k := a1.toNatClampNeg) S G 2 (xe_22 kx_15 lx_15) rfl rfl i_67 rfl (if_pos (vpl i_67)) dX9_type_67 ?_
            refine lv_iload hx hb dX9_type_68 (lv_at hl 4 rfl) ?_
            refine lv_iload hx hb dX9_type_70 (lv_at hl 5 rfl) ?_
            refine lv_iadd hx hb dX9_type_72 ?_
            refine lv_lload_n hx hb dX9_type_73 rfl (lv_at hl 2 rfl) ?_
            refine lv_bipush (v := 8) hx hb dX9_type_74 (by decide) ?_
            refine lv_iload hx hb dX9_type_76 (lv_at hl 3 rfl) ?_
            refine lv_iconst (v := 1) hx hb dX9_type_78 (by decide) ?_
            refine lv_isub hx hb dX9_type_79 ?_
            refine lv_iload hx hb dX9_type_80 (lv_at hl 5 rfl) ?_
            refine lv_isub hx hb dX9_type_82 ?_
            refine lv_imul hx hb dX9_type_83 ?_
            refine lv_lshr hx hb dX9_type_84 rfl ?_
            refine lv_l2i hx hb dX9_type_85 rfl ?_
            refine lv_sipush (v := 255) hx hb dX9_type_86 (by decide) ?_
            refine lv_iand hx hb dX9_type_89 ?_
            obtain ⟨i_90, hw⟩ := hw
            refine x_iast (k := (a5_32 + b6_52).toNatClampNeg) S G (xe_20 (kxe_15 _ (vpl i_67)) (lxe_15 _ (vpl i_67))) i_90 rfl (xs_20 (kxe_15 _ (vpl i_67)) (lxe_15 _ (vpl i_67))) dX9_type_90 (fun H locs G => ?_)
            obtain ⟨h_90, eh_90⟩ : ∃ y : Hs, y = si g_52 (15 + 1 + 1 * a1.toNatClampNeg) ((a5_32 + b6_52).toNatClampNeg) (((a2 >>> ((8 * ((a4 - 1) - b6_52)).toInt64 &&& 63)).toInt32) &&& 255) := ⟨_, rfl⟩
            rw [← eh_90] at G
            have hw := hw h_90 eh_90
            obtain ⟨a6_91, ea6_91⟩ : ∃ y : Int32, y = b6_52 + 1 := ⟨_, rfl⟩
            have hw := hw a6_91 ea6_91
            refine lv_iinc (v := a6_91) (lv' := [(6, .int a6_91), (0, .ref (ad 0)), (1, .int a1), (2, .long a2), (4, .int a4), (5, .int a5_32)]) hx hb dX9_type_91 hl (k := 5) rfl (by rw [ea6_91]; rfl) (by decide) rfl (fun ls hl => ?_)
            refine lv_goto (tgt := 52) hx hb dX9_type_94 (by decide) ?_
            exact hw _ _ _ (lv_sub hl [1, 2, 3, 4, 5, 0] rfl) G)
        exact hw _ _ _ (lv_sub hl [2, 3, 4, 5, 1, 0] rfl) G
      · have hw := hw.2 c_41
        refine lv_aload_n hx hb dX9_type_44 rfl (lv_at hl 1 rfl) ?_
        refine x_Vi S hl.1 G (c_X_full l D q A ad h _ hw) (cw_X9_77 S.2.2.2.2 ⟨Nat.le_trans (Nat.le_of_ble_eq_true rfl) hR1, Nat.le_trans (Nat.le_of_ble_eq_true rfl) hR2⟩) (xe_10 kx_0) rfl rfl rfl (Nat.le_of_ble_eq_true rfl) dX9_type_45 (fun r_45 h_45 H locs G hw => ?_)
        exact RT _ _ _ _ _ _ G hw dX9_type_48
    · have hw := hw.2 c_15
      exact hw _ _ _ (lv_sub hl [0] rfl) G

abbrev rm_X_clear : Room := { frames := 2, cells := 0, slots := 0, locals := 44 }
set_option maxHeartbeats 4000000 in
set_option maxRecDepth 100000 in
theorem c_X_clear (l : Launch) (D : va_G) (q : Nat → ClassId) (A : Nat → Prop) (ad : Nat → Nat) (a1 : Int32) (h : Hs) (Q : Int32 → Hs → Prop) (hw : p_X_clear a1 h Q) : Met l yX9_clear (mw yX9_clear cX9_clear 2 (some .int)) rm_X_clear (va_Pc [.ref (ad 0), .int a1] (pW D q A (wX q ad h))) (va_Qi Q (fun h t => pW D q A (wX q ad h) t) A) 0 0 A := by
  refine met_i (Qp := Q) (by decide) (Nat.le_of_ble_eq_true rfl) ?_
  intro p e R s m args below meth c Qm ls hR1 hR2 S RT hl G
  have hx := S.1
  have hb := S.2.1
  have hl : lv_has ls 2 [(0, .ref (ad 0)), (1, .int a1)] := hl
  unfold p_X_clear at hw
  refine lv_iload_n hx hb dX9_clear_0 rfl (lv_at hl 1 rfl) ?_
  refine x_SzP S hl.1 G (c_X_noStory l D q A ad a1 h _ hw) (cw_X9_111 S.2.2.2.2 ⟨Nat.le_trans (Nat.le_of_ble_eq_true rfl) hR1, Nat.le_trans (Nat.le_of_ble_eq_true rfl) hR2⟩) rfl rfl (Nat.le_of_ble_eq_true rfl) dX9_clear_1 (fun r_1 H locs G z_1 hw => ?_)
  refine lv_if_eq (tgt := 12) hx hb dX9_clear_4 (by decide) (fun c_4 => ?_) (fun c_4 => ?_)
  · have hw := hw.1 c_4
    refine lv_aload_n hx hb dX9_clear_12 rfl (lv_at hl 0 rfl) ?_
    refine lv_aload_n hx hb dX9_clear_13 rfl (lv_at hl 0 rfl) ?_
    refine x_get (C := RX9) (T := TX9) (n := 12) S G inX9 (xe_10 kx_0) rfl 2 (by decide) kf_X9_27 rfl dX9_clear_14 ?_
    refine x_get (C := RX5) (T := TX5) (n := 17) S G inX5 (xe_6 kx_3) rfl 10 (by decide) kf_X9_117 rfl dX9_clear_17 ?_
    refine lv_iload_n hx hb dX9_clear_20 rfl (lv_at hl 1 rfl) ?_
    refine lv_iconst (v := 0) hx hb dX9_clear_21 (by decide) ?_
    refine x_Vi S hl.1 G (c_X_exchange l D q A ad 14 a1 0 kx_14 h _ hw) (cw_X9_90 S.2.2.2.2 ⟨Nat.le_trans (Nat.le_of_ble_eq_true rfl) hR1, Nat.le_trans (Nat.le_of_ble_eq_true rfl) hR2⟩) (xe_10 kx_0) rfl rfl rfl (Nat.le_of_ble_eq_true rfl) dX9_clear_22 (fun r_22 h_22 H locs G hw => ?_)
    exact RT _ _ _ _ _ _ G hw dX9_clear_25
  · have hw := hw.2 c_4
    refine lv_aload_n hx hb dX9_clear_7 rfl (lv_at hl 0 rfl) ?_
    refine x_Vi S hl.1 G (c_X_bad l D q A ad h _ hw) (cw_X9_69 S.2.2.2.2 ⟨Nat.le_trans (Nat.le_of_ble_eq_true rfl) hR1, Nat.le_trans (Nat.le_of_ble_eq_true rfl) hR2⟩) (xe_10 kx_0) rfl rfl rfl (Nat.le_of_ble_eq_true rfl) dX9_clear_8 (fun r_8 h_8 H locs G hw => ?_)
    exact RT _ _ _ _ _ _ G hw dX9_clear_11

abbrev rm_X_fault : Room := { frames := 5, cells := 0, slots := 0, locals := 115 }
set_option maxHeartbeats 4000000 in
set_option maxRecDepth 100000 in
theorem c_X_fault (l : Launch) (D : va_G) (q : Nat → ClassId) (A : Nat → Prop) (ad : Nat → Nat) (a1 : Int32) (h : Hs) (Q : Int32 → Hs → Prop) (hw : p_X_fault a1 h Q) : Met l yX9_fault (mw yX9_fault cX9_fault 2 (some .int)) rm_X_fault (va_Pc [.ref (ad 0), .int a1] (pW D q A (wX q ad h))) (va_Qi Q (fun h t => pW D q A (wX q ad h) t) A) 0 0 A := by
  refine met_i (Qp := Q) (by decide) (Nat.le_of_ble_eq_true rfl) ?_
  intro p e R s m args below meth c Qm ls hR1 hR2 S RT hl G
  have hx := S.1
  have hb := S.2.1
  have hl : lv_has ls 2 [(0, .ref (ad 0)), (1, .int a1)] := hl
  unfold p_X_fault at hw
  refine lv_iload_n hx hb dX9_fault_0 rfl (lv_at hl 1 rfl) ?_
  refine x_SzP S hl.1 G (c_X_noStory l D q A ad a1 h _ hw) (cw_X9_111 S.2.2.2.2 ⟨Nat.le_trans (Nat.le_of_ble_eq_true rfl) hR1, Nat.le_trans (Nat.le_of_ble_eq_true rfl) hR2⟩) rfl rfl (Nat.le_of_ble_eq_true rfl) dX9_fault_1 (fun r_1 H locs G z_1 hw => ?_)
  refine lv_if_eq (tgt := 12) hx hb dX9_fault_4 (by decide) (fun c_4 => ?_) (fun c_4 => ?_)
  · have hw := hw.1 c_4
    refine lv_aload_n hx hb dX9_fault_12 rfl (lv_at hl 0 rfl) ?_
    refine x_get (C := RX9) (T := TX9) (n := 12) S G inX9 (xe_10 kx_0) rfl 1 (by decide) kf_X9_20 rfl dX9_fault_13 ?_
    refine x_Vv S hl.1 G (c_Lives_refresh l D q A ad h _ hw) (cw_X9_123 S.2.2.2.2 ⟨Nat.le_trans (Nat.le_of_ble_eq_true rfl) hR1, Nat.le_trans (Nat.le_of_ble_eq_true rfl) hR2⟩) (xe_4 kx_2) rfl rfl rfl (Nat.le_of_ble_eq_true rfl) dX9_fault_16 (fun h_16 H locs G hw => ?_)
    refine lv_aload_n hx hb dX9_fault_19 rfl (lv_at hl 0 rfl) ?_
    refine x_get (C := RX9) (T := TX9) (n := 12) S G inX9 (xe_10 kx_0) rfl 1 (by decide) kf_X9_20 rfl dX9_fault_20 ?_
    refine x_get (C := RX3) (T := TX3) (n := 10) S G inX3 (xe_4 kx_2) rfl 2 (by decide) kf_X9_126 rfl dX9_fault_23 ?_
    refine lv_iload_n hx hb dX9_fault_26 rfl (lv_at hl 1 rfl) ?_
    obtain ⟨i_27, hw⟩ := hw
    refine x_aald (k := a1.toNatClampNeg) S G 4 (xe_24 kx_47 lx_47 rfl) rfl rfl i_27 rfl (if_pos (vpl i_27)) dX9_fault_27 ?_
    refine x_get (C := RX6) (T := TX6) (n := 8) S G inX6 (xe_7 (kxe_47 _ (vpl i_27))) rfl 2 (by decide) kf_X9_130 rfl dX9_fault_28 ?_
    exact RT _ _ _ _ _ _ G hw dX9_fault_31
  · have hw := hw.2 c_4
    refine lv_aload_n hx hb dX9_fault_7 rfl (lv_at hl 0 rfl) ?_
    refine x_Vi S hl.1 G (c_X_bad l D q A ad h _ hw) (cw_X9_69 S.2.2.2.2 ⟨Nat.le_trans (Nat.le_of_ble_eq_true rfl) hR1, Nat.le_trans (Nat.le_of_ble_eq_true rfl) hR2⟩) (xe_10 kx_0) rfl rfl rfl (Nat.le_of_ble_eq_true rfl) dX9_fault_8 (fun r_8 h_8 H locs G hw => ?_)
    exact RT _ _ _ _ _ _ G hw dX9_fault_11

abbrev rm_X_noPlace : Room := { frames := 1, cells := 0, slots := 0, locals := 22 }
set_option maxHeartbeats 4000000 in
set_option maxRecDepth 100000 in
theorem c_X_noPlace (l : Launch) (D : va_G) (q : Nat → ClassId) (A : Nat → Prop) (ad : Nat → Nat) (a1 : Int32) (h : Hs) (Q : Int32 → Prop) (hw : p_X_noPlace a1 h Q) : Met l yX9_noPlace (mw yX9_noPlace cX9_noPlace 2 (some .boolean)) rm_X_noPlace (va_Pc [.ref (ad 0), .int a1] (pW D q A (wX q ad h))) (va_Qi (fun r h9 => zb r ∧ h9 = h ∧ Q r) (fun h t => pW D q A (wX q ad h) t) A) 0 0 A := by
  refine met_z (Qp := (fun r h9 => h9 = h ∧ Q r)) (by decide) (Nat.le_of_ble_eq_true rfl) ?_
  intro p e R s m args below meth c Qm ls hR1 hR2 S RT hl G
  have hx := S.1
  have hb := S.2.1
  have hl : lv_has ls 2 [(0, .ref (ad 0)), (1, .int a1)] := hl
  unfold p_X_noPlace at hw
  refine lv_iload_n hx hb dX9_noPlace_0 rfl (lv_at hl 1 rfl) ?_
  refine lv_iconst (v := 0) hx hb dX9_noPlace_1 (by decide) ?_
  refine lv_aload_n hx hb dX9_noPlace_2 rfl (lv_at hl 0 rfl) ?_
  refine x_get (C := RX9) (T := TX9) (n := 12) S G inX9 (xe_10 kx_0) rfl 2 (by decide) kf_X9_27 rfl dX9_noPlace_3 ?_
  refine x_get (C := RX5) (T := TX5) (n := 17) S G inX5 (xe_6 kx_3) rfl 0 (by decide) kf_X9_73 rfl dX9_noPlace_6 ?_
  refine lv_iconst (v := 1) hx hb dX9_noPlace_9 (by decide) ?_
  refine lv_isub hx hb dX9_noPlace_10 ?_
  refine x_SzP S hl.1 G (c_X_outside l D q A ad a1 0 ((gi h 3 0) - 1) h _ hw) (cw_X9_65 S.2.2.2.2 ⟨Nat.le_trans (Nat.le_of_ble_eq_true rfl) hR1, Nat.le_trans (Nat.le_of_ble_eq_true rfl) hR2⟩) rfl rfl (Nat.le_of_ble_eq_true rfl) dX9_noPlace_11 (fun r_11 H locs G z_11 hw => ?_)
  exact RT _ _ _ _ _ _ G z_11 ⟨rfl, hw⟩ dX9_noPlace_14
theorem cw_X9_135 {R : Room} {s : State} {args : Array Value} (hts : ∀ w ∈ gW, w.before args s = true) (hR : rm_X_noPlace.frames + 1 ≤ R.frames ∧ 8 + (2 + 11) + rm_X_noPlace.locals ≤ R.locals) : CallW R s args RX9 RX9 135 yX9_noPlace cX9_noPlace 2 (some .boolean) (mw yX9_noPlace cX9_noPlace 2 (some .boolean)) rm_X_noPlace 0 0 1 := cwV9 hts km_X9_135 ki_X9_noPlace ks_X9_noPlace kn_X9 kk_X9_noPlace rfl rfl (by decide +kernel) hR
abbrev rm_X_sign : Room := { frames := 2, cells := 0, slots := 0, locals := 43 }
set_option maxHeartbeats 4000000 in
set_option maxRecDepth 100000 in
theorem c_X_sign (l : Launch) (D : va_G) (q : Nat → ClassId) (A : Nat → Prop) (ad : Nat → Nat) (a1 : Int32) (a2 : Int32) (a3 : Int32) (a4 : Int32) (h : Hs) (Q : Int32 → Hs → Prop) (hw : p_X_sign a1 a2 a3 a4 h Q) : Met l yX9_sign (mw yX9_sign cX9_sign 6 (some .int)) rm_X_sign (va_Pc [.ref (ad 0), .int a1, .int a2, .int a3, .int a4] (pW D q A (wX q ad h))) (va_Qi Q (fun h t => pW D q A (wX q ad h) t) A) 0 0 A := by
  refine met_i (Qp := Q) (by decide) (Nat.le_of_ble_eq_true rfl) ?_
  intro p e R s m args below meth c Qm ls hR1 hR2 S RT hl G
  have hx := S.1
  have hb := S.2.1
  have hl : lv_has ls 6 [(0, .ref (ad 0)), (1, .int a1), (2, .int a2), (3, .int a3), (4, .int a4)] := hl
  unfold p_X_sign at hw
  refine lv_aload_n hx hb dX9_sign_0 rfl (lv_at hl 0 rfl) ?_
  refine lv_iload_n hx hb dX9_sign_1 rfl (lv_at hl 1 rfl) ?_
  refine x_VzP S hl.1 G (c_X_noPlace l D q A ad a1 h _ hw) (cw_X9_135 S.2.2.2.2 ⟨Nat.le_trans (Nat.le_of_ble_eq_true rfl) hR1, Nat.le_trans (Nat.le_of_ble_eq_true rfl) hR2⟩) (xe_10 kx_0) rfl rfl rfl (Nat.le_of_ble_eq_true rfl) dX9_sign_2 (fun r_2 H locs G z_2 hw => ?_)
  have hw := hw (∀ (ls : Array Slot) (H : Heap) (locs : List Loc), lv_has ls 6 [(0, .ref (ad 0))] → okW D q A s (wX q ad h) H locs → W p l e R s m args below meth c H locs 0 0 Qm (F0 m 36 ls [])) (by
    intro hw ls H locs hl G
    refine lv_aload_n hx hb dX9_sign_36 rfl (lv_at hl 0 rfl) ?_
    refine x_Vi S hl.1 G (c_X_bad l D q A ad h _ hw) (cw_X9_69 S.2.2.2.2 ⟨Nat.le_trans (Nat.le_of_ble_eq_true rfl) hR1, Nat.le_trans (Nat.le_of_ble_eq_true rfl) hR2⟩) (xe_10 kx_0) rfl rfl rfl (Nat.le_of_ble_eq_true rfl) dX9_sign_37 (fun r_37 h_37 H locs G hw => ?_)
    exact RT _ _ _ _ _ _ G hw dX9_sign_40)
  refine lv_if_ne (tgt := 36) hx hb dX9_sign_5 (by decide) (fun c_5 => ?_) (fun c_5 => ?_)
  · have hw := hw.1 c_5
    exact hw _ _ _ (lv_sub hl [0] rfl) G
  · have hw := hw.2 c_5
    refine lv_iload_n hx hb dX9_sign_8 rfl (lv_at hl 2 rfl) ?_
    refine x_SzP S hl.1 G (c_X_noKind l D q A ad a2 h _ hw) (cw_X9_103 S.2.2.2.2 ⟨Nat.le_trans (Nat.le_of_ble_eq_true rfl) hR1, Nat.le_trans (Nat.le_of_ble_eq_true rfl) hR2⟩) rfl rfl (Nat.le_of_ble_eq_true rfl) dX9_sign_9 (fun r_9 H locs G z_9 hw => ?_)
    refine lv_if_ne (tgt := 36) hx hb dX9_sign_12 (by decide) (fun c_12 => ?_) (fun c_12 => ?_)
    · have hw := hw.1 c_12
      exact hw _ _ _ (lv_sub hl [0] rfl) G
    · have hw := hw.2 c_12
      refine lv_iload_n hx hb dX9_sign_15 rfl (lv_at hl 3 rfl) ?_
      refine lv_iconst (v := 0) hx hb dX9_sign_16 (by decide) ?_
      refine lv_bipush (v := 9) hx hb dX9_sign_17 (by decide) ?_
      refine x_SzP S hl.1 G (c_X_outside l D q A ad a3 0 9 h _ hw) (cw_X9_65 S.2.2.2.2 ⟨Nat.le_trans (Nat.le_of_ble_eq_true rfl) hR1, Nat.le_trans (Nat.le_of_ble_eq_true rfl) hR2⟩) rfl rfl (Nat.le_of_ble_eq_true rfl) dX9_sign_19 (fun r_19 H locs G z_19 hw => ?_)
      refine lv_if_ne (tgt := 36) hx hb dX9_sign_22 (by decide) (fun c_22 => ?_) (fun c_22 => ?_)
      · have hw := hw.1 c_22
        exact hw _ _ _ (lv_sub hl [0] rfl) G
      · have hw := hw.2 c_22
        refine lv_iload hx hb dX9_sign_25 (lv_at hl 4 rfl) ?_
        refine lv_iconst (v := 1) hx hb dX9_sign_27 (by decide) ?_
        refine lv_bipush (v := 10) hx hb dX9_sign_28 (by decide) ?_
        refine x_SzP S hl.1 G (c_X_outside l D q A ad a4 1 10 h _ hw) (cw_X9_65 S.2.2.2.2 ⟨Nat.le_trans (Nat.le_of_ble_eq_true rfl) hR1, Nat.le_trans (Nat.le_of_ble_eq_true rfl) hR2⟩) rfl rfl (Nat.le_of_ble_eq_true rfl) dX9_sign_30 (fun r_30 H locs G z_30 hw => ?_)
        refine lv_if_eq (tgt := 41) hx hb dX9_sign_33 (by decide) (fun c_33 => ?_) (fun c_33 => ?_)
        · have hw := hw.1 c_33
          refine lv_aload_n hx hb dX9_sign_41 rfl (lv_at hl 0 rfl) ?_
          refine x_get (C := RX9) (T := TX9) (n := 12) S G inX9 (xe_10 kx_0) rfl 2 (by decide) kf_X9_27 rfl dX9_sign_42 ?_
          refine lv_iload_n hx hb dX9_sign_45 rfl (lv_at hl 1 rfl) ?_
          refine lv_iload_n hx hb dX9_sign_46 rfl (lv_at hl 2 rfl) ?_
          refine x_VzP S hl.1 G (c_State_hasSign l D q A ad a1 a2 h _ hw) (cw_X9_138 S.2.2.2.2 ⟨Nat.le_trans (Nat.le_of_ble_eq_true rfl) hR1, Nat.le_trans (Nat.le_of_ble_eq_true rfl) hR2⟩) (xe_6 kx_3) rfl rfl rfl (Nat.le_of_ble_eq_true rfl) dX9_sign_47 (fun r_47 H locs G z_47 hw => ?_)
          refine lv_if_eq (tgt := 58) hx hb dX9_sign_50 (by decide) (fun c_50 => ?_) (fun c_50 => ?_)
          · have hw := hw.1 c_50
            refine lv_aload_n hx hb dX9_sign_58 rfl (lv_at hl 0 rfl) ?_
            refine x_get (C := RX9) (T := TX9) (n := 12) S G inX9 (xe_10 kx_0) rfl 2 (by decide) kf_X9_27 rfl dX9_sign_59 ?_
            refine x_get (C := RX5) (T := TX5) (n := 17) S G inX5 (xe_6 kx_3) rfl 2 (by decide) kf_X9_142 rfl dX9_sign_62 ?_
            refine lv_bipush (v := 6) hx hb dX9_sign_65 (by decide) ?_
            refine lv_icmp_lt (tgt := 75) hx hb dX9_sign_67 (by decide) (fun c_67 => ?_) (fun c_67 => ?_)
            · have hw := hw.1 c_67
              refine lv_aload_n hx hb dX9_sign_75 rfl (lv_at hl 0 rfl) ?_
              refine x_get (C := RX9) (T := TX9) (n := 12) S G inX9 (xe_10 kx_0) rfl 2 (by decide) kf_X9_27 rfl dX9_sign_76 ?_
              refine x_get (C := RX5) (T := TX5) (n := 17) S G inX5 (xe_6 kx_3) rfl 12 (by decide) kf_X9_145 rfl dX9_sign_79 ?_
              refine lv_aload_n hx hb dX9_sign_82 rfl (lv_at hl 0 rfl) ?_
              refine x_get (C := RX9) (T := TX9) (n := 12) S G inX9 (xe_10 kx_0) rfl 2 (by decide) kf_X9_27 rfl dX9_sign_83 ?_
              refine x_get (C := RX5) (T := TX5) (n := 17) S G inX5 (xe_6 kx_3) rfl 2 (by decide) kf_X9_142 rfl dX9_sign_86 ?_
              obtain ⟨i_89, hw⟩ := hw
              refine x_aald (k := (gi h 3 2).toNatClampNeg) S G 2 (xe_22 kx_20 lx_20) rfl rfl i_89 rfl (if_pos (vpl i_89)) dX9_sign_89 ?_
              refine lv_astore (lv' := [(5, .ref (ad (20 + 1 + 1 * ((gi h 3 2).toNatClampNeg)))), (0, .ref (ad 0)), (1, .int a1), (2, .int a2), (3, .int a3), (4, .int a4)]) hx hb dX9_sign_90 hl (by decide) rfl (fun ls hl => ?_)
              refine lv_aload hx hb dX9_sign_92 (lv_at hl 0 rfl) ?_
              refine lv_iconst (v := 0) hx hb dX9_sign_94 (by decide) ?_
              refine lv_iload_n hx hb dX9_sign_95 rfl (lv_at hl 2 rfl) ?_
              refine x_iast (k := 0) S G (xe_20 (kxe_20 _ (vpl i_89)) (lxe_20 _ (vpl i_89))) (vpi (by decide)) rfl (xs_20 (kxe_20 _ (vpl i_89)) (lxe_20 _ (vpl i_89))) dX9_sign_96 (fun H locs G => ?_)
              obtain ⟨h_96, eh_96⟩ : ∃ y : Hs, y = si h (20 + 1 + 1 * ((gi h 3 2).toNatClampNeg)) 0 a1 := ⟨_, rfl⟩
              rw [← eh_96] at G
              have hw := hw h_96 eh_96
              refine lv_aload hx hb dX9_sign_97 (lv_at hl 0 rfl) ?_
              refine lv_iconst (v := 1) hx hb dX9_sign_99 (by decide) ?_
              refine lv_iload_n hx hb dX9_sign_100 rfl (lv_at hl 3 rfl) ?_
              refine x_iast (k := 1) S G (xe_20 (kxe_20 _ (vpl i_89)) (lxe_20 _ (vpl i_89))) (vpi (by decide)) rfl (xs_20 (kxe_20 _ (vpl i_89)) (lxe_20 _ (vpl i_89))) dX9_sign_101 (fun H locs G => ?_)
              obtain ⟨h_101, eh_101⟩ : ∃ y : Hs, y = si h_96 (20 + 1 + 1 * ((gi h 3 2).toNatClampNeg)) 1 a2 := ⟨_, rfl⟩
              rw [← eh_101] at G
              have hw := hw h_101 eh_101
              refine lv_aload hx hb dX9_sign_102 (lv_at hl 0 rfl) ?_
              refine lv_iconst (v := 2) hx hb dX9_sign_104 (by decide) ?_
              refine lv_iload_n hx hb dX9_sign_105 rfl (lv_at hl 4 rfl) ?_
              refine x_iast (k := 2) S G (xe_20 (kxe_20 _ (vpl i_89)) (lxe_20 _ (vpl i_89))) (vpi (by decide)) rfl (xs_20 (kxe_20 _ (vpl i_89)) (lxe_20 _ (vpl i_89))) dX9_sign_106 (fun H locs G => ?_)
              obtain ⟨h_106, eh_106⟩ : ∃ y : Hs, y = si h_101 (20 + 1 + 1 * ((gi h 3 2).toNatClampNeg)) 2 a3 := ⟨_, rfl⟩
              rw [← eh_106] at G
              have hw := hw h_106 eh_106
              refine lv_aload hx hb dX9_sign_107 (lv_at hl 0 rfl) ?_
              refine lv_iconst (v := 3) hx hb dX9_sign_109 (by decide) ?_
              refine lv_iload hx hb dX9_sign_110 (lv_at hl 5 rfl) ?_
              refine x_iast (k := 3) S G (xe_20 (kxe_20 _ (vpl i_89)) (lxe_20 _ (vpl i_89))) (vpi (by decide)) rfl (xs_20 (kxe_20 _ (vpl i_89)) (lxe_20 _ (vpl i_89))) dX9_sign_112 (fun H locs G => ?_)
              obtain ⟨h_112, eh_112⟩ : ∃ y : Hs, y = si h_106 (20 + 1 + 1 * ((gi h 3 2).toNatClampNeg)) 3 a4 := ⟨_, rfl⟩
              rw [← eh_112] at G
              have hw := hw h_112 eh_112
              refine lv_aload_n hx hb dX9_sign_113 rfl (lv_at hl 1 rfl) ?_
              refine x_Vv S hl.1 G (c_X_changed l D q A ad h_112 _ hw) (cw_X9_84 S.2.2.2.2 ⟨Nat.le_trans (Nat.le_of_ble_eq_true rfl) hR1, Nat.le_trans (Nat.le_of_ble_eq_true rfl) hR2⟩) (xe_10 kx_0) rfl rfl rfl (Nat.le_of_ble_eq_true rfl) dX9_sign_114 (fun h_114 H locs G hw => ?_)
              refine lv_aload_n hx hb dX9_sign_117 rfl (lv_at hl 1 rfl) ?_
              refine x_get (C := RX9) (T := TX9) (n := 12) S G inX9 (xe_10 kx_0) rfl 2 (by decide) kf_X9_27 rfl dX9_sign_118 ?_
              refine lv_dup hx hb dX9_sign_121 rfl ?_
              refine x_get (C := RX5) (T := TX5) (n := 17) S G inX5 (xe_6 kx_3) rfl 2 (by decide) kf_X9_142 rfl dX9_sign_122 ?_
              refine lv_dup_x1 hx hb dX9_sign_125 rfl rfl ?_
              refine lv_iconst (v := 1) hx hb dX9_sign_126 (by decide) ?_
              refine lv_iadd hx hb dX9_sign_127 ?_
              refine x_put (C := RX5) (T := TX5) (n := 17) S G inX5 tyX5 tyX5_ok nmX5 (xe_6 kx_3) rfl 2 (by decide) kf_X9_142 rfl rfl rfl (Nat.le_of_ble_eq_true rfl) (xp_6_2 kx_3) dX9_sign_128 (fun H locs G => ?_)
              obtain ⟨h_128, eh_128⟩ : ∃ y : Hs, y = si h_114 3 2 ((gi h_114 3 2) + 1) := ⟨_, rfl⟩
              rw [← eh_128] at G
              have hw := hw h_128 eh_128
              exact RT _ _ _ _ _ _ G hw dX9_sign_131
            · have hw := hw.2 c_67
              refine lv_aload_n hx hb dX9_sign_70 rfl (lv_at hl 0 rfl) ?_
              refine x_Vi S hl.1 G (c_X_full l D q A ad h _ hw) (cw_X9_77 S.2.2.2.2 ⟨Nat.le_trans (Nat.le_of_ble_eq_true rfl) hR1, Nat.le_trans (Nat.le_of_ble_eq_true rfl) hR2⟩) (xe_10 kx_0) rfl rfl rfl (Nat.le_of_ble_eq_true rfl) dX9_sign_71 (fun r_71 h_71 H locs G hw => ?_)
              exact RT _ _ _ _ _ _ G hw dX9_sign_74
          · have hw := hw.2 c_50
            refine lv_aload_n hx hb dX9_sign_53 rfl (lv_at hl 0 rfl) ?_
            refine x_Vi S hl.1 G (c_X_bad l D q A ad h _ hw) (cw_X9_69 S.2.2.2.2 ⟨Nat.le_trans (Nat.le_of_ble_eq_true rfl) hR1, Nat.le_trans (Nat.le_of_ble_eq_true rfl) hR2⟩) (xe_10 kx_0) rfl rfl rfl (Nat.le_of_ble_eq_true rfl) dX9_sign_54 (fun r_54 h_54 H locs G hw => ?_)
            exact RT _ _ _ _ _ _ G hw dX9_sign_57
        · have hw := hw.2 c_33
          exact hw _ _ _ (lv_sub hl [0] rfl) G

abbrev rm_X_post : Room := { frames := 2, cells := 0, slots := 0, locals := 43 }
set_option maxHeartbeats 4000000 in
set_option maxRecDepth 100000 in
theorem c_X_post (l : Launch) (D : va_G) (q : Nat → ClassId) (A : Nat → Prop) (ad : Nat → Nat) (a1 : Int32) (a2 : Int32) (h : Hs) (Q : Int32 → Hs → Prop) (hw : p_X_post a1 a2 h Q) : Met l yX9_post (mw yX9_post cX9_post 3 (some .int)) rm_X_post (va_Pc [.ref (ad 0), .int a1, .int a2] (pW D q A (wX q ad h))) (va_Qi Q (fun h t => pW D q A (wX q ad h) t) A) 0 0 A := by
  refine met_i (Qp := Q) (by decide) (Nat.le_of_ble_eq_true rfl) ?_
  intro p e R s m args below meth c Qm ls hR1 hR2 S RT hl G
  have hx := S.1
  have hb := S.2.1
  have hl : lv_has ls 3 [(0, .ref (ad 0)), (1, .int a1), (2, .int a2)] := hl
  unfold p_X_post at hw
  refine lv_iload_n hx hb dX9_post_0 rfl (lv_at hl 1 rfl) ?_
  refine lv_iconst (v := (-1)) hx hb dX9_post_1 (by decide) ?_
  have hw := hw (∀ (ls : Array Slot) (H : Heap) (locs : List Loc), lv_has ls 3 [(0, .ref (ad 0)), (1, .int a1), (2, .int a2)] → okW D q A s (wX q ad h) H locs → W p l e R s m args below meth c H locs 0 0 Qm (F0 m 18 ls [])) (by
    intro hw ls H locs hl G
    refine lv_aload_n hx hb dX9_post_18 rfl (lv_at hl 0 rfl) ?_
    refine x_get (C := RX9) (T := TX9) (n := 12) S G inX9 (xe_10 kx_0) rfl 2 (by decide) kf_X9_27 rfl dX9_post_19 ?_
    refine x_get (C := RX5) (T := TX5) (n := 17) S G inX5 (xe_6 kx_3) rfl 13 (by decide) kf_X9_148 rfl dX9_post_22 ?_
    refine lv_iconst (v := 0) hx hb dX9_post_25 (by decide) ?_
    refine lv_iconst (v := 1) hx hb dX9_post_26 (by decide) ?_
    refine x_iast (k := 0) S G (xe_20 kx_27 lx_27) (vpi (by decide)) rfl (xs_20 kx_27 lx_27) dX9_post_27 (fun H locs G => ?_)
    obtain ⟨h_27, eh_27⟩ : ∃ y : Hs, y = si h 27 0 1 := ⟨_, rfl⟩
    rw [← eh_27] at G
    have hw := hw h_27 eh_27
    refine lv_aload_n hx hb dX9_post_28 rfl (lv_at hl 0 rfl) ?_
    refine x_get (C := RX9) (T := TX9) (n := 12) S G inX9 (xe_10 kx_0) rfl 2 (by decide) kf_X9_27 rfl dX9_post_29 ?_
    refine x_get (C := RX5) (T := TX5) (n := 17) S G inX5 (xe_6 kx_3) rfl 13 (by decide) kf_X9_148 rfl dX9_post_32 ?_
    refine lv_iconst (v := 1) hx hb dX9_post_35 (by decide) ?_
    refine lv_iload_n hx hb dX9_post_36 rfl (lv_at hl 1 rfl) ?_
    refine x_iast (k := 1) S G (xe_20 kx_27 lx_27) (vpi (by decide)) rfl (xs_20 kx_27 lx_27) dX9_post_37 (fun H locs G => ?_)
    obtain ⟨h_37, eh_37⟩ : ∃ y : Hs, y = si h_27 27 1 a1 := ⟨_, rfl⟩
    rw [← eh_37] at G
    have hw := hw h_37 eh_37
    refine lv_aload_n hx hb dX9_post_38 rfl (lv_at hl 0 rfl) ?_
    refine x_get (C := RX9) (T := TX9) (n := 12) S G inX9 (xe_10 kx_0) rfl 2 (by decide) kf_X9_27 rfl dX9_post_39 ?_
    refine x_get (C := RX5) (T := TX5) (n := 17) S G inX5 (xe_6 kx_3) rfl 13 (by decide) kf_X9_148 rfl dX9_post_42 ?_
    refine lv_iconst (v := 2) hx hb dX9_post_45 (by decide) ?_
    refine lv_iload_n hx hb dX9_post_46 rfl (lv_at hl 2 rfl) ?_
    have hw := hw (fun (t2_55 : Int32) => ∀ (ls : Array Slot) (H : Heap) (locs : List Loc), lv_has ls 3 [(0, .ref (ad 0))] → okW D q A s (wX q ad h_37) H locs → W p l e R s m args below meth c H locs 0 0 Qm (F0 m 55 ls [.int t2_55, .int 2, .ref (ad 27)])) (by
      intro t2_55 hw ls H locs hl G
      refine x_iast (k := 2) S G (xe_20 kx_27 lx_27) (vpi (by decide)) rfl (xs_20 kx_27 lx_27) dX9_post_55 (fun H locs G => ?_)
      obtain ⟨h_55, eh_55⟩ : ∃ y : Hs, y = si h_37 27 2 t2_55 := ⟨_, rfl⟩
      rw [← eh_55] at G
      have hw := hw h_55 eh_55
      refine lv_aload_n hx hb dX9_post_56 rfl (lv_at hl 0 rfl) ?_
      refine x_Vv S hl.1 G (c_X_changed l D q A ad h_55 _ hw) (cw_X9_84 S.2.2.2.2 ⟨Nat.le_trans (Nat.le_of_ble_eq_true rfl) hR1, Nat.le_trans (Nat.le_of_ble_eq_true rfl) hR2⟩) (xe_10 kx_0) rfl rfl rfl (Nat.le_of_ble_eq_true rfl) dX9_post_57 (fun h_57 H locs G hw => ?_)
      refine lv_iconst (v := 1) hx hb dX9_post_60 (by decide) ?_
      exact RT _ _ _ _ _ _ G hw dX9_post_61)
    refine lv_if_eq (tgt := 54) hx hb dX9_post_47 (by decide) (fun c_47 => ?_) (fun c_47 => ?_)
    · have hw := hw.1 c_47
      refine lv_iconst (v := 0) hx hb dX9_post_54 (by decide) ?_
      exact hw _ _ _ (lv_sub hl [0] rfl) G
    · have hw := hw.2 c_47
      refine lv_iconst (v := 1) hx hb dX9_post_50 (by decide) ?_
      refine lv_goto (tgt := 55) hx hb dX9_post_51 (by decide) ?_
      exact hw _ _ _ (lv_sub hl [0] rfl) G)
  refine lv_icmp_eq (tgt := 18) hx hb dX9_post_2 (by decide) (fun c_2 => ?_) (fun c_2 => ?_)
  · have hw := hw.1 c_2
    exact hw _ _ _ (lv_sub hl [0, 1, 2] rfl) G
  · have hw := hw.2 c_2
    refine lv_aload_n hx hb dX9_post_5 rfl (lv_at hl 0 rfl) ?_
    refine lv_iload_n hx hb dX9_post_6 rfl (lv_at hl 1 rfl) ?_
    refine x_VzP S hl.1 G (c_X_noPlace l D q A ad a1 h _ hw) (cw_X9_135 S.2.2.2.2 ⟨Nat.le_trans (Nat.le_of_ble_eq_true rfl) hR1, Nat.le_trans (Nat.le_of_ble_eq_true rfl) hR2⟩) (xe_10 kx_0) rfl rfl rfl (Nat.le_of_ble_eq_true rfl) dX9_post_7 (fun r_7 H locs G z_7 hw => ?_)
    refine lv_if_eq (tgt := 18) hx hb dX9_post_10 (by decide) (fun c_10 => ?_) (fun c_10 => ?_)
    · have hw := hw.1 c_10
      exact hw _ _ _ (lv_sub hl [0, 1, 2] rfl) G
    · have hw := hw.2 c_10
      refine lv_aload_n hx hb dX9_post_13 rfl (lv_at hl 0 rfl) ?_
      refine x_Vi S hl.1 G (c_X_bad l D q A ad h _ hw) (cw_X9_69 S.2.2.2.2 ⟨Nat.le_trans (Nat.le_of_ble_eq_true rfl) hR1, Nat.le_trans (Nat.le_of_ble_eq_true rfl) hR2⟩) (xe_10 kx_0) rfl rfl rfl (Nat.le_of_ble_eq_true rfl) dX9_post_14 (fun r_14 h_14 H locs G hw => ?_)
      exact RT _ _ _ _ _ _ G hw dX9_post_17

abbrev rm_X_noLot : Room := { frames := 1, cells := 0, slots := 0, locals := 22 }
set_option maxHeartbeats 4000000 in
set_option maxRecDepth 100000 in
theorem c_X_noLot (l : Launch) (D : va_G) (q : Nat → ClassId) (A : Nat → Prop) (ad : Nat → Nat) (a1 : Int32) (h : Hs) (Q : Int32 → Prop) (hw : p_X_noLot a1 h Q) : Met l yX9_noLot (mw yX9_noLot cX9_noLot 2 (some .boolean)) rm_X_noLot (va_Pc [.ref (ad 0), .int a1] (pW D q A (wX q ad h))) (va_Qi (fun r h9 => zb r ∧ h9 = h ∧ Q r) (fun h t => pW D q A (wX q ad h) t) A) 0 0 A := by
  refine met_z (Qp := (fun r h9 => h9 = h ∧ Q r)) (by decide) (Nat.le_of_ble_eq_true rfl) ?_
  intro p e R s m args below meth c Qm ls hR1 hR2 S RT hl G
  have hx := S.1
  have hb := S.2.1
  have hl : lv_has ls 2 [(0, .ref (ad 0)), (1, .int a1)] := hl
  unfold p_X_noLot at hw
  refine lv_iload_n hx hb dX9_noLot_0 rfl (lv_at hl 1 rfl) ?_
  refine lv_iconst (v := 0) hx hb dX9_noLot_1 (by decide) ?_
  refine lv_aload_n hx hb dX9_noLot_2 rfl (lv_at hl 0 rfl) ?_
  refine x_get (C := RX9) (T := TX9) (n := 12) S G inX9 (xe_10 kx_0) rfl 2 (by decide) kf_X9_27 rfl dX9_noLot_3 ?_
  refine x_get (C := RX5) (T := TX5) (n := 17) S G inX5 (xe_6 kx_3) rfl 1 (by decide) kf_X9_94 rfl dX9_noLot_6 ?_
  refine lv_iconst (v := 1) hx hb dX9_noLot_9 (by decide) ?_
  refine lv_isub hx hb dX9_noLot_10 ?_
  refine x_SzP S hl.1 G (c_X_outside l D q A ad a1 0 ((gi h 3 1) - 1) h _ hw) (cw_X9_65 S.2.2.2.2 ⟨Nat.le_trans (Nat.le_of_ble_eq_true rfl) hR1, Nat.le_trans (Nat.le_of_ble_eq_true rfl) hR2⟩) rfl rfl (Nat.le_of_ble_eq_true rfl) dX9_noLot_11 (fun r_11 H locs G z_11 hw => ?_)
  exact RT _ _ _ _ _ _ G z_11 ⟨rfl, hw⟩ dX9_noLot_14
theorem cw_X9_151 {R : Room} {s : State} {args : Array Value} (hts : ∀ w ∈ gW, w.before args s = true) (hR : rm_X_noLot.frames + 1 ≤ R.frames ∧ 8 + (2 + 11) + rm_X_noLot.locals ≤ R.locals) : CallW R s args RX9 RX9 151 yX9_noLot cX9_noLot 2 (some .boolean) (mw yX9_noLot cX9_noLot 2 (some .boolean)) rm_X_noLot 0 0 1 := cwV9 hts km_X9_151 ki_X9_noLot ks_X9_noLot kn_X9 kk_X9_noLot rfl rfl (by decide +kernel) hR
abbrev rm_X_noMonth : Room := { frames := 1, cells := 0, slots := 0, locals := 22 }
set_option maxHeartbeats 4000000 in
set_option maxRecDepth 100000 in
theorem c_X_noMonth (l : Launch) (D : va_G) (q : Nat → ClassId) (A : Nat → Prop) (ad : Nat → Nat) (a0 : Int32) (h : Hs) (Q : Int32 → Prop) (hw : p_X_noMonth a0 h Q) : Met l yX9_noMonth (mw yX9_noMonth cX9_noMonth 1 (some .boolean)) rm_X_noMonth (va_Pc [.int a0] (pW D q A (wX q ad h))) (va_Qi (fun r h9 => zb r ∧ h9 = h ∧ Q r) (fun h t => pW D q A (wX q ad h) t) A) 0 0 A := by
  refine met_z (Qp := (fun r h9 => h9 = h ∧ Q r)) (by decide) (Nat.le_of_ble_eq_true rfl) ?_
  intro p e R s m args below meth c Qm ls hR1 hR2 S RT hl G
  have hx := S.1
  have hb := S.2.1
  have hl : lv_has ls 1 [(0, .int a0)] := hl
  unfold p_X_noMonth at hw
  refine lv_iload_n hx hb dX9_noMonth_0 rfl (lv_at hl 0 rfl) ?_
  refine lv_iconst (v := 0) hx hb dX9_noMonth_1 (by decide) ?_
  refine lv_bipush (v := 119) hx hb dX9_noMonth_2 (by decide) ?_
  refine x_SzP S hl.1 G (c_X_outside l D q A ad a0 0 119 h _ hw) (cw_X9_65 S.2.2.2.2 ⟨Nat.le_trans (Nat.le_of_ble_eq_true rfl) hR1, Nat.le_trans (Nat.le_of_ble_eq_true rfl) hR2⟩) rfl rfl (Nat.le_of_ble_eq_true rfl) dX9_noMonth_4 (fun r_4 H locs G z_4 hw => ?_)
  exact RT _ _ _ _ _ _ G z_4 ⟨rfl, hw⟩ dX9_noMonth_7
theorem cw_X9_154 {R : Room} {s : State} {args : Array Value} (hts : ∀ w ∈ gW, w.before args s = true) (hR : rm_X_noMonth.frames + 1 ≤ R.frames ∧ 8 + (1 + 11) + rm_X_noMonth.locals ≤ R.locals) : CallB R s args RX9 154 yX9_noMonth cX9_noMonth 1 (some .boolean) (mw yX9_noMonth cX9_noMonth 1 (some .boolean)) rm_X_noMonth 0 0 1 ∧ (Cond.static yX9_noMonth).before args s = true := cwS9 hts km_X9_154 kt_X9_noMonth kn_X9 kk_X9_noMonth rfl rfl (by decide +kernel) hR
abbrev rm_X_noWhere : Room := { frames := 2, cells := 0, slots := 0, locals := 43 }
set_option maxHeartbeats 4000000 in
set_option maxRecDepth 100000 in
theorem c_X_noWhere (l : Launch) (D : va_G) (q : Nat → ClassId) (A : Nat → Prop) (ad : Nat → Nat) (a1 : Int32) (h : Hs) (Q : Int32 → Prop) (hw : p_X_noWhere a1 h Q) : Met l yX9_noWhere (mw yX9_noWhere cX9_noWhere 2 (some .boolean)) rm_X_noWhere (va_Pc [.ref (ad 0), .int a1] (pW D q A (wX q ad h))) (va_Qi (fun r h9 => zb r ∧ h9 = h ∧ Q r) (fun h t => pW D q A (wX q ad h) t) A) 0 0 A := by
  refine met_z (Qp := (fun r h9 => h9 = h ∧ Q r)) (by decide) (Nat.le_of_ble_eq_true rfl) ?_
  intro p e R s m args below meth c Qm ls hR1 hR2 S RT hl G
  have hx := S.1
  have hb := S.2.1
  have hl : lv_has ls 2 [(0, .ref (ad 0)), (1, .int a1)] := hl
  unfold p_X_noWhere at hw
  refine lv_aload_n hx hb dX9_noWhere_0 rfl (lv_at hl 0 rfl) ?_
  refine lv_iload_n hx hb dX9_noWhere_1 rfl (lv_at hl 1 rfl) ?_
  refine x_VzP S hl.1 G (c_X_noPlace l D q A ad a1 h _ hw) (cw_X9_135 S.2.2.2.2 ⟨Nat.le_trans (Nat.le_of_ble_eq_true rfl) hR1, Nat.le_trans (Nat.le_of_ble_eq_true rfl) hR2⟩) (xe_10 kx_0) rfl rfl rfl (Nat.le_of_ble_eq_true rfl) dX9_noWhere_2 (fun r_2 H locs G z_2 hw => ?_)
  have hw := hw (fun (t0_25 : Int32) => ∀ (ls : Array Slot) (H : Heap) (locs : List Loc), lv_has ls 2 [] → okW D q A s (wX q ad h) H locs → W p l e R s m args below meth c H locs 0 0 Qm (F0 m 25 ls [.int t0_25])) (by
    intro t0_25 hw ls H locs hl G
    obtain ⟨z_25, hw⟩ := hw
    exact RT _ _ _ _ _ _ G z_25 ⟨rfl, hw⟩ dX9_noWhere_25)
  have hw := hw (∀ (ls : Array Slot) (H : Heap) (locs : List Loc), lv_has ls 2 [] → okW D q A s (wX q ad h) H locs → W p l e R s m args below meth c H locs 0 0 Qm (F0 m 24 ls [])) (by
    intro hw ls H locs hl G
    refine lv_iconst (v := 0) hx hb dX9_noWhere_24 (by decide) ?_
    exact hw _ _ _ (lv_sub hl [] rfl) G)
  refine lv_if_eq (tgt := 24) hx hb dX9_noWhere_5 (by decide) (fun c_5 => ?_) (fun c_5 => ?_)
  · have hw := hw.1 c_5
    exact hw _ _ _ (lv_sub hl [] rfl) G
  · have hw := hw.2 c_5
    refine lv_iload_n hx hb dX9_noWhere_8 rfl (lv_at hl 1 rfl) ?_
    refine lv_bipush (v := 6) hx hb dX9_noWhere_9 (by decide) ?_
    refine lv_icmp_eq (tgt := 24) hx hb dX9_noWhere_11 (by decide) (fun c_11 => ?_) (fun c_11 => ?_)
    · have hw := hw.1 c_11
      exact hw _ _ _ (lv_sub hl [] rfl) G
    · have hw := hw.2 c_11
      refine lv_iload_n hx hb dX9_noWhere_14 rfl (lv_at hl 1 rfl) ?_
      refine lv_bipush (v := 7) hx hb dX9_noWhere_15 (by decide) ?_
      refine lv_icmp_eq (tgt := 24) hx hb dX9_noWhere_17 (by decide) (fun c_17 => ?_) (fun c_17 => ?_)
      · have hw := hw.1 c_17
        exact hw _ _ _ (lv_sub hl [] rfl) G
      · have hw := hw.2 c_17
        refine lv_iconst (v := 1) hx hb dX9_noWhere_20 (by decide) ?_
        refine lv_goto (tgt := 25) hx hb dX9_noWhere_21 (by decide) ?_
        exact hw _ _ _ (lv_sub hl [] rfl) G
theorem cw_X9_157 {R : Room} {s : State} {args : Array Value} (hts : ∀ w ∈ gW, w.before args s = true) (hR : rm_X_noWhere.frames + 1 ≤ R.frames ∧ 8 + (2 + 11) + rm_X_noWhere.locals ≤ R.locals) : CallW R s args RX9 RX9 157 yX9_noWhere cX9_noWhere 2 (some .boolean) (mw yX9_noWhere cX9_noWhere 2 (some .boolean)) rm_X_noWhere 0 0 1 := cwV9 hts km_X9_157 ki_X9_noWhere ks_X9_noWhere kn_X9 kk_X9_noWhere rfl rfl (by decide +kernel) hR
abbrev rm_X_teller : Room := { frames := 3, cells := 0, slots := 0, locals := 64 }
set_option maxHeartbeats 4000000 in
set_option maxRecDepth 100000 in
theorem c_X_teller (l : Launch) (D : va_G) (q : Nat → ClassId) (A : Nat → Prop) (ad : Nat → Nat) (a1 : Int32) (a2 : Int32) (a3 : Int32) (a4 : Int32) (a5 : Int32) (h : Hs) (Q : Int32 → Hs → Prop) (hw : p_X_teller a1 a2 a3 a4 a5 h Q) : Met l yX9_teller (mw yX9_teller cX9_teller 7 (some .int)) rm_X_teller (va_Pc [.ref (ad 0), .int a1, .int a2, .int a3, .int a4, .int a5] (pW D q A (wX q ad h))) (va_Qi Q (fun h t => pW D q A (wX q ad h) t) A) 0 0 A := by
  refine met_i (Qp := Q) (by decide) (Nat.le_of_ble_eq_true rfl) ?_
  intro p e R s m args below meth c Qm ls hR1 hR2 S RT hl G
  have hx := S.1
  have hb := S.2.1
  have hl : lv_has ls 7 [(0, .ref (ad 0)), (1, .int a1), (2, .int a2), (3, .int a3), (4, .int a4), (5, .int a5)] := hl
  unfold p_X_teller at hw
  refine lv_iload_n hx hb dX9_teller_0 rfl (lv_at hl 1 rfl) ?_
  refine lv_iconst (v := 0) hx hb dX9_teller_1 (by decide) ?_
  refine lv_iconst (v := 5) hx hb dX9_teller_2 (by decide) ?_
  refine x_SzP S hl.1 G (c_X_outside l D q A ad a1 0 5 h _ hw) (cw_X9_65 S.2.2.2.2 ⟨Nat.le_trans (Nat.le_of_ble_eq_true rfl) hR1, Nat.le_trans (Nat.le_of_ble_eq_true rfl) hR2⟩) rfl rfl (Nat.le_of_ble_eq_true rfl) dX9_teller_3 (fun r_3 H locs G z_3 hw => ?_)
  have hw := hw (∀ (ls : Array Slot) (H : Heap) (locs : List Loc), lv_has ls 7 [(0, .ref (ad 0))] → okW D q A s (wX q ad h) H locs → W p l e R s m args below meth c H locs 0 0 Qm (F0 m 33 ls [])) (by
    intro hw ls H locs hl G
    refine lv_aload_n hx hb dX9_teller_33 rfl (lv_at hl 0 rfl) ?_
    refine x_Vi S hl.1 G (c_X_bad l D q A ad h _ hw) (cw_X9_69 S.2.2.2.2 ⟨Nat.le_trans (Nat.le_of_ble_eq_true rfl) hR1, Nat.le_trans (Nat.le_of_ble_eq_true rfl) hR2⟩) (xe_10 kx_0) rfl rfl rfl (Nat.le_of_ble_eq_true rfl) dX9_teller_34 (fun r_34 h_34 H locs G hw => ?_)
    exact RT _ _ _ _ _ _ G hw dX9_teller_37)
  refine lv_if_ne (tgt := 33) hx hb dX9_teller_6 (by decide) (fun c_6 => ?_) (fun c_6 => ?_)
  · have hw := hw.1 c_6
    exact hw _ _ _ (lv_sub hl [0] rfl) G
  · have hw := hw.2 c_6
    refine lv_aload_n hx hb dX9_teller_9 rfl (lv_at hl 0 rfl) ?_
    refine lv_iload_n hx hb dX9_teller_10 rfl (lv_at hl 2 rfl) ?_
    refine x_VzP S hl.1 G (c_X_noLot l D q A ad a2 h _ hw) (cw_X9_151 S.2.2.2.2 ⟨Nat.le_trans (Nat.le_of_ble_eq_true rfl) hR1, Nat.le_trans (Nat.le_of_ble_eq_true rfl) hR2⟩) (xe_10 kx_0) rfl rfl rfl (Nat.le_of_ble_eq_true rfl) dX9_teller_11 (fun r_11 H locs G z_11 hw => ?_)
    refine lv_if_ne (tgt := 33) hx hb dX9_teller_14 (by decide) (fun c_14 => ?_) (fun c_14 => ?_)
    · have hw := hw.1 c_14
      exact hw _ _ _ (lv_sub hl [0] rfl) G
    · have hw := hw.2 c_14
      refine lv_iload_n hx hb dX9_teller_17 rfl (lv_at hl 3 rfl) ?_
      refine x_SzP S hl.1 G (c_X_noMonth l D q A ad a3 h _ hw) (cw_X9_154 S.2.2.2.2 ⟨Nat.le_trans (Nat.le_of_ble_eq_true rfl) hR1, Nat.le_trans (Nat.le_of_ble_eq_true rfl) hR2⟩) rfl rfl (Nat.le_of_ble_eq_true rfl) dX9_teller_18 (fun r_18 H locs G z_18 hw => ?_)
      refine lv_if_ne (tgt := 33) hx hb dX9_teller_21 (by decide) (fun c_21 => ?_) (fun c_21 => ?_)
      · have hw := hw.1 c_21
        exact hw _ _ _ (lv_sub hl [0] rfl) G
      · have hw := hw.2 c_21
        refine lv_aload_n hx hb dX9_teller_24 rfl (lv_at hl 0 rfl) ?_
        refine lv_iload hx hb dX9_teller_25 (lv_at hl 4 rfl) ?_
        refine x_VzP S hl.1 G (c_X_noWhere l D q A ad a4 h _ hw) (cw_X9_157 S.2.2.2.2 ⟨Nat.le_trans (Nat.le_of_ble_eq_true rfl) hR1, Nat.le_trans (Nat.le_of_ble_eq_true rfl) hR2⟩) (xe_10 kx_0) rfl rfl rfl (Nat.le_of_ble_eq_true rfl) dX9_teller_27 (fun r_27 H locs G z_27 hw => ?_)
        refine lv_if_eq (tgt := 38) hx hb dX9_teller_30 (by decide) (fun c_30 => ?_) (fun c_30 => ?_)
        · have hw := hw.1 c_30
          refine lv_iload hx hb dX9_teller_38 (lv_at hl 5 rfl) ?_
          refine lv_iconst (v := 1) hx hb dX9_teller_40 (by decide) ?_
          refine lv_bipush (v := 9) hx hb dX9_teller_41 (by decide) ?_
          refine x_SzP S hl.1 G (c_X_outside l D q A ad a5 1 9 h _ hw) (cw_X9_65 S.2.2.2.2 ⟨Nat.le_trans (Nat.le_of_ble_eq_true rfl) hR1, Nat.le_trans (Nat.le_of_ble_eq_true rfl) hR2⟩) rfl rfl (Nat.le_of_ble_eq_true rfl) dX9_teller_43 (fun r_43 H locs G z_43 hw => ?_)
          refine lv_if_eq (tgt := 54) hx hb dX9_teller_46 (by decide) (fun c_46 => ?_) (fun c_46 => ?_)
          · have hw := hw.1 c_46
            refine lv_aload_n hx hb dX9_teller_54 rfl (lv_at hl 0 rfl) ?_
            refine x_get (C := RX9) (T := TX9) (n := 12) S G inX9 (xe_10 kx_0) rfl 2 (by decide) kf_X9_27 rfl dX9_teller_55 ?_
            refine x_get (C := RX5) (T := TX5) (n := 17) S G inX5 (xe_6 kx_3) rfl 3 (by decide) kf_X9_160 rfl dX9_teller_58 ?_
            refine lv_bipush (v := 6) hx hb dX9_teller_61 (by decide) ?_
            refine lv_icmp_lt (tgt := 71) hx hb dX9_teller_63 (by decide) (fun c_63 => ?_) (fun c_63 => ?_)
            · have hw := hw.1 c_63
              refine lv_aload_n hx hb dX9_teller_71 rfl (lv_at hl 0 rfl) ?_
              refine x_get (C := RX9) (T := TX9) (n := 12) S G inX9 (xe_10 kx_0) rfl 2 (by decide) kf_X9_27 rfl dX9_teller_72 ?_
              refine x_get (C := RX5) (T := TX5) (n := 17) S G inX5 (xe_6 kx_3) rfl 14 (by decide) kf_X9_163 rfl dX9_teller_75 ?_
              refine lv_aload_n hx hb dX9_teller_78 rfl (lv_at hl 0 rfl) ?_
              refine x_get (C := RX9) (T := TX9) (n := 12) S G inX9 (xe_10 kx_0) rfl 2 (by decide) kf_X9_27 rfl dX9_teller_79 ?_
              refine x_get (C := RX5) (T := TX5) (n := 17) S G inX5 (xe_6 kx_3) rfl 3 (by decide) kf_X9_160 rfl dX9_teller_82 ?_
              obtain ⟨i_85, hw⟩ := hw
              refine x_aald (k := (gi h 3 3).toNatClampNeg) S G 2 (xe_22 kx_28 lx_28) rfl rfl i_85 rfl (if_pos (vpl i_85)) dX9_teller_85 ?_
              refine lv_astore (lv' := [(6, .ref (ad (28 + 1 + 1 * ((gi h 3 3).toNatClampNeg)))), (0, .ref (ad 0)), (1, .int a1), (2, .int a2), (3, .int a3), (4, .int a4), (5, .int a5)]) hx hb dX9_teller_86 hl (by decide) rfl (fun ls hl => ?_)
              refine lv_aload hx hb dX9_teller_88 (lv_at hl 0 rfl) ?_
              refine lv_iconst (v := 0) hx hb dX9_teller_90 (by decide) ?_
              refine lv_iload_n hx hb dX9_teller_91 rfl (lv_at hl 2 rfl) ?_
              refine x_iast (k := 0) S G (xe_20 (kxe_28 _ (vpl i_85)) (lxe_28 _ (vpl i_85))) (vpi (by decide)) rfl (xs_20 (kxe_28 _ (vpl i_85)) (lxe_28 _ (vpl i_85))) dX9_teller_92 (fun H locs G => ?_)
              obtain ⟨h_92, eh_92⟩ : ∃ y : Hs, y = si h (28 + 1 + 1 * ((gi h 3 3).toNatClampNeg)) 0 a1 := ⟨_, rfl⟩
              rw [← eh_92] at G
              have hw := hw h_92 eh_92
              refine lv_aload hx hb dX9_teller_93 (lv_at hl 0 rfl) ?_
              refine lv_iconst (v := 1) hx hb dX9_teller_95 (by decide) ?_
              refine lv_iload_n hx hb dX9_teller_96 rfl (lv_at hl 3 rfl) ?_
              refine x_iast (k := 1) S G (xe_20 (kxe_28 _ (vpl i_85)) (lxe_28 _ (vpl i_85))) (vpi (by decide)) rfl (xs_20 (kxe_28 _ (vpl i_85)) (lxe_28 _ (vpl i_85))) dX9_teller_97 (fun H locs G => ?_)
              obtain ⟨h_97, eh_97⟩ : ∃ y : Hs, y = si h_92 (28 + 1 + 1 * ((gi h 3 3).toNatClampNeg)) 1 a2 := ⟨_, rfl⟩
              rw [← eh_97] at G
              have hw := hw h_97 eh_97
              refine lv_aload hx hb dX9_teller_98 (lv_at hl 0 rfl) ?_
              refine lv_iconst (v := 2) hx hb dX9_teller_100 (by decide) ?_
              refine lv_iload_n hx hb dX9_teller_101 rfl (lv_at hl 4 rfl) ?_
              refine x_iast (k := 2) S G (xe_20 (kxe_28 _ (vpl i_85)) (lxe_28 _ (vpl i_85))) (vpi (by decide)) rfl (xs_20 (kxe_28 _ (vpl i_85)) (lxe_28 _ (vpl i_85))) dX9_teller_102 (fun H locs G => ?_)
              obtain ⟨h_102, eh_102⟩ : ∃ y : Hs, y = si h_97 (28 + 1 + 1 * ((gi h 3 3).toNatClampNeg)) 2 a3 := ⟨_, rfl⟩
              rw [← eh_102] at G
              have hw := hw h_102 eh_102
              refine lv_aload hx hb dX9_teller_103 (lv_at hl 0 rfl) ?_
              refine lv_iconst (v := 3) hx hb dX9_teller_105 (by decide) ?_
              refine lv_iload hx hb dX9_teller_106 (lv_at hl 5 rfl) ?_
              refine x_iast (k := 3) S G (xe_20 (kxe_28 _ (vpl i_85)) (lxe_28 _ (vpl i_85))) (vpi (by decide)) rfl (xs_20 (kxe_28 _ (vpl i_85)) (lxe_28 _ (vpl i_85))) dX9_teller_108 (fun H locs G => ?_)
              obtain ⟨h_108, eh_108⟩ : ∃ y : Hs, y = si h_102 (28 + 1 + 1 * ((gi h 3 3).toNatClampNeg)) 3 a4 := ⟨_, rfl⟩
              rw [← eh_108] at G
              have hw := hw h_108 eh_108
              refine lv_aload hx hb dX9_teller_109 (lv_at hl 0 rfl) ?_
              refine lv_iconst (v := 4) hx hb dX9_teller_111 (by decide) ?_
              refine lv_iload hx hb dX9_teller_112 (lv_at hl 6 rfl) ?_
              refine x_iast (k := 4) S G (xe_20 (kxe_28 _ (vpl i_85)) (lxe_28 _ (vpl i_85))) (vpi (by decide)) rfl (xs_20 (kxe_28 _ (vpl i_85)) (lxe_28 _ (vpl i_85))) dX9_teller_114 (fun H locs G => ?_)
              obtain ⟨h_114, eh_114⟩ : ∃ y : Hs, y = si h_108 (28 + 1 + 1 * ((gi h 3 3).toNatClampNeg)) 4 a5 := ⟨_, rfl⟩
              rw [← eh_114] at G
              have hw := hw h_114 eh_114
              refine lv_aload_n hx hb dX9_teller_115 rfl (lv_at hl 1 rfl) ?_
              refine x_Vv S hl.1 G (c_X_changed l D q A ad h_114 _ hw) (cw_X9_84 S.2.2.2.2 ⟨Nat.le_trans (Nat.le_of_ble_eq_true rfl) hR1, Nat.le_trans (Nat.le_of_ble_eq_true rfl) hR2⟩) (xe_10 kx_0) rfl rfl rfl (Nat.le_of_ble_eq_true rfl) dX9_teller_116 (fun h_116 H locs G hw => ?_)
              refine lv_aload_n hx hb dX9_teller_119 rfl (lv_at hl 1 rfl) ?_
              refine x_get (C := RX9) (T := TX9) (n := 12) S G inX9 (xe_10 kx_0) rfl 2 (by decide) kf_X9_27 rfl dX9_teller_120 ?_
              refine lv_dup hx hb dX9_teller_123 rfl ?_
              refine x_get (C := RX5) (T := TX5) (n := 17) S G inX5 (xe_6 kx_3) rfl 3 (by decide) kf_X9_160 rfl dX9_teller_124 ?_
              refine lv_dup_x1 hx hb dX9_teller_127 rfl rfl ?_
              refine lv_iconst (v := 1) hx hb dX9_teller_128 (by decide) ?_
              refine lv_iadd hx hb dX9_teller_129 ?_
              refine x_put (C := RX5) (T := TX5) (n := 17) S G inX5 tyX5 tyX5_ok nmX5 (xe_6 kx_3) rfl 3 (by decide) kf_X9_160 rfl rfl rfl (Nat.le_of_ble_eq_true rfl) (xp_6_3 kx_3) dX9_teller_130 (fun H locs G => ?_)
              obtain ⟨h_130, eh_130⟩ : ∃ y : Hs, y = si h_116 3 3 ((gi h_116 3 3) + 1) := ⟨_, rfl⟩
              rw [← eh_130] at G
              have hw := hw h_130 eh_130
              exact RT _ _ _ _ _ _ G hw dX9_teller_133
            · have hw := hw.2 c_63
              refine lv_aload_n hx hb dX9_teller_66 rfl (lv_at hl 0 rfl) ?_
              refine x_Vi S hl.1 G (c_X_full l D q A ad h _ hw) (cw_X9_77 S.2.2.2.2 ⟨Nat.le_trans (Nat.le_of_ble_eq_true rfl) hR1, Nat.le_trans (Nat.le_of_ble_eq_true rfl) hR2⟩) (xe_10 kx_0) rfl rfl rfl (Nat.le_of_ble_eq_true rfl) dX9_teller_67 (fun r_67 h_67 H locs G hw => ?_)
              exact RT _ _ _ _ _ _ G hw dX9_teller_70
          · have hw := hw.2 c_46
            refine lv_aload_n hx hb dX9_teller_49 rfl (lv_at hl 0 rfl) ?_
            refine x_Vi S hl.1 G (c_X_bad l D q A ad h _ hw) (cw_X9_69 S.2.2.2.2 ⟨Nat.le_trans (Nat.le_of_ble_eq_true rfl) hR1, Nat.le_trans (Nat.le_of_ble_eq_true rfl) hR2⟩) (xe_10 kx_0) rfl rfl rfl (Nat.le_of_ble_eq_true rfl) dX9_teller_50 (fun r_50 h_50 H locs G hw => ?_)
            exact RT _ _ _ _ _ _ G hw dX9_teller_53
        · have hw := hw.2 c_30
          exact hw _ _ _ (lv_sub hl [0] rfl) G

abbrev rm_X_hasFault : Room := { frames := 5, cells := 0, slots := 0, locals := 115 }
set_option maxHeartbeats 4000000 in
set_option maxRecDepth 100000 in
theorem c_X_hasFault (l : Launch) (D : va_G) (q : Nat → ClassId) (A : Nat → Prop) (ad : Nat → Nat) (a1 : Int32) (h : Hs) (Q : Int32 → Hs → Prop) (hw : p_X_hasFault a1 h Q) : Met l yX9_hasFault (mw yX9_hasFault cX9_hasFault 2 (some .boolean)) rm_X_hasFault (va_Pc [.ref (ad 0), .int a1] (pW D q A (wX q ad h))) (va_Qi (fun r h9 => zb r ∧ Q r h9) (fun h t => pW D q A (wX q ad h) t) A) 0 0 A := by
  refine met_z (Qp := Q) (by decide) (Nat.le_of_ble_eq_true rfl) ?_
  intro p e R s m args below meth c Qm ls hR1 hR2 S RT hl G
  have hx := S.1
  have hb := S.2.1
  have hl : lv_has ls 2 [(0, .ref (ad 0)), (1, .int a1)] := hl
  unfold p_X_hasFault at hw
  refine lv_aload_n hx hb dX9_hasFault_0 rfl (lv_at hl 0 rfl) ?_
  refine x_get (C := RX9) (T := TX9) (n := 12) S G inX9 (xe_10 kx_0) rfl 1 (by decide) kf_X9_20 rfl dX9_hasFault_1 ?_
  refine x_Vv S hl.1 G (c_Lives_refresh l D q A ad h _ hw) (cw_X9_123 S.2.2.2.2 ⟨Nat.le_trans (Nat.le_of_ble_eq_true rfl) hR1, Nat.le_trans (Nat.le_of_ble_eq_true rfl) hR2⟩) (xe_4 kx_2) rfl rfl rfl (Nat.le_of_ble_eq_true rfl) dX9_hasFault_4 (fun h_4 H locs G hw => ?_)
  refine lv_aload_n hx hb dX9_hasFault_7 rfl (lv_at hl 0 rfl) ?_
  refine x_get (C := RX9) (T := TX9) (n := 12) S G inX9 (xe_10 kx_0) rfl 1 (by decide) kf_X9_20 rfl dX9_hasFault_8 ?_
  refine x_get (C := RX3) (T := TX3) (n := 10) S G inX3 (xe_4 kx_2) rfl 2 (by decide) kf_X9_126 rfl dX9_hasFault_11 ?_
  refine lv_iload_n hx hb dX9_hasFault_14 rfl (lv_at hl 1 rfl) ?_
  obtain ⟨i_15, hw⟩ := hw
  refine x_aald (k := a1.toNatClampNeg) S G 4 (xe_24 kx_47 lx_47 rfl) rfl rfl i_15 rfl (if_pos (vpl i_15)) dX9_hasFault_15 ?_
  refine x_get (C := RX6) (T := TX6) (n := 8) S G inX6 (xe_7 (kxe_47 _ (vpl i_15))) rfl 2 (by decide) kf_X9_130 rfl dX9_hasFault_16 ?_
  refine lv_iconst (v := (-1)) hx hb dX9_hasFault_19 (by decide) ?_
  have hw := hw (fun (t0_28 : Int32) => ∀ (ls : Array Slot) (H : Heap) (locs : List Loc), lv_has ls 2 [] → okW D q A s (wX q ad h_4) H locs → W p l e R s m args below meth c H locs 0 0 Qm (F0 m 28 ls [.int t0_28])) (by
    intro t0_28 hw ls H locs hl G
    obtain ⟨z_28, hw⟩ := hw
    exact RT _ _ _ _ _ _ G z_28 hw dX9_hasFault_28)
  refine lv_icmp_eq (tgt := 27) hx hb dX9_hasFault_20 (by decide) (fun c_20 => ?_) (fun c_20 => ?_)
  · have hw := hw.1 c_20
    refine lv_iconst (v := 0) hx hb dX9_hasFault_27 (by decide) ?_
    exact hw _ _ _ (lv_sub hl [] rfl) G
  · have hw := hw.2 c_20
    refine lv_iconst (v := 1) hx hb dX9_hasFault_23 (by decide) ?_
    refine lv_goto (tgt := 28) hx hb dX9_hasFault_24 (by decide) ?_
    exact hw _ _ _ (lv_sub hl [] rfl) G
theorem cw_X9_166 {R : Room} {s : State} {args : Array Value} (hts : ∀ w ∈ gW, w.before args s = true) (hR : rm_X_hasFault.frames + 1 ≤ R.frames ∧ 8 + (2 + 11) + rm_X_hasFault.locals ≤ R.locals) : CallW R s args RX9 RX9 166 yX9_hasFault cX9_hasFault 2 (some .boolean) (mw yX9_hasFault cX9_hasFault 2 (some .boolean)) rm_X_hasFault 0 0 1 := cwV9 hts km_X9_166 ki_X9_hasFault ks_X9_hasFault kn_X9 kk_X9_hasFault rfl rfl (by decide +kernel) hR
abbrev rm_X_no : Room := { frames := 0, cells := 0, slots := 0, locals := 0 }
set_option maxHeartbeats 4000000 in
set_option maxRecDepth 100000 in
theorem c_X_no (l : Launch) (D : va_G) (q : Nat → ClassId) (A : Nat → Prop) (ad : Nat → Nat) (h : Hs) (Q : Int32 → Hs → Prop) (hw : p_X_no h Q) : Met l yX9_no (mw yX9_no cX9_no 1 (some .int)) rm_X_no (va_Pc [.ref (ad 0)] (pW D q A (wX q ad h))) (va_Qi Q (fun h t => pW D q A (wX q ad h) t) A) 0 0 A := by
  refine met_i (Qp := Q) (by decide) (Nat.le_of_ble_eq_true rfl) ?_
  intro p e R s m args below meth c Qm ls hR1 hR2 S RT hl G
  have hx := S.1
  have hb := S.2.1
  have hl : lv_has ls 1 [(0, .ref (ad 0))] := hl
  unfold p_X_no at hw
  refine lv_aload_n hx hb dX9_no_0 rfl (lv_at hl 0 rfl) ?_
  refine lv_dup hx hb dX9_no_1 rfl ?_
  refine x_get (C := RX9) (T := TX9) (n := 12) S G inX9 (xe_10 kx_0) rfl 10 (by decide) kf_X9_266 rfl dX9_no_2 ?_
  refine lv_iconst (v := 1) hx hb dX9_no_5 (by decide) ?_
  refine lv_iadd hx hb dX9_no_6 ?_
  refine x_put (C := RX9) (T := TX9) (n := 12) S G inX9 tyX9 tyX9_ok nmX9 (xe_10 kx_0) rfl 10 (by decide) kf_X9_266 rfl rfl rfl (Nat.le_of_ble_eq_true rfl) (xp_10_10 kx_0) dX9_no_7 (fun H locs G => ?_)
  obtain ⟨h_7, eh_7⟩ : ∃ y : Hs, y = si h 0 10 ((gi h 0 10) + 1) := ⟨_, rfl⟩
  rw [← eh_7] at G
  have hw := hw h_7 eh_7
  refine lv_bipush (v := (-3)) hx hb dX9_no_10 (by decide) ?_
  exact RT _ _ _ _ _ _ G hw dX9_no_12
theorem cw_X9_169 {R : Room} {s : State} {args : Array Value} (hts : ∀ w ∈ gW, w.before args s = true) (hR : rm_X_no.frames + 1 ≤ R.frames ∧ 8 + (1 + 11) + rm_X_no.locals ≤ R.locals) : CallW R s args RX9 RX9 169 yX9_no cX9_no 1 (some .int) (mw yX9_no cX9_no 1 (some .int)) rm_X_no 0 0 0 := cwV9 hts km_X9_169 ki_X9_no ks_X9_no kn_X9 kk_X9_no rfl rfl (by decide +kernel) hR
abbrev rm_X_at : Room := { frames := 6, cells := 0, slots := 0, locals := 136 }
set_option maxHeartbeats 4000000 in
set_option maxRecDepth 100000 in
theorem c_X_at (l : Launch) (D : va_G) (q : Nat → ClassId) (A : Nat → Prop) (ad : Nat → Nat) (a1 : Int32) (a2 : Int32) (h : Hs) (Q : Int32 → Hs → Prop) (hw : p_X_at a1 a2 h Q) : Met l yX9_at (mw yX9_at cX9_at 3 (some .int)) rm_X_at (va_Pc [.ref (ad 0), .int a1, .int a2] (pW D q A (wX q ad h))) (va_Qi Q (fun h t => pW D q A (wX q ad h) t) A) 0 0 A := by
  refine met_i (Qp := Q) (by decide) (Nat.le_of_ble_eq_true rfl) ?_
  intro p e R s m args below meth c Qm ls hR1 hR2 S RT hl G
  have hx := S.1
  have hb := S.2.1
  have hl : lv_has ls 3 [(0, .ref (ad 0)), (1, .int a1), (2, .int a2)] := hl
  unfold p_X_at at hw
  refine lv_iload_n hx hb dX9_at_0 rfl (lv_at hl 1 rfl) ?_
  refine x_SzP S hl.1 G (c_X_noStory l D q A ad a1 h _ hw) (cw_X9_111 S.2.2.2.2 ⟨Nat.le_trans (Nat.le_of_ble_eq_true rfl) hR1, Nat.le_trans (Nat.le_of_ble_eq_true rfl) hR2⟩) rfl rfl (Nat.le_of_ble_eq_true rfl) dX9_at_1 (fun r_1 H locs G z_1 hw => ?_)
  have hw := hw (∀ (ls : Array Slot) (H : Heap) (locs : List Loc), lv_has ls 3 [(0, .ref (ad 0))] → okW D q A s (wX q ad h) H locs → W p l e R s m args below meth c H locs 0 0 Qm (F0 m 14 ls [])) (by
    intro hw ls H locs hl G
    refine lv_aload_n hx hb dX9_at_14 rfl (lv_at hl 0 rfl) ?_
    refine x_Vi S hl.1 G (c_X_bad l D q A ad h _ hw) (cw_X9_69 S.2.2.2.2 ⟨Nat.le_trans (Nat.le_of_ble_eq_true rfl) hR1, Nat.le_trans (Nat.le_of_ble_eq_true rfl) hR2⟩) (xe_10 kx_0) rfl rfl rfl (Nat.le_of_ble_eq_true rfl) dX9_at_15 (fun r_15 h_15 H locs G hw => ?_)
    exact RT _ _ _ _ _ _ G hw dX9_at_18)
  refine lv_if_ne (tgt := 14) hx hb dX9_at_4 (by decide) (fun c_4 => ?_) (fun c_4 => ?_)
  · have hw := hw.1 c_4
    exact hw _ _ _ (lv_sub hl [0] rfl) G
  · have hw := hw.2 c_4
    refine lv_iload_n hx hb dX9_at_7 rfl (lv_at hl 2 rfl) ?_
    refine x_SzP S hl.1 G (c_X_noMonth l D q A ad a2 h _ hw) (cw_X9_154 S.2.2.2.2 ⟨Nat.le_trans (Nat.le_of_ble_eq_true rfl) hR1, Nat.le_trans (Nat.le_of_ble_eq_true rfl) hR2⟩) rfl rfl (Nat.le_of_ble_eq_true rfl) dX9_at_8 (fun r_8 H locs G z_8 hw => ?_)
    refine lv_if_eq (tgt := 19) hx hb dX9_at_11 (by decide) (fun c_11 => ?_) (fun c_11 => ?_)
    · have hw := hw.1 c_11
      refine lv_aload_n hx hb dX9_at_19 rfl (lv_at hl 0 rfl) ?_
      refine x_get (C := RX9) (T := TX9) (n := 12) S G inX9 (xe_10 kx_0) rfl 2 (by decide) kf_X9_27 rfl dX9_at_20 ?_
      refine x_get (C := RX5) (T := TX5) (n := 17) S G inX5 (xe_6 kx_3) rfl 0 (by decide) kf_X9_73 rfl dX9_at_23 ?_
      have hw := hw (fun (g_37 : Hs) => ∀ (ls : Array Slot) (H : Heap) (locs : List Loc), lv_has ls 3 [(0, .ref (ad 0))] → okW D q A s (wX q ad g_37) H locs → W p l e R s m args below meth c H locs 0 0 Qm (F0 m 37 ls [])) (by
        intro g_37 hw ls H locs hl G
        refine lv_aload_n hx hb dX9_at_37 rfl (lv_at hl 0 rfl) ?_
        refine x_Vi S hl.1 G (c_X_no l D q A ad g_37 _ hw) (cw_X9_169 S.2.2.2.2 ⟨Nat.le_trans (Nat.le_of_ble_eq_true rfl) hR1, Nat.le_trans (Nat.le_of_ble_eq_true rfl) hR2⟩) (xe_10 kx_0) rfl rfl rfl (Nat.le_of_ble_eq_true rfl) dX9_at_38 (fun r_38 h_38 H locs G hw => ?_)
        exact RT _ _ _ _ _ _ G hw dX9_at_41)
      refine lv_if_eq (tgt := 37) hx hb dX9_at_26 (by decide) (fun c_26 => ?_) (fun c_26 => ?_)
      · have hw := hw.1 c_26
        exact hw _ _ _ (lv_sub hl [0] rfl) G
      · have hw := hw.2 c_26
        refine lv_aload_n hx hb dX9_at_29 rfl (lv_at hl 0 rfl) ?_
        refine lv_iload_n hx hb dX9_at_30 rfl (lv_at hl 1 rfl) ?_
        refine x_Vi S hl.1 G (c_X_hasFault l D q A ad a1 h _ hw) (cw_X9_166 S.2.2.2.2 ⟨Nat.le_trans (Nat.le_of_ble_eq_true rfl) hR1, Nat.le_trans (Nat.le_of_ble_eq_true rfl) hR2⟩) (xe_10 kx_0) rfl rfl rfl (Nat.le_of_ble_eq_true rfl) dX9_at_31 (fun r_31 h_31 H locs G hw => ?_)
        obtain ⟨z_31, hw⟩ := hw
        refine lv_if_eq (tgt := 42) hx hb dX9_at_34 (by decide) (fun c_34 => ?_) (fun c_34 => ?_)
        · have hw := hw.1 c_34
          refine lv_aload_n hx hb dX9_at_42 rfl (lv_at hl 0 rfl) ?_
          refine x_get (C := RX9) (T := TX9) (n := 12) S G inX9 (xe_10 kx_0) rfl 1 (by decide) kf_X9_20 rfl dX9_at_43 ?_
          refine x_get (C := RX3) (T := TX3) (n := 10) S G inX3 (xe_4 kx_2) rfl 2 (by decide) kf_X9_126 rfl dX9_at_46 ?_
          refine lv_iload_n hx hb dX9_at_49 rfl (lv_at hl 1 rfl) ?_
          obtain ⟨i_50, hw⟩ := hw
          refine x_aald (k := a1.toNatClampNeg) S G 4 (xe_24 kx_47 lx_47 rfl) rfl rfl i_50 rfl (if_pos (vpl i_50)) dX9_at_50 ?_
          refine x_get (C := RX6) (T := TX6) (n := 8) S G inX6 (xe_7 (kxe_47 _ (vpl i_50))) rfl 0 (by decide) kf_X9_172 rfl dX9_at_51 ?_
          refine lv_iload_n hx hb dX9_at_54 rfl (lv_at hl 2 rfl) ?_
          obtain ⟨i_55, hw⟩ := hw
          refine x_iald (k := a2.toNatClampNeg) S G (xe_20 ((kxr_7 _ (kX_lt (kxe_47 _ (vpl i_50))) (kxe_47 _ (vpl i_50))).1.1) ((kxr_7 _ (kX_lt (kxe_47 _ (vpl i_50))) (kxe_47 _ (vpl i_50))).1.2)) i_55 rfl rfl dX9_at_55 ?_
          exact RT _ _ _ _ _ _ G hw dX9_at_56
        · have hw := hw.2 c_34
          exact hw _ _ _ (lv_sub hl [0] rfl) G
    · have hw := hw.2 c_11
      exact hw _ _ _ (lv_sub hl [0] rfl) G

abbrev rm_X_must : Room := { frames := 6, cells := 0, slots := 0, locals := 136 }
set_option maxHeartbeats 4000000 in
set_option maxRecDepth 100000 in
theorem c_X_must (l : Launch) (D : va_G) (q : Nat → ClassId) (A : Nat → Prop) (ad : Nat → Nat) (a1 : Int32) (a2 : Int32) (a3 : Int32) (h : Hs) (Q : Int32 → Hs → Prop) (hw : p_X_must a1 a2 a3 h Q) : Met l yX9_must (mw yX9_must cX9_must 4 (some .int)) rm_X_must (va_Pc [.ref (ad 0), .int a1, .int a2, .int a3] (pW D q A (wX q ad h))) (va_Qi Q (fun h t => pW D q A (wX q ad h) t) A) 0 0 A := by
  refine met_i (Qp := Q) (by decide) (Nat.le_of_ble_eq_true rfl) ?_
  intro p e R s m args below meth c Qm ls hR1 hR2 S RT hl G
  have hx := S.1
  have hb := S.2.1
  have hl : lv_has ls 4 [(0, .ref (ad 0)), (1, .int a1), (2, .int a2), (3, .int a3)] := hl
  unfold p_X_must at hw
  refine lv_iload_n hx hb dX9_must_0 rfl (lv_at hl 1 rfl) ?_
  refine x_SzP S hl.1 G (c_X_noStory l D q A ad a1 h _ hw) (cw_X9_111 S.2.2.2.2 ⟨Nat.le_trans (Nat.le_of_ble_eq_true rfl) hR1, Nat.le_trans (Nat.le_of_ble_eq_true rfl) hR2⟩) rfl rfl (Nat.le_of_ble_eq_true rfl) dX9_must_1 (fun r_1 H locs G z_1 hw => ?_)
  have hw := hw (∀ (ls : Array Slot) (H : Heap) (locs : List Loc), lv_has ls 4 [(0, .ref (ad 0))] → okW D q A s (wX q ad h) H locs → W p l e R s m args below meth c H locs 0 0 Qm (F0 m 22 ls [])) (by
    intro hw ls H locs hl G
    refine lv_aload_n hx hb dX9_must_22 rfl (lv_at hl 0 rfl) ?_
    refine x_Vi S hl.1 G (c_X_bad l D q A ad h _ hw) (cw_X9_69 S.2.2.2.2 ⟨Nat.le_trans (Nat.le_of_ble_eq_true rfl) hR1, Nat.le_trans (Nat.le_of_ble_eq_true rfl) hR2⟩) (xe_10 kx_0) rfl rfl rfl (Nat.le_of_ble_eq_true rfl) dX9_must_23 (fun r_23 h_23 H locs G hw => ?_)
    exact RT _ _ _ _ _ _ G hw dX9_must_26)
  refine lv_if_ne (tgt := 22) hx hb dX9_must_4 (by decide) (fun c_4 => ?_) (fun c_4 => ?_)
  · have hw := hw.1 c_4
    exact hw _ _ _ (lv_sub hl [0] rfl) G
  · have hw := hw.2 c_4
    refine lv_aload_n hx hb dX9_must_7 rfl (lv_at hl 0 rfl) ?_
    refine lv_iload_n hx hb dX9_must_8 rfl (lv_at hl 2 rfl) ?_
    refine x_VzP S hl.1 G (c_X_noPlace l D q A ad a2 h _ hw) (cw_X9_135 S.2.2.2.2 ⟨Nat.le_trans (Nat.le_of_ble_eq_true rfl) hR1, Nat.le_trans (Nat.le_of_ble_eq_true rfl) hR2⟩) (xe_10 kx_0) rfl rfl rfl (Nat.le_of_ble_eq_true rfl) dX9_must_9 (fun r_9 H locs G z_9 hw => ?_)
    refine lv_if_ne (tgt := 22) hx hb dX9_must_12 (by decide) (fun c_12 => ?_) (fun c_12 => ?_)
    · have hw := hw.1 c_12
      exact hw _ _ _ (lv_sub hl [0] rfl) G
    · have hw := hw.2 c_12
      refine lv_iload_n hx hb dX9_must_15 rfl (lv_at hl 3 rfl) ?_
      refine x_SzP S hl.1 G (c_X_noKind l D q A ad a3 h _ hw) (cw_X9_103 S.2.2.2.2 ⟨Nat.le_trans (Nat.le_of_ble_eq_true rfl) hR1, Nat.le_trans (Nat.le_of_ble_eq_true rfl) hR2⟩) rfl rfl (Nat.le_of_ble_eq_true rfl) dX9_must_16 (fun r_16 H locs G z_16 hw => ?_)
      refine lv_if_eq (tgt := 27) hx hb dX9_must_19 (by decide) (fun c_19 => ?_) (fun c_19 => ?_)
      · have hw := hw.1 c_19
        refine lv_aload_n hx hb dX9_must_27 rfl (lv_at hl 0 rfl) ?_
        refine lv_iload_n hx hb dX9_must_28 rfl (lv_at hl 1 rfl) ?_
        refine x_Vi S hl.1 G (c_X_hasFault l D q A ad a1 h _ hw) (cw_X9_166 S.2.2.2.2 ⟨Nat.le_trans (Nat.le_of_ble_eq_true rfl) hR1, Nat.le_trans (Nat.le_of_ble_eq_true rfl) hR2⟩) (xe_10 kx_0) rfl rfl rfl (Nat.le_of_ble_eq_true rfl) dX9_must_29 (fun r_29 h_29 H locs G hw => ?_)
        obtain ⟨z_29, hw⟩ := hw
        refine lv_if_eq (tgt := 40) hx hb dX9_must_32 (by decide) (fun c_32 => ?_) (fun c_32 => ?_)
        · have hw := hw.1 c_32
          refine lv_aload_n hx hb dX9_must_40 rfl (lv_at hl 0 rfl) ?_
          refine x_get (C := RX9) (T := TX9) (n := 12) S G inX9 (xe_10 kx_0) rfl 1 (by decide) kf_X9_20 rfl dX9_must_41 ?_
          refine lv_iload_n hx hb dX9_must_44 rfl (lv_at hl 1 rfl) ?_
          refine x_Vv S hl.1 G (c_Lives_allLive l D q A ad a1 h_29 _ hw) (cw_X9_175 S.2.2.2.2 ⟨Nat.le_trans (Nat.le_of_ble_eq_true rfl) hR1, Nat.le_trans (Nat.le_of_ble_eq_true rfl) hR2⟩) (xe_4 kx_2) rfl rfl rfl (Nat.le_of_ble_eq_true rfl) dX9_must_45 (fun h_45 H locs G hw => ?_)
          refine lv_aload_n hx hb dX9_must_48 rfl (lv_at hl 0 rfl) ?_
          refine x_get (C := RX9) (T := TX9) (n := 12) S G inX9 (xe_10 kx_0) rfl 1 (by decide) kf_X9_20 rfl dX9_must_49 ?_
          refine lv_iload_n hx hb dX9_must_52 rfl (lv_at hl 2 rfl) ?_
          refine lv_iload_n hx hb dX9_must_53 rfl (lv_at hl 3 rfl) ?_
          refine x_ViP S hl.1 G (c_Lives_left l D q A ad a2 a3 h_45 _ hw) (cw_X9_178 S.2.2.2.2 ⟨Nat.le_trans (Nat.le_of_ble_eq_true rfl) hR1, Nat.le_trans (Nat.le_of_ble_eq_true rfl) hR2⟩) (xe_4 kx_2) rfl rfl rfl (Nat.le_of_ble_eq_true rfl) dX9_must_54 (fun r_54 H locs G hw => ?_)
          exact RT _ _ _ _ _ _ G hw dX9_must_57
        · have hw := hw.2 c_32
          refine lv_aload_n hx hb dX9_must_35 rfl (lv_at hl 0 rfl) ?_
          refine x_Vi S hl.1 G (c_X_no l D q A ad h_29 _ hw) (cw_X9_169 S.2.2.2.2 ⟨Nat.le_trans (Nat.le_of_ble_eq_true rfl) hR1, Nat.le_trans (Nat.le_of_ble_eq_true rfl) hR2⟩) (xe_10 kx_0) rfl rfl rfl (Nat.le_of_ble_eq_true rfl) dX9_must_36 (fun r_36 h_36 H locs G hw => ?_)
          exact RT _ _ _ _ _ _ G hw dX9_must_39
      · have hw := hw.2 c_19
        exact hw _ _ _ (lv_sub hl [0] rfl) G

abbrev rm_X_hunger : Room := { frames := 6, cells := 0, slots := 0, locals := 136 }
set_option maxHeartbeats 4000000 in
set_option maxRecDepth 100000 in
theorem c_X_hunger (l : Launch) (D : va_G) (q : Nat → ClassId) (A : Nat → Prop) (ad : Nat → Nat) (a1 : Int32) (h : Hs) (Q : Int32 → Hs → Prop) (hw : p_X_hunger a1 h Q) : Met l yX9_hunger (mw yX9_hunger cX9_hunger 2 (some .int)) rm_X_hunger (va_Pc [.ref (ad 0), .int a1] (pW D q A (wX q ad h))) (va_Qi Q (fun h t => pW D q A (wX q ad h) t) A) 0 0 A := by
  refine met_i (Qp := Q) (by decide) (Nat.le_of_ble_eq_true rfl) ?_
  intro p e R s m args below meth c Qm ls hR1 hR2 S RT hl G
  have hx := S.1
  have hb := S.2.1
  have hl : lv_has ls 2 [(0, .ref (ad 0)), (1, .int a1)] := hl
  unfold p_X_hunger at hw
  refine lv_iload_n hx hb dX9_hunger_0 rfl (lv_at hl 1 rfl) ?_
  refine x_SzP S hl.1 G (c_X_noStory l D q A ad a1 h _ hw) (cw_X9_111 S.2.2.2.2 ⟨Nat.le_trans (Nat.le_of_ble_eq_true rfl) hR1, Nat.le_trans (Nat.le_of_ble_eq_true rfl) hR2⟩) rfl rfl (Nat.le_of_ble_eq_true rfl) dX9_hunger_1 (fun r_1 H locs G z_1 hw => ?_)
  refine lv_if_eq (tgt := 12) hx hb dX9_hunger_4 (by decide) (fun c_4 => ?_) (fun c_4 => ?_)
  · have hw := hw.1 c_4
    refine lv_aload_n hx hb dX9_hunger_12 rfl (lv_at hl 0 rfl) ?_
    refine x_get (C := RX9) (T := TX9) (n := 12) S G inX9 (xe_10 kx_0) rfl 2 (by decide) kf_X9_27 rfl dX9_hunger_13 ?_
    refine x_get (C := RX5) (T := TX5) (n := 17) S G inX5 (xe_6 kx_3) rfl 0 (by decide) kf_X9_73 rfl dX9_hunger_16 ?_
    have hw := hw (fun (g_30 : Hs) => ∀ (ls : Array Slot) (H : Heap) (locs : List Loc), lv_has ls 2 [(0, .ref (ad 0))] → okW D q A s (wX q ad g_30) H locs → W p l e R s m args below meth c H locs 0 0 Qm (F0 m 30 ls [])) (by
      intro g_30 hw ls H locs hl G
      refine lv_aload_n hx hb dX9_hunger_30 rfl (lv_at hl 0 rfl) ?_
      refine x_Vi S hl.1 G (c_X_no l D q A ad g_30 _ hw) (cw_X9_169 S.2.2.2.2 ⟨Nat.le_trans (Nat.le_of_ble_eq_true rfl) hR1, Nat.le_trans (Nat.le_of_ble_eq_true rfl) hR2⟩) (xe_10 kx_0) rfl rfl rfl (Nat.le_of_ble_eq_true rfl) dX9_hunger_31 (fun r_31 h_31 H locs G hw => ?_)
      exact RT _ _ _ _ _ _ G hw dX9_hunger_34)
    refine lv_if_eq (tgt := 30) hx hb dX9_hunger_19 (by decide) (fun c_19 => ?_) (fun c_19 => ?_)
    · have hw := hw.1 c_19
      exact hw _ _ _ (lv_sub hl [0] rfl) G
    · have hw := hw.2 c_19
      refine lv_aload_n hx hb dX9_hunger_22 rfl (lv_at hl 0 rfl) ?_
      refine lv_iload_n hx hb dX9_hunger_23 rfl (lv_at hl 1 rfl) ?_
      refine x_Vi S hl.1 G (c_X_hasFault l D q A ad a1 h _ hw) (cw_X9_166 S.2.2.2.2 ⟨Nat.le_trans (Nat.le_of_ble_eq_true rfl) hR1, Nat.le_trans (Nat.le_of_ble_eq_true rfl) hR2⟩) (xe_10 kx_0) rfl rfl rfl (Nat.le_of_ble_eq_true rfl) dX9_hunger_24 (fun r_24 h_24 H locs G hw => ?_)
      obtain ⟨z_24, hw⟩ := hw
      refine lv_if_eq (tgt := 35) hx hb dX9_hunger_27 (by decide) (fun c_27 => ?_) (fun c_27 => ?_)
      · have hw := hw.1 c_27
        refine lv_aload_n hx hb dX9_hunger_35 rfl (lv_at hl 0 rfl) ?_
        refine x_get (C := RX9) (T := TX9) (n := 12) S G inX9 (xe_10 kx_0) rfl 1 (by decide) kf_X9_20 rfl dX9_hunger_36 ?_
        refine lv_iload_n hx hb dX9_hunger_39 rfl (lv_at hl 1 rfl) ?_
        refine x_Vv S hl.1 G (c_Lives_allLive l D q A ad a1 h_24 _ hw) (cw_X9_175 S.2.2.2.2 ⟨Nat.le_trans (Nat.le_of_ble_eq_true rfl) hR1, Nat.le_trans (Nat.le_of_ble_eq_true rfl) hR2⟩) (xe_4 kx_2) rfl rfl rfl (Nat.le_of_ble_eq_true rfl) dX9_hunger_40 (fun h_40 H locs G hw => ?_)
        refine lv_aload_n hx hb dX9_hunger_43 rfl (lv_at hl 0 rfl) ?_
        refine x_get (C := RX9) (T := TX9) (n := 12) S G inX9 (xe_10 kx_0) rfl 1 (by decide) kf_X9_20 rfl dX9_hunger_44 ?_
        refine x_Vi S hl.1 G (c_Lives_hungerYears l D q A ad h_40 _ hw) (cw_X9_182 S.2.2.2.2 ⟨Nat.le_trans (Nat.le_of_ble_eq_true rfl) hR1, Nat.le_trans (Nat.le_of_ble_eq_true rfl) hR2⟩) (xe_4 kx_2) rfl rfl rfl (Nat.le_of_ble_eq_true rfl) dX9_hunger_47 (fun r_47 h_47 H locs G hw => ?_)
        exact RT _ _ _ _ _ _ G hw dX9_hunger_50
      · have hw := hw.2 c_27
        exact hw _ _ _ (lv_sub hl [0] rfl) G
  · have hw := hw.2 c_4
    refine lv_aload_n hx hb dX9_hunger_7 rfl (lv_at hl 0 rfl) ?_
    refine x_Vi S hl.1 G (c_X_bad l D q A ad h _ hw) (cw_X9_69 S.2.2.2.2 ⟨Nat.le_trans (Nat.le_of_ble_eq_true rfl) hR1, Nat.le_trans (Nat.le_of_ble_eq_true rfl) hR2⟩) (xe_10 kx_0) rfl rfl rfl (Nat.le_of_ble_eq_true rfl) dX9_hunger_8 (fun r_8 h_8 H locs G hw => ?_)
    exact RT _ _ _ _ _ _ G hw dX9_hunger_11

abbrev rm_X_noWorlds : Room := { frames := 5, cells := 0, slots := 0, locals := 123 }
set_option maxHeartbeats 4000000 in
set_option maxRecDepth 100000 in
theorem c_X_noWorlds (l : Launch) (D : va_G) (q : Nat → ClassId) (A : Nat → Prop) (ad : Nat → Nat) (h : Hs) (Q : Int32 → Hs → Prop) (hw : p_X_noWorlds h Q) : Met l yX9_noWorlds (mw yX9_noWorlds cX9_noWorlds 1 (some .boolean)) rm_X_noWorlds (va_Pc [.ref (ad 0)] (pW D q A (wX q ad h))) (va_Qi (fun r h9 => zb r ∧ Q r h9) (fun h t => pW D q A (wX q ad h) t) A) 0 0 A := by
  refine met_z (Qp := Q) (by decide) (Nat.le_of_ble_eq_true rfl) ?_
  intro p e R s m args below meth c Qm ls hR1 hR2 S RT hl G
  have hx := S.1
  have hb := S.2.1
  have hl : lv_has ls 1 [(0, .ref (ad 0))] := hl
  unfold p_X_noWorlds at hw
  refine lv_aload_n hx hb dX9_noWorlds_0 rfl (lv_at hl 0 rfl) ?_
  refine x_get (C := RX9) (T := TX9) (n := 12) S G inX9 (xe_10 kx_0) rfl 2 (by decide) kf_X9_27 rfl dX9_noWorlds_1 ?_
  refine x_get (C := RX5) (T := TX5) (n := 17) S G inX5 (xe_6 kx_3) rfl 0 (by decide) kf_X9_73 rfl dX9_noWorlds_4 ?_
  refine lv_if_ne (tgt := 12) hx hb dX9_noWorlds_7 (by decide) (fun c_7 => ?_) (fun c_7 => ?_)
  · have hw := hw.1 c_7
    refine lv_aload_n hx hb dX9_noWorlds_12 rfl (lv_at hl 0 rfl) ?_
    refine x_get (C := RX9) (T := TX9) (n := 12) S G inX9 (xe_10 kx_0) rfl 1 (by decide) kf_X9_20 rfl dX9_noWorlds_13 ?_
    refine x_Vv S hl.1 G (c_Lives_refresh l D q A ad h _ hw) (cw_X9_123 S.2.2.2.2 ⟨Nat.le_trans (Nat.le_of_ble_eq_true rfl) hR1, Nat.le_trans (Nat.le_of_ble_eq_true rfl) hR2⟩) (xe_4 kx_2) rfl rfl rfl (Nat.le_of_ble_eq_true rfl) dX9_noWorlds_16 (fun h_16 H locs G hw => ?_)
    refine lv_aload_n hx hb dX9_noWorlds_19 rfl (lv_at hl 0 rfl) ?_
    refine x_get (C := RX9) (T := TX9) (n := 12) S G inX9 (xe_10 kx_0) rfl 0 (by decide) kf_X9_10 rfl dX9_noWorlds_20 ?_
    refine x_Vv S hl.1 G (c_Worlds_refresh l D q A ad h_16 _ hw) (cw_X9_295 S.2.2.2.2 ⟨Nat.le_trans (Nat.le_of_ble_eq_true rfl) hR1, Nat.le_trans (Nat.le_of_ble_eq_true rfl) hR2⟩) (xe_9 kx_1) rfl rfl rfl (Nat.le_of_ble_eq_true rfl) dX9_noWorlds_23 (fun h_23 H locs G hw => ?_)
    refine lv_aload_n hx hb dX9_noWorlds_26 rfl (lv_at hl 0 rfl) ?_
    refine x_get (C := RX9) (T := TX9) (n := 12) S G inX9 (xe_10 kx_0) rfl 0 (by decide) kf_X9_10 rfl dX9_noWorlds_27 ?_
    refine x_get (C := RX8) (T := TX8) (n := 12) S G inX8 (xe_9 kx_1) rfl 10 (by decide) kf_X9_296 rfl dX9_noWorlds_30 ?_
    refine x_VzP S hl.1 G (c_Big_isZero l D q A ad 362 kx_362 h_23 _ hw) (cw_X9_299 S.2.2.2.2 ⟨Nat.le_trans (Nat.le_of_ble_eq_true rfl) hR1, Nat.le_trans (Nat.le_of_ble_eq_true rfl) hR2⟩) (xe_1 kx_362) rfl rfl rfl (Nat.le_of_ble_eq_true rfl) dX9_noWorlds_33 (fun r_33 H locs G z_33 hw => ?_)
    exact RT _ _ _ _ _ _ G z_33 hw dX9_noWorlds_36
  · have hw := hw.2 c_7
    refine lv_iconst (v := 1) hx hb dX9_noWorlds_10 (by decide) ?_
    exact RT _ _ _ _ _ _ G zb1 hw dX9_noWorlds_11
theorem cw_X9_185 {R : Room} {s : State} {args : Array Value} (hts : ∀ w ∈ gW, w.before args s = true) (hR : rm_X_noWorlds.frames + 1 ≤ R.frames ∧ 8 + (1 + 11) + rm_X_noWorlds.locals ≤ R.locals) : CallW R s args RX9 RX9 185 yX9_noWorlds cX9_noWorlds 1 (some .boolean) (mw yX9_noWorlds cX9_noWorlds 1 (some .boolean)) rm_X_noWorlds 0 0 0 := cwV9 hts km_X9_185 ki_X9_noWorlds ks_X9_noWorlds kn_X9 kk_X9_noWorlds rfl rfl (by decide +kernel) hR
abbrev rm_X_answerShare : Room := { frames := 5, cells := 0, slots := 0, locals := 121 }
set_option maxHeartbeats 4000000 in
set_option maxRecDepth 100000 in
theorem c_X_answerShare (l : Launch) (D : va_G) (q : Nat → ClassId) (A : Nat → Prop) (ad : Nat → Nat) (a1 : Nat) (k1 : kX a1 = 1) (h : Hs) (Q : Int32 → Hs → Prop) (hw : p_X_answerShare a1 h Q) : Met l yX9_answerShare (mw yX9_answerShare cX9_answerShare 2 (some .int)) rm_X_answerShare (va_Pc [.ref (ad 0), .ref (ad a1)] (pW D q A (wX q ad h))) (va_Qi Q (fun h t => pW D q A (wX q ad h) t) A) 0 0 A := by
  refine met_i (Qp := Q) (by decide) (Nat.le_of_ble_eq_true rfl) ?_
  intro p e R s m args below meth c Qm ls hR1 hR2 S RT hl G
  have hx := S.1
  have hb := S.2.1
  have hl : lv_has ls 2 [(0, .ref (ad 0)), (1, .ref (ad a1))] := hl
  unfold p_X_answerShare at hw
  refine lv_aload_n hx hb dX9_answerShare_0 rfl (lv_at hl 0 rfl) ?_
  refine x_get (C := RX9) (T := TX9) (n := 12) S G inX9 (xe_10 kx_0) rfl 5 (by decide) kf_X9_41 rfl dX9_answerShare_1 ?_
  refine lv_aload_n hx hb dX9_answerShare_4 rfl (lv_at hl 1 rfl) ?_
  refine lv_aload_n hx hb dX9_answerShare_5 rfl (lv_at hl 0 rfl) ?_
  refine x_get (C := RX9) (T := TX9) (n := 12) S G inX9 (xe_10 kx_0) rfl 0 (by decide) kf_X9_10 rfl dX9_answerShare_6 ?_
  refine x_get (C := RX8) (T := TX8) (n := 12) S G inX8 (xe_9 kx_1) rfl 10 (by decide) kf_X9_296 rfl dX9_answerShare_9 ?_
  refine x_Vv S hl.1 G (c_Fraction_become l D q A ad a1 362 k1 kx_362 h _ hw) (cw_X9_231 S.2.2.2.2 ⟨Nat.le_trans (Nat.le_of_ble_eq_true rfl) hR1, Nat.le_trans (Nat.le_of_ble_eq_true rfl) hR2⟩) (xe_3 kx_406) rfl rfl rfl (Nat.le_of_ble_eq_true rfl) dX9_answerShare_12 (fun h_12 H locs G hw => ?_)
  refine lv_iconst (v := 1) hx hb dX9_answerShare_15 (by decide) ?_
  exact RT _ _ _ _ _ _ G hw dX9_answerShare_16
theorem cw_X9_193 {R : Room} {s : State} {args : Array Value} (hts : ∀ w ∈ gW, w.before args s = true) (hR : rm_X_answerShare.frames + 1 ≤ R.frames ∧ 8 + (2 + 11) + rm_X_answerShare.locals ≤ R.locals) : CallW R s args RX9 RX9 193 yX9_answerShare cX9_answerShare 2 (some .int) (mw yX9_answerShare cX9_answerShare 2 (some .int)) rm_X_answerShare 0 0 1 := cwV9 hts km_X9_193 ki_X9_answerShare ks_X9_answerShare kn_X9 kk_X9_answerShare rfl rfl (by decide +kernel) hR
abbrev rm_X_odds : Room := { frames := 6, cells := 0, slots := 0, locals := 143 }
set_option maxHeartbeats 4000000 in
set_option maxRecDepth 100000 in
theorem c_X_odds (l : Launch) (D : va_G) (q : Nat → ClassId) (A : Nat → Prop) (ad : Nat → Nat) (a1 : Int32) (a2 : Int32) (h : Hs) (Q : Int32 → Hs → Prop) (hw : p_X_odds a1 a2 h Q) : Met l yX9_odds (mw yX9_odds cX9_odds 3 (some .int)) rm_X_odds (va_Pc [.ref (ad 0), .int a1, .int a2] (pW D q A (wX q ad h))) (va_Qi Q (fun h t => pW D q A (wX q ad h) t) A) 0 0 A := by
  refine met_i (Qp := Q) (by decide) (Nat.le_of_ble_eq_true rfl) ?_
  intro p e R s m args below meth c Qm ls hR1 hR2 S RT hl G
  have hx := S.1
  have hb := S.2.1
  have hl : lv_has ls 3 [(0, .ref (ad 0)), (1, .int a1), (2, .int a2)] := hl
  unfold p_X_odds at hw
  refine lv_aload_n hx hb dX9_odds_0 rfl (lv_at hl 0 rfl) ?_
  refine lv_iload_n hx hb dX9_odds_1 rfl (lv_at hl 1 rfl) ?_
  refine x_VzP S hl.1 G (c_X_noLot l D q A ad a1 h _ hw) (cw_X9_151 S.2.2.2.2 ⟨Nat.le_trans (Nat.le_of_ble_eq_true rfl) hR1, Nat.le_trans (Nat.le_of_ble_eq_true rfl) hR2⟩) (xe_10 kx_0) rfl rfl rfl (Nat.le_of_ble_eq_true rfl) dX9_odds_2 (fun r_2 H locs G z_2 hw => ?_)
  have hw := hw (∀ (ls : Array Slot) (H : Heap) (locs : List Loc), lv_has ls 3 [(0, .ref (ad 0))] → okW D q A s (wX q ad h) H locs → W p l e R s m args below meth c H locs 0 0 Qm (F0 m 15 ls [])) (by
    intro hw ls H locs hl G
    refine lv_aload_n hx hb dX9_odds_15 rfl (lv_at hl 0 rfl) ?_
    refine x_Vi S hl.1 G (c_X_bad l D q A ad h _ hw) (cw_X9_69 S.2.2.2.2 ⟨Nat.le_trans (Nat.le_of_ble_eq_true rfl) hR1, Nat.le_trans (Nat.le_of_ble_eq_true rfl) hR2⟩) (xe_10 kx_0) rfl rfl rfl (Nat.le_of_ble_eq_true rfl) dX9_odds_16 (fun r_16 h_16 H locs G hw => ?_)
    exact RT _ _ _ _ _ _ G hw dX9_odds_19)
  refine lv_if_ne (tgt := 15) hx hb dX9_odds_5 (by decide) (fun c_5 => ?_) (fun c_5 => ?_)
  · have hw := hw.1 c_5
    exact hw _ _ _ (lv_sub hl [0] rfl) G
  · have hw := hw.2 c_5
    refine lv_iload_n hx hb dX9_odds_8 rfl (lv_at hl 2 rfl) ?_
    refine x_SzP S hl.1 G (c_X_noStory l D q A ad a2 h _ hw) (cw_X9_111 S.2.2.2.2 ⟨Nat.le_trans (Nat.le_of_ble_eq_true rfl) hR1, Nat.le_trans (Nat.le_of_ble_eq_true rfl) hR2⟩) rfl rfl (Nat.le_of_ble_eq_true rfl) dX9_odds_9 (fun r_9 H locs G z_9 hw => ?_)
    refine lv_if_eq (tgt := 20) hx hb dX9_odds_12 (by decide) (fun c_12 => ?_) (fun c_12 => ?_)
    · have hw := hw.1 c_12
      refine lv_aload_n hx hb dX9_odds_20 rfl (lv_at hl 0 rfl) ?_
      refine x_Vi S hl.1 G (c_X_noWorlds l D q A ad h _ hw) (cw_X9_185 S.2.2.2.2 ⟨Nat.le_trans (Nat.le_of_ble_eq_true rfl) hR1, Nat.le_trans (Nat.le_of_ble_eq_true rfl) hR2⟩) (xe_10 kx_0) rfl rfl rfl (Nat.le_of_ble_eq_true rfl) dX9_odds_21 (fun r_21 h_21 H locs G hw => ?_)
      obtain ⟨z_21, hw⟩ := hw
      refine lv_if_eq (tgt := 32) hx hb dX9_odds_24 (by decide) (fun c_24 => ?_) (fun c_24 => ?_)
      · have hw := hw.1 c_24
        refine lv_aload_n hx hb dX9_odds_32 rfl (lv_at hl 0 rfl) ?_
        refine lv_aload_n hx hb dX9_odds_33 rfl (lv_at hl 0 rfl) ?_
        refine x_get (C := RX9) (T := TX9) (n := 12) S G inX9 (xe_10 kx_0) rfl 0 (by decide) kf_X9_10 rfl dX9_odds_34 ?_
        refine lv_iload_n hx hb dX9_odds_37 rfl (lv_at hl 1 rfl) ?_
        refine lv_iload_n hx hb dX9_odds_38 rfl (lv_at hl 2 rfl) ?_
        refine x_VrP S hl.1 G (c_Worlds_livedBy l D q A ad a1 a2 h_21 _ hw) (cw_X9_189 S.2.2.2.2 ⟨Nat.le_trans (Nat.le_of_ble_eq_true rfl) hR1, Nat.le_trans (Nat.le_of_ble_eq_true rfl) hR2⟩) (xe_9 kx_1) rfl rfl rfl (Nat.le_of_ble_eq_true rfl) dX9_odds_39 (fun r_39 H locs G hw => ?_)
        obtain ⟨kr_39, hw⟩ := hw
        refine x_Vi S hl.1 G (c_X_answerShare l D q A ad r_39 kr_39 h_21 _ hw) (cw_X9_193 S.2.2.2.2 ⟨Nat.le_trans (Nat.le_of_ble_eq_true rfl) hR1, Nat.le_trans (Nat.le_of_ble_eq_true rfl) hR2⟩) (xe_10 kx_0) rfl rfl rfl (Nat.le_of_ble_eq_true rfl) dX9_odds_42 (fun r_42 h_42 H locs G hw => ?_)
        exact RT _ _ _ _ _ _ G hw dX9_odds_45
      · have hw := hw.2 c_24
        refine lv_aload_n hx hb dX9_odds_27 rfl (lv_at hl 0 rfl) ?_
        refine x_Vi S hl.1 G (c_X_no l D q A ad h_21 _ hw) (cw_X9_169 S.2.2.2.2 ⟨Nat.le_trans (Nat.le_of_ble_eq_true rfl) hR1, Nat.le_trans (Nat.le_of_ble_eq_true rfl) hR2⟩) (xe_10 kx_0) rfl rfl rfl (Nat.le_of_ble_eq_true rfl) dX9_odds_28 (fun r_28 h_28 H locs G hw => ?_)
        exact RT _ _ _ _ _ _ G hw dX9_odds_31
    · have hw := hw.2 c_12
      exact hw _ _ _ (lv_sub hl [0] rfl) G

abbrev rm_X_all : Room := { frames := 6, cells := 0, slots := 0, locals := 143 }
set_option maxHeartbeats 4000000 in
set_option maxRecDepth 100000 in
theorem c_X_all (l : Launch) (D : va_G) (q : Nat → ClassId) (A : Nat → Prop) (ad : Nat → Nat) (a1 : Int32) (h : Hs) (Q : Int32 → Hs → Prop) (hw : p_X_all a1 h Q) : Met l yX9_all (mw yX9_all cX9_all 2 (some .int)) rm_X_all (va_Pc [.ref (ad 0), .int a1] (pW D q A (wX q ad h))) (va_Qi Q (fun h t => pW D q A (wX q ad h) t) A) 0 0 A := by
  refine met_i (Qp := Q) (by decide) (Nat.le_of_ble_eq_true rfl) ?_
  intro p e R s m args below meth c Qm ls hR1 hR2 S RT hl G
  have hx := S.1
  have hb := S.2.1
  have hl : lv_has ls 2 [(0, .ref (ad 0)), (1, .int a1)] := hl
  unfold p_X_all at hw
  refine lv_iload_n hx hb dX9_all_0 rfl (lv_at hl 1 rfl) ?_
  refine x_SzP S hl.1 G (c_X_noStory l D q A ad a1 h _ hw) (cw_X9_111 S.2.2.2.2 ⟨Nat.le_trans (Nat.le_of_ble_eq_true rfl) hR1, Nat.le_trans (Nat.le_of_ble_eq_true rfl) hR2⟩) rfl rfl (Nat.le_of_ble_eq_true rfl) dX9_all_1 (fun r_1 H locs G z_1 hw => ?_)
  refine lv_if_eq (tgt := 12) hx hb dX9_all_4 (by decide) (fun c_4 => ?_) (fun c_4 => ?_)
  · have hw := hw.1 c_4
    refine lv_aload_n hx hb dX9_all_12 rfl (lv_at hl 0 rfl) ?_
    refine x_Vi S hl.1 G (c_X_noWorlds l D q A ad h _ hw) (cw_X9_185 S.2.2.2.2 ⟨Nat.le_trans (Nat.le_of_ble_eq_true rfl) hR1, Nat.le_trans (Nat.le_of_ble_eq_true rfl) hR2⟩) (xe_10 kx_0) rfl rfl rfl (Nat.le_of_ble_eq_true rfl) dX9_all_13 (fun r_13 h_13 H locs G hw => ?_)
    obtain ⟨z_13, hw⟩ := hw
    refine lv_if_eq (tgt := 24) hx hb dX9_all_16 (by decide) (fun c_16 => ?_) (fun c_16 => ?_)
    · have hw := hw.1 c_16
      refine lv_aload_n hx hb dX9_all_24 rfl (lv_at hl 0 rfl) ?_
      refine lv_aload_n hx hb dX9_all_25 rfl (lv_at hl 0 rfl) ?_
      refine x_get (C := RX9) (T := TX9) (n := 12) S G inX9 (xe_10 kx_0) rfl 0 (by decide) kf_X9_10 rfl dX9_all_26 ?_
      refine x_get (C := RX8) (T := TX8) (n := 12) S G inX8 (xe_9 kx_1) rfl 9 (by decide) kf_X9_197 rfl dX9_all_29 ?_
      refine lv_iload_n hx hb dX9_all_32 rfl (lv_at hl 1 rfl) ?_
      obtain ⟨i_33, hw⟩ := hw
      refine x_aald (k := a1.toNatClampNeg) S G 3 (xe_23 kx_361 lx_361 rfl) rfl rfl i_33 rfl (if_pos (vpl i_33)) dX9_all_33 ?_
      refine x_Vi S hl.1 G (c_X_answerShare l D q A ad (396 + 2 * a1.toNatClampNeg) (kxe_361 _ (vpl i_33)) h_13 _ hw) (cw_X9_193 S.2.2.2.2 ⟨Nat.le_trans (Nat.le_of_ble_eq_true rfl) hR1, Nat.le_trans (Nat.le_of_ble_eq_true rfl) hR2⟩) (xe_10 kx_0) rfl rfl rfl (Nat.le_of_ble_eq_true rfl) dX9_all_34 (fun r_34 h_34 H locs G hw => ?_)
      exact RT _ _ _ _ _ _ G hw dX9_all_37
    · have hw := hw.2 c_16
      refine lv_aload_n hx hb dX9_all_19 rfl (lv_at hl 0 rfl) ?_
      refine x_Vi S hl.1 G (c_X_no l D q A ad h_13 _ hw) (cw_X9_169 S.2.2.2.2 ⟨Nat.le_trans (Nat.le_of_ble_eq_true rfl) hR1, Nat.le_trans (Nat.le_of_ble_eq_true rfl) hR2⟩) (xe_10 kx_0) rfl rfl rfl (Nat.le_of_ble_eq_true rfl) dX9_all_20 (fun r_20 h_20 H locs G hw => ?_)
      exact RT _ _ _ _ _ _ G hw dX9_all_23
  · have hw := hw.2 c_4
    refine lv_aload_n hx hb dX9_all_7 rfl (lv_at hl 0 rfl) ?_
    refine x_Vi S hl.1 G (c_X_bad l D q A ad h _ hw) (cw_X9_69 S.2.2.2.2 ⟨Nat.le_trans (Nat.le_of_ble_eq_true rfl) hR1, Nat.le_trans (Nat.le_of_ble_eq_true rfl) hR2⟩) (xe_10 kx_0) rfl rfl rfl (Nat.le_of_ble_eq_true rfl) dX9_all_8 (fun r_8 h_8 H locs G hw => ?_)
    exact RT _ _ _ _ _ _ G hw dX9_all_11

abbrev rm_X_where : Room := { frames := 6, cells := 0, slots := 0, locals := 143 }
set_option maxHeartbeats 4000000 in
set_option maxRecDepth 100000 in
theorem c_X_where (l : Launch) (D : va_G) (q : Nat → ClassId) (A : Nat → Prop) (ad : Nat → Nat) (a1 : Int32) (a2 : Int32) (a3 : Int32) (h : Hs) (Q : Int32 → Hs → Prop) (hw : p_X_where a1 a2 a3 h Q) : Met l yX9_where (mw yX9_where cX9_where 4 (some .int)) rm_X_where (va_Pc [.ref (ad 0), .int a1, .int a2, .int a3] (pW D q A (wX q ad h))) (va_Qi Q (fun h t => pW D q A (wX q ad h) t) A) 0 0 A := by
  refine met_i (Qp := Q) (by decide) (Nat.le_of_ble_eq_true rfl) ?_
  intro p e R s m args below meth c Qm ls hR1 hR2 S RT hl G
  have hx := S.1
  have hb := S.2.1
  have hl : lv_has ls 4 [(0, .ref (ad 0)), (1, .int a1), (2, .int a2), (3, .int a3)] := hl
  unfold p_X_where at hw
  refine lv_aload_n hx hb dX9_where_0 rfl (lv_at hl 0 rfl) ?_
  refine lv_iload_n hx hb dX9_where_1 rfl (lv_at hl 1 rfl) ?_
  refine x_VzP S hl.1 G (c_X_noLot l D q A ad a1 h _ hw) (cw_X9_151 S.2.2.2.2 ⟨Nat.le_trans (Nat.le_of_ble_eq_true rfl) hR1, Nat.le_trans (Nat.le_of_ble_eq_true rfl) hR2⟩) (xe_10 kx_0) rfl rfl rfl (Nat.le_of_ble_eq_true rfl) dX9_where_2 (fun r_2 H locs G z_2 hw => ?_)
  have hw := hw (∀ (ls : Array Slot) (H : Heap) (locs : List Loc), lv_has ls 4 [(0, .ref (ad 0))] → okW D q A s (wX q ad h) H locs → W p l e R s m args below meth c H locs 0 0 Qm (F0 m 23 ls [])) (by
    intro hw ls H locs hl G
    refine lv_aload_n hx hb dX9_where_23 rfl (lv_at hl 0 rfl) ?_
    refine x_Vi S hl.1 G (c_X_bad l D q A ad h _ hw) (cw_X9_69 S.2.2.2.2 ⟨Nat.le_trans (Nat.le_of_ble_eq_true rfl) hR1, Nat.le_trans (Nat.le_of_ble_eq_true rfl) hR2⟩) (xe_10 kx_0) rfl rfl rfl (Nat.le_of_ble_eq_true rfl) dX9_where_24 (fun r_24 h_24 H locs G hw => ?_)
    exact RT _ _ _ _ _ _ G hw dX9_where_27)
  refine lv_if_ne (tgt := 23) hx hb dX9_where_5 (by decide) (fun c_5 => ?_) (fun c_5 => ?_)
  · have hw := hw.1 c_5
    exact hw _ _ _ (lv_sub hl [0] rfl) G
  · have hw := hw.2 c_5
    refine lv_iload_n hx hb dX9_where_8 rfl (lv_at hl 2 rfl) ?_
    refine x_SzP S hl.1 G (c_X_noMonth l D q A ad a2 h _ hw) (cw_X9_154 S.2.2.2.2 ⟨Nat.le_trans (Nat.le_of_ble_eq_true rfl) hR1, Nat.le_trans (Nat.le_of_ble_eq_true rfl) hR2⟩) rfl rfl (Nat.le_of_ble_eq_true rfl) dX9_where_9 (fun r_9 H locs G z_9 hw => ?_)
    refine lv_if_ne (tgt := 23) hx hb dX9_where_12 (by decide) (fun c_12 => ?_) (fun c_12 => ?_)
    · have hw := hw.1 c_12
      exact hw _ _ _ (lv_sub hl [0] rfl) G
    · have hw := hw.2 c_12
      refine lv_aload_n hx hb dX9_where_15 rfl (lv_at hl 0 rfl) ?_
      refine lv_iload_n hx hb dX9_where_16 rfl (lv_at hl 3 rfl) ?_
      refine x_VzP S hl.1 G (c_X_noWhere l D q A ad a3 h _ hw) (cw_X9_157 S.2.2.2.2 ⟨Nat.le_trans (Nat.le_of_ble_eq_true rfl) hR1, Nat.le_trans (Nat.le_of_ble_eq_true rfl) hR2⟩) (xe_10 kx_0) rfl rfl rfl (Nat.le_of_ble_eq_true rfl) dX9_where_17 (fun r_17 H locs G z_17 hw => ?_)
      refine lv_if_eq (tgt := 28) hx hb dX9_where_20 (by decide) (fun c_20 => ?_) (fun c_20 => ?_)
      · have hw := hw.1 c_20
        refine lv_aload_n hx hb dX9_where_28 rfl (lv_at hl 0 rfl) ?_
        refine x_Vi S hl.1 G (c_X_noWorlds l D q A ad h _ hw) (cw_X9_185 S.2.2.2.2 ⟨Nat.le_trans (Nat.le_of_ble_eq_true rfl) hR1, Nat.le_trans (Nat.le_of_ble_eq_true rfl) hR2⟩) (xe_10 kx_0) rfl rfl rfl (Nat.le_of_ble_eq_true rfl) dX9_where_29 (fun r_29 h_29 H locs G hw => ?_)
        obtain ⟨z_29, hw⟩ := hw
        refine lv_if_eq (tgt := 40) hx hb dX9_where_32 (by decide) (fun c_32 => ?_) (fun c_32 => ?_)
        · have hw := hw.1 c_32
          refine lv_aload_n hx hb dX9_where_40 rfl (lv_at hl 0 rfl) ?_
          refine lv_aload_n hx hb dX9_where_41 rfl (lv_at hl 0 rfl) ?_
          refine x_get (C := RX9) (T := TX9) (n := 12) S G inX9 (xe_10 kx_0) rfl 0 (by decide) kf_X9_10 rfl dX9_where_42 ?_
          refine lv_iload_n hx hb dX9_where_45 rfl (lv_at hl 1 rfl) ?_
          refine lv_iload_n hx hb dX9_where_46 rfl (lv_at hl 2 rfl) ?_
          refine lv_iload_n hx hb dX9_where_47 rfl (lv_at hl 3 rfl) ?_
          refine x_Vr S hl.1 G (c_Worlds_gatherWhere l D q A ad a1 a2 a3 h_29 _ hw) (cw_X9_201 S.2.2.2.2 ⟨Nat.le_trans (Nat.le_of_ble_eq_true rfl) hR1, Nat.le_trans (Nat.le_of_ble_eq_true rfl) hR2⟩) (xe_9 kx_1) rfl rfl rfl (Nat.le_of_ble_eq_true rfl) dX9_where_48 (fun r_48 h_48 H locs G hw => ?_)
          obtain ⟨kr_48, hw⟩ := hw
          refine x_Vi S hl.1 G (c_X_answerShare l D q A ad r_48 kr_48 h_48 _ hw) (cw_X9_193 S.2.2.2.2 ⟨Nat.le_trans (Nat.le_of_ble_eq_true rfl) hR1, Nat.le_trans (Nat.le_of_ble_eq_true rfl) hR2⟩) (xe_10 kx_0) rfl rfl rfl (Nat.le_of_ble_eq_true rfl) dX9_where_51 (fun r_51 h_51 H locs G hw => ?_)
          exact RT _ _ _ _ _ _ G hw dX9_where_54
        · have hw := hw.2 c_32
          refine lv_aload_n hx hb dX9_where_35 rfl (lv_at hl 0 rfl) ?_
          refine x_Vi S hl.1 G (c_X_no l D q A ad h_29 _ hw) (cw_X9_169 S.2.2.2.2 ⟨Nat.le_trans (Nat.le_of_ble_eq_true rfl) hR1, Nat.le_trans (Nat.le_of_ble_eq_true rfl) hR2⟩) (xe_10 kx_0) rfl rfl rfl (Nat.le_of_ble_eq_true rfl) dX9_where_36 (fun r_36 h_36 H locs G hw => ?_)
          exact RT _ _ _ _ _ _ G hw dX9_where_39
      · have hw := hw.2 c_20
        exact hw _ _ _ (lv_sub hl [0] rfl) G

abbrev rm_X_so : Room := { frames := 6, cells := 0, slots := 0, locals := 143 }
set_option maxHeartbeats 4000000 in
set_option maxRecDepth 100000 in
theorem c_X_so (l : Launch) (D : va_G) (q : Nat → ClassId) (A : Nat → Prop) (ad : Nat → Nat) (a1 : Int32) (h : Hs) (Q : Int32 → Hs → Prop) (hw : p_X_so a1 h Q) : Met l yX9_so (mw yX9_so cX9_so 3 (some .int)) rm_X_so (va_Pc [.ref (ad 0), .int a1] (pW D q A (wX q ad h))) (va_Qi Q (fun h t => pW D q A (wX q ad h) t) A) 0 0 A := by
  refine met_i (Qp := Q) (by decide) (Nat.le_of_ble_eq_true rfl) ?_
  intro p e R s m args below meth c Qm ls hR1 hR2 S RT hl G
  have hx := S.1
  have hb := S.2.1
  have hl : lv_has ls 3 [(0, .ref (ad 0)), (1, .int a1)] := hl
  unfold p_X_so at hw
  refine lv_iload_n hx hb dX9_so_0 rfl (lv_at hl 1 rfl) ?_
  refine lv_iconst (v := 0) hx hb dX9_so_1 (by decide) ?_
  refine lv_aload_n hx hb dX9_so_2 rfl (lv_at hl 0 rfl) ?_
  refine x_get (C := RX9) (T := TX9) (n := 12) S G inX9 (xe_10 kx_0) rfl 2 (by decide) kf_X9_27 rfl dX9_so_3 ?_
  refine x_get (C := RX5) (T := TX5) (n := 17) S G inX5 (xe_6 kx_3) rfl 3 (by decide) kf_X9_160 rfl dX9_so_6 ?_
  refine lv_iconst (v := 1) hx hb dX9_so_9 (by decide) ?_
  refine lv_isub hx hb dX9_so_10 ?_
  refine x_SzP S hl.1 G (c_X_outside l D q A ad a1 0 ((gi h 3 3) - 1) h _ hw) (cw_X9_65 S.2.2.2.2 ⟨Nat.le_trans (Nat.le_of_ble_eq_true rfl) hR1, Nat.le_trans (Nat.le_of_ble_eq_true rfl) hR2⟩) rfl rfl (Nat.le_of_ble_eq_true rfl) dX9_so_11 (fun r_11 H locs G z_11 hw => ?_)
  refine lv_if_eq (tgt := 22) hx hb dX9_so_14 (by decide) (fun c_14 => ?_) (fun c_14 => ?_)
  · have hw := hw.1 c_14
    refine lv_aload_n hx hb dX9_so_22 rfl (lv_at hl 0 rfl) ?_
    refine x_Vi S hl.1 G (c_X_noWorlds l D q A ad h _ hw) (cw_X9_185 S.2.2.2.2 ⟨Nat.le_trans (Nat.le_of_ble_eq_true rfl) hR1, Nat.le_trans (Nat.le_of_ble_eq_true rfl) hR2⟩) (xe_10 kx_0) rfl rfl rfl (Nat.le_of_ble_eq_true rfl) dX9_so_23 (fun r_23 h_23 H locs G hw => ?_)
    obtain ⟨z_23, hw⟩ := hw
    refine lv_if_eq (tgt := 34) hx hb dX9_so_26 (by decide) (fun c_26 => ?_) (fun c_26 => ?_)
    · have hw := hw.1 c_26
      refine lv_aload_n hx hb dX9_so_34 rfl (lv_at hl 0 rfl) ?_
      refine x_get (C := RX9) (T := TX9) (n := 12) S G inX9 (xe_10 kx_0) rfl 2 (by decide) kf_X9_27 rfl dX9_so_35 ?_
      refine x_get (C := RX5) (T := TX5) (n := 17) S G inX5 (xe_6 kx_3) rfl 14 (by decide) kf_X9_163 rfl dX9_so_38 ?_
      refine lv_iload_n hx hb dX9_so_41 rfl (lv_at hl 1 rfl) ?_
      obtain ⟨i_42, hw⟩ := hw
      refine x_aald (k := a1.toNatClampNeg) S G 2 (xe_22 kx_28 lx_28) rfl rfl i_42 rfl (if_pos (vpl i_42)) dX9_so_42 ?_
      refine lv_astore_n (lv' := [(2, .ref (ad (28 + 1 + 1 * a1.toNatClampNeg))), (0, .ref (ad 0)), (1, .int a1)]) hx hb dX9_so_43 rfl hl (by decide) rfl (fun ls hl => ?_)
      refine lv_aload_n hx hb dX9_so_44 rfl (lv_at hl 1 rfl) ?_
      refine lv_aload_n hx hb dX9_so_45 rfl (lv_at hl 1 rfl) ?_
      refine x_get (C := RX9) (T := TX9) (n := 12) S G inX9 (xe_10 kx_0) rfl 0 (by decide) kf_X9_10 rfl dX9_so_46 ?_
      refine lv_aload_n hx hb dX9_so_49 rfl (lv_at hl 0 rfl) ?_
      refine lv_iconst (v := 1) hx hb dX9_so_50 (by decide) ?_
      refine x_iald (k := 1) S G (xe_20 (kxe_28 _ (vpl i_42)) (lxe_28 _ (vpl i_42))) (vpi (by decide)) rfl rfl dX9_so_51 ?_
      refine lv_aload_n hx hb dX9_so_52 rfl (lv_at hl 0 rfl) ?_
      refine lv_iconst (v := 2) hx hb dX9_so_53 (by decide) ?_
      refine x_iald (k := 2) S G (xe_20 (kxe_28 _ (vpl i_42)) (lxe_28 _ (vpl i_42))) (vpi (by decide)) rfl rfl dX9_so_54 ?_
      refine lv_aload_n hx hb dX9_so_55 rfl (lv_at hl 0 rfl) ?_
      refine lv_iconst (v := 3) hx hb dX9_so_56 (by decide) ?_
      refine x_iald (k := 3) S G (xe_20 (kxe_28 _ (vpl i_42)) (lxe_28 _ (vpl i_42))) (vpi (by decide)) rfl rfl dX9_so_57 ?_
      refine x_Vr S hl.1 G (c_Worlds_gatherWhere l D q A ad (gi h_23 (28 + 1 + 1 * a1.toNatClampNeg) 1) (gi h_23 (28 + 1 + 1 * a1.toNatClampNeg) 2) (gi h_23 (28 + 1 + 1 * a1.toNatClampNeg) 3) h_23 _ hw) (cw_X9_201 S.2.2.2.2 ⟨Nat.le_trans (Nat.le_of_ble_eq_true rfl) hR1, Nat.le_trans (Nat.le_of_ble_eq_true rfl) hR2⟩) (xe_9 kx_1) rfl rfl rfl (Nat.le_of_ble_eq_true rfl) dX9_so_58 (fun r_58 h_58 H locs G hw => ?_)
      obtain ⟨kr_58, hw⟩ := hw
      refine x_Vi S hl.1 G (c_X_answerShare l D q A ad r_58 kr_58 h_58 _ hw) (cw_X9_193 S.2.2.2.2 ⟨Nat.le_trans (Nat.le_of_ble_eq_true rfl) hR1, Nat.le_trans (Nat.le_of_ble_eq_true rfl) hR2⟩) (xe_10 kx_0) rfl rfl rfl (Nat.le_of_ble_eq_true rfl) dX9_so_61 (fun r_61 h_61 H locs G hw => ?_)
      exact RT _ _ _ _ _ _ G hw dX9_so_64
    · have hw := hw.2 c_26
      refine lv_aload_n hx hb dX9_so_29 rfl (lv_at hl 0 rfl) ?_
      refine x_Vi S hl.1 G (c_X_no l D q A ad h_23 _ hw) (cw_X9_169 S.2.2.2.2 ⟨Nat.le_trans (Nat.le_of_ble_eq_true rfl) hR1, Nat.le_trans (Nat.le_of_ble_eq_true rfl) hR2⟩) (xe_10 kx_0) rfl rfl rfl (Nat.le_of_ble_eq_true rfl) dX9_so_30 (fun r_30 h_30 H locs G hw => ?_)
      exact RT _ _ _ _ _ _ G hw dX9_so_33
  · have hw := hw.2 c_14
    refine lv_aload_n hx hb dX9_so_17 rfl (lv_at hl 0 rfl) ?_
    refine x_Vi S hl.1 G (c_X_bad l D q A ad h _ hw) (cw_X9_69 S.2.2.2.2 ⟨Nat.le_trans (Nat.le_of_ble_eq_true rfl) hR1, Nat.le_trans (Nat.le_of_ble_eq_true rfl) hR2⟩) (xe_10 kx_0) rfl rfl rfl (Nat.le_of_ble_eq_true rfl) dX9_so_18 (fun r_18 h_18 H locs G hw => ?_)
    exact RT _ _ _ _ _ _ G hw dX9_so_21

abbrev rm_X_lost : Room := { frames := 6, cells := 0, slots := 0, locals := 143 }
set_option maxHeartbeats 4000000 in
set_option maxRecDepth 100000 in
theorem c_X_lost (l : Launch) (D : va_G) (q : Nat → ClassId) (A : Nat → Prop) (ad : Nat → Nat) (a1 : Int32) (h : Hs) (Q : Int32 → Hs → Prop) (hw : p_X_lost a1 h Q) : Met l yX9_lost (mw yX9_lost cX9_lost 2 (some .int)) rm_X_lost (va_Pc [.ref (ad 0), .int a1] (pW D q A (wX q ad h))) (va_Qi Q (fun h t => pW D q A (wX q ad h) t) A) 0 0 A := by
  refine met_i (Qp := Q) (by decide) (Nat.le_of_ble_eq_true rfl) ?_
  intro p e R s m args below meth c Qm ls hR1 hR2 S RT hl G
  have hx := S.1
  have hb := S.2.1
  have hl : lv_has ls 2 [(0, .ref (ad 0)), (1, .int a1)] := hl
  unfold p_X_lost at hw
  refine lv_aload_n hx hb dX9_lost_0 rfl (lv_at hl 0 rfl) ?_
  refine lv_iload_n hx hb dX9_lost_1 rfl (lv_at hl 1 rfl) ?_
  refine x_VzP S hl.1 G (c_X_noLot l D q A ad a1 h _ hw) (cw_X9_151 S.2.2.2.2 ⟨Nat.le_trans (Nat.le_of_ble_eq_true rfl) hR1, Nat.le_trans (Nat.le_of_ble_eq_true rfl) hR2⟩) (xe_10 kx_0) rfl rfl rfl (Nat.le_of_ble_eq_true rfl) dX9_lost_2 (fun r_2 H locs G z_2 hw => ?_)
  refine lv_if_eq (tgt := 13) hx hb dX9_lost_5 (by decide) (fun c_5 => ?_) (fun c_5 => ?_)
  · have hw := hw.1 c_5
    refine lv_aload_n hx hb dX9_lost_13 rfl (lv_at hl 0 rfl) ?_
    refine x_Vi S hl.1 G (c_X_noWorlds l D q A ad h _ hw) (cw_X9_185 S.2.2.2.2 ⟨Nat.le_trans (Nat.le_of_ble_eq_true rfl) hR1, Nat.le_trans (Nat.le_of_ble_eq_true rfl) hR2⟩) (xe_10 kx_0) rfl rfl rfl (Nat.le_of_ble_eq_true rfl) dX9_lost_14 (fun r_14 h_14 H locs G hw => ?_)
    obtain ⟨z_14, hw⟩ := hw
    refine lv_if_eq (tgt := 25) hx hb dX9_lost_17 (by decide) (fun c_17 => ?_) (fun c_17 => ?_)
    · have hw := hw.1 c_17
      refine lv_aload_n hx hb dX9_lost_25 rfl (lv_at hl 0 rfl) ?_
      refine x_get (C := RX9) (T := TX9) (n := 12) S G inX9 (xe_10 kx_0) rfl 0 (by decide) kf_X9_10 rfl dX9_lost_26 ?_
      refine lv_iload_n hx hb dX9_lost_29 rfl (lv_at hl 1 rfl) ?_
      refine x_ViP S hl.1 G (c_Worlds_lostOf l D q A ad a1 h_14 _ hw) (cw_X9_205 S.2.2.2.2 ⟨Nat.le_trans (Nat.le_of_ble_eq_true rfl) hR1, Nat.le_trans (Nat.le_of_ble_eq_true rfl) hR2⟩) (xe_9 kx_1) rfl rfl rfl (Nat.le_of_ble_eq_true rfl) dX9_lost_30 (fun r_30 H locs G hw => ?_)
      exact RT _ _ _ _ _ _ G hw dX9_lost_33
    · have hw := hw.2 c_17
      refine lv_aload_n hx hb dX9_lost_20 rfl (lv_at hl 0 rfl) ?_
      refine x_Vi S hl.1 G (c_X_no l D q A ad h_14 _ hw) (cw_X9_169 S.2.2.2.2 ⟨Nat.le_trans (Nat.le_of_ble_eq_true rfl) hR1, Nat.le_trans (Nat.le_of_ble_eq_true rfl) hR2⟩) (xe_10 kx_0) rfl rfl rfl (Nat.le_of_ble_eq_true rfl) dX9_lost_21 (fun r_21 h_21 H locs G hw => ?_)
      exact RT _ _ _ _ _ _ G hw dX9_lost_24
  · have hw := hw.2 c_5
    refine lv_aload_n hx hb dX9_lost_8 rfl (lv_at hl 0 rfl) ?_
    refine x_Vi S hl.1 G (c_X_bad l D q A ad h _ hw) (cw_X9_69 S.2.2.2.2 ⟨Nat.le_trans (Nat.le_of_ble_eq_true rfl) hR1, Nat.le_trans (Nat.le_of_ble_eq_true rfl) hR2⟩) (xe_10 kx_0) rfl rfl rfl (Nat.le_of_ble_eq_true rfl) dX9_lost_9 (fun r_9 h_9 H locs G hw => ?_)
    exact RT _ _ _ _ _ _ G hw dX9_lost_12

abbrev rm_X_next : Room := { frames := 6, cells := 0, slots := 0, locals := 143 }
set_option maxHeartbeats 4000000 in
set_option maxRecDepth 100000 in
theorem c_X_next (l : Launch) (D : va_G) (q : Nat → ClassId) (A : Nat → Prop) (ad : Nat → Nat) (h : Hs) (Q : Int32 → Hs → Prop) (hw : p_X_next h Q) : Met l yX9_next (mw yX9_next cX9_next 1 (some .int)) rm_X_next (va_Pc [.ref (ad 0)] (pW D q A (wX q ad h))) (va_Qi Q (fun h t => pW D q A (wX q ad h) t) A) 0 0 A := by
  refine met_i (Qp := Q) (by decide) (Nat.le_of_ble_eq_true rfl) ?_
  intro p e R s m args below meth c Qm ls hR1 hR2 S RT hl G
  have hx := S.1
  have hb := S.2.1
  have hl : lv_has ls 1 [(0, .ref (ad 0))] := hl
  unfold p_X_next at hw
  refine lv_aload_n hx hb dX9_next_0 rfl (lv_at hl 0 rfl) ?_
  refine x_Vi S hl.1 G (c_X_noWorlds l D q A ad h _ hw) (cw_X9_185 S.2.2.2.2 ⟨Nat.le_trans (Nat.le_of_ble_eq_true rfl) hR1, Nat.le_trans (Nat.le_of_ble_eq_true rfl) hR2⟩) (xe_10 kx_0) rfl rfl rfl (Nat.le_of_ble_eq_true rfl) dX9_next_1 (fun r_1 h_1 H locs G hw => ?_)
  obtain ⟨z_1, hw⟩ := hw
  refine lv_if_eq (tgt := 12) hx hb dX9_next_4 (by decide) (fun c_4 => ?_) (fun c_4 => ?_)
  · have hw := hw.1 c_4
    refine lv_aload_n hx hb dX9_next_12 rfl (lv_at hl 0 rfl) ?_
    refine x_get (C := RX9) (T := TX9) (n := 12) S G inX9 (xe_10 kx_0) rfl 0 (by decide) kf_X9_10 rfl dX9_next_13 ?_
    refine x_Vi S hl.1 G (c_Worlds_digNext l D q A ad h_1 _ hw) (cw_X9_209 S.2.2.2.2 ⟨Nat.le_trans (Nat.le_of_ble_eq_true rfl) hR1, Nat.le_trans (Nat.le_of_ble_eq_true rfl) hR2⟩) (xe_9 kx_1) rfl rfl rfl (Nat.le_of_ble_eq_true rfl) dX9_next_16 (fun r_16 h_16 H locs G hw => ?_)
    exact RT _ _ _ _ _ _ G hw dX9_next_19
  · have hw := hw.2 c_4
    refine lv_aload_n hx hb dX9_next_7 rfl (lv_at hl 0 rfl) ?_
    refine x_Vi S hl.1 G (c_X_no l D q A ad h_1 _ hw) (cw_X9_169 S.2.2.2.2 ⟨Nat.le_trans (Nat.le_of_ble_eq_true rfl) hR1, Nat.le_trans (Nat.le_of_ble_eq_true rfl) hR2⟩) (xe_10 kx_0) rfl rfl rfl (Nat.le_of_ble_eq_true rfl) dX9_next_8 (fun r_8 h_8 H locs G hw => ?_)
    exact RT _ _ _ _ _ _ G hw dX9_next_11

abbrev rm_X_fed : Room := { frames := 2, cells := 0, slots := 0, locals := 43 }
set_option maxHeartbeats 4000000 in
set_option maxRecDepth 100000 in
theorem c_X_fed (l : Launch) (D : va_G) (q : Nat → ClassId) (A : Nat → Prop) (ad : Nat → Nat) (a1 : Int32) (a2 : Int32) (h : Hs) (Q : Int32 → Hs → Prop) (hw : p_X_fed a1 a2 h Q) : Met l yX9_fed (mw yX9_fed cX9_fed 3 (some .int)) rm_X_fed (va_Pc [.ref (ad 0), .int a1, .int a2] (pW D q A (wX q ad h))) (va_Qi Q (fun h t => pW D q A (wX q ad h) t) A) 0 0 A := by
  refine met_i (Qp := Q) (by decide) (Nat.le_of_ble_eq_true rfl) ?_
  intro p e R s m args below meth c Qm ls hR1 hR2 S RT hl G
  have hx := S.1
  have hb := S.2.1
  have hl : lv_has ls 3 [(0, .ref (ad 0)), (1, .int a1), (2, .int a2)] := hl
  unfold p_X_fed at hw
  refine lv_aload_n hx hb dX9_fed_0 rfl (lv_at hl 0 rfl) ?_
  refine lv_iload_n hx hb dX9_fed_1 rfl (lv_at hl 1 rfl) ?_
  refine x_VzP S hl.1 G (c_X_noPlace l D q A ad a1 h _ hw) (cw_X9_135 S.2.2.2.2 ⟨Nat.le_trans (Nat.le_of_ble_eq_true rfl) hR1, Nat.le_trans (Nat.le_of_ble_eq_true rfl) hR2⟩) (xe_10 kx_0) rfl rfl rfl (Nat.le_of_ble_eq_true rfl) dX9_fed_2 (fun r_2 H locs G z_2 hw => ?_)
  have hw := hw (∀ (ls : Array Slot) (H : Heap) (locs : List Loc), lv_has ls 3 [(0, .ref (ad 0))] → okW D q A s (wX q ad h) H locs → W p l e R s m args below meth c H locs 0 0 Qm (F0 m 18 ls [])) (by
    intro hw ls H locs hl G
    refine lv_aload_n hx hb dX9_fed_18 rfl (lv_at hl 0 rfl) ?_
    refine x_Vi S hl.1 G (c_X_bad l D q A ad h _ hw) (cw_X9_69 S.2.2.2.2 ⟨Nat.le_trans (Nat.le_of_ble_eq_true rfl) hR1, Nat.le_trans (Nat.le_of_ble_eq_true rfl) hR2⟩) (xe_10 kx_0) rfl rfl rfl (Nat.le_of_ble_eq_true rfl) dX9_fed_19 (fun r_19 h_19 H locs G hw => ?_)
    exact RT _ _ _ _ _ _ G hw dX9_fed_22)
  refine lv_if_ne (tgt := 18) hx hb dX9_fed_5 (by decide) (fun c_5 => ?_) (fun c_5 => ?_)
  · have hw := hw.1 c_5
    exact hw _ _ _ (lv_sub hl [0] rfl) G
  · have hw := hw.2 c_5
    refine lv_iload_n hx hb dX9_fed_8 rfl (lv_at hl 2 rfl) ?_
    refine lv_iconst (v := 0) hx hb dX9_fed_9 (by decide) ?_
    refine lv_bipush (v := 9) hx hb dX9_fed_10 (by decide) ?_
    refine x_SzP S hl.1 G (c_X_outside l D q A ad a2 0 9 h _ hw) (cw_X9_65 S.2.2.2.2 ⟨Nat.le_trans (Nat.le_of_ble_eq_true rfl) hR1, Nat.le_trans (Nat.le_of_ble_eq_true rfl) hR2⟩) rfl rfl (Nat.le_of_ble_eq_true rfl) dX9_fed_12 (fun r_12 H locs G z_12 hw => ?_)
    refine lv_if_eq (tgt := 23) hx hb dX9_fed_15 (by decide) (fun c_15 => ?_) (fun c_15 => ?_)
    · have hw := hw.1 c_15
      refine lv_aload_n hx hb dX9_fed_23 rfl (lv_at hl 0 rfl) ?_
      refine x_get (C := RX9) (T := TX9) (n := 12) S G inX9 (xe_10 kx_0) rfl 2 (by decide) kf_X9_27 rfl dX9_fed_24 ?_
      refine lv_iload_n hx hb dX9_fed_27 rfl (lv_at hl 1 rfl) ?_
      refine lv_iload_n hx hb dX9_fed_28 rfl (lv_at hl 2 rfl) ?_
      refine x_ViP S hl.1 G (c_State_feedsIn l D q A ad a1 a2 h _ hw) (cw_X9_212 S.2.2.2.2 ⟨Nat.le_trans (Nat.le_of_ble_eq_true rfl) hR1, Nat.le_trans (Nat.le_of_ble_eq_true rfl) hR2⟩) (xe_6 kx_3) rfl rfl rfl (Nat.le_of_ble_eq_true rfl) dX9_fed_29 (fun r_29 H locs G hw => ?_)
      exact RT _ _ _ _ _ _ G hw dX9_fed_32
    · have hw := hw.2 c_15
      exact hw _ _ _ (lv_sub hl [0] rfl) G

abbrev rm_X_worse : Room := { frames := 0, cells := 0, slots := 0, locals := 0 }
set_option maxHeartbeats 4000000 in
set_option maxRecDepth 100000 in
theorem c_X_worse (l : Launch) (D : va_G) (q : Nat → ClassId) (A : Nat → Prop) (ad : Nat → Nat) (h : Hs) (Q : Int32 → Hs → Prop) (hw : p_X_worse h Q) : Met l yX9_worse (mw yX9_worse cX9_worse 1 (some .int)) rm_X_worse (va_Pc [.ref (ad 0)] (pW D q A (wX q ad h))) (va_Qi Q (fun h t => pW D q A (wX q ad h) t) A) 0 0 A := by
  refine met_i (Qp := Q) (by decide) (Nat.le_of_ble_eq_true rfl) ?_
  intro p e R s m args below meth c Qm ls hR1 hR2 S RT hl G
  have hx := S.1
  have hb := S.2.1
  have hl : lv_has ls 1 [(0, .ref (ad 0))] := hl
  unfold p_X_worse at hw
  refine lv_aload_n hx hb dX9_worse_0 rfl (lv_at hl 0 rfl) ?_
  refine lv_dup hx hb dX9_worse_1 rfl ?_
  refine x_get (C := RX9) (T := TX9) (n := 12) S G inX9 (xe_10 kx_0) rfl 9 (by decide) kf_X9_263 rfl dX9_worse_2 ?_
  refine lv_iconst (v := 1) hx hb dX9_worse_5 (by decide) ?_
  refine lv_iadd hx hb dX9_worse_6 ?_
  refine x_put (C := RX9) (T := TX9) (n := 12) S G inX9 tyX9 tyX9_ok nmX9 (xe_10 kx_0) rfl 9 (by decide) kf_X9_263 rfl rfl rfl (Nat.le_of_ble_eq_true rfl) (xp_10_9 kx_0) dX9_worse_7 (fun H locs G => ?_)
  obtain ⟨h_7, eh_7⟩ : ∃ y : Hs, y = si h 0 9 ((gi h 0 9) + 1) := ⟨_, rfl⟩
  rw [← eh_7] at G
  have hw := hw h_7 eh_7
  refine lv_bipush (v := (-10)) hx hb dX9_worse_10 (by decide) ?_
  exact RT _ _ _ _ _ _ G hw dX9_worse_12
theorem cw_X9_215 {R : Room} {s : State} {args : Array Value} (hts : ∀ w ∈ gW, w.before args s = true) (hR : rm_X_worse.frames + 1 ≤ R.frames ∧ 8 + (1 + 11) + rm_X_worse.locals ≤ R.locals) : CallW R s args RX9 RX9 215 yX9_worse cX9_worse 1 (some .int) (mw yX9_worse cX9_worse 1 (some .int)) rm_X_worse 0 0 0 := cwV9 hts km_X9_215 ki_X9_worse ks_X9_worse kn_X9 kk_X9_worse rfl rfl (by decide +kernel) hR
abbrev rm_X_dry : Room := { frames := 2, cells := 0, slots := 0, locals := 43 }
set_option maxHeartbeats 4000000 in
set_option maxRecDepth 100000 in
theorem c_X_dry (l : Launch) (D : va_G) (q : Nat → ClassId) (A : Nat → Prop) (ad : Nat → Nat) (a1 : Int32) (a2 : Int32) (a3 : Int32) (h : Hs) (Q : Int32 → Hs → Prop) (hw : p_X_dry a1 a2 a3 h Q) : Met l yX9_dry (mw yX9_dry cX9_dry 8 (some .int)) rm_X_dry (va_Pc [.ref (ad 0), .int a1, .int a2, .int a3] (pW D q A (wX q ad h))) (va_Qi Q (fun h t => pW D q A (wX q ad h) t) A) 0 0 A := by
  refine met_i (Qp := Q) (by decide) (Nat.le_of_ble_eq_true rfl) ?_
  intro p e R s m args below meth c Qm ls hR1 hR2 S RT hl G
  have hx := S.1
  have hb := S.2.1
  have hl : lv_has ls 8 [(0, .ref (ad 0)), (1, .int a1), (2, .int a2), (3, .int a3)] := hl
  unfold p_X_dry at hw
  refine lv_aload_n hx hb dX9_dry_0 rfl (lv_at hl 0 rfl) ?_
  refine lv_iload_n hx hb dX9_dry_1 rfl (lv_at hl 1 rfl) ?_
  refine x_VzP S hl.1 G (c_X_noPlace l D q A ad a1 h _ hw) (cw_X9_135 S.2.2.2.2 ⟨Nat.le_trans (Nat.le_of_ble_eq_true rfl) hR1, Nat.le_trans (Nat.le_of_ble_eq_true rfl) hR2⟩) (xe_10 kx_0) rfl rfl rfl (Nat.le_of_ble_eq_true rfl) dX9_dry_2 (fun r_2 H locs G z_2 hw => ?_)
  have hw := hw (∀ (ls : Array Slot) (H : Heap) (locs : List Loc), lv_has ls 8 [(0, .ref (ad 0))] → okW D q A s (wX q ad h) H locs → W p l e R s m args below meth c H locs 0 0 Qm (F0 m 28 ls [])) (by
    intro hw ls H locs hl G
    refine lv_aload_n hx hb dX9_dry_28 rfl (lv_at hl 0 rfl) ?_
    refine x_Vi S hl.1 G (c_X_worse l D q A ad h _ hw) (cw_X9_215 S.2.2.2.2 ⟨Nat.le_trans (Nat.le_of_ble_eq_true rfl) hR1, Nat.le_trans (Nat.le_of_ble_eq_true rfl) hR2⟩) (xe_10 kx_0) rfl rfl rfl (Nat.le_of_ble_eq_true rfl) dX9_dry_29 (fun r_29 h_29 H locs G hw => ?_)
    exact RT _ _ _ _ _ _ G hw dX9_dry_32)
  refine lv_if_ne (tgt := 28) hx hb dX9_dry_5 (by decide) (fun c_5 => ?_) (fun c_5 => ?_)
  · have hw := hw.1 c_5
    exact hw _ _ _ (lv_sub hl [0] rfl) G
  · have hw := hw.2 c_5
    refine lv_iload_n hx hb dX9_dry_8 rfl (lv_at hl 2 rfl) ?_
    refine lv_iconst (v := 0) hx hb dX9_dry_9 (by decide) ?_
    refine lv_sipush (v := 999) hx hb dX9_dry_10 (by decide) ?_
    refine x_SzP S hl.1 G (c_X_outside l D q A ad a2 0 999 h _ hw) (cw_X9_65 S.2.2.2.2 ⟨Nat.le_trans (Nat.le_of_ble_eq_true rfl) hR1, Nat.le_trans (Nat.le_of_ble_eq_true rfl) hR2⟩) rfl rfl (Nat.le_of_ble_eq_true rfl) dX9_dry_13 (fun r_13 H locs G z_13 hw => ?_)
    refine lv_if_ne (tgt := 28) hx hb dX9_dry_16 (by decide) (fun c_16 => ?_) (fun c_16 => ?_)
    · have hw := hw.1 c_16
      exact hw _ _ _ (lv_sub hl [0] rfl) G
    · have hw := hw.2 c_16
      refine lv_iload_n hx hb dX9_dry_19 rfl (lv_at hl 3 rfl) ?_
      refine lv_iconst (v := 0) hx hb dX9_dry_20 (by decide) ?_
      refine lv_iconst (v := 1) hx hb dX9_dry_21 (by decide) ?_
      refine x_SzP S hl.1 G (c_X_outside l D q A ad a3 0 1 h _ hw) (cw_X9_65 S.2.2.2.2 ⟨Nat.le_trans (Nat.le_of_ble_eq_true rfl) hR1, Nat.le_trans (Nat.le_of_ble_eq_true rfl) hR2⟩) rfl rfl (Nat.le_of_ble_eq_true rfl) dX9_dry_22 (fun r_22 H locs G z_22 hw => ?_)
      refine lv_if_eq (tgt := 33) hx hb dX9_dry_25 (by decide) (fun c_25 => ?_) (fun c_25 => ?_)
      · have hw := hw.1 c_25
        refine lv_iconst (v := (-1)) hx hb dX9_dry_33 (by decide) ?_
        refine lv_istore (lv' := [(4, .int (-1)), (0, .ref (ad 0)), (1, .int a1), (2, .int a2), (3, .int a3)]) hx hb dX9_dry_34 hl (by decide) rfl (fun ls hl => ?_)
        refine lv_iconst (v := 0) hx hb dX9_dry_36 (by decide) ?_
        refine lv_istore (lv' := [(5, .int 0), (4, .int (-1)), (0, .ref (ad 0)), (1, .int a1), (2, .int a2), (3, .int a3)]) hx hb dX9_dry_37 hl (by decide) rfl (fun ls hl => ?_)
        refine lv_iconst (v := 0) hx hb dX9_dry_39 (by decide) ?_
        refine lv_istore (lv' := [(6, .int 0), (5, .int 0), (4, .int (-1)), (0, .ref (ad 0)), (1, .int a1), (2, .int a2), (3, .int a3)]) hx hb dX9_dry_40 hl (by decide) rfl (fun ls hl => ?_)
        refine lv_iconst (v := 0) hx hb dX9_dry_42 (by decide) ?_
        refine lv_istore (lv' := [(7, .int 0), (6, .int 0), (5, .int 0), (4, .int (-1)), (0, .ref (ad 0)), (1, .int a1), (2, .int a2), (3, .int a3)]) hx hb dX9_dry_43 hl (by decide) rfl (fun ls hl => ?_)
        have hw := hw (fun (b4_45 : Int32) (b5_45 : Int32) (b6_45 : Int32) (b7_45 : Int32) => ∀ (ls : Array Slot) (H : Heap) (locs : List Loc), lv_has ls 8 [(0, .ref (ad 0)), (1, .int a1), (2, .int a2), (3, .int a3), (4, .int b4_45), (5, .int b5_45), (6, .int b6_45), (7, .int b7_45)] → okW D q A s (wX q ad h) H locs → W p l e R s m args below meth c H locs 0 0 Qm (F0 m 45 ls [])) (by
          intro b4_45 b5_45 b6_45 b7_45 hw ls H locs hl G
          refine lv_iload hx hb dX9_dry_45 (lv_at hl 7 rfl) ?_
          refine lv_bipush (v := 10) hx hb dX9_dry_47 (by decide) ?_
          refine lv_icmp_ge (tgt := 102) hx hb dX9_dry_49 (by decide) (fun c_49 => ?_) (fun c_49 => ?_)
          · have hw := hw.1 c_49
            refine lv_iload_n hx hb dX9_dry_102 rfl (lv_at hl 3 rfl) ?_
            have hw := hw (fun (t0_113 : Int32) => ∀ (ls : Array Slot) (H : Heap) (locs : List Loc), lv_has ls 8 [] → okW D q A s (wX q ad h) H locs → W p l e R s m args below meth c H locs 0 0 Qm (F0 m 113 ls [.int t0_113])) (by
              intro t0_113 hw ls H locs hl G
              exact RT _ _ _ _ _ _ G hw dX9_dry_113)
            refine lv_if_ne (tgt := 111) hx hb dX9_dry_103 (by decide) (fun c_103 => ?_) (fun c_103 => ?_)
            · have hw := hw.1 c_103
              refine lv_iload hx hb dX9_dry_111 (lv_at hl 5 rfl) ?_
              exact hw _ _ _ (lv_sub hl [] rfl) G
            · have hw := hw.2 c_103
              refine lv_iload hx hb dX9_dry_106 (lv_at hl 4 rfl) ?_
              refine lv_goto (tgt := 113) hx hb dX9_dry_108 (by decide) ?_
              exact hw _ _ _ (lv_sub hl [] rfl) G
          · have hw := hw.2 c_49
            refine lv_aload_n hx hb dX9_dry_52 rfl (lv_at hl 0 rfl) ?_
            refine x_get (C := RX9) (T := TX9) (n := 12) S G inX9 (xe_10 kx_0) rfl 2 (by decide) kf_X9_27 rfl dX9_dry_53 ?_
            refine lv_iload_n hx hb dX9_dry_56 rfl (lv_at hl 1 rfl) ?_
            refine lv_iload hx hb dX9_dry_57 (lv_at hl 7 rfl) ?_
            refine x_ViP S hl.1 G (c_State_feedsIn l D q A ad a1 b7_45 h _ hw) (cw_X9_212 S.2.2.2.2 ⟨Nat.le_trans (Nat.le_of_ble_eq_true rfl) hR1, Nat.le_trans (Nat.le_of_ble_eq_true rfl) hR2⟩) (xe_6 kx_3) rfl rfl rfl (Nat.le_of_ble_eq_true rfl) dX9_dry_59 (fun r_59 H locs G hw => ?_)
            refine lv_iload_n hx hb dX9_dry_62 rfl (lv_at hl 2 rfl) ?_
            have hw := hw (fun (t0_74 : Int32) => ∀ (ls : Array Slot) (H : Heap) (locs : List Loc), lv_has ls 8 [(0, .ref (ad 0)), (1, .int a1), (2, .int a2), (3, .int a3), (4, .int b4_45), (5, .int b5_45), (7, .int b7_45)] → okW D q A s (wX q ad h) H locs → W p l e R s m args below meth c H locs 0 0 Qm (F0 m 74 ls [.int t0_74])) (by
              intro t0_74 hw ls H locs hl G
              refine lv_istore (lv' := [(6, .int t0_74), (0, .ref (ad 0)), (1, .int a1), (2, .int a2), (3, .int a3), (4, .int b4_45), (5, .int b5_45), (7, .int b7_45)]) hx hb dX9_dry_74 hl (by decide) rfl (fun ls hl => ?_)
              refine lv_iload hx hb dX9_dry_76 (lv_at hl 0 rfl) ?_
              refine lv_iload hx hb dX9_dry_78 (lv_at hl 6 rfl) ?_
              have hw := hw (fun (b4_96 : Int32) (b5_96 : Int32) => ∀ (ls : Array Slot) (H : Heap) (locs : List Loc), lv_has ls 8 [(0, .ref (ad 0)), (1, .int a1), (2, .int a2), (3, .int a3), (4, .int b4_96), (5, .int b5_96), (6, .int t0_74), (7, .int b7_45)] → okW D q A s (wX q ad h) H locs → W p l e R s m args below meth c H locs 0 0 Qm (F0 m 96 ls [])) (by
                intro b4_96 b5_96 hw ls H locs hl G
                obtain ⟨a7_96, ea7_96⟩ : ∃ y : Int32, y = b7_45 + 1 := ⟨_, rfl⟩
                have hw := hw a7_96 ea7_96
                refine lv_iinc (v := a7_96) (lv' := [(7, .int a7_96), (0, .ref (ad 0)), (1, .int a1), (2, .int a2), (3, .int a3), (4, .int b4_96), (5, .int b5_96), (6, .int t0_74)]) hx hb dX9_dry_96 hl (k := 7) rfl (by rw [ea7_96]; rfl) (by decide) rfl (fun ls hl => ?_)
                refine lv_goto (tgt := 45) hx hb dX9_dry_99 (by decide) ?_
                exact hw _ _ _ (lv_sub hl [1, 2, 3, 4, 5, 6, 7, 0] rfl) G)
              refine lv_icmp_le (tgt := 96) hx hb dX9_dry_80 (by decide) (fun c_80 => ?_) (fun c_80 => ?_)
              · have hw := hw.1 c_80
                exact hw _ _ _ (lv_sub hl [1, 2, 3, 4, 5, 6, 0, 7] rfl) G
              · have hw := hw.2 c_80
                refine lv_iload hx hb dX9_dry_83 (lv_at hl 0 rfl) ?_
                refine lv_istore (lv' := [(5, .int t0_74), (6, .int t0_74), (0, .ref (ad 0)), (1, .int a1), (2, .int a2), (3, .int a3), (4, .int b4_45), (7, .int b7_45)]) hx hb dX9_dry_85 hl (by decide) rfl (fun ls hl => ?_)
                refine lv_iload hx hb dX9_dry_87 (lv_at hl 7 rfl) ?_
                refine lv_iload hx hb dX9_dry_89 (lv_at hl 1 rfl) ?_
                refine lv_isub hx hb dX9_dry_91 ?_
                refine lv_iconst (v := 1) hx hb dX9_dry_92 (by decide) ?_
                refine lv_iadd hx hb dX9_dry_93 ?_
                refine lv_topi (fun a4_94 ea4_94 => ?_)
                have hw := hw a4_94 ea4_94
                refine lv_istore (lv' := [(4, .int a4_94), (5, .int t0_74), (6, .int t0_74), (0, .ref (ad 0)), (1, .int a1), (2, .int a2), (3, .int a3), (7, .int b7_45)]) hx hb dX9_dry_94 hl (by decide) rfl (fun ls hl => ?_)
                exact hw _ _ _ (lv_sub hl [3, 4, 5, 6, 0, 1, 2, 7] rfl) G)
            refine lv_icmp_ge (tgt := 73) hx hb dX9_dry_63 (by decide) (fun c_63 => ?_) (fun c_63 => ?_)
            · have hw := hw.1 c_63
              refine lv_iconst (v := 0) hx hb dX9_dry_73 (by decide) ?_
              exact hw _ _ _ (lv_sub hl [0, 1, 2, 3, 4, 5, 7] rfl) G
            · have hw := hw.2 c_63
              refine lv_iload hx hb dX9_dry_66 (lv_at hl 6 rfl) ?_
              refine lv_iconst (v := 1) hx hb dX9_dry_68 (by decide) ?_
              refine lv_iadd hx hb dX9_dry_69 ?_
              refine lv_goto (tgt := 74) hx hb dX9_dry_70 (by decide) ?_
              exact hw _ _ _ (lv_sub hl [0, 1, 2, 3, 4, 5, 7] rfl) G)
        exact hw _ _ _ (lv_sub hl [4, 5, 6, 7, 3, 2, 1, 0] rfl) G
      · have hw := hw.2 c_25
        exact hw _ _ _ (lv_sub hl [0] rfl) G

abbrev rm_X_many : Room := { frames := 2, cells := 0, slots := 0, locals := 42 }
set_option maxHeartbeats 4000000 in
set_option maxRecDepth 100000 in
theorem c_X_many (l : Launch) (D : va_G) (q : Nat → ClassId) (A : Nat → Prop) (ad : Nat → Nat) (a1 : Int32) (a2 : Int32) (a3 : Int32) (a4 : Int32) (h : Hs) (Q : Int32 → Hs → Prop) (hw : p_X_many a1 a2 a3 a4 h Q) : Met l yX9_many (mw yX9_many cX9_many 8 (some .int)) rm_X_many (va_Pc [.ref (ad 0), .int a1, .int a2, .int a3, .int a4] (pW D q A (wX q ad h))) (va_Qi Q (fun h t => pW D q A (wX q ad h) t) A) 0 0 A := by
  refine met_i (Qp := Q) (by decide) (Nat.le_of_ble_eq_true rfl) ?_
  intro p e R s m args below meth c Qm ls hR1 hR2 S RT hl G
  have hx := S.1
  have hb := S.2.1
  have hl : lv_has ls 8 [(0, .ref (ad 0)), (1, .int a1), (2, .int a2), (3, .int a3), (4, .int a4)] := hl
  unfold p_X_many at hw
  refine lv_iload_n hx hb dX9_many_0 rfl (lv_at hl 1 rfl) ?_
  refine x_SzP S hl.1 G (c_X_noKind l D q A ad a1 h _ hw) (cw_X9_103 S.2.2.2.2 ⟨Nat.le_trans (Nat.le_of_ble_eq_true rfl) hR1, Nat.le_trans (Nat.le_of_ble_eq_true rfl) hR2⟩) rfl rfl (Nat.le_of_ble_eq_true rfl) dX9_many_1 (fun r_1 H locs G z_1 hw => ?_)
  have hw := hw (∀ (ls : Array Slot) (H : Heap) (locs : List Loc), lv_has ls 8 [(0, .ref (ad 0))] → okW D q A s (wX q ad h) H locs → W p l e R s m args below meth c H locs 0 0 Qm (F0 m 37 ls [])) (by
    intro hw ls H locs hl G
    refine lv_aload_n hx hb dX9_many_37 rfl (lv_at hl 0 rfl) ?_
    refine x_Vi S hl.1 G (c_X_worse l D q A ad h _ hw) (cw_X9_215 S.2.2.2.2 ⟨Nat.le_trans (Nat.le_of_ble_eq_true rfl) hR1, Nat.le_trans (Nat.le_of_ble_eq_true rfl) hR2⟩) (xe_10 kx_0) rfl rfl rfl (Nat.le_of_ble_eq_true rfl) dX9_many_38 (fun r_38 h_38 H locs G hw => ?_)
    exact RT _ _ _ _ _ _ G hw dX9_many_41)
  refine lv_if_ne (tgt := 37) hx hb dX9_many_4 (by decide) (fun c_4 => ?_) (fun c_4 => ?_)
  · have hw := hw.1 c_4
    exact hw _ _ _ (lv_sub hl [0] rfl) G
  · have hw := hw.2 c_4
    refine lv_iload_n hx hb dX9_many_7 rfl (lv_at hl 2 rfl) ?_
    refine lv_iconst (v := 0) hx hb dX9_many_8 (by decide) ?_
    refine lv_bipush (v := 20) hx hb dX9_many_9 (by decide) ?_
    refine x_SzP S hl.1 G (c_X_outside l D q A ad a2 0 20 h _ hw) (cw_X9_65 S.2.2.2.2 ⟨Nat.le_trans (Nat.le_of_ble_eq_true rfl) hR1, Nat.le_trans (Nat.le_of_ble_eq_true rfl) hR2⟩) rfl rfl (Nat.le_of_ble_eq_true rfl) dX9_many_11 (fun r_11 H locs G z_11 hw => ?_)
    refine lv_if_ne (tgt := 37) hx hb dX9_many_14 (by decide) (fun c_14 => ?_) (fun c_14 => ?_)
    · have hw := hw.1 c_14
      exact hw _ _ _ (lv_sub hl [0] rfl) G
    · have hw := hw.2 c_14
      refine lv_iload_n hx hb dX9_many_17 rfl (lv_at hl 3 rfl) ?_
      refine lv_iconst (v := 1) hx hb dX9_many_18 (by decide) ?_
      refine lv_bipush (v := 120) hx hb dX9_many_19 (by decide) ?_
      refine x_SzP S hl.1 G (c_X_outside l D q A ad a3 1 120 h _ hw) (cw_X9_65 S.2.2.2.2 ⟨Nat.le_trans (Nat.le_of_ble_eq_true rfl) hR1, Nat.le_trans (Nat.le_of_ble_eq_true rfl) hR2⟩) rfl rfl (Nat.le_of_ble_eq_true rfl) dX9_many_21 (fun r_21 H locs G z_21 hw => ?_)
      refine lv_if_ne (tgt := 37) hx hb dX9_many_24 (by decide) (fun c_24 => ?_) (fun c_24 => ?_)
      · have hw := hw.1 c_24
        exact hw _ _ _ (lv_sub hl [0] rfl) G
      · have hw := hw.2 c_24
        refine lv_iload hx hb dX9_many_27 (lv_at hl 4 rfl) ?_
        refine lv_iconst (v := 0) hx hb dX9_many_29 (by decide) ?_
        refine lv_iconst (v := 1) hx hb dX9_many_30 (by decide) ?_
        refine x_SzP S hl.1 G (c_X_outside l D q A ad a4 0 1 h _ hw) (cw_X9_65 S.2.2.2.2 ⟨Nat.le_trans (Nat.le_of_ble_eq_true rfl) hR1, Nat.le_trans (Nat.le_of_ble_eq_true rfl) hR2⟩) rfl rfl (Nat.le_of_ble_eq_true rfl) dX9_many_31 (fun r_31 H locs G z_31 hw => ?_)
        refine lv_if_eq (tgt := 42) hx hb dX9_many_34 (by decide) (fun c_34 => ?_) (fun c_34 => ?_)
        · have hw := hw.1 c_34
          refine lv_aload_n hx hb dX9_many_42 rfl (lv_at hl 0 rfl) ?_
          refine x_get (C := RX9) (T := TX9) (n := 12) S G inX9 (xe_10 kx_0) rfl 2 (by decide) kf_X9_27 rfl dX9_many_43 ?_
          refine x_get (C := RX5) (T := TX5) (n := 17) S G inX5 (xe_6 kx_3) rfl 8 (by decide) kf_X9_107 rfl dX9_many_46 ?_
          refine lv_iload_n hx hb dX9_many_49 rfl (lv_at hl 1 rfl) ?_
          obtain ⟨i_50, hw⟩ := hw
          refine x_aald (k := a1.toNatClampNeg) S G 2 (xe_22 kx_8 lx_8) rfl rfl i_50 rfl (if_pos (vpl i_50)) dX9_many_50 ?_
          refine lv_iconst (v := 0) hx hb dX9_many_51 (by decide) ?_
          refine x_iald (k := 0) S G (xe_20 (kxe_8 _ (vpl i_50)) (lxe_8 _ (vpl i_50))) (vpi (by decide)) rfl rfl dX9_many_52 ?_
          refine lv_topi (fun a5_53 ea5_53 => ?_)
          have hw := hw a5_53 ea5_53
          refine lv_istore (lv' := [(5, .int a5_53), (0, .ref (ad 0)), (1, .int a1), (2, .int a2), (3, .int a3), (4, .int a4)]) hx hb dX9_many_53 hl (by decide) rfl (fun ls hl => ?_)
          refine lv_iload_n hx hb dX9_many_55 rfl (lv_at hl 3 rfl) ?_
          refine lv_iload hx hb dX9_many_56 (lv_at hl 0 rfl) ?_
          refine lv_imul hx hb dX9_many_58 ?_
          refine lv_iload_n hx hb dX9_many_59 rfl (lv_at hl 4 rfl) ?_
          refine lv_iadd hx hb dX9_many_60 ?_
          refine lv_iconst (v := 1) hx hb dX9_many_61 (by decide) ?_
          refine lv_isub hx hb dX9_many_62 ?_
          refine lv_iload_n hx hb dX9_many_63 rfl (lv_at hl 4 rfl) ?_
          obtain ⟨n_64, hw⟩ := hw
          refine lv_idiv hx hb dX9_many_64 n_64 ?_
          refine lv_topi (fun a6_65 ea6_65 => ?_)
          have hw := hw a6_65 ea6_65
          refine lv_istore (lv' := [(6, .int a6_65), (5, .int a5_53), (0, .ref (ad 0)), (1, .int a1), (2, .int a2), (3, .int a3), (4, .int a4)]) hx hb dX9_many_65 hl (by decide) rfl (fun ls hl => ?_)
          refine lv_iload_n hx hb dX9_many_67 rfl (lv_at hl 4 rfl) ?_
          refine lv_iconst (v := 1) hx hb dX9_many_68 (by decide) ?_
          refine lv_iadd hx hb dX9_many_69 ?_
          refine lv_iload hx hb dX9_many_70 (lv_at hl 1 rfl) ?_
          refine lv_imul hx hb dX9_many_72 ?_
          refine lv_iconst (v := 1) hx hb dX9_many_73 (by decide) ?_
          refine lv_isub hx hb dX9_many_74 ?_
          refine lv_iload_n hx hb dX9_many_75 rfl (lv_at hl 5 rfl) ?_
          obtain ⟨n_76, hw⟩ := hw
          refine lv_idiv hx hb dX9_many_76 n_76 ?_
          refine lv_sipush (v := 999) hx hb dX9_many_77 (by decide) ?_
          refine va_mmin hx hb (S.2.2.1.trans hl.1.symm) S.2.2.2.1 (S.2.2.2.2 _ km_X9_218) (S.2.2.2.2 _ kt_J9_min_7cf53) (S.2.2.2.2 _ kn_J9) (S.2.2.2.2 _ kk_J9_min_7cf53) (Nat.le_trans (Nat.le_of_ble_eq_true rfl) hR1) (Nat.le_trans (Nat.le_of_ble_eq_true rfl) hR2) (Nat.zero_le _) (Nat.zero_le _) dX9_many_80 ?_
          refine lv_topi (fun a7_83 ea7_83 => ?_)
          have hw := hw a7_83 ea7_83
          refine lv_istore (lv' := [(7, .int a7_83), (6, .int a6_65), (5, .int a5_53), (0, .ref (ad 0)), (1, .int a1), (2, .int a2), (3, .int a3), (4, .int a4)]) hx hb dX9_many_83 hl (by decide) rfl (fun ls hl => ?_)
          refine lv_iload hx hb dX9_many_85 (lv_at hl 1 rfl) ?_
          refine lv_iload hx hb dX9_many_87 (lv_at hl 0 rfl) ?_
          refine lv_icmp_le (tgt := 94) hx hb dX9_many_89 (by decide) (fun c_89 => ?_) (fun c_89 => ?_)
          · have hw := hw.1 c_89
            refine lv_iload hx hb dX9_many_94 (lv_at hl 7 rfl) ?_
            have hw := hw (fun (t0_106 : Int32) => ∀ (ls : Array Slot) (H : Heap) (locs : List Loc), lv_has ls 8 [] → okW D q A s (wX q ad h) H locs → W p l e R s m args below meth c H locs 0 0 Qm (F0 m 106 ls [.int t0_106])) (by
              intro t0_106 hw ls H locs hl G
              exact RT _ _ _ _ _ _ G hw dX9_many_106)
            refine lv_if_ne (tgt := 104) hx hb dX9_many_96 (by decide) (fun c_96 => ?_) (fun c_96 => ?_)
            · have hw := hw.1 c_96
              refine lv_iload hx hb dX9_many_104 (lv_at hl 0 rfl) ?_
              exact hw _ _ _ (lv_sub hl [] rfl) G
            · have hw := hw.2 c_96
              refine lv_iload hx hb dX9_many_99 (lv_at hl 1 rfl) ?_
              refine lv_goto (tgt := 106) hx hb dX9_many_101 (by decide) ?_
              exact hw _ _ _ (lv_sub hl [] rfl) G
          · have hw := hw.2 c_89
            refine lv_iconst (v := (-1)) hx hb dX9_many_92 (by decide) ?_
            exact RT _ _ _ _ _ _ G hw dX9_many_93
        · have hw := hw.2 c_34
          exact hw _ _ _ (lv_sub hl [0] rfl) G

abbrev rm_X_rightLetters : Room := { frames := 0, cells := 0, slots := 0, locals := 0 }
set_option maxHeartbeats 4000000 in
set_option maxRecDepth 100000 in
theorem c_X_rightLetters (l : Launch) (D : va_G) (q : Nat → ClassId) (A : Nat → Prop) (ad : Nat → Nat) (a0 : Int32) (a1 : Int32) (a2 : Int32) (h : Hs) (Q : Int64 → Prop) (hw : p_X_rightLetters a0 a1 a2 h Q) : Met l yX9_rightLetters (mw yX9_rightLetters cX9_rightLetters 6 (some .long)) rm_X_rightLetters (va_Pc [.int a0, .int a1, .int a2] (pW D q A (wX q ad h))) (va_Ql (fun r h9 => h9 = h ∧ Q r) (fun h t => pW D q A (wX q ad h) t) A) 0 0 A := by
  refine met_l (Qp := (fun r h9 => h9 = h ∧ Q r)) (by decide) (Nat.le_of_ble_eq_true rfl) ?_
  intro p e R s m args below meth c Qm ls hR1 hR2 S RT hl G
  have hx := S.1
  have hb := S.2.1
  have hl : lv_has ls 6 [(0, .int a0), (1, .int a1), (2, .int a2)] := hl
  unfold p_X_rightLetters at hw
  refine lv_lconst (v := 1) hx hb dX9_rightLetters_0 (by decide) ?_
  refine lv_lstore_n (lv' := [(3, .long 1), (0, .int a0), (1, .int a1), (2, .int a2)]) hx hb dX9_rightLetters_1 rfl hl (by decide) rfl (fun ls hl => ?_)
  refine lv_iconst (v := 0) hx hb dX9_rightLetters_2 (by decide) ?_
  refine lv_istore (lv' := [(5, .int 0), (3, .long 1), (0, .int a0), (1, .int a1), (2, .int a2)]) hx hb dX9_rightLetters_3 hl (by decide) rfl (fun ls hl => ?_)
  have hw := hw (fun (b3_5 : Int64) (b5_5 : Int32) => ∀ (ls : Array Slot) (H : Heap) (locs : List Loc), lv_has ls 6 [(0, .int a0), (1, .int a1), (2, .int a2), (3, .long b3_5), (5, .int b5_5)] → okW D q A s (wX q ad h) H locs → W p l e R s m args below meth c H locs 0 0 Qm (F0 m 5 ls [])) (by
    intro b3_5 b5_5 hw ls H locs hl G
    refine lv_iload hx hb dX9_rightLetters_5 (lv_at hl 4 rfl) ?_
    refine lv_iload_n hx hb dX9_rightLetters_7 rfl (lv_at hl 0 rfl) ?_
    refine lv_icmp_ge (tgt := 36) hx hb dX9_rightLetters_8 (by decide) (fun c_8 => ?_) (fun c_8 => ?_)
    · have hw := hw.1 c_8
      refine lv_lload_n hx hb dX9_rightLetters_36 rfl (lv_at hl 3 rfl) ?_
      exact RT _ _ _ _ _ _ G ⟨rfl, hw⟩ dX9_rightLetters_37
    · have hw := hw.2 c_8
      refine lv_lload_n hx hb dX9_rightLetters_11 rfl (lv_at hl 3 rfl) ?_
      refine lv_iload hx hb dX9_rightLetters_12 (lv_at hl 4 rfl) ?_
      refine lv_iload_n hx hb dX9_rightLetters_14 rfl (lv_at hl 1 rfl) ?_
      have hw := hw (fun (t1_28 : Int64) => ∀ (ls : Array Slot) (H : Heap) (locs : List Loc), lv_has ls 6 [(0, .int a0), (1, .int a1), (2, .int a2), (5, .int b5_5)] → okW D q A s (wX q ad h) H locs → W p l e R s m args below meth c H locs 0 0 Qm (F0 m 28 ls [.long t1_28, .long b3_5])) (by
        intro t1_28 hw ls H locs hl G
        refine lv_lmul hx hb dX9_rightLetters_28 ?_
        refine lv_topl (fun a3_29 ea3_29 => ?_)
        have hw := hw a3_29 ea3_29
        refine lv_lstore_n (lv' := [(3, .long a3_29), (0, .int a0), (1, .int a1), (2, .int a2), (5, .int b5_5)]) hx hb dX9_rightLetters_29 rfl hl (by decide) rfl (fun ls hl => ?_)
        obtain ⟨a5_30, ea5_30⟩ : ∃ y : Int32, y = b5_5 + 1 := ⟨_, rfl⟩
        have hw := hw a5_30 ea5_30
        refine lv_iinc (v := a5_30) (lv' := [(5, .int a5_30), (3, .long a3_29), (0, .int a0), (1, .int a1), (2, .int a2)]) hx hb dX9_rightLetters_30 hl (k := 4) rfl (by rw [ea5_30]; rfl) (by decide) rfl (fun ls hl => ?_)
        refine lv_goto (tgt := 5) hx hb dX9_rightLetters_33 (by decide) ?_
        exact hw _ _ _ (lv_sub hl [2, 3, 4, 1, 0] rfl) G)
      refine lv_icmp_ge (tgt := 23) hx hb dX9_rightLetters_15 (by decide) (fun c_15 => ?_) (fun c_15 => ?_)
      · have hw := hw.1 c_15
        refine lv_bipush (v := 10) hx hb dX9_rightLetters_23 (by decide) ?_
        refine lv_iload_n hx hb dX9_rightLetters_25 rfl (lv_at hl 2 rfl) ?_
        refine lv_isub hx hb dX9_rightLetters_26 ?_
        refine lv_i2l hx hb dX9_rightLetters_27 rfl ?_
        exact hw _ _ _ (lv_sub hl [0, 1, 2, 4] rfl) G
      · have hw := hw.2 c_15
        refine lv_iload_n hx hb dX9_rightLetters_18 rfl (lv_at hl 2 rfl) ?_
        refine lv_i2l hx hb dX9_rightLetters_19 rfl ?_
        refine lv_goto (tgt := 28) hx hb dX9_rightLetters_20 (by decide) ?_
        exact hw _ _ _ (lv_sub hl [0, 1, 2, 4] rfl) G)
  exact hw _ _ _ (lv_sub hl [2, 3, 4, 1, 0] rfl) G
theorem cw_X9_223 {R : Room} {s : State} {args : Array Value} (hts : ∀ w ∈ gW, w.before args s = true) (hR : rm_X_rightLetters.frames + 1 ≤ R.frames ∧ 8 + (6 + 11) + rm_X_rightLetters.locals ≤ R.locals) : CallB R s args RX9 223 yX9_rightLetters cX9_rightLetters 6 (some .long) (mw yX9_rightLetters cX9_rightLetters 6 (some .long)) rm_X_rightLetters 0 0 3 ∧ (Cond.static yX9_rightLetters).before args s = true := cwS9 hts km_X9_223 kt_X9_rightLetters kn_X9 kk_X9_rightLetters rfl rfl (by decide +kernel) hR
abbrev rm_X_stone : Room := { frames := 5, cells := 0, slots := 0, locals := 121 }
set_option maxHeartbeats 4000000 in
set_option maxRecDepth 100000 in
theorem c_X_stone (l : Launch) (D : va_G) (q : Nat → ClassId) (A : Nat → Prop) (ad : Nat → Nat) (a1 : Int32) (a2 : Int32) (a3 : Int32) (a4 : Int32) (a5 : Int32) (h : Hs) (Q : Int32 → Hs → Prop) (hw : p_X_stone a1 a2 a3 a4 a5 h Q) : Met l yX9_stone (mw yX9_stone cX9_stone 10 (some .int)) rm_X_stone (va_Pc [.ref (ad 0), .int a1, .int a2, .int a3, .int a4, .int a5] (pW D q A (wX q ad h))) (va_Qi Q (fun h t => pW D q A (wX q ad h) t) A) 0 0 A := by
  refine met_i (Qp := Q) (by decide) (Nat.le_of_ble_eq_true rfl) ?_
  intro p e R s m args below meth c Qm ls hR1 hR2 S RT hl G
  have hx := S.1
  have hb := S.2.1
  have hl : lv_has ls 10 [(0, .ref (ad 0)), (1, .int a1), (2, .int a2), (3, .int a3), (4, .int a4), (5, .int a5)] := hl
  unfold p_X_stone at hw
  refine lv_iload_n hx hb dX9_stone_0 rfl (lv_at hl 1 rfl) ?_
  refine lv_iconst (v := 0) hx hb dX9_stone_1 (by decide) ?_
  refine lv_bipush (v := 10) hx hb dX9_stone_2 (by decide) ?_
  refine x_SzP S hl.1 G (c_X_outside l D q A ad a1 0 10 h _ hw) (cw_X9_65 S.2.2.2.2 ⟨Nat.le_trans (Nat.le_of_ble_eq_true rfl) hR1, Nat.le_trans (Nat.le_of_ble_eq_true rfl) hR2⟩) rfl rfl (Nat.le_of_ble_eq_true rfl) dX9_stone_4 (fun r_4 H locs G z_4 hw => ?_)
  have hw := hw (∀ (ls : Array Slot) (H : Heap) (locs : List Loc), lv_has ls 10 [(0, .ref (ad 0))] → okW D q A s (wX q ad h) H locs → W p l e R s m args below meth c H locs 0 0 Qm (F0 m 29 ls [])) (by
    intro hw ls H locs hl G
    refine lv_aload_n hx hb dX9_stone_29 rfl (lv_at hl 0 rfl) ?_
    refine x_Vi S hl.1 G (c_X_bad l D q A ad h _ hw) (cw_X9_69 S.2.2.2.2 ⟨Nat.le_trans (Nat.le_of_ble_eq_true rfl) hR1, Nat.le_trans (Nat.le_of_ble_eq_true rfl) hR2⟩) (xe_10 kx_0) rfl rfl rfl (Nat.le_of_ble_eq_true rfl) dX9_stone_30 (fun r_30 h_30 H locs G hw => ?_)
    exact RT _ _ _ _ _ _ G hw dX9_stone_33)
  refine lv_if_ne (tgt := 29) hx hb dX9_stone_7 (by decide) (fun c_7 => ?_) (fun c_7 => ?_)
  · have hw := hw.1 c_7
    exact hw _ _ _ (lv_sub hl [0] rfl) G
  · have hw := hw.2 c_7
    refine lv_iload_n hx hb dX9_stone_10 rfl (lv_at hl 2 rfl) ?_
    refine lv_iconst (v := 1) hx hb dX9_stone_11 (by decide) ?_
    refine lv_bipush (v := 12) hx hb dX9_stone_12 (by decide) ?_
    refine x_SzP S hl.1 G (c_X_outside l D q A ad a2 1 12 h _ hw) (cw_X9_65 S.2.2.2.2 ⟨Nat.le_trans (Nat.le_of_ble_eq_true rfl) hR1, Nat.le_trans (Nat.le_of_ble_eq_true rfl) hR2⟩) rfl rfl (Nat.le_of_ble_eq_true rfl) dX9_stone_14 (fun r_14 H locs G z_14 hw => ?_)
    refine lv_if_ne (tgt := 29) hx hb dX9_stone_17 (by decide) (fun c_17 => ?_) (fun c_17 => ?_)
    · have hw := hw.1 c_17
      exact hw _ _ _ (lv_sub hl [0] rfl) G
    · have hw := hw.2 c_17
      refine lv_iload_n hx hb dX9_stone_20 rfl (lv_at hl 3 rfl) ?_
      refine lv_iconst (v := 0) hx hb dX9_stone_21 (by decide) ?_
      refine lv_iload_n hx hb dX9_stone_22 rfl (lv_at hl 2 rfl) ?_
      refine x_SzP S hl.1 G (c_X_outside l D q A ad a3 0 a2 h _ hw) (cw_X9_65 S.2.2.2.2 ⟨Nat.le_trans (Nat.le_of_ble_eq_true rfl) hR1, Nat.le_trans (Nat.le_of_ble_eq_true rfl) hR2⟩) rfl rfl (Nat.le_of_ble_eq_true rfl) dX9_stone_23 (fun r_23 H locs G z_23 hw => ?_)
      refine lv_if_eq (tgt := 34) hx hb dX9_stone_26 (by decide) (fun c_26 => ?_) (fun c_26 => ?_)
      · have hw := hw.1 c_26
        refine lv_iload hx hb dX9_stone_34 (lv_at hl 4 rfl) ?_
        refine lv_iconst (v := 1) hx hb dX9_stone_36 (by decide) ?_
        refine lv_bipush (v := 9) hx hb dX9_stone_37 (by decide) ?_
        refine x_SzP S hl.1 G (c_X_outside l D q A ad a4 1 9 h _ hw) (cw_X9_65 S.2.2.2.2 ⟨Nat.le_trans (Nat.le_of_ble_eq_true rfl) hR1, Nat.le_trans (Nat.le_of_ble_eq_true rfl) hR2⟩) rfl rfl (Nat.le_of_ble_eq_true rfl) dX9_stone_39 (fun r_39 H locs G z_39 hw => ?_)
        have hw := hw (∀ (ls : Array Slot) (H : Heap) (locs : List Loc), lv_has ls 10 [(0, .ref (ad 0))] → okW D q A s (wX q ad h) H locs → W p l e R s m args below meth c H locs 0 0 Qm (F0 m 56 ls [])) (by
          intro hw ls H locs hl G
          refine lv_aload_n hx hb dX9_stone_56 rfl (lv_at hl 0 rfl) ?_
          refine x_Vi S hl.1 G (c_X_bad l D q A ad h _ hw) (cw_X9_69 S.2.2.2.2 ⟨Nat.le_trans (Nat.le_of_ble_eq_true rfl) hR1, Nat.le_trans (Nat.le_of_ble_eq_true rfl) hR2⟩) (xe_10 kx_0) rfl rfl rfl (Nat.le_of_ble_eq_true rfl) dX9_stone_57 (fun r_57 h_57 H locs G hw => ?_)
          exact RT _ _ _ _ _ _ G hw dX9_stone_60)
        refine lv_if_ne (tgt := 56) hx hb dX9_stone_42 (by decide) (fun c_42 => ?_) (fun c_42 => ?_)
        · have hw := hw.1 c_42
          exact hw _ _ _ (lv_sub hl [0] rfl) G
        · have hw := hw.2 c_42
          refine lv_iload hx hb dX9_stone_45 (lv_at hl 5 rfl) ?_
          refine lv_iconst (v := 1) hx hb dX9_stone_47 (by decide) ?_
          refine lv_bipush (v := 9) hx hb dX9_stone_48 (by decide) ?_
          refine x_SzP S hl.1 G (c_X_outside l D q A ad a5 1 9 h _ hw) (cw_X9_65 S.2.2.2.2 ⟨Nat.le_trans (Nat.le_of_ble_eq_true rfl) hR1, Nat.le_trans (Nat.le_of_ble_eq_true rfl) hR2⟩) rfl rfl (Nat.le_of_ble_eq_true rfl) dX9_stone_50 (fun r_50 H locs G z_50 hw => ?_)
          refine lv_if_eq (tgt := 61) hx hb dX9_stone_53 (by decide) (fun c_53 => ?_) (fun c_53 => ?_)
          · have hw := hw.1 c_53
            refine lv_iload_n hx hb dX9_stone_61 rfl (lv_at hl 1 rfl) ?_
            refine lv_i2l hx hb dX9_stone_62 rfl ?_
            refine lv_iload_n hx hb dX9_stone_63 rfl (lv_at hl 2 rfl) ?_
            refine lv_iload_n hx hb dX9_stone_64 rfl (lv_at hl 3 rfl) ?_
            refine lv_iload hx hb dX9_stone_65 (lv_at hl 5 rfl) ?_
            refine x_SlP S hl.1 G (c_X_rightLetters l D q A ad a2 a3 a5 h _ hw) (cw_X9_223 S.2.2.2.2 ⟨Nat.le_trans (Nat.le_of_ble_eq_true rfl) hR1, Nat.le_trans (Nat.le_of_ble_eq_true rfl) hR2⟩) rfl rfl (Nat.le_of_ble_eq_true rfl) dX9_stone_67 (fun r_67 H locs G hw => ?_)
            refine lv_lmul hx hb dX9_stone_70 ?_
            refine lv_topl (fun a6_71 ea6_71 => ?_)
            have hw := hw a6_71 ea6_71
            refine lv_lstore (lv' := [(6, .long a6_71), (0, .ref (ad 0)), (1, .int a1), (2, .int a2), (3, .int a3), (4, .int a4), (5, .int a5)]) hx hb dX9_stone_71 hl (by decide) rfl (fun ls hl => ?_)
            refine lv_bipush (v := 10) hx hb dX9_stone_73 (by decide) ?_
            refine lv_iload_n hx hb dX9_stone_75 rfl (lv_at hl 2 rfl) ?_
            refine lv_isub hx hb dX9_stone_76 ?_
            refine lv_i2l hx hb dX9_stone_77 rfl ?_
            refine lv_iload_n hx hb dX9_stone_78 rfl (lv_at hl 3 rfl) ?_
            refine lv_iload_n hx hb dX9_stone_79 rfl (lv_at hl 4 rfl) ?_
            refine lv_iload hx hb dX9_stone_80 (lv_at hl 5 rfl) ?_
            refine x_SlP S hl.1 G (c_X_rightLetters l D q A ad a2 a3 a4 h _ hw) (cw_X9_223 S.2.2.2.2 ⟨Nat.le_trans (Nat.le_of_ble_eq_true rfl) hR1, Nat.le_trans (Nat.le_of_ble_eq_true rfl) hR2⟩) rfl rfl (Nat.le_of_ble_eq_true rfl) dX9_stone_82 (fun r_82 H locs G hw => ?_)
            refine lv_lmul hx hb dX9_stone_85 ?_
            refine lv_topl (fun a8_86 ea8_86 => ?_)
            have hw := hw a8_86 ea8_86
            refine lv_lstore (lv' := [(8, .long a8_86), (6, .long a6_71), (0, .ref (ad 0)), (1, .int a1), (2, .int a2), (3, .int a3), (4, .int a4), (5, .int a5)]) hx hb dX9_stone_86 hl (by decide) rfl (fun ls hl => ?_)
            refine lv_aload_n hx hb dX9_stone_88 rfl (lv_at hl 2 rfl) ?_
            refine x_get (C := RX9) (T := TX9) (n := 12) S G inX9 (xe_10 kx_0) rfl 7 (by decide) kf_X9_57 rfl dX9_stone_89 ?_
            refine lv_lload hx hb dX9_stone_92 (lv_at hl 1 rfl) ?_
            refine x_Vv S hl.1 G (c_Big_become l D q A ad 420 a6_71 kx_420 h _ hw) (cw_X9_227 S.2.2.2.2 ⟨Nat.le_trans (Nat.le_of_ble_eq_true rfl) hR1, Nat.le_trans (Nat.le_of_ble_eq_true rfl) hR2⟩) (xe_1 kx_420) rfl rfl rfl (Nat.le_of_ble_eq_true rfl) dX9_stone_94 (fun h_94 H locs G hw => ?_)
            refine lv_aload_n hx hb dX9_stone_97 rfl (lv_at hl 2 rfl) ?_
            refine x_get (C := RX9) (T := TX9) (n := 12) S G inX9 (xe_10 kx_0) rfl 8 (by decide) kf_X9_61 rfl dX9_stone_98 ?_
            refine lv_lload hx hb dX9_stone_101 (lv_at hl 1 rfl) ?_
            refine lv_lload hx hb dX9_stone_103 (lv_at hl 0 rfl) ?_
            refine lv_ladd hx hb dX9_stone_105 ?_
            refine x_Vv S hl.1 G (c_Big_become l D q A ad 422 (a6_71 + a8_86) kx_422 h_94 _ hw) (cw_X9_227 S.2.2.2.2 ⟨Nat.le_trans (Nat.le_of_ble_eq_true rfl) hR1, Nat.le_trans (Nat.le_of_ble_eq_true rfl) hR2⟩) (xe_1 kx_422) rfl rfl rfl (Nat.le_of_ble_eq_true rfl) dX9_stone_106 (fun h_106 H locs G hw => ?_)
            refine lv_aload_n hx hb dX9_stone_109 rfl (lv_at hl 2 rfl) ?_
            refine x_get (C := RX9) (T := TX9) (n := 12) S G inX9 (xe_10 kx_0) rfl 5 (by decide) kf_X9_41 rfl dX9_stone_110 ?_
            refine lv_aload_n hx hb dX9_stone_113 rfl (lv_at hl 2 rfl) ?_
            refine x_get (C := RX9) (T := TX9) (n := 12) S G inX9 (xe_10 kx_0) rfl 7 (by decide) kf_X9_57 rfl dX9_stone_114 ?_
            refine lv_aload_n hx hb dX9_stone_117 rfl (lv_at hl 2 rfl) ?_
            refine x_get (C := RX9) (T := TX9) (n := 12) S G inX9 (xe_10 kx_0) rfl 8 (by decide) kf_X9_61 rfl dX9_stone_118 ?_
            refine x_Vv S hl.1 G (c_Fraction_become l D q A ad 420 422 kx_420 kx_422 h_106 _ hw) (cw_X9_231 S.2.2.2.2 ⟨Nat.le_trans (Nat.le_of_ble_eq_true rfl) hR1, Nat.le_trans (Nat.le_of_ble_eq_true rfl) hR2⟩) (xe_3 kx_406) rfl rfl rfl (Nat.le_of_ble_eq_true rfl) dX9_stone_121 (fun h_121 H locs G hw => ?_)
            refine lv_iconst (v := 1) hx hb dX9_stone_124 (by decide) ?_
            exact RT _ _ _ _ _ _ G hw dX9_stone_125
          · have hw := hw.2 c_53
            exact hw _ _ _ (lv_sub hl [0] rfl) G
      · have hw := hw.2 c_26
        exact hw _ _ _ (lv_sub hl [0] rfl) G

abbrev rm_X_days : Room := { frames := 2, cells := 0, slots := 0, locals := 44 }
set_option maxHeartbeats 4000000 in
set_option maxRecDepth 100000 in
theorem c_X_days (l : Launch) (D : va_G) (q : Nat → ClassId) (A : Nat → Prop) (ad : Nat → Nat) (a1 : Int32) (a2 : Int32) (a3 : Int32) (h : Hs) (Q : Int32 → Hs → Prop) (hw : p_X_days a1 a2 a3 h Q) : Met l yX9_days (mw yX9_days cX9_days 4 (some .int)) rm_X_days (va_Pc [.ref (ad 0), .int a1, .int a2, .int a3] (pW D q A (wX q ad h))) (va_Qi Q (fun h t => pW D q A (wX q ad h) t) A) 0 0 A := by
  refine met_i (Qp := Q) (by decide) (Nat.le_of_ble_eq_true rfl) ?_
  intro p e R s m args below meth c Qm ls hR1 hR2 S RT hl G
  have hx := S.1
  have hb := S.2.1
  have hl : lv_has ls 4 [(0, .ref (ad 0)), (1, .int a1), (2, .int a2), (3, .int a3)] := hl
  unfold p_X_days at hw
  refine lv_aload_n hx hb dX9_days_0 rfl (lv_at hl 0 rfl) ?_
  refine lv_iload_n hx hb dX9_days_1 rfl (lv_at hl 1 rfl) ?_
  refine x_VzP S hl.1 G (c_X_noPlace l D q A ad a1 h _ hw) (cw_X9_135 S.2.2.2.2 ⟨Nat.le_trans (Nat.le_of_ble_eq_true rfl) hR1, Nat.le_trans (Nat.le_of_ble_eq_true rfl) hR2⟩) (xe_10 kx_0) rfl rfl rfl (Nat.le_of_ble_eq_true rfl) dX9_days_2 (fun r_2 H locs G z_2 hw => ?_)
  have hw := hw (∀ (ls : Array Slot) (H : Heap) (locs : List Loc), lv_has ls 4 [(0, .ref (ad 0))] → okW D q A s (wX q ad h) H locs → W p l e R s m args below meth c H locs 0 0 Qm (F0 m 31 ls [])) (by
    intro hw ls H locs hl G
    refine lv_aload_n hx hb dX9_days_31 rfl (lv_at hl 0 rfl) ?_
    refine x_Vi S hl.1 G (c_X_bad l D q A ad h _ hw) (cw_X9_69 S.2.2.2.2 ⟨Nat.le_trans (Nat.le_of_ble_eq_true rfl) hR1, Nat.le_trans (Nat.le_of_ble_eq_true rfl) hR2⟩) (xe_10 kx_0) rfl rfl rfl (Nat.le_of_ble_eq_true rfl) dX9_days_32 (fun r_32 h_32 H locs G hw => ?_)
    exact RT _ _ _ _ _ _ G hw dX9_days_35)
  refine lv_if_ne (tgt := 31) hx hb dX9_days_5 (by decide) (fun c_5 => ?_) (fun c_5 => ?_)
  · have hw := hw.1 c_5
    exact hw _ _ _ (lv_sub hl [0] rfl) G
  · have hw := hw.2 c_5
    refine lv_aload_n hx hb dX9_days_8 rfl (lv_at hl 0 rfl) ?_
    refine lv_iload_n hx hb dX9_days_9 rfl (lv_at hl 2 rfl) ?_
    refine x_VzP S hl.1 G (c_X_noPlace l D q A ad a2 h _ hw) (cw_X9_135 S.2.2.2.2 ⟨Nat.le_trans (Nat.le_of_ble_eq_true rfl) hR1, Nat.le_trans (Nat.le_of_ble_eq_true rfl) hR2⟩) (xe_10 kx_0) rfl rfl rfl (Nat.le_of_ble_eq_true rfl) dX9_days_10 (fun r_10 H locs G z_10 hw => ?_)
    refine lv_if_ne (tgt := 31) hx hb dX9_days_13 (by decide) (fun c_13 => ?_) (fun c_13 => ?_)
    · have hw := hw.1 c_13
      exact hw _ _ _ (lv_sub hl [0] rfl) G
    · have hw := hw.2 c_13
      refine lv_iload_n hx hb dX9_days_16 rfl (lv_at hl 1 rfl) ?_
      refine lv_iload_n hx hb dX9_days_17 rfl (lv_at hl 2 rfl) ?_
      refine lv_icmp_eq (tgt := 31) hx hb dX9_days_18 (by decide) (fun c_18 => ?_) (fun c_18 => ?_)
      · have hw := hw.1 c_18
        exact hw _ _ _ (lv_sub hl [0] rfl) G
      · have hw := hw.2 c_18
        refine lv_iload_n hx hb dX9_days_21 rfl (lv_at hl 3 rfl) ?_
        refine lv_iconst (v := 0) hx hb dX9_days_22 (by decide) ?_
        refine lv_bipush (v := 20) hx hb dX9_days_23 (by decide) ?_
        refine x_SzP S hl.1 G (c_X_outside l D q A ad a3 0 20 h _ hw) (cw_X9_65 S.2.2.2.2 ⟨Nat.le_trans (Nat.le_of_ble_eq_true rfl) hR1, Nat.le_trans (Nat.le_of_ble_eq_true rfl) hR2⟩) rfl rfl (Nat.le_of_ble_eq_true rfl) dX9_days_25 (fun r_25 H locs G z_25 hw => ?_)
        refine lv_if_eq (tgt := 36) hx hb dX9_days_28 (by decide) (fun c_28 => ?_) (fun c_28 => ?_)
        · have hw := hw.1 c_28
          refine lv_aload_n hx hb dX9_days_36 rfl (lv_at hl 0 rfl) ?_
          refine x_get (C := RX9) (T := TX9) (n := 12) S G inX9 (xe_10 kx_0) rfl 2 (by decide) kf_X9_27 rfl dX9_days_37 ?_
          refine x_get (C := RX5) (T := TX5) (n := 17) S G inX5 (xe_6 kx_3) rfl 15 (by decide) kf_X9_234 rfl dX9_days_40 ?_
          refine lv_iload_n hx hb dX9_days_43 rfl (lv_at hl 2 rfl) ?_
          obtain ⟨i_44, hw⟩ := hw
          refine x_aald (k := a2.toNatClampNeg) S G 2 (xe_22 kx_35 lx_35) rfl rfl i_44 rfl (if_pos (vpl i_44)) dX9_days_44 ?_
          refine lv_iload_n hx hb dX9_days_45 rfl (lv_at hl 1 rfl) ?_
          refine lv_iload_n hx hb dX9_days_46 rfl (lv_at hl 3 rfl) ?_
          obtain ⟨i_47, hw⟩ := hw
          refine x_iast (k := a1.toNatClampNeg) S G (xe_20 (kxe_35 _ (vpl i_44)) (lxe_35 _ (vpl i_44))) i_47 rfl (xs_20 (kxe_35 _ (vpl i_44)) (lxe_35 _ (vpl i_44))) dX9_days_47 (fun H locs G => ?_)
          obtain ⟨h_47, eh_47⟩ : ∃ y : Hs, y = si h (35 + 1 + 1 * a2.toNatClampNeg) a1.toNatClampNeg a3 := ⟨_, rfl⟩
          rw [← eh_47] at G
          have hw := hw h_47 eh_47
          refine lv_aload_n hx hb dX9_days_48 rfl (lv_at hl 0 rfl) ?_
          refine lv_aload_n hx hb dX9_days_49 rfl (lv_at hl 0 rfl) ?_
          refine x_get (C := RX9) (T := TX9) (n := 12) S G inX9 (xe_10 kx_0) rfl 2 (by decide) kf_X9_27 rfl dX9_days_50 ?_
          refine x_get (C := RX5) (T := TX5) (n := 17) S G inX5 (xe_6 kx_3) rfl 15 (by decide) kf_X9_234 rfl dX9_days_53 ?_
          refine lv_iload_n hx hb dX9_days_56 rfl (lv_at hl 1 rfl) ?_
          obtain ⟨i_57, hw⟩ := hw
          refine x_aald (k := a1.toNatClampNeg) S G 2 (xe_22 kx_35 lx_35) rfl rfl i_57 rfl (if_pos (vpl i_57)) dX9_days_57 ?_
          refine lv_iload_n hx hb dX9_days_58 rfl (lv_at hl 2 rfl) ?_
          refine lv_iload_n hx hb dX9_days_59 rfl (lv_at hl 3 rfl) ?_
          refine x_Vi S hl.1 G (c_X_exchange l D q A ad (35 + 1 + 1 * a1.toNatClampNeg) a2 a3 (kxe_35 _ (vpl i_57)) h_47 _ hw) (cw_X9_90 S.2.2.2.2 ⟨Nat.le_trans (Nat.le_of_ble_eq_true rfl) hR1, Nat.le_trans (Nat.le_of_ble_eq_true rfl) hR2⟩) (xe_10 kx_0) rfl rfl rfl (Nat.le_of_ble_eq_true rfl) dX9_days_60 (fun r_60 h_60 H locs G hw => ?_)
          exact RT _ _ _ _ _ _ G hw dX9_days_63
        · have hw := hw.2 c_28
          exact hw _ _ _ (lv_sub hl [0] rfl) G

abbrev rm_X_storm : Room := { frames := 1, cells := 0, slots := 0, locals := 22 }
set_option maxHeartbeats 4000000 in
set_option maxRecDepth 100000 in
theorem c_X_storm (l : Launch) (D : va_G) (q : Nat → ClassId) (A : Nat → Prop) (ad : Nat → Nat) (a1 : Int32) (a2 : Int32) (h : Hs) (Q : Int32 → Hs → Prop) (hw : p_X_storm a1 a2 h Q) : Met l yX9_storm (mw yX9_storm cX9_storm 4 (some .int)) rm_X_storm (va_Pc [.ref (ad 0), .int a1, .int a2] (pW D q A (wX q ad h))) (va_Qi Q (fun h t => pW D q A (wX q ad h) t) A) 0 0 A := by
  refine met_i (Qp := Q) (by decide) (Nat.le_of_ble_eq_true rfl) ?_
  intro p e R s m args below meth c Qm ls hR1 hR2 S RT hl G
  have hx := S.1
  have hb := S.2.1
  have hl : lv_has ls 4 [(0, .ref (ad 0)), (1, .int a1), (2, .int a2)] := hl
  unfold p_X_storm at hw
  refine lv_iload_n hx hb dX9_storm_0 rfl (lv_at hl 1 rfl) ?_
  refine lv_iconst (v := 0) hx hb dX9_storm_1 (by decide) ?_
  refine lv_bipush (v := 59) hx hb dX9_storm_2 (by decide) ?_
  refine x_SzP S hl.1 G (c_X_outside l D q A ad a1 0 59 h _ hw) (cw_X9_65 S.2.2.2.2 ⟨Nat.le_trans (Nat.le_of_ble_eq_true rfl) hR1, Nat.le_trans (Nat.le_of_ble_eq_true rfl) hR2⟩) rfl rfl (Nat.le_of_ble_eq_true rfl) dX9_storm_4 (fun r_4 H locs G z_4 hw => ?_)
  refine lv_if_eq (tgt := 15) hx hb dX9_storm_7 (by decide) (fun c_7 => ?_) (fun c_7 => ?_)
  · have hw := hw.1 c_7
    refine lv_iload_n hx hb dX9_storm_15 rfl (lv_at hl 2 rfl) ?_
    have hw := hw (fun (t0_24 : Int32) => ∀ (ls : Array Slot) (H : Heap) (locs : List Loc), lv_has ls 4 [(0, .ref (ad 0)), (1, .int a1)] → okW D q A s (wX q ad h) H locs → W p l e R s m args below meth c H locs 0 0 Qm (F0 m 24 ls [.int t0_24])) (by
      intro t0_24 hw ls H locs hl G
      refine lv_istore_n (lv' := [(3, .int t0_24), (0, .ref (ad 0)), (1, .int a1)]) hx hb dX9_storm_24 rfl hl (by decide) rfl (fun ls hl => ?_)
      refine lv_aload_n hx hb dX9_storm_25 rfl (lv_at hl 1 rfl) ?_
      refine x_get (C := RX9) (T := TX9) (n := 12) S G inX9 (xe_10 kx_0) rfl 2 (by decide) kf_X9_27 rfl dX9_storm_26 ?_
      refine x_get (C := RX5) (T := TX5) (n := 17) S G inX5 (xe_6 kx_3) rfl 16 (by decide) kf_X9_237 rfl dX9_storm_29 ?_
      refine lv_iload_n hx hb dX9_storm_32 rfl (lv_at hl 2 rfl) ?_
      obtain ⟨i_33, hw⟩ := hw
      refine x_iald (k := a1.toNatClampNeg) S G (xe_20 kx_42 lx_42) i_33 rfl rfl dX9_storm_33 ?_
      refine lv_iload_n hx hb dX9_storm_34 rfl (lv_at hl 0 rfl) ?_
      refine lv_icmp_ne (tgt := 43) hx hb dX9_storm_35 (by decide) (fun c_35 => ?_) (fun c_35 => ?_)
      · have hw := hw.1 c_35
        refine lv_aload_n hx hb dX9_storm_43 rfl (lv_at hl 1 rfl) ?_
        refine x_get (C := RX9) (T := TX9) (n := 12) S G inX9 (xe_10 kx_0) rfl 2 (by decide) kf_X9_27 rfl dX9_storm_44 ?_
        refine x_get (C := RX5) (T := TX5) (n := 17) S G inX5 (xe_6 kx_3) rfl 16 (by decide) kf_X9_237 rfl dX9_storm_47 ?_
        refine lv_iload_n hx hb dX9_storm_50 rfl (lv_at hl 2 rfl) ?_
        refine lv_iload_n hx hb dX9_storm_51 rfl (lv_at hl 0 rfl) ?_
        obtain ⟨i_52, hw⟩ := hw
        refine x_iast (k := a1.toNatClampNeg) S G (xe_20 kx_42 lx_42) i_52 rfl (xs_20 kx_42 lx_42) dX9_storm_52 (fun H locs G => ?_)
        obtain ⟨h_52, eh_52⟩ : ∃ y : Hs, y = si h 42 a1.toNatClampNeg t0_24 := ⟨_, rfl⟩
        rw [← eh_52] at G
        have hw := hw h_52 eh_52
        refine lv_iconst (v := 1) hx hb dX9_storm_53 (by decide) ?_
        exact RT _ _ _ _ _ _ G hw dX9_storm_54
      · have hw := hw.2 c_35
        refine lv_aload_n hx hb dX9_storm_38 rfl (lv_at hl 1 rfl) ?_
        refine x_Vi S hl.1 G (c_X_no l D q A ad h _ hw) (cw_X9_169 S.2.2.2.2 ⟨Nat.le_trans (Nat.le_of_ble_eq_true rfl) hR1, Nat.le_trans (Nat.le_of_ble_eq_true rfl) hR2⟩) (xe_10 kx_0) rfl rfl rfl (Nat.le_of_ble_eq_true rfl) dX9_storm_39 (fun r_39 h_39 H locs G hw => ?_)
        exact RT _ _ _ _ _ _ G hw dX9_storm_42)
    refine lv_if_eq (tgt := 23) hx hb dX9_storm_16 (by decide) (fun c_16 => ?_) (fun c_16 => ?_)
    · have hw := hw.1 c_16
      refine lv_iconst (v := 0) hx hb dX9_storm_23 (by decide) ?_
      exact hw _ _ _ (lv_sub hl [0, 1] rfl) G
    · have hw := hw.2 c_16
      refine lv_iconst (v := 1) hx hb dX9_storm_19 (by decide) ?_
      refine lv_goto (tgt := 24) hx hb dX9_storm_20 (by decide) ?_
      exact hw _ _ _ (lv_sub hl [0, 1] rfl) G
  · have hw := hw.2 c_7
    refine lv_aload_n hx hb dX9_storm_10 rfl (lv_at hl 0 rfl) ?_
    refine x_Vi S hl.1 G (c_X_bad l D q A ad h _ hw) (cw_X9_69 S.2.2.2.2 ⟨Nat.le_trans (Nat.le_of_ble_eq_true rfl) hR1, Nat.le_trans (Nat.le_of_ble_eq_true rfl) hR2⟩) (xe_10 kx_0) rfl rfl rfl (Nat.le_of_ble_eq_true rfl) dX9_storm_11 (fun r_11 h_11 H locs G hw => ?_)
    exact RT _ _ _ _ _ _ G hw dX9_storm_14

abbrev rm_X_sails : Room := { frames := 3, cells := 0, slots := 0, locals := 75 }
set_option maxHeartbeats 4000000 in
set_option maxRecDepth 100000 in
theorem c_X_sails (l : Launch) (D : va_G) (q : Nat → ClassId) (A : Nat → Prop) (ad : Nat → Nat) (a1 : Int32) (a2 : Int32) (a3 : Int32) (h : Hs) (Q : Int32 → Hs → Prop) (hw : p_X_sails a1 a2 a3 h Q) : Met l yX9_sails (mw yX9_sails cX9_sails 4 (some .int)) rm_X_sails (va_Pc [.ref (ad 0), .int a1, .int a2, .int a3] (pW D q A (wX q ad h))) (va_Qi Q (fun h t => pW D q A (wX q ad h) t) A) 0 0 A := by
  refine met_i (Qp := Q) (by decide) (Nat.le_of_ble_eq_true rfl) ?_
  intro p e R s m args below meth c Qm ls hR1 hR2 S RT hl G
  have hx := S.1
  have hb := S.2.1
  have hl : lv_has ls 4 [(0, .ref (ad 0)), (1, .int a1), (2, .int a2), (3, .int a3)] := hl
  unfold p_X_sails at hw
  refine lv_aload_n hx hb dX9_sails_0 rfl (lv_at hl 0 rfl) ?_
  refine lv_iload_n hx hb dX9_sails_1 rfl (lv_at hl 1 rfl) ?_
  refine x_VzP S hl.1 G (c_X_noPlace l D q A ad a1 h _ hw) (cw_X9_135 S.2.2.2.2 ⟨Nat.le_trans (Nat.le_of_ble_eq_true rfl) hR1, Nat.le_trans (Nat.le_of_ble_eq_true rfl) hR2⟩) (xe_10 kx_0) rfl rfl rfl (Nat.le_of_ble_eq_true rfl) dX9_sails_2 (fun r_2 H locs G z_2 hw => ?_)
  have hw := hw (∀ (ls : Array Slot) (H : Heap) (locs : List Loc), lv_has ls 4 [(0, .ref (ad 0))] → okW D q A s (wX q ad h) H locs → W p l e R s m args below meth c H locs 0 0 Qm (F0 m 26 ls [])) (by
    intro hw ls H locs hl G
    refine lv_aload_n hx hb dX9_sails_26 rfl (lv_at hl 0 rfl) ?_
    refine x_Vi S hl.1 G (c_X_worse l D q A ad h _ hw) (cw_X9_215 S.2.2.2.2 ⟨Nat.le_trans (Nat.le_of_ble_eq_true rfl) hR1, Nat.le_trans (Nat.le_of_ble_eq_true rfl) hR2⟩) (xe_10 kx_0) rfl rfl rfl (Nat.le_of_ble_eq_true rfl) dX9_sails_27 (fun r_27 h_27 H locs G hw => ?_)
    exact RT _ _ _ _ _ _ G hw dX9_sails_30)
  refine lv_if_ne (tgt := 26) hx hb dX9_sails_5 (by decide) (fun c_5 => ?_) (fun c_5 => ?_)
  · have hw := hw.1 c_5
    exact hw _ _ _ (lv_sub hl [0] rfl) G
  · have hw := hw.2 c_5
    refine lv_aload_n hx hb dX9_sails_8 rfl (lv_at hl 0 rfl) ?_
    refine lv_iload_n hx hb dX9_sails_9 rfl (lv_at hl 2 rfl) ?_
    refine x_VzP S hl.1 G (c_X_noPlace l D q A ad a2 h _ hw) (cw_X9_135 S.2.2.2.2 ⟨Nat.le_trans (Nat.le_of_ble_eq_true rfl) hR1, Nat.le_trans (Nat.le_of_ble_eq_true rfl) hR2⟩) (xe_10 kx_0) rfl rfl rfl (Nat.le_of_ble_eq_true rfl) dX9_sails_10 (fun r_10 H locs G z_10 hw => ?_)
    refine lv_if_ne (tgt := 26) hx hb dX9_sails_13 (by decide) (fun c_13 => ?_) (fun c_13 => ?_)
    · have hw := hw.1 c_13
      exact hw _ _ _ (lv_sub hl [0] rfl) G
    · have hw := hw.2 c_13
      refine lv_iload_n hx hb dX9_sails_16 rfl (lv_at hl 3 rfl) ?_
      refine lv_iconst (v := 0) hx hb dX9_sails_17 (by decide) ?_
      refine lv_bipush (v := 59) hx hb dX9_sails_18 (by decide) ?_
      refine x_SzP S hl.1 G (c_X_outside l D q A ad a3 0 59 h _ hw) (cw_X9_65 S.2.2.2.2 ⟨Nat.le_trans (Nat.le_of_ble_eq_true rfl) hR1, Nat.le_trans (Nat.le_of_ble_eq_true rfl) hR2⟩) rfl rfl (Nat.le_of_ble_eq_true rfl) dX9_sails_20 (fun r_20 H locs G z_20 hw => ?_)
      refine lv_if_eq (tgt := 31) hx hb dX9_sails_23 (by decide) (fun c_23 => ?_) (fun c_23 => ?_)
      · have hw := hw.1 c_23
        refine lv_aload_n hx hb dX9_sails_31 rfl (lv_at hl 0 rfl) ?_
        refine x_get (C := RX9) (T := TX9) (n := 12) S G inX9 (xe_10 kx_0) rfl 6 (by decide) kf_X9_48 rfl dX9_sails_32 ?_
        refine lv_aload_n hx hb dX9_sails_35 rfl (lv_at hl 0 rfl) ?_
        refine x_get (C := RX9) (T := TX9) (n := 12) S G inX9 (xe_10 kx_0) rfl 2 (by decide) kf_X9_27 rfl dX9_sails_36 ?_
        refine lv_iload_n hx hb dX9_sails_39 rfl (lv_at hl 1 rfl) ?_
        refine lv_iload_n hx hb dX9_sails_40 rfl (lv_at hl 2 rfl) ?_
        refine lv_iload_n hx hb dX9_sails_41 rfl (lv_at hl 3 rfl) ?_
        refine x_Vi S hl.1 G (c_Ship_firstDayAt l D q A ad a1 a2 a3 h _ hw) (cw_X9_240 S.2.2.2.2 ⟨Nat.le_trans (Nat.le_of_ble_eq_true rfl) hR1, Nat.le_trans (Nat.le_of_ble_eq_true rfl) hR2⟩) (xe_5 kx_417) rfl rfl rfl (Nat.le_of_ble_eq_true rfl) dX9_sails_42 (fun r_42 h_42 H locs G hw => ?_)
        exact RT _ _ _ _ _ _ G hw dX9_sails_45
      · have hw := hw.2 c_23
        exact hw _ _ _ (lv_sub hl [0] rfl) G

abbrev rm_X_back : Room := { frames := 3, cells := 0, slots := 0, locals := 75 }
set_option maxHeartbeats 4000000 in
set_option maxRecDepth 100000 in
theorem c_X_back (l : Launch) (D : va_G) (q : Nat → ClassId) (A : Nat → Prop) (ad : Nat → Nat) (a1 : Int32) (a2 : Int32) (a3 : Int32) (a4 : Int32) (a5 : Int32) (h : Hs) (Q : Int32 → Hs → Prop) (hw : p_X_back a1 a2 a3 a4 a5 h Q) : Met l yX9_back (mw yX9_back cX9_back 8 (some .int)) rm_X_back (va_Pc [.ref (ad 0), .int a1, .int a2, .int a3, .int a4, .int a5] (pW D q A (wX q ad h))) (va_Qi Q (fun h t => pW D q A (wX q ad h) t) A) 0 0 A := by
  refine met_i (Qp := Q) (by decide) (Nat.le_of_ble_eq_true rfl) ?_
  intro p e R s m args below meth c Qm ls hR1 hR2 S RT hl G
  have hx := S.1
  have hb := S.2.1
  have hl : lv_has ls 8 [(0, .ref (ad 0)), (1, .int a1), (2, .int a2), (3, .int a3), (4, .int a4), (5, .int a5)] := hl
  unfold p_X_back at hw
  refine lv_aload_n hx hb dX9_back_0 rfl (lv_at hl 0 rfl) ?_
  refine lv_iload_n hx hb dX9_back_1 rfl (lv_at hl 1 rfl) ?_
  refine x_VzP S hl.1 G (c_X_noPlace l D q A ad a1 h _ hw) (cw_X9_135 S.2.2.2.2 ⟨Nat.le_trans (Nat.le_of_ble_eq_true rfl) hR1, Nat.le_trans (Nat.le_of_ble_eq_true rfl) hR2⟩) (xe_10 kx_0) rfl rfl rfl (Nat.le_of_ble_eq_true rfl) dX9_back_2 (fun r_2 H locs G z_2 hw => ?_)
  have hw := hw (∀ (ls : Array Slot) (H : Heap) (locs : List Loc), lv_has ls 8 [(0, .ref (ad 0))] → okW D q A s (wX q ad h) H locs → W p l e R s m args below meth c H locs 0 0 Qm (F0 m 26 ls [])) (by
    intro hw ls H locs hl G
    refine lv_aload_n hx hb dX9_back_26 rfl (lv_at hl 0 rfl) ?_
    refine x_Vi S hl.1 G (c_X_bad l D q A ad h _ hw) (cw_X9_69 S.2.2.2.2 ⟨Nat.le_trans (Nat.le_of_ble_eq_true rfl) hR1, Nat.le_trans (Nat.le_of_ble_eq_true rfl) hR2⟩) (xe_10 kx_0) rfl rfl rfl (Nat.le_of_ble_eq_true rfl) dX9_back_27 (fun r_27 h_27 H locs G hw => ?_)
    exact RT _ _ _ _ _ _ G hw dX9_back_30)
  refine lv_if_ne (tgt := 26) hx hb dX9_back_5 (by decide) (fun c_5 => ?_) (fun c_5 => ?_)
  · have hw := hw.1 c_5
    exact hw _ _ _ (lv_sub hl [0] rfl) G
  · have hw := hw.2 c_5
    refine lv_aload_n hx hb dX9_back_8 rfl (lv_at hl 0 rfl) ?_
    refine lv_iload_n hx hb dX9_back_9 rfl (lv_at hl 2 rfl) ?_
    refine x_VzP S hl.1 G (c_X_noPlace l D q A ad a2 h _ hw) (cw_X9_135 S.2.2.2.2 ⟨Nat.le_trans (Nat.le_of_ble_eq_true rfl) hR1, Nat.le_trans (Nat.le_of_ble_eq_true rfl) hR2⟩) (xe_10 kx_0) rfl rfl rfl (Nat.le_of_ble_eq_true rfl) dX9_back_10 (fun r_10 H locs G z_10 hw => ?_)
    refine lv_if_ne (tgt := 26) hx hb dX9_back_13 (by decide) (fun c_13 => ?_) (fun c_13 => ?_)
    · have hw := hw.1 c_13
      exact hw _ _ _ (lv_sub hl [0] rfl) G
    · have hw := hw.2 c_13
      refine lv_iload_n hx hb dX9_back_16 rfl (lv_at hl 3 rfl) ?_
      refine lv_iconst (v := 0) hx hb dX9_back_17 (by decide) ?_
      refine lv_bipush (v := 59) hx hb dX9_back_18 (by decide) ?_
      refine x_SzP S hl.1 G (c_X_outside l D q A ad a3 0 59 h _ hw) (cw_X9_65 S.2.2.2.2 ⟨Nat.le_trans (Nat.le_of_ble_eq_true rfl) hR1, Nat.le_trans (Nat.le_of_ble_eq_true rfl) hR2⟩) rfl rfl (Nat.le_of_ble_eq_true rfl) dX9_back_20 (fun r_20 H locs G z_20 hw => ?_)
      refine lv_if_eq (tgt := 31) hx hb dX9_back_23 (by decide) (fun c_23 => ?_) (fun c_23 => ?_)
      · have hw := hw.1 c_23
        refine lv_iload hx hb dX9_back_31 (lv_at hl 4 rfl) ?_
        refine lv_iconst (v := 0) hx hb dX9_back_33 (by decide) ?_
        refine lv_bipush (v := 59) hx hb dX9_back_34 (by decide) ?_
        refine x_SzP S hl.1 G (c_X_outside l D q A ad a4 0 59 h _ hw) (cw_X9_65 S.2.2.2.2 ⟨Nat.le_trans (Nat.le_of_ble_eq_true rfl) hR1, Nat.le_trans (Nat.le_of_ble_eq_true rfl) hR2⟩) rfl rfl (Nat.le_of_ble_eq_true rfl) dX9_back_36 (fun r_36 H locs G z_36 hw => ?_)
        have hw := hw (∀ (ls : Array Slot) (H : Heap) (locs : List Loc), lv_has ls 8 [(0, .ref (ad 0))] → okW D q A s (wX q ad h) H locs → W p l e R s m args below meth c H locs 0 0 Qm (F0 m 54 ls [])) (by
          intro hw ls H locs hl G
          refine lv_aload_n hx hb dX9_back_54 rfl (lv_at hl 0 rfl) ?_
          refine x_Vi S hl.1 G (c_X_bad l D q A ad h _ hw) (cw_X9_69 S.2.2.2.2 ⟨Nat.le_trans (Nat.le_of_ble_eq_true rfl) hR1, Nat.le_trans (Nat.le_of_ble_eq_true rfl) hR2⟩) (xe_10 kx_0) rfl rfl rfl (Nat.le_of_ble_eq_true rfl) dX9_back_55 (fun r_55 h_55 H locs G hw => ?_)
          exact RT _ _ _ _ _ _ G hw dX9_back_58)
        refine lv_if_ne (tgt := 54) hx hb dX9_back_39 (by decide) (fun c_39 => ?_) (fun c_39 => ?_)
        · have hw := hw.1 c_39
          exact hw _ _ _ (lv_sub hl [0] rfl) G
        · have hw := hw.2 c_39
          refine lv_iload hx hb dX9_back_42 (lv_at hl 5 rfl) ?_
          refine lv_iconst (v := 0) hx hb dX9_back_44 (by decide) ?_
          refine lv_sipush (v := 999) hx hb dX9_back_45 (by decide) ?_
          refine x_SzP S hl.1 G (c_X_outside l D q A ad a5 0 999 h _ hw) (cw_X9_65 S.2.2.2.2 ⟨Nat.le_trans (Nat.le_of_ble_eq_true rfl) hR1, Nat.le_trans (Nat.le_of_ble_eq_true rfl) hR2⟩) rfl rfl (Nat.le_of_ble_eq_true rfl) dX9_back_48 (fun r_48 H locs G z_48 hw => ?_)
          refine lv_if_eq (tgt := 59) hx hb dX9_back_51 (by decide) (fun c_51 => ?_) (fun c_51 => ?_)
          · have hw := hw.1 c_51
            refine lv_aload_n hx hb dX9_back_59 rfl (lv_at hl 0 rfl) ?_
            refine x_get (C := RX9) (T := TX9) (n := 12) S G inX9 (xe_10 kx_0) rfl 6 (by decide) kf_X9_48 rfl dX9_back_60 ?_
            refine lv_aload_n hx hb dX9_back_63 rfl (lv_at hl 0 rfl) ?_
            refine x_get (C := RX9) (T := TX9) (n := 12) S G inX9 (xe_10 kx_0) rfl 2 (by decide) kf_X9_27 rfl dX9_back_64 ?_
            refine lv_iload_n hx hb dX9_back_67 rfl (lv_at hl 1 rfl) ?_
            refine lv_iload_n hx hb dX9_back_68 rfl (lv_at hl 2 rfl) ?_
            refine lv_iload_n hx hb dX9_back_69 rfl (lv_at hl 3 rfl) ?_
            refine x_Vi S hl.1 G (c_Ship_firstDayAt l D q A ad a1 a2 a3 h _ hw) (cw_X9_240 S.2.2.2.2 ⟨Nat.le_trans (Nat.le_of_ble_eq_true rfl) hR1, Nat.le_trans (Nat.le_of_ble_eq_true rfl) hR2⟩) (xe_5 kx_417) rfl rfl rfl (Nat.le_of_ble_eq_true rfl) dX9_back_70 (fun r_70 h_70 H locs G hw => ?_)
            refine lv_istore (lv' := [(6, .int r_70), (0, .ref (ad 0)), (1, .int a1), (2, .int a2), (3, .int a3), (4, .int a4), (5, .int a5)]) hx hb dX9_back_73 hl (by decide) rfl (fun ls hl => ?_)
            refine lv_iload hx hb dX9_back_75 (lv_at hl 0 rfl) ?_
            refine lv_iconst (v := (-1)) hx hb dX9_back_77 (by decide) ?_
            refine lv_icmp_ne (tgt := 83) hx hb dX9_back_78 (by decide) (fun c_78 => ?_) (fun c_78 => ?_)
            · have hw := hw.1 c_78
              refine lv_aload_n hx hb dX9_back_83 rfl (lv_at hl 1 rfl) ?_
              refine x_get (C := RX9) (T := TX9) (n := 12) S G inX9 (xe_10 kx_0) rfl 6 (by decide) kf_X9_48 rfl dX9_back_84 ?_
              refine lv_aload_n hx hb dX9_back_87 rfl (lv_at hl 1 rfl) ?_
              refine x_get (C := RX9) (T := TX9) (n := 12) S G inX9 (xe_10 kx_0) rfl 2 (by decide) kf_X9_27 rfl dX9_back_88 ?_
              refine lv_iload_n hx hb dX9_back_91 rfl (lv_at hl 3 rfl) ?_
              refine lv_iload_n hx hb dX9_back_92 rfl (lv_at hl 2 rfl) ?_
              refine lv_iload hx hb dX9_back_93 (lv_at hl 0 rfl) ?_
              refine lv_iload hx hb dX9_back_95 (lv_at hl 5 rfl) ?_
              refine lv_iadd hx hb dX9_back_97 ?_
              refine x_Vi S hl.1 G (c_Ship_firstDayAt l D q A ad a2 a1 (r_70 + a4) h_70 _ hw) (cw_X9_240 S.2.2.2.2 ⟨Nat.le_trans (Nat.le_of_ble_eq_true rfl) hR1, Nat.le_trans (Nat.le_of_ble_eq_true rfl) hR2⟩) (xe_5 kx_417) rfl rfl rfl (Nat.le_of_ble_eq_true rfl) dX9_back_98 (fun r_98 h_98 H locs G hw => ?_)
              refine lv_istore (lv' := [(7, .int r_98), (6, .int r_70), (0, .ref (ad 0)), (1, .int a1), (2, .int a2), (3, .int a3), (4, .int a4), (5, .int a5)]) hx hb dX9_back_101 hl (by decide) rfl (fun ls hl => ?_)
              refine lv_iload hx hb dX9_back_103 (lv_at hl 0 rfl) ?_
              refine lv_iconst (v := (-1)) hx hb dX9_back_105 (by decide) ?_
              have hw := hw (fun (t0_121 : Int32) => ∀ (ls : Array Slot) (H : Heap) (locs : List Loc), lv_has ls 8 [] → okW D q A s (wX q ad h_98) H locs → W p l e R s m args below meth c H locs 0 0 Qm (F0 m 121 ls [.int t0_121])) (by
                intro t0_121 hw ls H locs hl G
                exact RT _ _ _ _ _ _ G hw dX9_back_121)
              have hw := hw (∀ (ls : Array Slot) (H : Heap) (locs : List Loc), lv_has ls 8 [] → okW D q A s (wX q ad h_98) H locs → W p l e R s m args below meth c H locs 0 0 Qm (F0 m 120 ls [])) (by
                intro hw ls H locs hl G
                refine lv_iconst (v := 0) hx hb dX9_back_120 (by decide) ?_
                exact hw _ _ _ (lv_sub hl [] rfl) G)
              refine lv_icmp_eq (tgt := 120) hx hb dX9_back_106 (by decide) (fun c_106 => ?_) (fun c_106 => ?_)
              · have hw := hw.1 c_106
                exact hw _ _ _ (lv_sub hl [] rfl) G
              · have hw := hw.2 c_106
                refine lv_iload hx hb dX9_back_109 (lv_at hl 0 rfl) ?_
                refine lv_iload hx hb dX9_back_111 (lv_at hl 7 rfl) ?_
                refine lv_icmp_gt (tgt := 120) hx hb dX9_back_113 (by decide) (fun c_113 => ?_) (fun c_113 => ?_)
                · have hw := hw.1 c_113
                  exact hw _ _ _ (lv_sub hl [] rfl) G
                · have hw := hw.2 c_113
                  refine lv_iconst (v := 1) hx hb dX9_back_116 (by decide) ?_
                  refine lv_goto (tgt := 121) hx hb dX9_back_117 (by decide) ?_
                  exact hw _ _ _ (lv_sub hl [] rfl) G
            · have hw := hw.2 c_78
              refine lv_iconst (v := 0) hx hb dX9_back_81 (by decide) ?_
              exact RT _ _ _ _ _ _ G hw dX9_back_82
          · have hw := hw.2 c_51
            exact hw _ _ _ (lv_sub hl [0] rfl) G
      · have hw := hw.2 c_23
        exact hw _ _ _ (lv_sub hl [0] rfl) G

abbrev rm_X_partOf : Room := { frames := 1, cells := 0, slots := 0, locals := 20 }
set_option maxHeartbeats 4000000 in
set_option maxRecDepth 100000 in
theorem c_X_partOf (l : Launch) (D : va_G) (q : Nat → ClassId) (A : Nat → Prop) (ad : Nat → Nat) (a1 : Int32) (h : Hs) (Q : Int32 → Prop) (hw : p_X_partOf a1 h Q) : Met l yX9_partOf (mw yX9_partOf cX9_partOf 2 (some .int)) rm_X_partOf (va_Pc [.ref (ad 0), .int a1] (pW D q A (wX q ad h))) (va_Qi (fun r h9 => h9 = h ∧ Q r) (fun h t => pW D q A (wX q ad h) t) A) 0 0 A := by
  refine met_i (Qp := (fun r h9 => h9 = h ∧ Q r)) (by decide) (Nat.le_of_ble_eq_true rfl) ?_
  intro p e R s m args below meth c Qm ls hR1 hR2 S RT hl G
  have hx := S.1
  have hb := S.2.1
  have hl : lv_has ls 2 [(0, .ref (ad 0)), (1, .int a1)] := hl
  unfold p_X_partOf at hw
  refine lv_iload_n hx hb dX9_partOf_0 rfl (lv_at hl 1 rfl) ?_
  refine lv_if_ne (tgt := 23) hx hb dX9_partOf_1 (by decide) (fun c_1 => ?_) (fun c_1 => ?_)
  · have hw := hw.1 c_1
    refine lv_iload_n hx hb dX9_partOf_23 rfl (lv_at hl 1 rfl) ?_
    refine lv_iconst (v := 1) hx hb dX9_partOf_24 (by decide) ?_
    have hw := hw (fun (t0_51 : Int32) => ∀ (ls : Array Slot) (H : Heap) (locs : List Loc), lv_has ls 2 [] → okW D q A s (wX q ad h) H locs → W p l e R s m args below meth c H locs 0 0 Qm (F0 m 51 ls [.int t0_51])) (by
      intro t0_51 hw ls H locs hl G
      exact RT _ _ _ _ _ _ G ⟨rfl, hw⟩ dX9_partOf_51)
    refine lv_icmp_ne (tgt := 41) hx hb dX9_partOf_25 (by decide) (fun c_25 => ?_) (fun c_25 => ?_)
    · have hw := hw.1 c_25
      refine lv_aload_n hx hb dX9_partOf_41 rfl (lv_at hl 0 rfl) ?_
      refine x_get (C := RX9) (T := TX9) (n := 12) S G inX9 (xe_10 kx_0) rfl 5 (by decide) kf_X9_41 rfl dX9_partOf_42 ?_
      refine x_get (C := RX2) (T := TX2) (n := 5) S G inX2 (xe_3 kx_406) rfl 1 (by decide) kf_X9_250 rfl dX9_partOf_45 ?_
      refine x_get (C := RX0) (T := TX0) (n := 2) S G inX0 (xe_1 kx_409) rfl 1 (by decide) kf_X9_253 rfl dX9_partOf_48 ?_
      exact hw _ _ _ (lv_sub hl [] rfl) G
    · have hw := hw.2 c_25
      refine lv_aload_n hx hb dX9_partOf_28 rfl (lv_at hl 0 rfl) ?_
      refine x_get (C := RX9) (T := TX9) (n := 12) S G inX9 (xe_10 kx_0) rfl 5 (by decide) kf_X9_41 rfl dX9_partOf_29 ?_
      refine x_get (C := RX2) (T := TX2) (n := 5) S G inX2 (xe_3 kx_406) rfl 0 (by decide) kf_X9_247 rfl dX9_partOf_32 ?_
      refine x_get (C := RX0) (T := TX0) (n := 2) S G inX0 (xe_1 kx_407) rfl 1 (by decide) kf_X9_253 rfl dX9_partOf_35 ?_
      refine lv_goto (tgt := 51) hx hb dX9_partOf_38 (by decide) ?_
      exact hw _ _ _ (lv_sub hl [] rfl) G
  · have hw := hw.2 c_1
    refine lv_aload_n hx hb dX9_partOf_4 rfl (lv_at hl 0 rfl) ?_
    refine x_get (C := RX9) (T := TX9) (n := 12) S G inX9 (xe_10 kx_0) rfl 5 (by decide) kf_X9_41 rfl dX9_partOf_5 ?_
    refine x_get (C := RX2) (T := TX2) (n := 5) S G inX2 (xe_3 kx_406) rfl 0 (by decide) kf_X9_247 rfl dX9_partOf_8 ?_
    refine x_VzP S hl.1 G (c_Big_isZero l D q A ad 407 kx_407 h _ hw) (cw_X9_299 S.2.2.2.2 ⟨Nat.le_trans (Nat.le_of_ble_eq_true rfl) hR1, Nat.le_trans (Nat.le_of_ble_eq_true rfl) hR2⟩) (xe_1 kx_407) rfl rfl rfl (Nat.le_of_ble_eq_true rfl) dX9_partOf_11 (fun r_11 H locs G z_11 hw => ?_)
    have hw := hw (fun (t0_22 : Int32) => ∀ (ls : Array Slot) (H : Heap) (locs : List Loc), lv_has ls 2 [] → okW D q A s (wX q ad h) H locs → W p l e R s m args below meth c H locs 0 0 Qm (F0 m 22 ls [.int t0_22])) (by
      intro t0_22 hw ls H locs hl G
      exact RT _ _ _ _ _ _ G ⟨rfl, hw⟩ dX9_partOf_22)
    refine lv_if_eq (tgt := 21) hx hb dX9_partOf_14 (by decide) (fun c_14 => ?_) (fun c_14 => ?_)
    · have hw := hw.1 c_14
      refine lv_iconst (v := 1) hx hb dX9_partOf_21 (by decide) ?_
      exact hw _ _ _ (lv_sub hl [] rfl) G
    · have hw := hw.2 c_14
      refine lv_iconst (v := 0) hx hb dX9_partOf_17 (by decide) ?_
      refine lv_goto (tgt := 22) hx hb dX9_partOf_18 (by decide) ?_
      exact hw _ _ _ (lv_sub hl [] rfl) G
theorem cw_X9_244 {R : Room} {s : State} {args : Array Value} (hts : ∀ w ∈ gW, w.before args s = true) (hR : rm_X_partOf.frames + 1 ≤ R.frames ∧ 8 + (2 + 11) + rm_X_partOf.locals ≤ R.locals) : CallW R s args RX9 RX9 244 yX9_partOf cX9_partOf 2 (some .int) (mw yX9_partOf cX9_partOf 2 (some .int)) rm_X_partOf 0 0 1 := cwV9 hts km_X9_244 ki_X9_partOf ks_X9_partOf kn_X9 kk_X9_partOf rfl rfl (by decide +kernel) hR
abbrev rm_X_part : Room := { frames := 2, cells := 0, slots := 0, locals := 41 }
set_option maxHeartbeats 4000000 in
set_option maxRecDepth 100000 in
theorem c_X_part (l : Launch) (D : va_G) (q : Nat → ClassId) (A : Nat → Prop) (ad : Nat → Nat) (a1 : Int32) (h : Hs) (Q : Int32 → Hs → Prop) (hw : p_X_part a1 h Q) : Met l yX9_part (mw yX9_part cX9_part 2 (some .int)) rm_X_part (va_Pc [.ref (ad 0), .int a1] (pW D q A (wX q ad h))) (va_Qi Q (fun h t => pW D q A (wX q ad h) t) A) 0 0 A := by
  refine met_i (Qp := Q) (by decide) (Nat.le_of_ble_eq_true rfl) ?_
  intro p e R s m args below meth c Qm ls hR1 hR2 S RT hl G
  have hx := S.1
  have hb := S.2.1
  have hl : lv_has ls 2 [(0, .ref (ad 0)), (1, .int a1)] := hl
  unfold p_X_part at hw
  refine lv_iload_n hx hb dX9_part_0 rfl (lv_at hl 1 rfl) ?_
  refine lv_iconst (v := 0) hx hb dX9_part_1 (by decide) ?_
  refine lv_iconst (v := 2) hx hb dX9_part_2 (by decide) ?_
  refine x_SzP S hl.1 G (c_X_outside l D q A ad a1 0 2 h _ hw) (cw_X9_65 S.2.2.2.2 ⟨Nat.le_trans (Nat.le_of_ble_eq_true rfl) hR1, Nat.le_trans (Nat.le_of_ble_eq_true rfl) hR2⟩) rfl rfl (Nat.le_of_ble_eq_true rfl) dX9_part_3 (fun r_3 H locs G z_3 hw => ?_)
  refine lv_if_eq (tgt := 14) hx hb dX9_part_6 (by decide) (fun c_6 => ?_) (fun c_6 => ?_)
  · have hw := hw.1 c_6
    refine lv_aload_n hx hb dX9_part_14 rfl (lv_at hl 0 rfl) ?_
    refine lv_iload_n hx hb dX9_part_15 rfl (lv_at hl 1 rfl) ?_
    refine x_ViP S hl.1 G (c_X_partOf l D q A ad a1 h _ hw) (cw_X9_244 S.2.2.2.2 ⟨Nat.le_trans (Nat.le_of_ble_eq_true rfl) hR1, Nat.le_trans (Nat.le_of_ble_eq_true rfl) hR2⟩) (xe_10 kx_0) rfl rfl rfl (Nat.le_of_ble_eq_true rfl) dX9_part_16 (fun r_16 H locs G hw => ?_)
    exact RT _ _ _ _ _ _ G hw dX9_part_19
  · have hw := hw.2 c_6
    refine lv_aload_n hx hb dX9_part_9 rfl (lv_at hl 0 rfl) ?_
    refine x_Vi S hl.1 G (c_X_bad l D q A ad h _ hw) (cw_X9_69 S.2.2.2.2 ⟨Nat.le_trans (Nat.le_of_ble_eq_true rfl) hR1, Nat.le_trans (Nat.le_of_ble_eq_true rfl) hR2⟩) (xe_10 kx_0) rfl rfl rfl (Nat.le_of_ble_eq_true rfl) dX9_part_10 (fun r_10 h_10 H locs G hw => ?_)
    exact RT _ _ _ _ _ _ G hw dX9_part_13

abbrev rm_X_limb : Room := { frames := 1, cells := 0, slots := 0, locals := 22 }
set_option maxHeartbeats 4000000 in
set_option maxRecDepth 100000 in
theorem c_X_limb (l : Launch) (D : va_G) (q : Nat → ClassId) (A : Nat → Prop) (ad : Nat → Nat) (a1 : Int32) (a2 : Int32) (h : Hs) (Q : Int32 → Hs → Prop) (hw : p_X_limb a1 a2 h Q) : Met l yX9_limb (mw yX9_limb cX9_limb 4 (some .int)) rm_X_limb (va_Pc [.ref (ad 0), .int a1, .int a2] (pW D q A (wX q ad h))) (va_Qi Q (fun h t => pW D q A (wX q ad h) t) A) 0 0 A := by
  refine met_i (Qp := Q) (by decide) (Nat.le_of_ble_eq_true rfl) ?_
  intro p e R s m args below meth c Qm ls hR1 hR2 S RT hl G
  have hx := S.1
  have hb := S.2.1
  have hl : lv_has ls 4 [(0, .ref (ad 0)), (1, .int a1), (2, .int a2)] := hl
  unfold p_X_limb at hw
  refine lv_iload_n hx hb dX9_limb_0 rfl (lv_at hl 1 rfl) ?_
  refine lv_iconst (v := 0) hx hb dX9_limb_1 (by decide) ?_
  refine lv_iconst (v := 1) hx hb dX9_limb_2 (by decide) ?_
  refine x_SzP S hl.1 G (c_X_outside l D q A ad a1 0 1 h _ hw) (cw_X9_65 S.2.2.2.2 ⟨Nat.le_trans (Nat.le_of_ble_eq_true rfl) hR1, Nat.le_trans (Nat.le_of_ble_eq_true rfl) hR2⟩) rfl rfl (Nat.le_of_ble_eq_true rfl) dX9_limb_3 (fun r_3 H locs G z_3 hw => ?_)
  have hw := hw (∀ (ls : Array Slot) (H : Heap) (locs : List Loc), lv_has ls 4 [(0, .ref (ad 0))] → okW D q A s (wX q ad h) H locs → W p l e R s m args below meth c H locs 0 0 Qm (F0 m 13 ls [])) (by
    intro hw ls H locs hl G
    refine lv_aload_n hx hb dX9_limb_13 rfl (lv_at hl 0 rfl) ?_
    refine x_Vi S hl.1 G (c_X_bad l D q A ad h _ hw) (cw_X9_69 S.2.2.2.2 ⟨Nat.le_trans (Nat.le_of_ble_eq_true rfl) hR1, Nat.le_trans (Nat.le_of_ble_eq_true rfl) hR2⟩) (xe_10 kx_0) rfl rfl rfl (Nat.le_of_ble_eq_true rfl) dX9_limb_14 (fun r_14 h_14 H locs G hw => ?_)
    exact RT _ _ _ _ _ _ G hw dX9_limb_17)
  refine lv_if_ne (tgt := 13) hx hb dX9_limb_6 (by decide) (fun c_6 => ?_) (fun c_6 => ?_)
  · have hw := hw.1 c_6
    exact hw _ _ _ (lv_sub hl [0] rfl) G
  · have hw := hw.2 c_6
    refine lv_iload_n hx hb dX9_limb_9 rfl (lv_at hl 2 rfl) ?_
    refine lv_if_ge (tgt := 18) hx hb dX9_limb_10 (by decide) (fun c_10 => ?_) (fun c_10 => ?_)
    · have hw := hw.1 c_10
      refine lv_iload_n hx hb dX9_limb_18 rfl (lv_at hl 1 rfl) ?_
      have hw := hw (fun (t0_39 : Nat) => kX t0_39 = 1 → ∀ (ls : Array Slot) (H : Heap) (locs : List Loc), lv_has ls 4 [(2, .int a2)] → okW D q A s (wX q ad h) H locs → W p l e R s m args below meth c H locs 0 0 Qm (F0 m 39 ls [.ref (ad t0_39)])) (by
        intro t0_39 hw kt0_39 ls H locs hl G
        refine lv_astore_n (lv' := [(3, .ref (ad t0_39)), (2, .int a2)]) hx hb dX9_limb_39 rfl hl (by decide) rfl (fun ls hl => ?_)
        refine lv_iload_n hx hb dX9_limb_40 rfl (lv_at hl 1 rfl) ?_
        refine lv_aload_n hx hb dX9_limb_41 rfl (lv_at hl 0 rfl) ?_
        refine x_get (C := RX0) (T := TX0) (n := 2) S G inX0 (xe_1 kt0_39) rfl 1 (by decide) kf_X9_253 rfl dX9_limb_42 ?_
        have hw := hw (fun (t0_57 : Int32) => ∀ (ls : Array Slot) (H : Heap) (locs : List Loc), lv_has ls 4 [] → okW D q A s (wX q ad h) H locs → W p l e R s m args below meth c H locs 0 0 Qm (F0 m 57 ls [.int t0_57])) (by
          intro t0_57 hw ls H locs hl G
          exact RT _ _ _ _ _ _ G hw dX9_limb_57)
        refine lv_icmp_ge (tgt := 56) hx hb dX9_limb_45 (by decide) (fun c_45 => ?_) (fun c_45 => ?_)
        · have hw := hw.1 c_45
          refine lv_iconst (v := (-1)) hx hb dX9_limb_56 (by decide) ?_
          exact hw _ _ _ (lv_sub hl [] rfl) G
        · have hw := hw.2 c_45
          refine lv_aload_n hx hb dX9_limb_48 rfl (lv_at hl 0 rfl) ?_
          refine lv_iload_n hx hb dX9_limb_49 rfl (lv_at hl 1 rfl) ?_
          refine x_ViP S hl.1 G (c_Big_digit l D q A ad t0_39 a2 kt0_39 h _ hw) (cw_X9_256 S.2.2.2.2 ⟨Nat.le_trans (Nat.le_of_ble_eq_true rfl) hR1, Nat.le_trans (Nat.le_of_ble_eq_true rfl) hR2⟩) (xe_1 kt0_39) rfl rfl rfl (Nat.le_of_ble_eq_true rfl) dX9_limb_50 (fun r_50 H locs G hw => ?_)
          refine lv_goto (tgt := 57) hx hb dX9_limb_53 (by decide) ?_
          exact hw _ _ _ (lv_sub hl [] rfl) G)
      refine lv_if_ne (tgt := 32) hx hb dX9_limb_19 (by decide) (fun c_19 => ?_) (fun c_19 => ?_)
      · have hw := hw.1 c_19
        refine lv_aload_n hx hb dX9_limb_32 rfl (lv_at hl 0 rfl) ?_
        refine x_get (C := RX9) (T := TX9) (n := 12) S G inX9 (xe_10 kx_0) rfl 5 (by decide) kf_X9_41 rfl dX9_limb_33 ?_
        refine x_get (C := RX2) (T := TX2) (n := 5) S G inX2 (xe_3 kx_406) rfl 1 (by decide) kf_X9_250 rfl dX9_limb_36 ?_
        exact hw kx_409 _ _ _ (lv_sub hl [2] rfl) G
      · have hw := hw.2 c_19
        refine lv_aload_n hx hb dX9_limb_22 rfl (lv_at hl 0 rfl) ?_
        refine x_get (C := RX9) (T := TX9) (n := 12) S G inX9 (xe_10 kx_0) rfl 5 (by decide) kf_X9_41 rfl dX9_limb_23 ?_
        refine x_get (C := RX2) (T := TX2) (n := 5) S G inX2 (xe_3 kx_406) rfl 0 (by decide) kf_X9_247 rfl dX9_limb_26 ?_
        refine lv_goto (tgt := 39) hx hb dX9_limb_29 (by decide) ?_
        exact hw kx_407 _ _ _ (lv_sub hl [2] rfl) G
    · have hw := hw.2 c_10
      exact hw _ _ _ (lv_sub hl [0] rfl) G

abbrev rm_X_image : Room := { frames := 4, cells := 0, slots := 0, locals := 90 }
set_option maxHeartbeats 4000000 in
set_option maxRecDepth 100000 in
theorem c_X_image (l : Launch) (D : va_G) (q : Nat → ClassId) (A : Nat → Prop) (ad : Nat → Nat) (a1 : Int32) (h : Hs) (Q : Int32 → Hs → Prop) (hw : p_X_image a1 h Q) : Met l yX9_image (mw yX9_image cX9_image 2 (some .int)) rm_X_image (va_Pc [.ref (ad 0), .int a1] (pW D q A (wX q ad h))) (va_Qi Q (fun h t => pW D q A (wX q ad h) t) A) 0 0 A := by
  refine met_i (Qp := Q) (by decide) (Nat.le_of_ble_eq_true rfl) ?_
  intro p e R s m args below meth c Qm ls hR1 hR2 S RT hl G
  have hx := S.1
  have hb := S.2.1
  have hl : lv_has ls 2 [(0, .ref (ad 0)), (1, .int a1)] := hl
  unfold p_X_image at hw
  refine lv_iload_n hx hb dX9_image_0 rfl (lv_at hl 1 rfl) ?_
  refine lv_iconst (v := 0) hx hb dX9_image_1 (by decide) ?_
  refine lv_iconst (v := 1) hx hb dX9_image_2 (by decide) ?_
  refine x_SzP S hl.1 G (c_X_outside l D q A ad a1 0 1 h _ hw) (cw_X9_65 S.2.2.2.2 ⟨Nat.le_trans (Nat.le_of_ble_eq_true rfl) hR1, Nat.le_trans (Nat.le_of_ble_eq_true rfl) hR2⟩) rfl rfl (Nat.le_of_ble_eq_true rfl) dX9_image_3 (fun r_3 H locs G z_3 hw => ?_)
  refine lv_if_eq (tgt := 14) hx hb dX9_image_6 (by decide) (fun c_6 => ?_) (fun c_6 => ?_)
  · have hw := hw.1 c_6
    refine lv_aload_n hx hb dX9_image_14 rfl (lv_at hl 0 rfl) ?_
    refine x_get (C := RX9) (T := TX9) (n := 12) S G inX9 (xe_10 kx_0) rfl 3 (by decide) kf_X9_30 rfl dX9_image_15 ?_
    refine lv_iload_n hx hb dX9_image_18 rfl (lv_at hl 1 rfl) ?_
    obtain ⟨i_19, hw⟩ := hw
    refine x_aald (k := a1.toNatClampNeg) S G 5 (xe_25 kx_404 lx_404 rfl) rfl rfl i_19 rfl (if_pos (vpl i_19)) dX9_image_19 ?_
    refine lv_aload_n hx hb dX9_image_20 rfl (lv_at hl 0 rfl) ?_
    refine x_get (C := RX9) (T := TX9) (n := 12) S G inX9 (xe_10 kx_0) rfl 2 (by decide) kf_X9_27 rfl dX9_image_21 ?_
    refine x_Vv S hl.1 G (c_State_copy l D q A ad (424 + 40 * a1.toNatClampNeg) 3 (kxe_404 _ (vpl i_19)) kx_3 h _ hw) (cw_X9_259 S.2.2.2.2 ⟨Nat.le_trans (Nat.le_of_ble_eq_true rfl) hR1, Nat.le_trans (Nat.le_of_ble_eq_true rfl) hR2⟩) (xe_6 (kxe_404 _ (vpl i_19))) rfl rfl rfl (Nat.le_of_ble_eq_true rfl) dX9_image_24 (fun h_24 H locs G hw => ?_)
    refine lv_aload_n hx hb dX9_image_27 rfl (lv_at hl 0 rfl) ?_
    refine x_get (C := RX9) (T := TX9) (n := 12) S G inX9 (xe_10 kx_0) rfl 4 (by decide) kf_X9_34 rfl dX9_image_28 ?_
    refine lv_iload_n hx hb dX9_image_31 rfl (lv_at hl 1 rfl) ?_
    refine lv_iconst (v := 1) hx hb dX9_image_32 (by decide) ?_
    obtain ⟨i_33, hw⟩ := hw
    refine x_zast (k := a1.toNatClampNeg) S G (xe_21 kx_405 lx_405) i_33 rfl (xs_21 kx_405 lx_405) dX9_image_33 (fun H locs G => ?_)
    obtain ⟨h_33, eh_33⟩ : ∃ y : Hs, y = si h_24 405 a1.toNatClampNeg (zn 1) := ⟨_, rfl⟩
    rw [← eh_33] at G
    have hw := hw h_33 eh_33
    refine lv_iconst (v := 1) hx hb dX9_image_34 (by decide) ?_
    exact RT _ _ _ _ _ _ G hw dX9_image_35
  · have hw := hw.2 c_6
    refine lv_aload_n hx hb dX9_image_9 rfl (lv_at hl 0 rfl) ?_
    refine x_Vi S hl.1 G (c_X_bad l D q A ad h _ hw) (cw_X9_69 S.2.2.2.2 ⟨Nat.le_trans (Nat.le_of_ble_eq_true rfl) hR1, Nat.le_trans (Nat.le_of_ble_eq_true rfl) hR2⟩) (xe_10 kx_0) rfl rfl rfl (Nat.le_of_ble_eq_true rfl) dX9_image_10 (fun r_10 h_10 H locs G hw => ?_)
    exact RT _ _ _ _ _ _ G hw dX9_image_13

abbrev rm_X_from : Room := { frames := 4, cells := 0, slots := 0, locals := 90 }
set_option maxHeartbeats 4000000 in
set_option maxRecDepth 100000 in
theorem c_X_from (l : Launch) (D : va_G) (q : Nat → ClassId) (A : Nat → Prop) (ad : Nat → Nat) (a1 : Int32) (h : Hs) (Q : Int32 → Hs → Prop) (hw : p_X_from a1 h Q) : Met l yX9_from (mw yX9_from cX9_from 2 (some .int)) rm_X_from (va_Pc [.ref (ad 0), .int a1] (pW D q A (wX q ad h))) (va_Qi Q (fun h t => pW D q A (wX q ad h) t) A) 0 0 A := by
  refine met_i (Qp := Q) (by decide) (Nat.le_of_ble_eq_true rfl) ?_
  intro p e R s m args below meth c Qm ls hR1 hR2 S RT hl G
  have hx := S.1
  have hb := S.2.1
  have hl : lv_has ls 2 [(0, .ref (ad 0)), (1, .int a1)] := hl
  unfold p_X_from at hw
  refine lv_iload_n hx hb dX9_from_0 rfl (lv_at hl 1 rfl) ?_
  refine lv_iconst (v := 0) hx hb dX9_from_1 (by decide) ?_
  refine lv_iconst (v := 1) hx hb dX9_from_2 (by decide) ?_
  refine x_SzP S hl.1 G (c_X_outside l D q A ad a1 0 1 h _ hw) (cw_X9_65 S.2.2.2.2 ⟨Nat.le_trans (Nat.le_of_ble_eq_true rfl) hR1, Nat.le_trans (Nat.le_of_ble_eq_true rfl) hR2⟩) rfl rfl (Nat.le_of_ble_eq_true rfl) dX9_from_3 (fun r_3 H locs G z_3 hw => ?_)
  refine lv_if_eq (tgt := 14) hx hb dX9_from_6 (by decide) (fun c_6 => ?_) (fun c_6 => ?_)
  · have hw := hw.1 c_6
    refine lv_aload_n hx hb dX9_from_14 rfl (lv_at hl 0 rfl) ?_
    refine x_get (C := RX9) (T := TX9) (n := 12) S G inX9 (xe_10 kx_0) rfl 4 (by decide) kf_X9_34 rfl dX9_from_15 ?_
    refine lv_iload_n hx hb dX9_from_18 rfl (lv_at hl 1 rfl) ?_
    obtain ⟨i_19, hw⟩ := hw
    refine x_zald (k := a1.toNatClampNeg) S G (xe_21 kx_405 lx_405) i_19 rfl rfl dX9_from_19 ?_
    refine lv_if_ne (tgt := 28) hx hb dX9_from_20 (by decide) (fun c_20 => ?_) (fun c_20 => ?_)
    · have hw := hw.1 c_20
      refine lv_aload_n hx hb dX9_from_28 rfl (lv_at hl 0 rfl) ?_
      refine x_get (C := RX9) (T := TX9) (n := 12) S G inX9 (xe_10 kx_0) rfl 2 (by decide) kf_X9_27 rfl dX9_from_29 ?_
      refine lv_aload_n hx hb dX9_from_32 rfl (lv_at hl 0 rfl) ?_
      refine x_get (C := RX9) (T := TX9) (n := 12) S G inX9 (xe_10 kx_0) rfl 3 (by decide) kf_X9_30 rfl dX9_from_33 ?_
      refine lv_iload_n hx hb dX9_from_36 rfl (lv_at hl 1 rfl) ?_
      obtain ⟨i_37, hw⟩ := hw
      refine x_aald (k := a1.toNatClampNeg) S G 5 (xe_25 kx_404 lx_404 rfl) rfl rfl i_37 rfl (if_pos (vpl i_37)) dX9_from_37 ?_
      refine x_Vv S hl.1 G (c_State_copy l D q A ad 3 (424 + 40 * a1.toNatClampNeg) kx_3 (kxe_404 _ (vpl i_37)) h _ hw) (cw_X9_259 S.2.2.2.2 ⟨Nat.le_trans (Nat.le_of_ble_eq_true rfl) hR1, Nat.le_trans (Nat.le_of_ble_eq_true rfl) hR2⟩) (xe_6 kx_3) rfl rfl rfl (Nat.le_of_ble_eq_true rfl) dX9_from_38 (fun h_38 H locs G hw => ?_)
      refine lv_aload_n hx hb dX9_from_41 rfl (lv_at hl 0 rfl) ?_
      refine x_Vv S hl.1 G (c_X_changed l D q A ad h_38 _ hw) (cw_X9_84 S.2.2.2.2 ⟨Nat.le_trans (Nat.le_of_ble_eq_true rfl) hR1, Nat.le_trans (Nat.le_of_ble_eq_true rfl) hR2⟩) (xe_10 kx_0) rfl rfl rfl (Nat.le_of_ble_eq_true rfl) dX9_from_42 (fun h_42 H locs G hw => ?_)
      refine lv_iconst (v := 1) hx hb dX9_from_45 (by decide) ?_
      exact RT _ _ _ _ _ _ G hw dX9_from_46
    · have hw := hw.2 c_20
      refine lv_aload_n hx hb dX9_from_23 rfl (lv_at hl 0 rfl) ?_
      refine x_Vi S hl.1 G (c_X_no l D q A ad h _ hw) (cw_X9_169 S.2.2.2.2 ⟨Nat.le_trans (Nat.le_of_ble_eq_true rfl) hR1, Nat.le_trans (Nat.le_of_ble_eq_true rfl) hR2⟩) (xe_10 kx_0) rfl rfl rfl (Nat.le_of_ble_eq_true rfl) dX9_from_24 (fun r_24 h_24 H locs G hw => ?_)
      exact RT _ _ _ _ _ _ G hw dX9_from_27
  · have hw := hw.2 c_6
    refine lv_aload_n hx hb dX9_from_9 rfl (lv_at hl 0 rfl) ?_
    refine x_Vi S hl.1 G (c_X_bad l D q A ad h _ hw) (cw_X9_69 S.2.2.2.2 ⟨Nat.le_trans (Nat.le_of_ble_eq_true rfl) hR1, Nat.le_trans (Nat.le_of_ble_eq_true rfl) hR2⟩) (xe_10 kx_0) rfl rfl rfl (Nat.le_of_ble_eq_true rfl) dX9_from_10 (fun r_10 h_10 H locs G hw => ?_)
    exact RT _ _ _ _ _ _ G hw dX9_from_13

abbrev rm_X_status : Room := { frames := 0, cells := 0, slots := 0, locals := 0 }
set_option maxHeartbeats 4000000 in
set_option maxRecDepth 100000 in
theorem c_X_status (l : Launch) (D : va_G) (q : Nat → ClassId) (A : Nat → Prop) (ad : Nat → Nat) (a1 : Int32) (h : Hs) (Q : Int32 → Hs → Prop) (hw : p_X_status a1 h Q) : Met l yX9_status (mw yX9_status cX9_status 2 (some .int)) rm_X_status (va_Pc [.ref (ad 0), .int a1] (pW D q A (wX q ad h))) (va_Qi Q (fun h t => pW D q A (wX q ad h) t) A) 0 0 A := by
  refine met_i (Qp := Q) (by decide) (Nat.le_of_ble_eq_true rfl) ?_
  intro p e R s m args below meth c Qm ls hR1 hR2 S RT hl G
  have hx := S.1
  have hb := S.2.1
  have hl : lv_has ls 2 [(0, .ref (ad 0)), (1, .int a1)] := hl
  unfold p_X_status at hw
  refine lv_iload_n hx hb dX9_status_0 rfl (lv_at hl 1 rfl) ?_
  by_cases c_1_0 : a1 = 0
  · have hw := hw.1 c_1_0
    refine lv_tableIn (tgt := 28) hx hb dX9_status_1 (by rw [c_1_0]; decide) (by rw [c_1_0]; decide) (by rw [c_1_0]; rfl) (by decide) ?_
    refine lv_aload_n hx hb dX9_status_28 rfl (lv_at hl 0 rfl) ?_
    refine x_get (C := RX9) (T := TX9) (n := 12) S G inX9 (xe_10 kx_0) rfl 9 (by decide) kf_X9_263 rfl dX9_status_29 ?_
    exact RT _ _ _ _ _ _ G hw dX9_status_32
  have hw := hw.2
  by_cases c_1_1 : a1 = 1
  · have hw := hw.1 c_1_1
    refine lv_tableIn (tgt := 33) hx hb dX9_status_1 (by rw [c_1_1]; decide) (by rw [c_1_1]; decide) (by rw [c_1_1]; rfl) (by decide) ?_
    refine lv_aload_n hx hb dX9_status_33 rfl (lv_at hl 0 rfl) ?_
    refine x_get (C := RX9) (T := TX9) (n := 12) S G inX9 (xe_10 kx_0) rfl 10 (by decide) kf_X9_266 rfl dX9_status_34 ?_
    exact RT _ _ _ _ _ _ G hw dX9_status_37
  have hw := hw.2
  by_cases c_1_2 : a1 = 2
  · have hw := hw.1 c_1_2
    refine lv_tableIn (tgt := 38) hx hb dX9_status_1 (by rw [c_1_2]; decide) (by rw [c_1_2]; decide) (by rw [c_1_2]; rfl) (by decide) ?_
    refine lv_aload_n hx hb dX9_status_38 rfl (lv_at hl 0 rfl) ?_
    refine x_get (C := RX9) (T := TX9) (n := 12) S G inX9 (xe_10 kx_0) rfl 11 (by decide) kf_X9_269 rfl dX9_status_39 ?_
    exact RT _ _ _ _ _ _ G hw dX9_status_42
  have hw := hw.2
  have hw := hw c_1_0 c_1_1 c_1_2
  have hsw : (a1).toInt < 0 ∨ 2 < (a1).toInt := by
    have := neTI (k := 0) (n := 0) (by decide) c_1_0; have := neTI (k := 1) (n := 1) (by decide) c_1_1; have := neTI (k := 2) (n := 2) (by decide) c_1_2; omega
  refine lv_tableOut (tgt := 43) hx hb dX9_status_1 hsw (by decide) ?_
  refine lv_aload_n hx hb dX9_status_43 rfl (lv_at hl 0 rfl) ?_
  refine lv_dup hx hb dX9_status_44 rfl ?_
  refine x_get (C := RX9) (T := TX9) (n := 12) S G inX9 (xe_10 kx_0) rfl 9 (by decide) kf_X9_263 rfl dX9_status_45 ?_
  refine lv_iconst (v := 1) hx hb dX9_status_48 (by decide) ?_
  refine lv_iadd hx hb dX9_status_49 ?_
  refine x_put (C := RX9) (T := TX9) (n := 12) S G inX9 tyX9 tyX9_ok nmX9 (xe_10 kx_0) rfl 9 (by decide) kf_X9_263 rfl rfl rfl (Nat.le_of_ble_eq_true rfl) (xp_10_9 kx_0) dX9_status_50 (fun H locs G => ?_)
  obtain ⟨h_50, eh_50⟩ : ∃ y : Hs, y = si h 0 9 ((gi h 0 9) + 1) := ⟨_, rfl⟩
  rw [← eh_50] at G
  have hw := hw h_50 eh_50
  refine lv_iconst (v := (-1)) hx hb dX9_status_53 (by decide) ?_
  exact RT _ _ _ _ _ _ G hw dX9_status_54

abbrev rm_X_count : Room := { frames := 1, cells := 0, slots := 0, locals := 22 }
set_option maxHeartbeats 4000000 in
set_option maxRecDepth 100000 in
theorem c_X_count (l : Launch) (D : va_G) (q : Nat → ClassId) (A : Nat → Prop) (ad : Nat → Nat) (a1 : Int32) (h : Hs) (Q : Int32 → Hs → Prop) (hw : p_X_count a1 h Q) : Met l yX9_count (mw yX9_count cX9_count 2 (some .int)) rm_X_count (va_Pc [.ref (ad 0), .int a1] (pW D q A (wX q ad h))) (va_Qi Q (fun h t => pW D q A (wX q ad h) t) A) 0 0 A := by
  refine met_i (Qp := Q) (by decide) (Nat.le_of_ble_eq_true rfl) ?_
  intro p e R s m args below meth c Qm ls hR1 hR2 S RT hl G
  have hx := S.1
  have hb := S.2.1
  have hl : lv_has ls 2 [(0, .ref (ad 0)), (1, .int a1)] := hl
  unfold p_X_count at hw
  refine lv_iload_n hx hb dX9_count_0 rfl (lv_at hl 1 rfl) ?_
  refine lv_iconst (v := 0) hx hb dX9_count_1 (by decide) ?_
  refine lv_bipush (v := 7) hx hb dX9_count_2 (by decide) ?_
  refine x_SzP S hl.1 G (c_X_outside l D q A ad a1 0 7 h _ hw) (cw_X9_65 S.2.2.2.2 ⟨Nat.le_trans (Nat.le_of_ble_eq_true rfl) hR1, Nat.le_trans (Nat.le_of_ble_eq_true rfl) hR2⟩) rfl rfl (Nat.le_of_ble_eq_true rfl) dX9_count_4 (fun r_4 H locs G z_4 hw => ?_)
  refine lv_if_eq (tgt := 15) hx hb dX9_count_7 (by decide) (fun c_7 => ?_) (fun c_7 => ?_)
  · have hw := hw.1 c_7
    refine lv_aload_n hx hb dX9_count_15 rfl (lv_at hl 0 rfl) ?_
    refine x_get (C := RX9) (T := TX9) (n := 12) S G inX9 (xe_10 kx_0) rfl 2 (by decide) kf_X9_27 rfl dX9_count_16 ?_
    refine lv_iload_n hx hb dX9_count_19 rfl (lv_at hl 1 rfl) ?_
    refine x_ViP S hl.1 G (c_State_countOf l D q A ad a1 h _ hw) (cw_X9_272 S.2.2.2.2 ⟨Nat.le_trans (Nat.le_of_ble_eq_true rfl) hR1, Nat.le_trans (Nat.le_of_ble_eq_true rfl) hR2⟩) (xe_6 kx_3) rfl rfl rfl (Nat.le_of_ble_eq_true rfl) dX9_count_20 (fun r_20 H locs G hw => ?_)
    exact RT _ _ _ _ _ _ G hw dX9_count_23
  · have hw := hw.2 c_7
    refine lv_aload_n hx hb dX9_count_10 rfl (lv_at hl 0 rfl) ?_
    refine x_Vi S hl.1 G (c_X_bad l D q A ad h _ hw) (cw_X9_69 S.2.2.2.2 ⟨Nat.le_trans (Nat.le_of_ble_eq_true rfl) hR1, Nat.le_trans (Nat.le_of_ble_eq_true rfl) hR2⟩) (xe_10 kx_0) rfl rfl rfl (Nat.le_of_ble_eq_true rfl) dX9_count_11 (fun r_11 h_11 H locs G hw => ?_)
    exact RT _ _ _ _ _ _ G hw dX9_count_14

abbrev rm_X_digest : Room := { frames := 3, cells := 0, slots := 0, locals := 77 }
set_option maxHeartbeats 4000000 in
set_option maxRecDepth 100000 in
theorem c_X_digest (l : Launch) (D : va_G) (q : Nat → ClassId) (A : Nat → Prop) (ad : Nat → Nat) (h : Hs) (Q : Int64 → Prop) (hw : p_X_digest h Q) : Met l yX9_digest (mw yX9_digest cX9_digest 4 (some .long)) rm_X_digest (va_Pc [.ref (ad 0)] (pW D q A (wX q ad h))) (va_Ql (fun r h9 => h9 = h ∧ Q r) (fun h t => pW D q A (wX q ad h) t) A) 0 0 A := by
  refine met_l (Qp := (fun r h9 => h9 = h ∧ Q r)) (by decide) (Nat.le_of_ble_eq_true rfl) ?_
  intro p e R s m args below meth c Qm ls hR1 hR2 S RT hl G
  have hx := S.1
  have hb := S.2.1
  have hl : lv_has ls 4 [(0, .ref (ad 0))] := hl
  unfold p_X_digest at hw
  refine lv_aload_n hx hb dX9_digest_0 rfl (lv_at hl 0 rfl) ?_
  refine x_get (C := RX9) (T := TX9) (n := 12) S G inX9 (xe_10 kx_0) rfl 2 (by decide) kf_X9_27 rfl dX9_digest_1 ?_
  refine lv_ldc2 (v := 569) hx hb S.2.2.2.1 (S.2.2.2.2 _ kl_X9_275) dX9_digest_4 ?_
  refine x_VlP S hl.1 G (c_State_digestOnto l D q A ad 569 h _ hw) (cw_X9_277 S.2.2.2.2 ⟨Nat.le_trans (Nat.le_of_ble_eq_true rfl) hR1, Nat.le_trans (Nat.le_of_ble_eq_true rfl) hR2⟩) (xe_6 kx_3) rfl rfl rfl (Nat.le_of_ble_eq_true rfl) dX9_digest_7 (fun r_7 H locs G hw => ?_)
  refine lv_lstore_n (lv' := [(1, .long r_7), (0, .ref (ad 0))]) hx hb dX9_digest_10 rfl hl (by decide) rfl (fun ls hl => ?_)
  refine lv_iconst (v := 0) hx hb dX9_digest_11 (by decide) ?_
  refine lv_istore_n (lv' := [(3, .int 0), (1, .long r_7), (0, .ref (ad 0))]) hx hb dX9_digest_12 rfl hl (by decide) rfl (fun ls hl => ?_)
  have hw := hw (fun (b1_13 : Int64) (b3_13 : Int32) => ∀ (ls : Array Slot) (H : Heap) (locs : List Loc), lv_has ls 4 [(0, .ref (ad 0)), (1, .long b1_13), (3, .int b3_13)] → okW D q A s (wX q ad h) H locs → W p l e R s m args below meth c H locs 0 0 Qm (F0 m 13 ls [])) (by
    intro b1_13 b3_13 hw ls H locs hl G
    refine lv_iload_n hx hb dX9_digest_13 rfl (lv_at hl 2 rfl) ?_
    refine lv_iconst (v := 2) hx hb dX9_digest_14 (by decide) ?_
    refine lv_icmp_gt (tgt := 37) hx hb dX9_digest_15 (by decide) (fun c_15 => ?_) (fun c_15 => ?_)
    · have hw := hw.1 c_15
      refine lv_lload_n hx hb dX9_digest_37 rfl (lv_at hl 1 rfl) ?_
      refine lv_aload_n hx hb dX9_digest_38 rfl (lv_at hl 0 rfl) ?_
      refine x_get (C := RX9) (T := TX9) (n := 12) S G inX9 (xe_10 kx_0) rfl 5 (by decide) kf_X9_41 rfl dX9_digest_39 ?_
      refine x_get (C := RX2) (T := TX2) (n := 5) S G inX2 (xe_3 kx_406) rfl 0 (by decide) kf_X9_247 rfl dX9_digest_42 ?_
      refine x_get (C := RX0) (T := TX0) (n := 2) S G inX0 (xe_1 kx_407) rfl 0 (by decide) kf_X9_283 rfl dX9_digest_45 ?_
      refine lv_aload_n hx hb dX9_digest_48 rfl (lv_at hl 0 rfl) ?_
      refine x_get (C := RX9) (T := TX9) (n := 12) S G inX9 (xe_10 kx_0) rfl 5 (by decide) kf_X9_41 rfl dX9_digest_49 ?_
      refine x_get (C := RX2) (T := TX2) (n := 5) S G inX2 (xe_3 kx_406) rfl 0 (by decide) kf_X9_247 rfl dX9_digest_52 ?_
      refine x_get (C := RX0) (T := TX0) (n := 2) S G inX0 (xe_1 kx_407) rfl 1 (by decide) kf_X9_253 rfl dX9_digest_55 ?_
      refine x_SlP S hl.1 G (c_X_digestRow l D q A ad b1_13 408 (gi h 407 1) kx_408 h _ hw) (cw_X9_286 S.2.2.2.2 ⟨Nat.le_trans (Nat.le_of_ble_eq_true rfl) hR1, Nat.le_trans (Nat.le_of_ble_eq_true rfl) hR2⟩) rfl rfl (Nat.le_of_ble_eq_true rfl) dX9_digest_58 (fun r_58 H locs G hw => ?_)
      refine lv_lstore_n (lv' := [(1, .long r_58), (0, .ref (ad 0)), (3, .int b3_13)]) hx hb dX9_digest_61 rfl hl (by decide) rfl (fun ls hl => ?_)
      refine lv_lload_n hx hb dX9_digest_62 rfl (lv_at hl 0 rfl) ?_
      refine lv_aload_n hx hb dX9_digest_63 rfl (lv_at hl 1 rfl) ?_
      refine x_get (C := RX9) (T := TX9) (n := 12) S G inX9 (xe_10 kx_0) rfl 5 (by decide) kf_X9_41 rfl dX9_digest_64 ?_
      refine x_get (C := RX2) (T := TX2) (n := 5) S G inX2 (xe_3 kx_406) rfl 1 (by decide) kf_X9_250 rfl dX9_digest_67 ?_
      refine x_get (C := RX0) (T := TX0) (n := 2) S G inX0 (xe_1 kx_409) rfl 0 (by decide) kf_X9_283 rfl dX9_digest_70 ?_
      refine lv_aload_n hx hb dX9_digest_73 rfl (lv_at hl 1 rfl) ?_
      refine x_get (C := RX9) (T := TX9) (n := 12) S G inX9 (xe_10 kx_0) rfl 5 (by decide) kf_X9_41 rfl dX9_digest_74 ?_
      refine x_get (C := RX2) (T := TX2) (n := 5) S G inX2 (xe_3 kx_406) rfl 1 (by decide) kf_X9_250 rfl dX9_digest_77 ?_
      refine x_get (C := RX0) (T := TX0) (n := 2) S G inX0 (xe_1 kx_409) rfl 1 (by decide) kf_X9_253 rfl dX9_digest_80 ?_
      refine x_SlP S hl.1 G (c_X_digestRow l D q A ad r_58 410 (gi h 409 1) kx_410 h _ hw) (cw_X9_286 S.2.2.2.2 ⟨Nat.le_trans (Nat.le_of_ble_eq_true rfl) hR1, Nat.le_trans (Nat.le_of_ble_eq_true rfl) hR2⟩) rfl rfl (Nat.le_of_ble_eq_true rfl) dX9_digest_83 (fun r_83 H locs G hw => ?_)
      exact RT _ _ _ _ _ _ G ⟨rfl, hw⟩ dX9_digest_86
    · have hw := hw.2 c_15
      refine lv_ldc2 (v := 31) hx hb S.2.2.2.1 (S.2.2.2.2 _ kl_X9_281) dX9_digest_18 ?_
      refine lv_lload_n hx hb dX9_digest_21 rfl (lv_at hl 1 rfl) ?_
      refine lv_lmul hx hb dX9_digest_22 ?_
      refine lv_aload_n hx hb dX9_digest_23 rfl (lv_at hl 0 rfl) ?_
      refine lv_iload_n hx hb dX9_digest_24 rfl (lv_at hl 2 rfl) ?_
      refine x_ViP S hl.1 G (c_X_partOf l D q A ad b3_13 h _ hw) (cw_X9_244 S.2.2.2.2 ⟨Nat.le_trans (Nat.le_of_ble_eq_true rfl) hR1, Nat.le_trans (Nat.le_of_ble_eq_true rfl) hR2⟩) (xe_10 kx_0) rfl rfl rfl (Nat.le_of_ble_eq_true rfl) dX9_digest_25 (fun r_25 H locs G hw => ?_)
      refine lv_i2l hx hb dX9_digest_28 rfl ?_
      refine lv_ladd hx hb dX9_digest_29 ?_
      refine lv_topl (fun a1_30 ea1_30 => ?_)
      have hw := hw a1_30 ea1_30
      refine lv_lstore_n (lv' := [(1, .long a1_30), (0, .ref (ad 0)), (3, .int b3_13)]) hx hb dX9_digest_30 rfl hl (by decide) rfl (fun ls hl => ?_)
      obtain ⟨a3_31, ea3_31⟩ : ∃ y : Int32, y = b3_13 + 1 := ⟨_, rfl⟩
      have hw := hw a3_31 ea3_31
      refine lv_iinc (v := a3_31) (lv' := [(3, .int a3_31), (1, .long a1_30), (0, .ref (ad 0))]) hx hb dX9_digest_31 hl (k := 2) rfl (by rw [ea3_31]; rfl) (by decide) rfl (fun ls hl => ?_)
      refine lv_goto (tgt := 13) hx hb dX9_digest_34 (by decide) ?_
      exact hw _ _ _ (lv_sub hl [2, 1, 0] rfl) G)
  exact hw _ _ _ (lv_sub hl [2, 1, 0] rfl) G

