abbrev rm_Big_isZero : Room := { frames := 0, cells := 0, slots := 0, locals := 0 }
set_option maxHeartbeats 4000000 in
set_option maxRecDepth 100000 in
theorem c_Big_isZero (l : Launch) (D : va_G) (q : Nat → ClassId) (A : Nat → Prop) (ad : Nat → Nat) (a0 : Nat) (k0 : kX a0 = 1) (h : Hs) (Q : Int32 → Prop) (hw : p_Big_isZero a0 h Q) : Met l yX0_isZero (mw yX0_isZero cX0_isZero 1 (some .boolean)) rm_Big_isZero (va_Pc [.ref (ad a0)] (pW D q A (wX q ad h))) (va_Qi (fun r h9 => zb r ∧ h9 = h ∧ Q r) (fun h t => pW D q A (wX q ad h) t) A) 0 0 A := by
  refine met_z (Qp := (fun r h9 => h9 = h ∧ Q r)) (by decide) (Nat.le_of_ble_eq_true rfl) ?_
  intro p e R s m args below meth c Qm ls hR1 hR2 S RT hl G
  have hx := S.1
  have hb := S.2.1
  have hl : lv_has ls 1 [(0, .ref (ad a0))] := hl
  unfold p_Big_isZero at hw
  refine lv_aload_n hx hb dX0_isZero_0 rfl (lv_at hl 0 rfl) ?_
  refine x_get (C := RX0) (T := TX0) (n := 2) S G inX0 (xe_1 k0) rfl 1 (by decide) kf_X0_19 rfl dX0_isZero_1 ?_
  have hw := hw (fun (t0_12 : Int32) => ∀ (ls : Array Slot) (H : Heap) (locs : List Loc), lv_has ls 1 [] → okW D q A s (wX q ad h) H locs → W p l e R s m args below meth c H locs 0 0 Qm (F0 m 12 ls [.int t0_12])) (by
    intro t0_12 hw ls H locs hl G
    obtain ⟨z_12, hw⟩ := hw
    exact RT _ _ _ _ _ _ G z_12 ⟨rfl, hw⟩ dX0_isZero_12)
  refine lv_if_ne (tgt := 11) hx hb dX0_isZero_4 (by decide) (fun c_4 => ?_) (fun c_4 => ?_)
  · have hw := hw.1 c_4
    refine lv_iconst (v := 0) hx hb dX0_isZero_11 (by decide) ?_
    exact hw _ _ _ (lv_sub hl [] rfl) G
  · have hw := hw.2 c_4
    refine lv_iconst (v := 1) hx hb dX0_isZero_7 (by decide) ?_
    refine lv_goto (tgt := 12) hx hb dX0_isZero_8 (by decide) ?_
    exact hw _ _ _ (lv_sub hl [] rfl) G
theorem cw_X0_50 {R : Room} {s : State} {args : Array Value} (hts : ∀ w ∈ gW, w.before args s = true) (hR : rm_Big_isZero.frames + 1 ≤ R.frames ∧ 8 + (1 + 11) + rm_Big_isZero.locals ≤ R.locals) : CallW R s args RX0 RX0 50 yX0_isZero cX0_isZero 1 (some .boolean) (mw yX0_isZero cX0_isZero 1 (some .boolean)) rm_Big_isZero 0 0 0 := cwV9 hts km_X0_50 ki_X0_isZero ks_X0_isZero kn_X0 kk_X0_isZero rfl rfl (by decide +kernel) hR
theorem cw_X2_48 {R : Room} {s : State} {args : Array Value} (hts : ∀ w ∈ gW, w.before args s = true) (hR : rm_Big_isZero.frames + 1 ≤ R.frames ∧ 8 + (1 + 11) + rm_Big_isZero.locals ≤ R.locals) : CallW R s args RX2 RX0 48 yX0_isZero cX0_isZero 1 (some .boolean) (mw yX0_isZero cX0_isZero 1 (some .boolean)) rm_Big_isZero 0 0 0 := cwV9 hts km_X2_48 ki_X0_isZero ks_X0_isZero kn_X0 kk_X0_isZero rfl rfl (by decide +kernel) hR
theorem cw_X8_155 {R : Room} {s : State} {args : Array Value} (hts : ∀ w ∈ gW, w.before args s = true) (hR : rm_Big_isZero.frames + 1 ≤ R.frames ∧ 8 + (1 + 11) + rm_Big_isZero.locals ≤ R.locals) : CallW R s args RX8 RX0 155 yX0_isZero cX0_isZero 1 (some .boolean) (mw yX0_isZero cX0_isZero 1 (some .boolean)) rm_Big_isZero 0 0 0 := cwV9 hts km_X8_155 ki_X0_isZero ks_X0_isZero kn_X0 kk_X0_isZero rfl rfl (by decide +kernel) hR
theorem cw_X9_299 {R : Room} {s : State} {args : Array Value} (hts : ∀ w ∈ gW, w.before args s = true) (hR : rm_Big_isZero.frames + 1 ≤ R.frames ∧ 8 + (1 + 11) + rm_Big_isZero.locals ≤ R.locals) : CallW R s args RX9 RX0 299 yX0_isZero cX0_isZero 1 (some .boolean) (mw yX0_isZero cX0_isZero 1 (some .boolean)) rm_Big_isZero 0 0 0 := cwV9 hts km_X9_299 ki_X0_isZero ks_X0_isZero kn_X0 kk_X0_isZero rfl rfl (by decide +kernel) hR
abbrev rm_Big_digit : Room := { frames := 0, cells := 0, slots := 0, locals := 0 }
set_option maxHeartbeats 4000000 in
set_option maxRecDepth 100000 in
theorem c_Big_digit (l : Launch) (D : va_G) (q : Nat → ClassId) (A : Nat → Prop) (ad : Nat → Nat) (a0 : Nat) (a1 : Int32) (k0 : kX a0 = 1) (h : Hs) (Q : Int32 → Prop) (hw : p_Big_digit a0 a1 h Q) : Met l yX0_digit (mw yX0_digit cX0_digit 2 (some .int)) rm_Big_digit (va_Pc [.ref (ad a0), .int a1] (pW D q A (wX q ad h))) (va_Qi (fun r h9 => h9 = h ∧ Q r) (fun h t => pW D q A (wX q ad h) t) A) 0 0 A := by
  refine met_i (Qp := (fun r h9 => h9 = h ∧ Q r)) (by decide) (Nat.le_of_ble_eq_true rfl) ?_
  intro p e R s m args below meth c Qm ls hR1 hR2 S RT hl G
  have hx := S.1
  have hb := S.2.1
  have hl : lv_has ls 2 [(0, .ref (ad a0)), (1, .int a1)] := hl
  unfold p_Big_digit at hw
  refine lv_iload_n hx hb dX0_digit_0 rfl (lv_at hl 1 rfl) ?_
  have hw := hw (fun (t0_31 : Int32) => ∀ (ls : Array Slot) (H : Heap) (locs : List Loc), lv_has ls 2 [] → okW D q A s (wX q ad h) H locs → W p l e R s m args below meth c H locs 0 0 Qm (F0 m 31 ls [.int t0_31])) (by
    intro t0_31 hw ls H locs hl G
    exact RT _ _ _ _ _ _ G ⟨rfl, hw⟩ dX0_digit_31)
  have hw := hw (∀ (ls : Array Slot) (H : Heap) (locs : List Loc), lv_has ls 2 [] → okW D q A s (wX q ad h) H locs → W p l e R s m args below meth c H locs 0 0 Qm (F0 m 30 ls [])) (by
    intro hw ls H locs hl G
    refine lv_iconst (v := 0) hx hb dX0_digit_30 (by decide) ?_
    exact hw _ _ _ (lv_sub hl [] rfl) G)
  refine lv_if_lt (tgt := 30) hx hb dX0_digit_1 (by decide) (fun c_1 => ?_) (fun c_1 => ?_)
  · have hw := hw.1 c_1
    exact hw _ _ _ (lv_sub hl [] rfl) G
  · have hw := hw.2 c_1
    refine lv_iload_n hx hb dX0_digit_4 rfl (lv_at hl 1 rfl) ?_
    refine lv_aload_n hx hb dX0_digit_5 rfl (lv_at hl 0 rfl) ?_
    refine x_get (C := RX0) (T := TX0) (n := 2) S G inX0 (xe_1 k0) rfl 1 (by decide) kf_X0_19 rfl dX0_digit_6 ?_
    refine lv_icmp_ge (tgt := 30) hx hb dX0_digit_9 (by decide) (fun c_9 => ?_) (fun c_9 => ?_)
    · have hw := hw.1 c_9
      exact hw _ _ _ (lv_sub hl [] rfl) G
    · have hw := hw.2 c_9
      refine lv_iload_n hx hb dX0_digit_12 rfl (lv_at hl 1 rfl) ?_
      refine lv_aload_n hx hb dX0_digit_13 rfl (lv_at hl 0 rfl) ?_
      refine x_get (C := RX0) (T := TX0) (n := 2) S G inX0 (xe_1 k0) rfl 0 (by decide) kf_X0_13 rfl dX0_digit_14 ?_
      refine x_alen (v := nI (lX (a0 + 1))) S G 0 (xe_20 (kxr_1 _ (kX_lt k0) k0) rfl) rfl rfl dX0_digit_17 ?_
      refine lv_icmp_ge (tgt := 30) hx hb dX0_digit_18 (by decide) (fun c_18 => ?_) (fun c_18 => ?_)
      · have hw := hw.1 c_18
        exact hw _ _ _ (lv_sub hl [] rfl) G
      · have hw := hw.2 c_18
        refine lv_aload_n hx hb dX0_digit_21 rfl (lv_at hl 0 rfl) ?_
        refine x_get (C := RX0) (T := TX0) (n := 2) S G inX0 (xe_1 k0) rfl 0 (by decide) kf_X0_13 rfl dX0_digit_22 ?_
        refine lv_iload_n hx hb dX0_digit_25 rfl (lv_at hl 1 rfl) ?_
        obtain ⟨i_26, hw⟩ := hw
        refine x_iald (k := a1.toNatClampNeg) S G (xe_20 (kxr_1 _ (kX_lt k0) k0) rfl) i_26 rfl rfl dX0_digit_26 ?_
        refine lv_goto (tgt := 31) hx hb dX0_digit_27 (by decide) ?_
        exact hw _ _ _ (lv_sub hl [] rfl) G
theorem cw_X0_58 {R : Room} {s : State} {args : Array Value} (hts : ∀ w ∈ gW, w.before args s = true) (hR : rm_Big_digit.frames + 1 ≤ R.frames ∧ 8 + (2 + 11) + rm_Big_digit.locals ≤ R.locals) : CallW R s args RX0 RX0 58 yX0_digit cX0_digit 2 (some .int) (mw yX0_digit cX0_digit 2 (some .int)) rm_Big_digit 0 0 1 := cwV9 hts km_X0_58 ki_X0_digit ks_X0_digit kn_X0 kk_X0_digit rfl rfl (by decide +kernel) hR
theorem cw_X9_256 {R : Room} {s : State} {args : Array Value} (hts : ∀ w ∈ gW, w.before args s = true) (hR : rm_Big_digit.frames + 1 ≤ R.frames ∧ 8 + (2 + 11) + rm_Big_digit.locals ≤ R.locals) : CallW R s args RX9 RX0 256 yX0_digit cX0_digit 2 (some .int) (mw yX0_digit cX0_digit 2 (some .int)) rm_Big_digit 0 0 1 := cwV9 hts km_X9_256 ki_X0_digit ks_X0_digit kn_X0 kk_X0_digit rfl rfl (by decide +kernel) hR
abbrev rm_Big_growTo : Room := { frames := 0, cells := 0, slots := 0, locals := 0 }
set_option maxHeartbeats 4000000 in
set_option maxRecDepth 100000 in
theorem c_Big_growTo (l : Launch) (D : va_G) (q : Nat → ClassId) (A : Nat → Prop) (ad : Nat → Nat) (a0 : Nat) (a1 : Int32) (k0 : kX a0 = 1) (h : Hs) (Q : Hs → Prop) (hw : p_Big_growTo a0 a1 h Q) : Met l yX0_growTo (mw yX0_growTo cX0_growTo 2 none) rm_Big_growTo (va_Pc [.ref (ad a0), .int a1] (pW D q A (wX q ad h))) (va_Qv Q (fun h t => pW D q A (wX q ad h) t) A) 0 0 A := by
  refine met_v (Qp := Q) (by decide) (Nat.le_of_ble_eq_true rfl) ?_
  intro p e R s m args below meth c Qm ls hR1 hR2 S RT hl G
  have hx := S.1
  have hb := S.2.1
  have hl : lv_has ls 2 [(0, .ref (ad a0)), (1, .int a1)] := hl
  unfold p_Big_growTo at hw
  have hw := hw (fun (g_0 : Hs) => ∀ (ls : Array Slot) (H : Heap) (locs : List Loc), lv_has ls 2 [(0, .ref (ad a0)), (1, .int a1)] → okW D q A s (wX q ad g_0) H locs → W p l e R s m args below meth c H locs 0 0 Qm (F0 m 0 ls [])) (by
    intro g_0 hw ls H locs hl G
    refine lv_aload_n hx hb dX0_growTo_0 rfl (lv_at hl 0 rfl) ?_
    refine x_get (C := RX0) (T := TX0) (n := 2) S G inX0 (xe_1 k0) rfl 1 (by decide) kf_X0_19 rfl dX0_growTo_1 ?_
    refine lv_iload_n hx hb dX0_growTo_4 rfl (lv_at hl 1 rfl) ?_
    have hw := hw (∀ (ls : Array Slot) (H : Heap) (locs : List Loc), lv_has ls 2 [] → okW D q A s (wX q ad g_0) H locs → W p l e R s m args below meth c H locs 0 0 Qm (F0 m 43 ls [])) (by
      intro hw ls H locs hl G
      exact RT _ _ _ _ _ G hw dX0_growTo_43)
    refine lv_icmp_ge (tgt := 43) hx hb dX0_growTo_5 (by decide) (fun c_5 => ?_) (fun c_5 => ?_)
    · have hw := hw.1 c_5
      exact hw _ _ _ (lv_sub hl [] rfl) G
    · have hw := hw.2 c_5
      refine lv_aload_n hx hb dX0_growTo_8 rfl (lv_at hl 0 rfl) ?_
      refine x_get (C := RX0) (T := TX0) (n := 2) S G inX0 (xe_1 k0) rfl 1 (by decide) kf_X0_19 rfl dX0_growTo_9 ?_
      refine lv_aload_n hx hb dX0_growTo_12 rfl (lv_at hl 0 rfl) ?_
      refine x_get (C := RX0) (T := TX0) (n := 2) S G inX0 (xe_1 k0) rfl 0 (by decide) kf_X0_13 rfl dX0_growTo_13 ?_
      refine x_alen (v := nI (lX (a0 + 1))) S G 0 (xe_20 (kxr_1 _ (kX_lt k0) k0) rfl) rfl rfl dX0_growTo_16 ?_
      refine lv_icmp_ge (tgt := 43) hx hb dX0_growTo_17 (by decide) (fun c_17 => ?_) (fun c_17 => ?_)
      · have hw := hw.1 c_17
        exact hw _ _ _ (lv_sub hl [] rfl) G
      · have hw := hw.2 c_17
        refine lv_aload_n hx hb dX0_growTo_20 rfl (lv_at hl 0 rfl) ?_
        refine x_get (C := RX0) (T := TX0) (n := 2) S G inX0 (xe_1 k0) rfl 0 (by decide) kf_X0_13 rfl dX0_growTo_21 ?_
        refine lv_aload_n hx hb dX0_growTo_24 rfl (lv_at hl 0 rfl) ?_
        refine x_get (C := RX0) (T := TX0) (n := 2) S G inX0 (xe_1 k0) rfl 1 (by decide) kf_X0_19 rfl dX0_growTo_25 ?_
        refine lv_iconst (v := 0) hx hb dX0_growTo_28 (by decide) ?_
        obtain ⟨i_29, hw⟩ := hw
        refine x_iast (k := (gi g_0 a0 1).toNatClampNeg) S G (xe_20 (kxr_1 _ (kX_lt k0) k0) rfl) i_29 rfl (xs_20 (kxr_1 _ (kX_lt k0) k0) rfl) dX0_growTo_29 (fun H locs G => ?_)
        obtain ⟨h_29, eh_29⟩ : ∃ y : Hs, y = si g_0 (a0 + 1) ((gi g_0 a0 1).toNatClampNeg) 0 := ⟨_, rfl⟩
        rw [← eh_29] at G
        have hw := hw h_29 eh_29
        refine lv_aload_n hx hb dX0_growTo_30 rfl (lv_at hl 0 rfl) ?_
        refine lv_dup hx hb dX0_growTo_31 rfl ?_
        refine x_get (C := RX0) (T := TX0) (n := 2) S G inX0 (xe_1 k0) rfl 1 (by decide) kf_X0_19 rfl dX0_growTo_32 ?_
        refine lv_iconst (v := 1) hx hb dX0_growTo_35 (by decide) ?_
        refine lv_iadd hx hb dX0_growTo_36 ?_
        refine x_put (C := RX0) (T := TX0) (n := 2) S G inX0 tyX0 tyX0_ok nmX0 (xe_1 k0) rfl 1 (by decide) kf_X0_19 rfl rfl rfl (Nat.le_of_ble_eq_true rfl) (xp_1_1 k0) dX0_growTo_37 (fun H locs G => ?_)
        obtain ⟨h_37, eh_37⟩ : ∃ y : Hs, y = si h_29 a0 1 ((gi h_29 a0 1) + 1) := ⟨_, rfl⟩
        rw [← eh_37] at G
        have hw := hw h_37 eh_37
        refine lv_goto (tgt := 0) hx hb dX0_growTo_40 (by decide) ?_
        exact hw _ _ _ (lv_sub hl [0, 1] rfl) G)
  exact hw _ _ _ (lv_sub hl [0, 1] rfl) G
theorem cw_X0_38 {R : Room} {s : State} {args : Array Value} (hts : ∀ w ∈ gW, w.before args s = true) (hR : rm_Big_growTo.frames + 1 ≤ R.frames ∧ 8 + (2 + 11) + rm_Big_growTo.locals ≤ R.locals) : CallW R s args RX0 RX0 38 yX0_growTo cX0_growTo 2 none (mw yX0_growTo cX0_growTo 2 none) rm_Big_growTo 0 0 1 := cwV9 hts km_X0_38 ki_X0_growTo ks_X0_growTo kn_X0 kk_X0_growTo rfl rfl (by decide +kernel) hR
abbrev rm_Big_trim : Room := { frames := 0, cells := 0, slots := 0, locals := 0 }
set_option maxHeartbeats 4000000 in
set_option maxRecDepth 100000 in
theorem c_Big_trim (l : Launch) (D : va_G) (q : Nat → ClassId) (A : Nat → Prop) (ad : Nat → Nat) (a0 : Nat) (k0 : kX a0 = 1) (h : Hs) (Q : Hs → Prop) (hw : p_Big_trim a0 h Q) : Met l yX0_trim (mw yX0_trim cX0_trim 1 none) rm_Big_trim (va_Pc [.ref (ad a0)] (pW D q A (wX q ad h))) (va_Qv Q (fun h t => pW D q A (wX q ad h) t) A) 0 0 A := by
  refine met_v (Qp := Q) (by decide) (Nat.le_of_ble_eq_true rfl) ?_
  intro p e R s m args below meth c Qm ls hR1 hR2 S RT hl G
  have hx := S.1
  have hb := S.2.1
  have hl : lv_has ls 1 [(0, .ref (ad a0))] := hl
  unfold p_Big_trim at hw
  have hw := hw (fun (g_0 : Hs) => ∀ (ls : Array Slot) (H : Heap) (locs : List Loc), lv_has ls 1 [(0, .ref (ad a0))] → okW D q A s (wX q ad g_0) H locs → W p l e R s m args below meth c H locs 0 0 Qm (F0 m 0 ls [])) (by
    intro g_0 hw ls H locs hl G
    refine lv_aload_n hx hb dX0_trim_0 rfl (lv_at hl 0 rfl) ?_
    refine x_get (C := RX0) (T := TX0) (n := 2) S G inX0 (xe_1 k0) rfl 1 (by decide) kf_X0_19 rfl dX0_trim_1 ?_
    have hw := hw (∀ (ls : Array Slot) (H : Heap) (locs : List Loc), lv_has ls 1 [] → okW D q A s (wX q ad g_0) H locs → W p l e R s m args below meth c H locs 0 0 Qm (F0 m 34 ls [])) (by
      intro hw ls H locs hl G
      exact RT _ _ _ _ _ G hw dX0_trim_34)
    refine lv_if_le (tgt := 34) hx hb dX0_trim_4 (by decide) (fun c_4 => ?_) (fun c_4 => ?_)
    · have hw := hw.1 c_4
      exact hw _ _ _ (lv_sub hl [] rfl) G
    · have hw := hw.2 c_4
      refine lv_aload_n hx hb dX0_trim_7 rfl (lv_at hl 0 rfl) ?_
      refine x_get (C := RX0) (T := TX0) (n := 2) S G inX0 (xe_1 k0) rfl 0 (by decide) kf_X0_13 rfl dX0_trim_8 ?_
      refine lv_aload_n hx hb dX0_trim_11 rfl (lv_at hl 0 rfl) ?_
      refine x_get (C := RX0) (T := TX0) (n := 2) S G inX0 (xe_1 k0) rfl 1 (by decide) kf_X0_19 rfl dX0_trim_12 ?_
      refine lv_iconst (v := 1) hx hb dX0_trim_15 (by decide) ?_
      refine lv_isub hx hb dX0_trim_16 ?_
      obtain ⟨i_17, hw⟩ := hw
      refine x_iald (k := ((gi g_0 a0 1) - 1).toNatClampNeg) S G (xe_20 (kxr_1 _ (kX_lt k0) k0) rfl) i_17 rfl rfl dX0_trim_17 ?_
      refine lv_if_ne (tgt := 34) hx hb dX0_trim_18 (by decide) (fun c_18 => ?_) (fun c_18 => ?_)
      · have hw := hw.1 c_18
        exact hw _ _ _ (lv_sub hl [] rfl) G
      · have hw := hw.2 c_18
        refine lv_aload_n hx hb dX0_trim_21 rfl (lv_at hl 0 rfl) ?_
        refine lv_dup hx hb dX0_trim_22 rfl ?_
        refine x_get (C := RX0) (T := TX0) (n := 2) S G inX0 (xe_1 k0) rfl 1 (by decide) kf_X0_19 rfl dX0_trim_23 ?_
        refine lv_iconst (v := 1) hx hb dX0_trim_26 (by decide) ?_
        refine lv_isub hx hb dX0_trim_27 ?_
        refine x_put (C := RX0) (T := TX0) (n := 2) S G inX0 tyX0 tyX0_ok nmX0 (xe_1 k0) rfl 1 (by decide) kf_X0_19 rfl rfl rfl (Nat.le_of_ble_eq_true rfl) (xp_1_1 k0) dX0_trim_28 (fun H locs G => ?_)
        obtain ⟨h_28, eh_28⟩ : ∃ y : Hs, y = si g_0 a0 1 ((gi g_0 a0 1) - 1) := ⟨_, rfl⟩
        rw [← eh_28] at G
        have hw := hw h_28 eh_28
        refine lv_goto (tgt := 0) hx hb dX0_trim_31 (by decide) ?_
        exact hw _ _ _ (lv_sub hl [0] rfl) G)
  exact hw _ _ _ (lv_sub hl [0] rfl) G
theorem cw_X0_42 {R : Room} {s : State} {args : Array Value} (hts : ∀ w ∈ gW, w.before args s = true) (hR : rm_Big_trim.frames + 1 ≤ R.frames ∧ 8 + (1 + 11) + rm_Big_trim.locals ≤ R.locals) : CallW R s args RX0 RX0 42 yX0_trim cX0_trim 1 none (mw yX0_trim cX0_trim 1 none) rm_Big_trim 0 0 0 := cwV9 hts km_X0_42 ki_X0_trim ks_X0_trim kn_X0 kk_X0_trim rfl rfl (by decide +kernel) hR
abbrev rm_Big_become : Room := { frames := 0, cells := 0, slots := 0, locals := 0 }
set_option maxHeartbeats 4000000 in
set_option maxRecDepth 100000 in
theorem c_Big_become (l : Launch) (D : va_G) (q : Nat → ClassId) (A : Nat → Prop) (ad : Nat → Nat) (a0 : Nat) (a1 : Int64) (k0 : kX a0 = 1) (h : Hs) (Q : Hs → Prop) (hw : p_Big_become a0 a1 h Q) : Met l yX0_become (mw yX0_become cX0_become 5 none) rm_Big_become (va_Pc [.ref (ad a0), .long a1] (pW D q A (wX q ad h))) (va_Qv Q (fun h t => pW D q A (wX q ad h) t) A) 0 0 A := by
  refine met_v (Qp := Q) (by decide) (Nat.le_of_ble_eq_true rfl) ?_
  intro p e R s m args below meth c Qm ls hR1 hR2 S RT hl G
  have hx := S.1
  have hb := S.2.1
  have hl : lv_has ls 5 [(0, .ref (ad a0)), (1, .long a1)] := hl
  unfold p_Big_become at hw
  refine lv_aload_n hx hb dX0_become_0 rfl (lv_at hl 0 rfl) ?_
  refine lv_iconst (v := 0) hx hb dX0_become_1 (by decide) ?_
  refine x_put (C := RX0) (T := TX0) (n := 2) S G inX0 tyX0 tyX0_ok nmX0 (xe_1 k0) rfl 1 (by decide) kf_X0_19 rfl rfl rfl (Nat.le_of_ble_eq_true rfl) (xp_1_1 k0) dX0_become_2 (fun H locs G => ?_)
  obtain ⟨h_2, eh_2⟩ : ∃ y : Hs, y = si h a0 1 0 := ⟨_, rfl⟩
  rw [← eh_2] at G
  have hw := hw h_2 eh_2
  refine lv_lload_n hx hb dX0_become_5 rfl (lv_at hl 1 rfl) ?_
  refine lv_lstore_n (lv' := [(3, .long a1), (0, .ref (ad a0)), (1, .long a1)]) hx hb dX0_become_6 rfl hl (by decide) rfl (fun ls hl => ?_)
  have hw := hw (fun (b3_7 : Int64) (g_7 : Hs) => ∀ (ls : Array Slot) (H : Heap) (locs : List Loc), lv_has ls 5 [(0, .ref (ad a0)), (3, .long b3_7)] → okW D q A s (wX q ad g_7) H locs → W p l e R s m args below meth c H locs 0 0 Qm (F0 m 7 ls [])) (by
    intro b3_7 g_7 hw ls H locs hl G
    refine lv_lload_n hx hb dX0_become_7 rfl (lv_at hl 1 rfl) ?_
    refine lv_lconst (v := 0) hx hb dX0_become_8 (by decide) ?_
    refine W.lcmp hx hb dX0_become_9 ?_
    have hw := hw (∀ (ls : Array Slot) (H : Heap) (locs : List Loc), lv_has ls 5 [] → okW D q A s (wX q ad g_7) H locs → W p l e R s m args below meth c H locs 0 0 Qm (F0 m 58 ls [])) (by
      intro hw ls H locs hl G
      exact RT _ _ _ _ _ G hw dX0_become_58)
    refine lv_if_le (tgt := 58) hx hb dX0_become_10 (by decide) (fun c_10 => ?_) (fun c_10 => ?_)
    · have hw := hw.1 c_10
      exact hw _ _ _ (lv_sub hl [] rfl) G
    · have hw := hw.2 c_10
      refine lv_aload_n hx hb dX0_become_13 rfl (lv_at hl 0 rfl) ?_
      refine x_get (C := RX0) (T := TX0) (n := 2) S G inX0 (xe_1 k0) rfl 1 (by decide) kf_X0_19 rfl dX0_become_14 ?_
      refine lv_aload_n hx hb dX0_become_17 rfl (lv_at hl 0 rfl) ?_
      refine x_get (C := RX0) (T := TX0) (n := 2) S G inX0 (xe_1 k0) rfl 0 (by decide) kf_X0_13 rfl dX0_become_18 ?_
      refine x_alen (v := nI (lX (a0 + 1))) S G 0 (xe_20 (kxr_1 _ (kX_lt k0) k0) rfl) rfl rfl dX0_become_21 ?_
      refine lv_icmp_ge (tgt := 58) hx hb dX0_become_22 (by decide) (fun c_22 => ?_) (fun c_22 => ?_)
      · have hw := hw.1 c_22
        exact hw _ _ _ (lv_sub hl [] rfl) G
      · have hw := hw.2 c_22
        refine lv_aload_n hx hb dX0_become_25 rfl (lv_at hl 0 rfl) ?_
        refine x_get (C := RX0) (T := TX0) (n := 2) S G inX0 (xe_1 k0) rfl 0 (by decide) kf_X0_13 rfl dX0_become_26 ?_
        refine lv_aload_n hx hb dX0_become_29 rfl (lv_at hl 0 rfl) ?_
        refine x_get (C := RX0) (T := TX0) (n := 2) S G inX0 (xe_1 k0) rfl 1 (by decide) kf_X0_19 rfl dX0_become_30 ?_
        refine lv_lload_n hx hb dX0_become_33 rfl (lv_at hl 1 rfl) ?_
        refine lv_ldc2 (v := 1073741823) hx hb S.2.2.2.1 (S.2.2.2.2 _ kl_X0_23) dX0_become_34 ?_
        refine lv_land hx hb dX0_become_37 ?_
        refine lv_l2i hx hb dX0_become_38 rfl ?_
        obtain ⟨i_39, hw⟩ := hw
        refine x_iast (k := (gi g_7 a0 1).toNatClampNeg) S G (xe_20 (kxr_1 _ (kX_lt k0) k0) rfl) i_39 rfl (xs_20 (kxr_1 _ (kX_lt k0) k0) rfl) dX0_become_39 (fun H locs G => ?_)
        obtain ⟨h_39, eh_39⟩ : ∃ y : Hs, y = si g_7 (a0 + 1) ((gi g_7 a0 1).toNatClampNeg) ((b3_7 &&& 1073741823).toInt32) := ⟨_, rfl⟩
        rw [← eh_39] at G
        have hw := hw h_39 eh_39
        refine lv_aload_n hx hb dX0_become_40 rfl (lv_at hl 0 rfl) ?_
        refine lv_dup hx hb dX0_become_41 rfl ?_
        refine x_get (C := RX0) (T := TX0) (n := 2) S G inX0 (xe_1 k0) rfl 1 (by decide) kf_X0_19 rfl dX0_become_42 ?_
        refine lv_iconst (v := 1) hx hb dX0_become_45 (by decide) ?_
        refine lv_iadd hx hb dX0_become_46 ?_
        refine x_put (C := RX0) (T := TX0) (n := 2) S G inX0 tyX0 tyX0_ok nmX0 (xe_1 k0) rfl 1 (by decide) kf_X0_19 rfl rfl rfl (Nat.le_of_ble_eq_true rfl) (xp_1_1 k0) dX0_become_47 (fun H locs G => ?_)
        obtain ⟨h_47, eh_47⟩ : ∃ y : Hs, y = si h_39 a0 1 ((gi h_39 a0 1) + 1) := ⟨_, rfl⟩
        rw [← eh_47] at G
        have hw := hw h_47 eh_47
        refine lv_lload_n hx hb dX0_become_50 rfl (lv_at hl 1 rfl) ?_
        refine lv_bipush (v := 30) hx hb dX0_become_51 (by decide) ?_
        refine lv_lshr hx hb dX0_become_53 rfl ?_
        refine lv_topl (fun a3_54 ea3_54 => ?_)
        have hw := hw a3_54 ea3_54
        refine lv_lstore_n (lv' := [(3, .long a3_54), (0, .ref (ad a0))]) hx hb dX0_become_54 rfl hl (by decide) rfl (fun ls hl => ?_)
        refine lv_goto (tgt := 7) hx hb dX0_become_55 (by decide) ?_
        exact hw _ _ _ (lv_sub hl [1, 0] rfl) G)
  exact hw _ _ _ (lv_sub hl [1, 0] rfl) G
theorem cw_X0_45 {R : Room} {s : State} {args : Array Value} (hts : ∀ w ∈ gW, w.before args s = true) (hR : rm_Big_become.frames + 1 ≤ R.frames ∧ 8 + (5 + 11) + rm_Big_become.locals ≤ R.locals) : CallW R s args RX0 RX0 45 yX0_become cX0_become 5 none (mw yX0_become cX0_become 5 none) rm_Big_become 0 0 1 := cwV9 hts km_X0_45 ki_X0_become ks_X0_become kn_X0 kk_X0_become rfl rfl (by decide +kernel) hR
theorem cw_X1_69 {R : Room} {s : State} {args : Array Value} (hts : ∀ w ∈ gW, w.before args s = true) (hR : rm_Big_become.frames + 1 ≤ R.frames ∧ 8 + (5 + 11) + rm_Big_become.locals ≤ R.locals) : CallW R s args RX1 RX0 69 yX0_become cX0_become 5 none (mw yX0_become cX0_become 5 none) rm_Big_become 0 0 1 := cwV9 hts km_X1_69 ki_X0_become ks_X0_become kn_X0 kk_X0_become rfl rfl (by decide +kernel) hR
theorem cw_X8_100 {R : Room} {s : State} {args : Array Value} (hts : ∀ w ∈ gW, w.before args s = true) (hR : rm_Big_become.frames + 1 ≤ R.frames ∧ 8 + (5 + 11) + rm_Big_become.locals ≤ R.locals) : CallW R s args RX8 RX0 100 yX0_become cX0_become 5 none (mw yX0_become cX0_become 5 none) rm_Big_become 0 0 1 := cwV9 hts km_X8_100 ki_X0_become ks_X0_become kn_X0 kk_X0_become rfl rfl (by decide +kernel) hR
theorem cw_X9_227 {R : Room} {s : State} {args : Array Value} (hts : ∀ w ∈ gW, w.before args s = true) (hR : rm_Big_become.frames + 1 ≤ R.frames ∧ 8 + (5 + 11) + rm_Big_become.locals ≤ R.locals) : CallW R s args RX9 RX0 227 yX0_become cX0_become 5 none (mw yX0_become cX0_become 5 none) rm_Big_become 0 0 1 := cwV9 hts km_X9_227 ki_X0_become ks_X0_become kn_X0 kk_X0_become rfl rfl (by decide +kernel) hR
abbrev rm_Big_copy : Room := { frames := 1, cells := 0, slots := 0, locals := 26 }
set_option maxHeartbeats 4000000 in
set_option maxRecDepth 100000 in
theorem c_Big_copy (l : Launch) (D : va_G) (q : Nat → ClassId) (A : Nat → Prop) (ad : Nat → Nat) (a0 : Nat) (a1 : Nat) (k0 : kX a0 = 1) (k1 : kX a1 = 1) (h : Hs) (Q : Hs → Prop) (hw : p_Big_copy a0 a1 h Q) : Met l yX0_copy (mw yX0_copy cX0_copy 2 none) rm_Big_copy (va_Pc [.ref (ad a0), .ref (ad a1)] (pW D q A (wX q ad h))) (va_Qv Q (fun h t => pW D q A (wX q ad h) t) A) 0 0 A := by
  refine met_v (Qp := Q) (by decide) (Nat.le_of_ble_eq_true rfl) ?_
  intro p e R s m args below meth c Qm ls hR1 hR2 S RT hl G
  have hx := S.1
  have hb := S.2.1
  have hl : lv_has ls 2 [(0, .ref (ad a0)), (1, .ref (ad a1))] := hl
  unfold p_Big_copy at hw
  refine lv_aload_n hx hb dX0_copy_0 rfl (lv_at hl 0 rfl) ?_
  refine lv_aload_n hx hb dX0_copy_1 rfl (lv_at hl 1 rfl) ?_
  refine x_get (C := RX0) (T := TX0) (n := 2) S G inX0 (xe_1 k1) rfl 1 (by decide) kf_X0_19 rfl dX0_copy_2 ?_
  refine lv_aload_n hx hb dX0_copy_5 rfl (lv_at hl 0 rfl) ?_
  refine x_get (C := RX0) (T := TX0) (n := 2) S G inX0 (xe_1 k0) rfl 0 (by decide) kf_X0_13 rfl dX0_copy_6 ?_
  refine x_alen (v := nI (lX (a0 + 1))) S G 0 (xe_20 (kxr_1 _ (kX_lt k0) k0) rfl) rfl rfl dX0_copy_9 ?_
  refine va_mmin hx hb (S.2.2.1.trans hl.1.symm) S.2.2.2.1 (S.2.2.2.2 _ km_X0_25) (S.2.2.2.2 _ kt_J9_min_7cf53) (S.2.2.2.2 _ kn_J9) (S.2.2.2.2 _ kk_J9_min_7cf53) (Nat.le_trans (Nat.le_of_ble_eq_true rfl) hR1) (Nat.le_trans (Nat.le_of_ble_eq_true rfl) hR2) (Nat.zero_le _) (Nat.zero_le _) dX0_copy_10 ?_
  refine x_put (C := RX0) (T := TX0) (n := 2) S G inX0 tyX0 tyX0_ok nmX0 (xe_1 k0) rfl 1 (by decide) kf_X0_19 rfl rfl rfl (Nat.le_of_ble_eq_true rfl) (xp_1_1 k0) dX0_copy_13 (fun H locs G => ?_)
  obtain ⟨h_13, eh_13⟩ : ∃ y : Hs, y = si h a0 1 (if (nI (lX (a0 + 1))) < (gi h a1 1) then (nI (lX (a0 + 1))) else (gi h a1 1)) := ⟨_, rfl⟩
  rw [← eh_13] at G
  have hw := hw h_13 eh_13
  refine lv_aload_n hx hb dX0_copy_16 rfl (lv_at hl 1 rfl) ?_
  refine x_get (C := RX0) (T := TX0) (n := 2) S G inX0 (xe_1 k1) rfl 0 (by decide) kf_X0_13 rfl dX0_copy_17 ?_
  refine lv_iconst (v := 0) hx hb dX0_copy_20 (by decide) ?_
  refine lv_aload_n hx hb dX0_copy_21 rfl (lv_at hl 0 rfl) ?_
  refine x_get (C := RX0) (T := TX0) (n := 2) S G inX0 (xe_1 k0) rfl 0 (by decide) kf_X0_13 rfl dX0_copy_22 ?_
  refine lv_iconst (v := 0) hx hb dX0_copy_25 (by decide) ?_
  refine lv_aload_n hx hb dX0_copy_26 rfl (lv_at hl 0 rfl) ?_
  refine x_get (C := RX0) (T := TX0) (n := 2) S G inX0 (xe_1 k0) rfl 1 (by decide) kf_X0_19 rfl dX0_copy_27 ?_
  obtain ⟨y1_30, y2_30, y3_30, hw⟩ := hw
  refine x_copy S hl.1 G km_X0_28 kv_copy kt_J10_arraycopy kn_J10 (xe_20 (kxr_1 _ (kX_lt k1) k1) rfl) (xe_20 (kxr_1 _ (kX_lt k0) k0) rfl) (by decide) (by decide) y1_30 (by rw [z0c, Nat.zero_add]; exact y2_30) (by rw [z0c, Nat.zero_add]; exact y3_30) (xt_20 (kxr_1 _ (kX_lt k0) k0) rfl) (Nat.le_trans (Nat.le_of_ble_eq_true rfl) hR1) (Nat.le_trans (Nat.le_of_ble_eq_true rfl) hR2) dX0_copy_30 (fun H locs G => ?_)
  obtain ⟨h_30, eh_30⟩ : ∃ y : Hs, y = sa h_13 (a0 + 1) (va_cpy (gi h_13 (a1 + 1)) (gi h_13 (a0 + 1)) (0 : Int32).toNatClampNeg (0 : Int32).toNatClampNeg (gi h_13 a0 1).toNatClampNeg) := ⟨_, rfl⟩
  rw [← eh_30] at G
  have hw := hw h_30 eh_30
  exact RT _ _ _ _ _ G hw dX0_copy_33
theorem cw_X1_56 {R : Room} {s : State} {args : Array Value} (hts : ∀ w ∈ gW, w.before args s = true) (hR : rm_Big_copy.frames + 1 ≤ R.frames ∧ 8 + (2 + 11) + rm_Big_copy.locals ≤ R.locals) : CallW R s args RX1 RX0 56 yX0_copy cX0_copy 2 none (mw yX0_copy cX0_copy 2 none) rm_Big_copy 0 0 1 := cwV9 hts km_X1_56 ki_X0_copy ks_X0_copy kn_X0 kk_X0_copy rfl rfl (by decide +kernel) hR
theorem cw_X2_36 {R : Room} {s : State} {args : Array Value} (hts : ∀ w ∈ gW, w.before args s = true) (hR : rm_Big_copy.frames + 1 ≤ R.frames ∧ 8 + (2 + 11) + rm_Big_copy.locals ≤ R.locals) : CallW R s args RX2 RX0 36 yX0_copy cX0_copy 2 none (mw yX0_copy cX0_copy 2 none) rm_Big_copy 0 0 1 := cwV9 hts km_X2_36 ki_X0_copy ks_X0_copy kn_X0 kk_X0_copy rfl rfl (by decide +kernel) hR
abbrev rm_Big_times : Room := { frames := 0, cells := 0, slots := 0, locals := 0 }
set_option maxHeartbeats 4000000 in
set_option maxRecDepth 100000 in
theorem c_Big_times (l : Launch) (D : va_G) (q : Nat → ClassId) (A : Nat → Prop) (ad : Nat → Nat) (a0 : Nat) (a1 : Int32) (k0 : kX a0 = 1) (h : Hs) (Q : Hs → Prop) (hw : p_Big_times a0 a1 h Q) : Met l yX0_times (mw yX0_times cX0_times 5 none) rm_Big_times (va_Pc [.ref (ad a0), .int a1] (pW D q A (wX q ad h))) (va_Qv Q (fun h t => pW D q A (wX q ad h) t) A) 0 0 A := by
  refine met_v (Qp := Q) (by decide) (Nat.le_of_ble_eq_true rfl) ?_
  intro p e R s m args below meth c Qm ls hR1 hR2 S RT hl G
  have hx := S.1
  have hb := S.2.1
  have hl : lv_has ls 5 [(0, .ref (ad a0)), (1, .int a1)] := hl
  unfold p_Big_times at hw
  refine lv_iload_n hx hb dX0_times_0 rfl (lv_at hl 1 rfl) ?_
  have hw := hw (fun (g_9 : Hs) => ∀ (ls : Array Slot) (H : Heap) (locs : List Loc), lv_has ls 5 [(0, .ref (ad a0)), (1, .int a1)] → okW D q A s (wX q ad g_9) H locs → W p l e R s m args below meth c H locs 0 0 Qm (F0 m 9 ls [])) (by
    intro g_9 hw ls H locs hl G
    refine lv_lconst (v := 0) hx hb dX0_times_9 (by decide) ?_
    refine lv_lstore_n (lv' := [(2, .long 0), (0, .ref (ad a0)), (1, .int a1)]) hx hb dX0_times_10 rfl hl (by decide) rfl (fun ls hl => ?_)
    refine lv_iconst (v := 0) hx hb dX0_times_11 (by decide) ?_
    refine lv_istore (lv' := [(4, .int 0), (2, .long 0), (0, .ref (ad a0)), (1, .int a1)]) hx hb dX0_times_12 hl (by decide) rfl (fun ls hl => ?_)
    have hw := hw (fun (b2_14 : Int64) (b4_14 : Int32) (g_14 : Hs) => ∀ (ls : Array Slot) (H : Heap) (locs : List Loc), lv_has ls 5 [(0, .ref (ad a0)), (1, .int a1), (2, .long b2_14), (4, .int b4_14)] → okW D q A s (wX q ad g_14) H locs → W p l e R s m args below meth c H locs 0 0 Qm (F0 m 14 ls [])) (by
      intro b2_14 b4_14 g_14 hw ls H locs hl G
      refine lv_iload hx hb dX0_times_14 (lv_at hl 3 rfl) ?_
      refine lv_aload_n hx hb dX0_times_16 rfl (lv_at hl 0 rfl) ?_
      refine x_get (C := RX0) (T := TX0) (n := 2) S G inX0 (xe_1 k0) rfl 1 (by decide) kf_X0_19 rfl dX0_times_17 ?_
      refine lv_icmp_ge (tgt := 61) hx hb dX0_times_20 (by decide) (fun c_20 => ?_) (fun c_20 => ?_)
      · have hw := hw.1 c_20
        refine lv_lload_n hx hb dX0_times_61 rfl (lv_at hl 2 rfl) ?_
        refine lv_lconst (v := 0) hx hb dX0_times_62 (by decide) ?_
        refine W.lcmp hx hb dX0_times_63 ?_
        have hw := hw (fun (g_100 : Hs) => ∀ (ls : Array Slot) (H : Heap) (locs : List Loc), lv_has ls 5 [] → okW D q A s (wX q ad g_100) H locs → W p l e R s m args below meth c H locs 0 0 Qm (F0 m 100 ls [])) (by
          intro g_100 hw ls H locs hl G
          exact RT _ _ _ _ _ G hw dX0_times_100)
        refine lv_if_le (tgt := 100) hx hb dX0_times_64 (by decide) (fun c_64 => ?_) (fun c_64 => ?_)
        · have hw := hw.1 c_64
          exact hw _ _ _ (lv_sub hl [] rfl) G
        · have hw := hw.2 c_64
          refine lv_aload_n hx hb dX0_times_67 rfl (lv_at hl 0 rfl) ?_
          refine x_get (C := RX0) (T := TX0) (n := 2) S G inX0 (xe_1 k0) rfl 1 (by decide) kf_X0_19 rfl dX0_times_68 ?_
          refine lv_aload_n hx hb dX0_times_71 rfl (lv_at hl 0 rfl) ?_
          refine x_get (C := RX0) (T := TX0) (n := 2) S G inX0 (xe_1 k0) rfl 0 (by decide) kf_X0_13 rfl dX0_times_72 ?_
          refine x_alen (v := nI (lX (a0 + 1))) S G 0 (xe_20 (kxr_1 _ (kX_lt k0) k0) rfl) rfl rfl dX0_times_75 ?_
          refine lv_icmp_ge (tgt := 100) hx hb dX0_times_76 (by decide) (fun c_76 => ?_) (fun c_76 => ?_)
          · have hw := hw.1 c_76
            exact hw _ _ _ (lv_sub hl [] rfl) G
          · have hw := hw.2 c_76
            refine lv_aload_n hx hb dX0_times_79 rfl (lv_at hl 0 rfl) ?_
            refine x_get (C := RX0) (T := TX0) (n := 2) S G inX0 (xe_1 k0) rfl 0 (by decide) kf_X0_13 rfl dX0_times_80 ?_
            refine lv_aload_n hx hb dX0_times_83 rfl (lv_at hl 0 rfl) ?_
            refine x_get (C := RX0) (T := TX0) (n := 2) S G inX0 (xe_1 k0) rfl 1 (by decide) kf_X0_19 rfl dX0_times_84 ?_
            refine lv_lload_n hx hb dX0_times_87 rfl (lv_at hl 2 rfl) ?_
            refine lv_l2i hx hb dX0_times_88 rfl ?_
            obtain ⟨i_89, hw⟩ := hw
            refine x_iast (k := (gi g_14 a0 1).toNatClampNeg) S G (xe_20 (kxr_1 _ (kX_lt k0) k0) rfl) i_89 rfl (xs_20 (kxr_1 _ (kX_lt k0) k0) rfl) dX0_times_89 (fun H locs G => ?_)
            obtain ⟨h_89, eh_89⟩ : ∃ y : Hs, y = si g_14 (a0 + 1) ((gi g_14 a0 1).toNatClampNeg) b2_14.toInt32 := ⟨_, rfl⟩
            rw [← eh_89] at G
            have hw := hw h_89 eh_89
            refine lv_aload_n hx hb dX0_times_90 rfl (lv_at hl 0 rfl) ?_
            refine lv_dup hx hb dX0_times_91 rfl ?_
            refine x_get (C := RX0) (T := TX0) (n := 2) S G inX0 (xe_1 k0) rfl 1 (by decide) kf_X0_19 rfl dX0_times_92 ?_
            refine lv_iconst (v := 1) hx hb dX0_times_95 (by decide) ?_
            refine lv_iadd hx hb dX0_times_96 ?_
            refine x_put (C := RX0) (T := TX0) (n := 2) S G inX0 tyX0 tyX0_ok nmX0 (xe_1 k0) rfl 1 (by decide) kf_X0_19 rfl rfl rfl (Nat.le_of_ble_eq_true rfl) (xp_1_1 k0) dX0_times_97 (fun H locs G => ?_)
            obtain ⟨h_97, eh_97⟩ : ∃ y : Hs, y = si h_89 a0 1 ((gi h_89 a0 1) + 1) := ⟨_, rfl⟩
            rw [← eh_97] at G
            have hw := hw h_97 eh_97
            exact hw _ _ _ (lv_sub hl [] rfl) G
      · have hw := hw.2 c_20
        refine lv_lload_n hx hb dX0_times_23 rfl (lv_at hl 2 rfl) ?_
        refine lv_aload_n hx hb dX0_times_24 rfl (lv_at hl 0 rfl) ?_
        refine x_get (C := RX0) (T := TX0) (n := 2) S G inX0 (xe_1 k0) rfl 0 (by decide) kf_X0_13 rfl dX0_times_25 ?_
        refine lv_iload hx hb dX0_times_28 (lv_at hl 3 rfl) ?_
        obtain ⟨i_30, hw⟩ := hw
        refine x_iald (k := b4_14.toNatClampNeg) S G (xe_20 (kxr_1 _ (kX_lt k0) k0) rfl) i_30 rfl rfl dX0_times_30 ?_
        refine lv_i2l hx hb dX0_times_31 rfl ?_
        refine lv_iload_n hx hb dX0_times_32 rfl (lv_at hl 1 rfl) ?_
        refine lv_i2l hx hb dX0_times_33 rfl ?_
        refine lv_lmul hx hb dX0_times_34 ?_
        refine lv_ladd hx hb dX0_times_35 ?_
        refine lv_topl (fun a2_36 ea2_36 => ?_)
        have hw := hw a2_36 ea2_36
        refine lv_lstore_n (lv' := [(2, .long a2_36), (0, .ref (ad a0)), (1, .int a1), (4, .int b4_14)]) hx hb dX0_times_36 rfl hl (by decide) rfl (fun ls hl => ?_)
        refine lv_aload_n hx hb dX0_times_37 rfl (lv_at hl 1 rfl) ?_
        refine x_get (C := RX0) (T := TX0) (n := 2) S G inX0 (xe_1 k0) rfl 0 (by decide) kf_X0_13 rfl dX0_times_38 ?_
        refine lv_iload hx hb dX0_times_41 (lv_at hl 3 rfl) ?_
        refine lv_lload_n hx hb dX0_times_43 rfl (lv_at hl 0 rfl) ?_
        refine lv_ldc2 (v := 1073741823) hx hb S.2.2.2.1 (S.2.2.2.2 _ kl_X0_23) dX0_times_44 ?_
        refine lv_land hx hb dX0_times_47 ?_
        refine lv_l2i hx hb dX0_times_48 rfl ?_
        obtain ⟨i_49, hw⟩ := hw
        refine x_iast (k := b4_14.toNatClampNeg) S G (xe_20 (kxr_1 _ (kX_lt k0) k0) rfl) i_49 rfl (xs_20 (kxr_1 _ (kX_lt k0) k0) rfl) dX0_times_49 (fun H locs G => ?_)
        obtain ⟨h_49, eh_49⟩ : ∃ y : Hs, y = si g_14 (a0 + 1) b4_14.toNatClampNeg ((a2_36 &&& 1073741823).toInt32) := ⟨_, rfl⟩
        rw [← eh_49] at G
        have hw := hw h_49 eh_49
        refine lv_lload_n hx hb dX0_times_50 rfl (lv_at hl 0 rfl) ?_
        refine lv_bipush (v := 30) hx hb dX0_times_51 (by decide) ?_
        refine lv_lshr hx hb dX0_times_53 rfl ?_
        refine lv_topl (fun a2_54 ea2_54 => ?_)
        have hw := hw a2_54 ea2_54
        refine lv_lstore_n (lv' := [(2, .long a2_54), (0, .ref (ad a0)), (1, .int a1), (4, .int b4_14)]) hx hb dX0_times_54 rfl hl (by decide) rfl (fun ls hl => ?_)
        obtain ⟨a4_55, ea4_55⟩ : ∃ y : Int32, y = b4_14 + 1 := ⟨_, rfl⟩
        have hw := hw a4_55 ea4_55
        refine lv_iinc (v := a4_55) (lv' := [(4, .int a4_55), (2, .long a2_54), (0, .ref (ad a0)), (1, .int a1)]) hx hb dX0_times_55 hl (k := 3) rfl (by rw [ea4_55]; rfl) (by decide) rfl (fun ls hl => ?_)
        refine lv_goto (tgt := 14) hx hb dX0_times_58 (by decide) ?_
        exact hw _ _ _ (lv_sub hl [2, 3, 1, 0] rfl) G)
    exact hw _ _ _ (lv_sub hl [2, 3, 1, 0] rfl) G)
  refine lv_if_ne (tgt := 9) hx hb dX0_times_1 (by decide) (fun c_1 => ?_) (fun c_1 => ?_)
  · have hw := hw.1 c_1
    exact hw _ _ _ (lv_sub hl [0, 1] rfl) G
  · have hw := hw.2 c_1
    refine lv_aload_n hx hb dX0_times_4 rfl (lv_at hl 0 rfl) ?_
    refine lv_iconst (v := 0) hx hb dX0_times_5 (by decide) ?_
    refine x_put (C := RX0) (T := TX0) (n := 2) S G inX0 tyX0 tyX0_ok nmX0 (xe_1 k0) rfl 1 (by decide) kf_X0_19 rfl rfl rfl (Nat.le_of_ble_eq_true rfl) (xp_1_1 k0) dX0_times_6 (fun H locs G => ?_)
    obtain ⟨h_6, eh_6⟩ : ∃ y : Hs, y = si h a0 1 0 := ⟨_, rfl⟩
    rw [← eh_6] at G
    have hw := hw h_6 eh_6
    exact hw _ _ _ (lv_sub hl [0, 1] rfl) G
theorem cw_X0_34 {R : Room} {s : State} {args : Array Value} (hts : ∀ w ∈ gW, w.before args s = true) (hR : rm_Big_times.frames + 1 ≤ R.frames ∧ 8 + (5 + 11) + rm_Big_times.locals ≤ R.locals) : CallW R s args RX0 RX0 34 yX0_times cX0_times 5 none (mw yX0_times cX0_times 5 none) rm_Big_times 0 0 1 := cwV9 hts km_X0_34 ki_X0_times ks_X0_times kn_X0 kk_X0_times rfl rfl (by decide +kernel) hR
theorem cw_X1_63 {R : Room} {s : State} {args : Array Value} (hts : ∀ w ∈ gW, w.before args s = true) (hR : rm_Big_times.frames + 1 ≤ R.frames ∧ 8 + (5 + 11) + rm_Big_times.locals ≤ R.locals) : CallW R s args RX1 RX0 63 yX0_times cX0_times 5 none (mw yX0_times cX0_times 5 none) rm_Big_times 0 0 1 := cwV9 hts km_X1_63 ki_X0_times ks_X0_times kn_X0 kk_X0_times rfl rfl (by decide +kernel) hR
theorem cw_X8_149 {R : Room} {s : State} {args : Array Value} (hts : ∀ w ∈ gW, w.before args s = true) (hR : rm_Big_times.frames + 1 ≤ R.frames ∧ 8 + (5 + 11) + rm_Big_times.locals ≤ R.locals) : CallW R s args RX8 RX0 149 yX0_times cX0_times 5 none (mw yX0_times cX0_times 5 none) rm_Big_times 0 0 1 := cwV9 hts km_X8_149 ki_X0_times ks_X0_times kn_X0 kk_X0_times rfl rfl (by decide +kernel) hR
abbrev rm_Big_timesPower : Room := { frames := 1, cells := 0, slots := 0, locals := 24 }
set_option maxHeartbeats 4000000 in
set_option maxRecDepth 100000 in
theorem c_Big_timesPower (l : Launch) (D : va_G) (q : Nat → ClassId) (A : Nat → Prop) (ad : Nat → Nat) (a0 : Nat) (a1 : Int32) (a2 : Int32) (k0 : kX a0 = 1) (h : Hs) (Q : Hs → Prop) (hw : p_Big_timesPower a0 a1 a2 h Q) : Met l yX0_timesPower (mw yX0_timesPower cX0_timesPower 6 none) rm_Big_timesPower (va_Pc [.ref (ad a0), .int a1, .int a2] (pW D q A (wX q ad h))) (va_Qv Q (fun h t => pW D q A (wX q ad h) t) A) 0 0 A := by
  refine met_v (Qp := Q) (by decide) (Nat.le_of_ble_eq_true rfl) ?_
  intro p e R s m args below meth c Qm ls hR1 hR2 S RT hl G
  have hx := S.1
  have hb := S.2.1
  have hl : lv_has ls 6 [(0, .ref (ad a0)), (1, .int a1), (2, .int a2)] := hl
  unfold p_Big_timesPower at hw
  refine lv_iload_n hx hb dX0_timesPower_0 rfl (lv_at hl 2 rfl) ?_
  refine lv_istore_n (lv' := [(3, .int a2), (0, .ref (ad a0)), (1, .int a1), (2, .int a2)]) hx hb dX0_timesPower_1 rfl hl (by decide) rfl (fun ls hl => ?_)
  have hw := hw (fun (b3_2 : Int32) (g_2 : Hs) => ∀ (ls : Array Slot) (H : Heap) (locs : List Loc), lv_has ls 6 [(0, .ref (ad a0)), (1, .int a1), (3, .int b3_2)] → okW D q A s (wX q ad g_2) H locs → W p l e R s m args below meth c H locs 0 0 Qm (F0 m 2 ls [])) (by
    intro b3_2 g_2 hw ls H locs hl G
    refine lv_iload_n hx hb dX0_timesPower_2 rfl (lv_at hl 2 rfl) ?_
    refine lv_if_le (tgt := 49) hx hb dX0_timesPower_3 (by decide) (fun c_3 => ?_) (fun c_3 => ?_)
    · have hw := hw.1 c_3
      exact RT _ _ _ _ _ G hw dX0_timesPower_49
    · have hw := hw.2 c_3
      refine lv_iconst (v := 1) hx hb dX0_timesPower_6 (by decide) ?_
      refine lv_istore (lv' := [(4, .int 1), (0, .ref (ad a0)), (1, .int a1), (3, .int b3_2)]) hx hb dX0_timesPower_7 hl (by decide) rfl (fun ls hl => ?_)
      refine lv_iconst (v := 0) hx hb dX0_timesPower_9 (by decide) ?_
      refine lv_istore (lv' := [(5, .int 0), (4, .int 1), (0, .ref (ad a0)), (1, .int a1), (3, .int b3_2)]) hx hb dX0_timesPower_10 hl (by decide) rfl (fun ls hl => ?_)
      have hw := hw (fun (b4_12 : Int32) (b5_12 : Int32) => ∀ (ls : Array Slot) (H : Heap) (locs : List Loc), lv_has ls 6 [(0, .ref (ad a0)), (1, .int a1), (3, .int b3_2), (4, .int b4_12), (5, .int b5_12)] → okW D q A s (wX q ad g_2) H locs → W p l e R s m args below meth c H locs 0 0 Qm (F0 m 12 ls [])) (by
        intro b4_12 b5_12 hw ls H locs hl G
        refine lv_iload hx hb dX0_timesPower_12 (lv_at hl 4 rfl) ?_
        refine lv_bipush (v := 9) hx hb dX0_timesPower_14 (by decide) ?_
        have hw := hw (∀ (ls : Array Slot) (H : Heap) (locs : List Loc), lv_has ls 6 [(0, .ref (ad a0)), (1, .int a1), (3, .int b3_2), (4, .int b4_12)] → okW D q A s (wX q ad g_2) H locs → W p l e R s m args below meth c H locs 0 0 Qm (F0 m 37 ls [])) (by
          intro hw ls H locs hl G
          refine lv_aload_n hx hb dX0_timesPower_37 rfl (lv_at hl 0 rfl) ?_
          refine lv_iload hx hb dX0_timesPower_38 (lv_at hl 3 rfl) ?_
          refine x_Vv S hl.1 G (c_Big_times l D q A ad a0 b4_12 k0 g_2 _ hw) (cw_X0_34 S.2.2.2.2 ⟨Nat.le_trans (Nat.le_of_ble_eq_true rfl) hR1, Nat.le_trans (Nat.le_of_ble_eq_true rfl) hR2⟩) (xe_1 k0) rfl rfl rfl (Nat.le_of_ble_eq_true rfl) dX0_timesPower_40 (fun h_40 H locs G hw => ?_)
          obtain ⟨a3_43, ea3_43⟩ : ∃ y : Int32, y = b3_2 + (-9) := ⟨_, rfl⟩
          have hw := hw a3_43 ea3_43
          refine lv_iinc (v := a3_43) (lv' := [(3, .int a3_43), (0, .ref (ad a0)), (1, .int a1), (4, .int b4_12)]) hx hb dX0_timesPower_43 hl (k := 2) rfl (by rw [ea3_43]; rfl) (by decide) rfl (fun ls hl => ?_)
          refine lv_goto (tgt := 2) hx hb dX0_timesPower_46 (by decide) ?_
          exact hw _ _ _ (lv_sub hl [1, 2, 0] rfl) G)
        refine lv_icmp_ge (tgt := 37) hx hb dX0_timesPower_16 (by decide) (fun c_16 => ?_) (fun c_16 => ?_)
        · have hw := hw.1 c_16
          exact hw _ _ _ (lv_sub hl [0, 1, 2, 3] rfl) G
        · have hw := hw.2 c_16
          refine lv_iload hx hb dX0_timesPower_19 (lv_at hl 4 rfl) ?_
          refine lv_iload_n hx hb dX0_timesPower_21 rfl (lv_at hl 2 rfl) ?_
          refine lv_icmp_ge (tgt := 37) hx hb dX0_timesPower_22 (by decide) (fun c_22 => ?_) (fun c_22 => ?_)
          · have hw := hw.1 c_22
            exact hw _ _ _ (lv_sub hl [0, 1, 2, 3] rfl) G
          · have hw := hw.2 c_22
            refine lv_iload hx hb dX0_timesPower_25 (lv_at hl 3 rfl) ?_
            refine lv_iload_n hx hb dX0_timesPower_27 rfl (lv_at hl 1 rfl) ?_
            refine lv_imul hx hb dX0_timesPower_28 ?_
            refine lv_topi (fun a4_29 ea4_29 => ?_)
            have hw := hw a4_29 ea4_29
            refine lv_istore (lv' := [(4, .int a4_29), (0, .ref (ad a0)), (1, .int a1), (3, .int b3_2), (5, .int b5_12)]) hx hb dX0_timesPower_29 hl (by decide) rfl (fun ls hl => ?_)
            obtain ⟨a5_31, ea5_31⟩ : ∃ y : Int32, y = b5_12 + 1 := ⟨_, rfl⟩
            have hw := hw a5_31 ea5_31
            refine lv_iinc (v := a5_31) (lv' := [(5, .int a5_31), (4, .int a4_29), (0, .ref (ad a0)), (1, .int a1), (3, .int b3_2)]) hx hb dX0_timesPower_31 hl (k := 4) rfl (by rw [ea5_31]; rfl) (by decide) rfl (fun ls hl => ?_)
            refine lv_goto (tgt := 12) hx hb dX0_timesPower_34 (by decide) ?_
            exact hw _ _ _ (lv_sub hl [2, 3, 4, 1, 0] rfl) G)
      exact hw _ _ _ (lv_sub hl [2, 3, 4, 1, 0] rfl) G)
  exact hw _ _ _ (lv_sub hl [1, 2, 0] rfl) G
theorem cw_X1_60 {R : Room} {s : State} {args : Array Value} (hts : ∀ w ∈ gW, w.before args s = true) (hR : rm_Big_timesPower.frames + 1 ≤ R.frames ∧ 8 + (6 + 11) + rm_Big_timesPower.locals ≤ R.locals) : CallW R s args RX1 RX0 60 yX0_timesPower cX0_timesPower 6 none (mw yX0_timesPower cX0_timesPower 6 none) rm_Big_timesPower 0 0 2 := cwV9 hts km_X1_60 ki_X0_timesPower ks_X0_timesPower kn_X0 kk_X0_timesPower rfl rfl (by decide +kernel) hR
theorem cw_X8_177 {R : Room} {s : State} {args : Array Value} (hts : ∀ w ∈ gW, w.before args s = true) (hR : rm_Big_timesPower.frames + 1 ≤ R.frames ∧ 8 + (6 + 11) + rm_Big_timesPower.locals ≤ R.locals) : CallW R s args RX8 RX0 177 yX0_timesPower cX0_timesPower 6 none (mw yX0_timesPower cX0_timesPower 6 none) rm_Big_timesPower 0 0 2 := cwV9 hts km_X8_177 ki_X0_timesPower ks_X0_timesPower kn_X0 kk_X0_timesPower rfl rfl (by decide +kernel) hR
abbrev rm_Big_plus : Room := { frames := 1, cells := 0, slots := 0, locals := 21 }
set_option maxHeartbeats 4000000 in
set_option maxRecDepth 100000 in
theorem c_Big_plus (l : Launch) (D : va_G) (q : Nat → ClassId) (A : Nat → Prop) (ad : Nat → Nat) (a0 : Nat) (a1 : Nat) (k0 : kX a0 = 1) (k1 : kX a1 = 1) (h : Hs) (Q : Hs → Prop) (hw : p_Big_plus a0 a1 h Q) : Met l yX0_plus (mw yX0_plus cX0_plus 4 none) rm_Big_plus (va_Pc [.ref (ad a0), .ref (ad a1)] (pW D q A (wX q ad h))) (va_Qv Q (fun h t => pW D q A (wX q ad h) t) A) 0 0 A := by
  refine met_v (Qp := Q) (by decide) (Nat.le_of_ble_eq_true rfl) ?_
  intro p e R s m args below meth c Qm ls hR1 hR2 S RT hl G
  have hx := S.1
  have hb := S.2.1
  have hl : lv_has ls 4 [(0, .ref (ad a0)), (1, .ref (ad a1))] := hl
  unfold p_Big_plus at hw
  refine lv_aload_n hx hb dX0_plus_0 rfl (lv_at hl 0 rfl) ?_
  refine lv_aload_n hx hb dX0_plus_1 rfl (lv_at hl 0 rfl) ?_
  refine x_get (C := RX0) (T := TX0) (n := 2) S G inX0 (xe_1 k0) rfl 1 (by decide) kf_X0_19 rfl dX0_plus_2 ?_
  refine lv_aload_n hx hb dX0_plus_5 rfl (lv_at hl 1 rfl) ?_
  refine x_get (C := RX0) (T := TX0) (n := 2) S G inX0 (xe_1 k1) rfl 1 (by decide) kf_X0_19 rfl dX0_plus_6 ?_
  refine va_mmax hx hb (S.2.2.1.trans hl.1.symm) S.2.2.2.1 (S.2.2.2.2 _ km_X0_7) (S.2.2.2.2 _ kt_J9_max_7cf53) (S.2.2.2.2 _ kn_J9) (S.2.2.2.2 _ kk_J9_max_7cf53) (Nat.le_trans (Nat.le_of_ble_eq_true rfl) hR1) (Nat.le_trans (Nat.le_of_ble_eq_true rfl) hR2) (Nat.zero_le _) (Nat.zero_le _) dX0_plus_9 ?_
  refine lv_iconst (v := 1) hx hb dX0_plus_12 (by decide) ?_
  refine lv_iadd hx hb dX0_plus_13 ?_
  refine x_Vv S hl.1 G (c_Big_growTo l D q A ad a0 ((if (gi h a0 1) < (gi h a1 1) then (gi h a1 1) else (gi h a0 1)) + 1) k0 h _ hw) (cw_X0_38 S.2.2.2.2 ⟨Nat.le_trans (Nat.le_of_ble_eq_true rfl) hR1, Nat.le_trans (Nat.le_of_ble_eq_true rfl) hR2⟩) (xe_1 k0) rfl rfl rfl (Nat.le_of_ble_eq_true rfl) dX0_plus_14 (fun h_14 H locs G hw => ?_)
  refine lv_iconst (v := 0) hx hb dX0_plus_17 (by decide) ?_
  refine lv_istore_n (lv' := [(2, .int 0), (0, .ref (ad a0)), (1, .ref (ad a1))]) hx hb dX0_plus_18 rfl hl (by decide) rfl (fun ls hl => ?_)
  refine lv_iconst (v := 0) hx hb dX0_plus_19 (by decide) ?_
  refine lv_istore_n (lv' := [(3, .int 0), (2, .int 0), (0, .ref (ad a0)), (1, .ref (ad a1))]) hx hb dX0_plus_20 rfl hl (by decide) rfl (fun ls hl => ?_)
  have hw := hw (fun (b2_21 : Int32) (b3_21 : Int32) (g_21 : Hs) => ∀ (ls : Array Slot) (H : Heap) (locs : List Loc), lv_has ls 4 [(0, .ref (ad a0)), (1, .ref (ad a1)), (2, .int b2_21), (3, .int b3_21)] → okW D q A s (wX q ad g_21) H locs → W p l e R s m args below meth c H locs 0 0 Qm (F0 m 21 ls [])) (by
    intro b2_21 b3_21 g_21 hw ls H locs hl G
    refine lv_iload_n hx hb dX0_plus_21 rfl (lv_at hl 3 rfl) ?_
    refine lv_aload_n hx hb dX0_plus_22 rfl (lv_at hl 0 rfl) ?_
    refine x_get (C := RX0) (T := TX0) (n := 2) S G inX0 (xe_1 k0) rfl 1 (by decide) kf_X0_19 rfl dX0_plus_23 ?_
    refine lv_icmp_ge (tgt := 78) hx hb dX0_plus_26 (by decide) (fun c_26 => ?_) (fun c_26 => ?_)
    · have hw := hw.1 c_26
      refine lv_aload_n hx hb dX0_plus_78 rfl (lv_at hl 0 rfl) ?_
      refine x_Vv S hl.1 G (c_Big_trim l D q A ad a0 k0 g_21 _ hw) (cw_X0_42 S.2.2.2.2 ⟨Nat.le_trans (Nat.le_of_ble_eq_true rfl) hR1, Nat.le_trans (Nat.le_of_ble_eq_true rfl) hR2⟩) (xe_1 k0) rfl rfl rfl (Nat.le_of_ble_eq_true rfl) dX0_plus_79 (fun h_79 H locs G hw => ?_)
      exact RT _ _ _ _ _ G hw dX0_plus_82
    · have hw := hw.2 c_26
      refine lv_iload_n hx hb dX0_plus_29 rfl (lv_at hl 2 rfl) ?_
      refine lv_aload_n hx hb dX0_plus_30 rfl (lv_at hl 0 rfl) ?_
      refine x_get (C := RX0) (T := TX0) (n := 2) S G inX0 (xe_1 k0) rfl 0 (by decide) kf_X0_13 rfl dX0_plus_31 ?_
      refine lv_iload_n hx hb dX0_plus_34 rfl (lv_at hl 3 rfl) ?_
      obtain ⟨i_35, hw⟩ := hw
      refine x_iald (k := b3_21.toNatClampNeg) S G (xe_20 (kxr_1 _ (kX_lt k0) k0) rfl) i_35 rfl rfl dX0_plus_35 ?_
      refine lv_iload_n hx hb dX0_plus_36 rfl (lv_at hl 3 rfl) ?_
      refine lv_aload_n hx hb dX0_plus_37 rfl (lv_at hl 1 rfl) ?_
      refine x_get (C := RX0) (T := TX0) (n := 2) S G inX0 (xe_1 k1) rfl 1 (by decide) kf_X0_19 rfl dX0_plus_38 ?_
      have hw := hw (fun (t2_54 : Int32) => ∀ (ls : Array Slot) (H : Heap) (locs : List Loc), lv_has ls 4 [(0, .ref (ad a0)), (1, .ref (ad a1)), (3, .int b3_21)] → okW D q A s (wX q ad g_21) H locs → W p l e R s m args below meth c H locs 0 0 Qm (F0 m 54 ls [.int t2_54, .int (gi g_21 (a0 + 1) b3_21.toNatClampNeg), .int b2_21])) (by
        intro t2_54 hw ls H locs hl G
        refine lv_iadd hx hb dX0_plus_54 ?_
        refine lv_iadd hx hb dX0_plus_55 ?_
        refine lv_topi (fun a2_56 ea2_56 => ?_)
        have hw := hw a2_56 ea2_56
        refine lv_istore_n (lv' := [(2, .int a2_56), (0, .ref (ad a0)), (1, .ref (ad a1)), (3, .int b3_21)]) hx hb dX0_plus_56 rfl hl (by decide) rfl (fun ls hl => ?_)
        refine lv_aload_n hx hb dX0_plus_57 rfl (lv_at hl 1 rfl) ?_
        refine x_get (C := RX0) (T := TX0) (n := 2) S G inX0 (xe_1 k0) rfl 0 (by decide) kf_X0_13 rfl dX0_plus_58 ?_
        refine lv_iload_n hx hb dX0_plus_61 rfl (lv_at hl 3 rfl) ?_
        refine lv_iload_n hx hb dX0_plus_62 rfl (lv_at hl 0 rfl) ?_
        refine lv_ldc (v := 1073741823) hx hb S.2.2.2.1 (S.2.2.2.2 _ kc_X0_41) dX0_plus_63 ?_
        refine lv_iand hx hb dX0_plus_65 ?_
        obtain ⟨i_66, hw⟩ := hw
        refine x_iast (k := b3_21.toNatClampNeg) S G (xe_20 (kxr_1 _ (kX_lt k0) k0) rfl) i_66 rfl (xs_20 (kxr_1 _ (kX_lt k0) k0) rfl) dX0_plus_66 (fun H locs G => ?_)
        obtain ⟨h_66, eh_66⟩ : ∃ y : Hs, y = si g_21 (a0 + 1) b3_21.toNatClampNeg (a2_56 &&& 1073741823) := ⟨_, rfl⟩
        rw [← eh_66] at G
        have hw := hw h_66 eh_66
        refine lv_iload_n hx hb dX0_plus_67 rfl (lv_at hl 0 rfl) ?_
        refine lv_bipush (v := 30) hx hb dX0_plus_68 (by decide) ?_
        refine lv_ishr hx hb dX0_plus_70 ?_
        refine lv_topi (fun a2_71 ea2_71 => ?_)
        have hw := hw a2_71 ea2_71
        refine lv_istore_n (lv' := [(2, .int a2_71), (0, .ref (ad a0)), (1, .ref (ad a1)), (3, .int b3_21)]) hx hb dX0_plus_71 rfl hl (by decide) rfl (fun ls hl => ?_)
        obtain ⟨a3_72, ea3_72⟩ : ∃ y : Int32, y = b3_21 + 1 := ⟨_, rfl⟩
        have hw := hw a3_72 ea3_72
        refine lv_iinc (v := a3_72) (lv' := [(3, .int a3_72), (2, .int a2_71), (0, .ref (ad a0)), (1, .ref (ad a1))]) hx hb dX0_plus_72 hl (k := 3) rfl (by rw [ea3_72]; rfl) (by decide) rfl (fun ls hl => ?_)
        refine lv_goto (tgt := 21) hx hb dX0_plus_75 (by decide) ?_
        exact hw _ _ _ (lv_sub hl [2, 3, 1, 0] rfl) G)
      refine lv_icmp_ge (tgt := 53) hx hb dX0_plus_41 (by decide) (fun c_41 => ?_) (fun c_41 => ?_)
      · have hw := hw.1 c_41
        refine lv_iconst (v := 0) hx hb dX0_plus_53 (by decide) ?_
        exact hw _ _ _ (lv_sub hl [0, 1, 3] rfl) G
      · have hw := hw.2 c_41
        refine lv_aload_n hx hb dX0_plus_44 rfl (lv_at hl 1 rfl) ?_
        refine x_get (C := RX0) (T := TX0) (n := 2) S G inX0 (xe_1 k1) rfl 0 (by decide) kf_X0_13 rfl dX0_plus_45 ?_
        refine lv_iload_n hx hb dX0_plus_48 rfl (lv_at hl 3 rfl) ?_
        obtain ⟨i_49, hw⟩ := hw
        refine x_iald (k := b3_21.toNatClampNeg) S G (xe_20 (kxr_1 _ (kX_lt k1) k1) rfl) i_49 rfl rfl dX0_plus_49 ?_
        refine lv_goto (tgt := 54) hx hb dX0_plus_50 (by decide) ?_
        exact hw _ _ _ (lv_sub hl [0, 1, 3] rfl) G)
  exact hw _ _ _ (lv_sub hl [2, 3, 1, 0] rfl) G
theorem cw_X1_66 {R : Room} {s : State} {args : Array Value} (hts : ∀ w ∈ gW, w.before args s = true) (hR : rm_Big_plus.frames + 1 ≤ R.frames ∧ 8 + (4 + 11) + rm_Big_plus.locals ≤ R.locals) : CallW R s args RX1 RX0 66 yX0_plus cX0_plus 4 none (mw yX0_plus cX0_plus 4 none) rm_Big_plus 0 0 1 := cwV9 hts km_X1_66 ki_X0_plus ks_X0_plus kn_X0 kk_X0_plus rfl rfl (by decide +kernel) hR
theorem cw_X8_181 {R : Room} {s : State} {args : Array Value} (hts : ∀ w ∈ gW, w.before args s = true) (hR : rm_Big_plus.frames + 1 ≤ R.frames ∧ 8 + (4 + 11) + rm_Big_plus.locals ≤ R.locals) : CallW R s args RX8 RX0 181 yX0_plus cX0_plus 4 none (mw yX0_plus cX0_plus 4 none) rm_Big_plus 0 0 1 := cwV9 hts km_X8_181 ki_X0_plus ks_X0_plus kn_X0 kk_X0_plus rfl rfl (by decide +kernel) hR
abbrev rm_Big_product : Room := { frames := 1, cells := 0, slots := 0, locals := 21 }
set_option maxHeartbeats 4000000 in
set_option maxRecDepth 100000 in
theorem c_Big_product (l : Launch) (D : va_G) (q : Nat → ClassId) (A : Nat → Prop) (ad : Nat → Nat) (a0 : Nat) (a1 : Nat) (a2 : Nat) (k0 : kX a0 = 1) (k1 : kX a1 = 1) (k2 : kX a2 = 1) (h : Hs) (Q : Hs → Prop) (hw : p_Big_product a0 a1 a2 h Q) : Met l yX0_product (mw yX0_product cX0_product 9 none) rm_Big_product (va_Pc [.ref (ad a0), .ref (ad a1), .ref (ad a2)] (pW D q A (wX q ad h))) (va_Qv Q (fun h t => pW D q A (wX q ad h) t) A) 0 0 A := by
  refine met_v (Qp := Q) (by decide) (Nat.le_of_ble_eq_true rfl) ?_
  intro p e R s m args below meth c Qm ls hR1 hR2 S RT hl G
  have hx := S.1
  have hb := S.2.1
  have hl : lv_has ls 9 [(0, .ref (ad a0)), (1, .ref (ad a1)), (2, .ref (ad a2))] := hl
  unfold p_Big_product at hw
  refine lv_aload_n hx hb dX0_product_0 rfl (lv_at hl 0 rfl) ?_
  refine lv_iconst (v := 0) hx hb dX0_product_1 (by decide) ?_
  refine x_put (C := RX0) (T := TX0) (n := 2) S G inX0 tyX0 tyX0_ok nmX0 (xe_1 k0) rfl 1 (by decide) kf_X0_19 rfl rfl rfl (Nat.le_of_ble_eq_true rfl) (xp_1_1 k0) dX0_product_2 (fun H locs G => ?_)
  obtain ⟨h_2, eh_2⟩ : ∃ y : Hs, y = si h a0 1 0 := ⟨_, rfl⟩
  rw [← eh_2] at G
  have hw := hw h_2 eh_2
  refine lv_aload_n hx hb dX0_product_5 rfl (lv_at hl 0 rfl) ?_
  refine lv_aload_n hx hb dX0_product_6 rfl (lv_at hl 1 rfl) ?_
  refine x_get (C := RX0) (T := TX0) (n := 2) S G inX0 (xe_1 k1) rfl 1 (by decide) kf_X0_19 rfl dX0_product_7 ?_
  refine lv_aload_n hx hb dX0_product_10 rfl (lv_at hl 2 rfl) ?_
  refine x_get (C := RX0) (T := TX0) (n := 2) S G inX0 (xe_1 k2) rfl 1 (by decide) kf_X0_19 rfl dX0_product_11 ?_
  refine lv_iadd hx hb dX0_product_14 ?_
  refine x_Vv S hl.1 G (c_Big_growTo l D q A ad a0 ((gi h_2 a1 1) + (gi h_2 a2 1)) k0 h_2 _ hw) (cw_X0_38 S.2.2.2.2 ⟨Nat.le_trans (Nat.le_of_ble_eq_true rfl) hR1, Nat.le_trans (Nat.le_of_ble_eq_true rfl) hR2⟩) (xe_1 k0) rfl rfl rfl (Nat.le_of_ble_eq_true rfl) dX0_product_15 (fun h_15 H locs G hw => ?_)
  refine lv_iconst (v := 0) hx hb dX0_product_18 (by decide) ?_
  refine lv_istore_n (lv' := [(3, .int 0), (0, .ref (ad a0)), (1, .ref (ad a1)), (2, .ref (ad a2))]) hx hb dX0_product_19 rfl hl (by decide) rfl (fun ls hl => ?_)
  have hw := hw (fun (b3_20 : Int32) (g_20 : Hs) => ∀ (ls : Array Slot) (H : Heap) (locs : List Loc), lv_has ls 9 [(0, .ref (ad a0)), (1, .ref (ad a1)), (2, .ref (ad a2)), (3, .int b3_20)] → okW D q A s (wX q ad g_20) H locs → W p l e R s m args below meth c H locs 0 0 Qm (F0 m 20 ls [])) (by
    intro b3_20 g_20 hw ls H locs hl G
    refine lv_iload_n hx hb dX0_product_20 rfl (lv_at hl 3 rfl) ?_
    refine lv_aload_n hx hb dX0_product_21 rfl (lv_at hl 1 rfl) ?_
    refine x_get (C := RX0) (T := TX0) (n := 2) S G inX0 (xe_1 k1) rfl 1 (by decide) kf_X0_19 rfl dX0_product_22 ?_
    refine lv_icmp_ge (tgt := 152) hx hb dX0_product_25 (by decide) (fun c_25 => ?_) (fun c_25 => ?_)
    · have hw := hw.1 c_25
      refine lv_aload_n hx hb dX0_product_152 rfl (lv_at hl 0 rfl) ?_
      refine x_Vv S hl.1 G (c_Big_trim l D q A ad a0 k0 g_20 _ hw) (cw_X0_42 S.2.2.2.2 ⟨Nat.le_trans (Nat.le_of_ble_eq_true rfl) hR1, Nat.le_trans (Nat.le_of_ble_eq_true rfl) hR2⟩) (xe_1 k0) rfl rfl rfl (Nat.le_of_ble_eq_true rfl) dX0_product_153 (fun h_153 H locs G hw => ?_)
      exact RT _ _ _ _ _ G hw dX0_product_156
    · have hw := hw.2 c_25
      refine lv_aload_n hx hb dX0_product_28 rfl (lv_at hl 1 rfl) ?_
      refine x_get (C := RX0) (T := TX0) (n := 2) S G inX0 (xe_1 k1) rfl 0 (by decide) kf_X0_13 rfl dX0_product_29 ?_
      refine lv_iload_n hx hb dX0_product_32 rfl (lv_at hl 3 rfl) ?_
      obtain ⟨i_33, hw⟩ := hw
      refine x_iald (k := b3_20.toNatClampNeg) S G (xe_20 (kxr_1 _ (kX_lt k1) k1) rfl) i_33 rfl rfl dX0_product_33 ?_
      refine lv_i2l hx hb dX0_product_34 rfl ?_
      refine lv_topl (fun a4_35 ea4_35 => ?_)
      have hw := hw a4_35 ea4_35
      refine lv_lstore (lv' := [(4, .long a4_35), (0, .ref (ad a0)), (1, .ref (ad a1)), (2, .ref (ad a2)), (3, .int b3_20)]) hx hb dX0_product_35 hl (by decide) rfl (fun ls hl => ?_)
      refine lv_lconst (v := 0) hx hb dX0_product_37 (by decide) ?_
      refine lv_lstore (lv' := [(6, .long 0), (4, .long a4_35), (0, .ref (ad a0)), (1, .ref (ad a1)), (2, .ref (ad a2)), (3, .int b3_20)]) hx hb dX0_product_38 hl (by decide) rfl (fun ls hl => ?_)
      refine lv_iconst (v := 0) hx hb dX0_product_40 (by decide) ?_
      refine lv_istore (lv' := [(8, .int 0), (6, .long 0), (4, .long a4_35), (0, .ref (ad a0)), (1, .ref (ad a1)), (2, .ref (ad a2)), (3, .int b3_20)]) hx hb dX0_product_41 hl (by decide) rfl (fun ls hl => ?_)
      have hw := hw (fun (b6_43 : Int64) (b8_43 : Int32) (g_43 : Hs) => ∀ (ls : Array Slot) (H : Heap) (locs : List Loc), lv_has ls 9 [(0, .ref (ad a0)), (1, .ref (ad a1)), (2, .ref (ad a2)), (3, .int b3_20), (4, .long a4_35), (6, .long b6_43), (8, .int b8_43)] → okW D q A s (wX q ad g_43) H locs → W p l e R s m args below meth c H locs 0 0 Qm (F0 m 43 ls [])) (by
        intro b6_43 b8_43 g_43 hw ls H locs hl G
        refine lv_iload hx hb dX0_product_43 (lv_at hl 6 rfl) ?_
        refine lv_aload_n hx hb dX0_product_45 rfl (lv_at hl 2 rfl) ?_
        refine x_get (C := RX0) (T := TX0) (n := 2) S G inX0 (xe_1 k2) rfl 1 (by decide) kf_X0_19 rfl dX0_product_46 ?_
        have hw := hw (∀ (ls : Array Slot) (H : Heap) (locs : List Loc), lv_has ls 9 [(0, .ref (ad a0)), (1, .ref (ad a1)), (2, .ref (ad a2)), (3, .int b3_20), (6, .long b6_43)] → okW D q A s (wX q ad g_43) H locs → W p l e R s m args below meth c H locs 0 0 Qm (F0 m 119 ls [])) (by
          intro hw ls H locs hl G
          refine lv_iload_n hx hb dX0_product_119 rfl (lv_at hl 3 rfl) ?_
          refine lv_aload_n hx hb dX0_product_120 rfl (lv_at hl 2 rfl) ?_
          refine x_get (C := RX0) (T := TX0) (n := 2) S G inX0 (xe_1 k2) rfl 1 (by decide) kf_X0_19 rfl dX0_product_121 ?_
          refine lv_iadd hx hb dX0_product_124 ?_
          refine lv_aload_n hx hb dX0_product_125 rfl (lv_at hl 0 rfl) ?_
          refine x_get (C := RX0) (T := TX0) (n := 2) S G inX0 (xe_1 k0) rfl 1 (by decide) kf_X0_19 rfl dX0_product_126 ?_
          have hw := hw (fun (g_146 : Hs) => ∀ (ls : Array Slot) (H : Heap) (locs : List Loc), lv_has ls 9 [(0, .ref (ad a0)), (1, .ref (ad a1)), (2, .ref (ad a2)), (3, .int b3_20)] → okW D q A s (wX q ad g_146) H locs → W p l e R s m args below meth c H locs 0 0 Qm (F0 m 146 ls [])) (by
            intro g_146 hw ls H locs hl G
            obtain ⟨a3_146, ea3_146⟩ : ∃ y : Int32, y = b3_20 + 1 := ⟨_, rfl⟩
            have hw := hw a3_146 ea3_146
            refine lv_iinc (v := a3_146) (lv' := [(3, .int a3_146), (0, .ref (ad a0)), (1, .ref (ad a1)), (2, .ref (ad a2))]) hx hb dX0_product_146 hl (k := 3) rfl (by rw [ea3_146]; rfl) (by decide) rfl (fun ls hl => ?_)
            refine lv_goto (tgt := 20) hx hb dX0_product_149 (by decide) ?_
            exact hw _ _ _ (lv_sub hl [1, 2, 3, 0] rfl) G)
          refine lv_icmp_ge (tgt := 146) hx hb dX0_product_129 (by decide) (fun c_129 => ?_) (fun c_129 => ?_)
          · have hw := hw.1 c_129
            exact hw _ _ _ (lv_sub hl [0, 1, 2, 3] rfl) G
          · have hw := hw.2 c_129
            refine lv_aload_n hx hb dX0_product_132 rfl (lv_at hl 0 rfl) ?_
            refine x_get (C := RX0) (T := TX0) (n := 2) S G inX0 (xe_1 k0) rfl 0 (by decide) kf_X0_13 rfl dX0_product_133 ?_
            refine lv_iload_n hx hb dX0_product_136 rfl (lv_at hl 3 rfl) ?_
            refine lv_aload_n hx hb dX0_product_137 rfl (lv_at hl 2 rfl) ?_
            refine x_get (C := RX0) (T := TX0) (n := 2) S G inX0 (xe_1 k2) rfl 1 (by decide) kf_X0_19 rfl dX0_product_138 ?_
            refine lv_iadd hx hb dX0_product_141 ?_
            refine lv_lload hx hb dX0_product_142 (lv_at hl 4 rfl) ?_
            refine lv_l2i hx hb dX0_product_144 rfl ?_
            obtain ⟨i_145, hw⟩ := hw
            refine x_iast (k := (b3_20 + (gi g_43 a2 1)).toNatClampNeg) S G (xe_20 (kxr_1 _ (kX_lt k0) k0) rfl) i_145 rfl (xs_20 (kxr_1 _ (kX_lt k0) k0) rfl) dX0_product_145 (fun H locs G => ?_)
            obtain ⟨h_145, eh_145⟩ : ∃ y : Hs, y = si g_43 (a0 + 1) ((b3_20 + (gi g_43 a2 1)).toNatClampNeg) b6_43.toInt32 := ⟨_, rfl⟩
            rw [← eh_145] at G
            have hw := hw h_145 eh_145
            exact hw _ _ _ (lv_sub hl [0, 1, 2, 3] rfl) G)
        refine lv_icmp_ge (tgt := 119) hx hb dX0_product_49 (by decide) (fun c_49 => ?_) (fun c_49 => ?_)
        · have hw := hw.1 c_49
          exact hw _ _ _ (lv_sub hl [0, 1, 2, 3, 5] rfl) G
        · have hw := hw.2 c_49
          refine lv_iload_n hx hb dX0_product_52 rfl (lv_at hl 3 rfl) ?_
          refine lv_iload hx hb dX0_product_53 (lv_at hl 6 rfl) ?_
          refine lv_iadd hx hb dX0_product_55 ?_
          refine lv_aload_n hx hb dX0_product_56 rfl (lv_at hl 0 rfl) ?_
          refine x_get (C := RX0) (T := TX0) (n := 2) S G inX0 (xe_1 k0) rfl 1 (by decide) kf_X0_19 rfl dX0_product_57 ?_
          refine lv_icmp_ge (tgt := 119) hx hb dX0_product_60 (by decide) (fun c_60 => ?_) (fun c_60 => ?_)
          · have hw := hw.1 c_60
            exact hw _ _ _ (lv_sub hl [0, 1, 2, 3, 5] rfl) G
          · have hw := hw.2 c_60
            refine lv_lload hx hb dX0_product_63 (lv_at hl 5 rfl) ?_
            refine lv_lload hx hb dX0_product_65 (lv_at hl 4 rfl) ?_
            refine lv_aload_n hx hb dX0_product_67 rfl (lv_at hl 2 rfl) ?_
            refine x_get (C := RX0) (T := TX0) (n := 2) S G inX0 (xe_1 k2) rfl 0 (by decide) kf_X0_13 rfl dX0_product_68 ?_
            refine lv_iload hx hb dX0_product_71 (lv_at hl 6 rfl) ?_
            obtain ⟨i_73, hw⟩ := hw
            refine x_iald (k := b8_43.toNatClampNeg) S G (xe_20 (kxr_1 _ (kX_lt k2) k2) rfl) i_73 rfl rfl dX0_product_73 ?_
            refine lv_i2l hx hb dX0_product_74 rfl ?_
            refine lv_lmul hx hb dX0_product_75 ?_
            refine lv_aload_n hx hb dX0_product_76 rfl (lv_at hl 0 rfl) ?_
            refine x_get (C := RX0) (T := TX0) (n := 2) S G inX0 (xe_1 k0) rfl 0 (by decide) kf_X0_13 rfl dX0_product_77 ?_
            refine lv_iload_n hx hb dX0_product_80 rfl (lv_at hl 3 rfl) ?_
            refine lv_iload hx hb dX0_product_81 (lv_at hl 6 rfl) ?_
            refine lv_iadd hx hb dX0_product_83 ?_
            obtain ⟨i_84, hw⟩ := hw
            refine x_iald (k := (b3_20 + b8_43).toNatClampNeg) S G (xe_20 (kxr_1 _ (kX_lt k0) k0) rfl) i_84 rfl rfl dX0_product_84 ?_
            refine lv_i2l hx hb dX0_product_85 rfl ?_
            refine lv_ladd hx hb dX0_product_86 ?_
            refine lv_ladd hx hb dX0_product_87 ?_
            refine lv_topl (fun a6_88 ea6_88 => ?_)
            have hw := hw a6_88 ea6_88
            refine lv_lstore (lv' := [(6, .long a6_88), (0, .ref (ad a0)), (1, .ref (ad a1)), (2, .ref (ad a2)), (3, .int b3_20), (4, .long a4_35), (8, .int b8_43)]) hx hb dX0_product_88 hl (by decide) rfl (fun ls hl => ?_)
            refine lv_aload_n hx hb dX0_product_90 rfl (lv_at hl 1 rfl) ?_
            refine x_get (C := RX0) (T := TX0) (n := 2) S G inX0 (xe_1 k0) rfl 0 (by decide) kf_X0_13 rfl dX0_product_91 ?_
            refine lv_iload_n hx hb dX0_product_94 rfl (lv_at hl 4 rfl) ?_
            refine lv_iload hx hb dX0_product_95 (lv_at hl 6 rfl) ?_
            refine lv_iadd hx hb dX0_product_97 ?_
            refine lv_lload hx hb dX0_product_98 (lv_at hl 0 rfl) ?_
            refine lv_ldc2 (v := 1073741823) hx hb S.2.2.2.1 (S.2.2.2.2 _ kl_X0_23) dX0_product_100 ?_
            refine lv_land hx hb dX0_product_103 ?_
            refine lv_l2i hx hb dX0_product_104 rfl ?_
            obtain ⟨i_105, hw⟩ := hw
            refine x_iast (k := (b3_20 + b8_43).toNatClampNeg) S G (xe_20 (kxr_1 _ (kX_lt k0) k0) rfl) i_105 rfl (xs_20 (kxr_1 _ (kX_lt k0) k0) rfl) dX0_product_105 (fun H locs G => ?_)
            obtain ⟨h_105, eh_105⟩ : ∃ y : Hs, y = si g_43 (a0 + 1) ((b3_20 + b8_43).toNatClampNeg) ((a6_88 &&& 1073741823).toInt32) := ⟨_, rfl⟩
            rw [← eh_105] at G
            have hw := hw h_105 eh_105
            refine lv_lload hx hb dX0_product_106 (lv_at hl 0 rfl) ?_
            refine lv_bipush (v := 30) hx hb dX0_product_108 (by decide) ?_
            refine lv_lshr hx hb dX0_product_110 rfl ?_
            refine lv_topl (fun a6_111 ea6_111 => ?_)
            have hw := hw a6_111 ea6_111
            refine lv_lstore (lv' := [(6, .long a6_111), (0, .ref (ad a0)), (1, .ref (ad a1)), (2, .ref (ad a2)), (3, .int b3_20), (4, .long a4_35), (8, .int b8_43)]) hx hb dX0_product_111 hl (by decide) rfl (fun ls hl => ?_)
            obtain ⟨a8_113, ea8_113⟩ : ∃ y : Int32, y = b8_43 + 1 := ⟨_, rfl⟩
            have hw := hw a8_113 ea8_113
            refine lv_iinc (v := a8_113) (lv' := [(8, .int a8_113), (6, .long a6_111), (0, .ref (ad a0)), (1, .ref (ad a1)), (2, .ref (ad a2)), (3, .int b3_20), (4, .long a4_35)]) hx hb dX0_product_113 hl (k := 6) rfl (by rw [ea8_113]; rfl) (by decide) rfl (fun ls hl => ?_)
            refine lv_goto (tgt := 43) hx hb dX0_product_116 (by decide) ?_
            exact hw _ _ _ (lv_sub hl [2, 3, 4, 5, 6, 1, 0] rfl) G)
      exact hw _ _ _ (lv_sub hl [3, 4, 5, 6, 2, 1, 0] rfl) G)
  exact hw _ _ _ (lv_sub hl [1, 2, 3, 0] rfl) G
theorem cw_X8_170 {R : Room} {s : State} {args : Array Value} (hts : ∀ w ∈ gW, w.before args s = true) (hR : rm_Big_product.frames + 1 ≤ R.frames ∧ 8 + (9 + 11) + rm_Big_product.locals ≤ R.locals) : CallW R s args RX8 RX0 170 yX0_product cX0_product 9 none (mw yX0_product cX0_product 9 none) rm_Big_product 0 0 2 := cwV9 hts km_X8_170 ki_X0_product ks_X0_product kn_X0 kk_X0_product rfl rfl (by decide +kernel) hR
abbrev rm_Big_isBelow : Room := { frames := 0, cells := 0, slots := 0, locals := 0 }
set_option maxHeartbeats 4000000 in
set_option maxRecDepth 100000 in
theorem c_Big_isBelow (l : Launch) (D : va_G) (q : Nat → ClassId) (A : Nat → Prop) (ad : Nat → Nat) (a0 : Nat) (a1 : Nat) (k0 : kX a0 = 1) (k1 : kX a1 = 1) (h : Hs) (Q : Int32 → Prop) (hw : p_Big_isBelow a0 a1 h Q) : Met l yX0_isBelow (mw yX0_isBelow cX0_isBelow 3 (some .boolean)) rm_Big_isBelow (va_Pc [.ref (ad a0), .ref (ad a1)] (pW D q A (wX q ad h))) (va_Qi (fun r h9 => zb r ∧ h9 = h ∧ Q r) (fun h t => pW D q A (wX q ad h) t) A) 0 0 A := by
  refine met_z (Qp := (fun r h9 => h9 = h ∧ Q r)) (by decide) (Nat.le_of_ble_eq_true rfl) ?_
  intro p e R s m args below meth c Qm ls hR1 hR2 S RT hl G
  have hx := S.1
  have hb := S.2.1
  have hl : lv_has ls 3 [(0, .ref (ad a0)), (1, .ref (ad a1))] := hl
  unfold p_Big_isBelow at hw
  refine lv_aload_n hx hb dX0_isBelow_0 rfl (lv_at hl 0 rfl) ?_
  refine x_get (C := RX0) (T := TX0) (n := 2) S G inX0 (xe_1 k0) rfl 1 (by decide) kf_X0_19 rfl dX0_isBelow_1 ?_
  refine lv_aload_n hx hb dX0_isBelow_4 rfl (lv_at hl 1 rfl) ?_
  refine x_get (C := RX0) (T := TX0) (n := 2) S G inX0 (xe_1 k1) rfl 1 (by decide) kf_X0_19 rfl dX0_isBelow_5 ?_
  refine lv_icmp_eq (tgt := 28) hx hb dX0_isBelow_8 (by decide) (fun c_8 => ?_) (fun c_8 => ?_)
  · have hw := hw.1 c_8
    refine lv_aload_n hx hb dX0_isBelow_28 rfl (lv_at hl 0 rfl) ?_
    refine x_get (C := RX0) (T := TX0) (n := 2) S G inX0 (xe_1 k0) rfl 1 (by decide) kf_X0_19 rfl dX0_isBelow_29 ?_
    refine lv_iconst (v := 1) hx hb dX0_isBelow_32 (by decide) ?_
    refine lv_isub hx hb dX0_isBelow_33 ?_
    refine lv_topi (fun a2_34 ea2_34 => ?_)
    have hw := hw a2_34 ea2_34
    refine lv_istore_n (lv' := [(2, .int a2_34), (0, .ref (ad a0)), (1, .ref (ad a1))]) hx hb dX0_isBelow_34 rfl hl (by decide) rfl (fun ls hl => ?_)
    have hw := hw (fun (b2_35 : Int32) => ∀ (ls : Array Slot) (H : Heap) (locs : List Loc), lv_has ls 3 [(0, .ref (ad a0)), (1, .ref (ad a1)), (2, .int b2_35)] → okW D q A s (wX q ad h) H locs → W p l e R s m args below meth c H locs 0 0 Qm (F0 m 35 ls [])) (by
      intro b2_35 hw ls H locs hl G
      refine lv_iload_n hx hb dX0_isBelow_35 rfl (lv_at hl 2 rfl) ?_
      refine lv_if_lt (tgt := 81) hx hb dX0_isBelow_36 (by decide) (fun c_36 => ?_) (fun c_36 => ?_)
      · have hw := hw.1 c_36
        refine lv_iconst (v := 0) hx hb dX0_isBelow_81 (by decide) ?_
        exact RT _ _ _ _ _ _ G zb0 ⟨rfl, hw⟩ dX0_isBelow_82
      · have hw := hw.2 c_36
        refine lv_aload_n hx hb dX0_isBelow_39 rfl (lv_at hl 0 rfl) ?_
        refine x_get (C := RX0) (T := TX0) (n := 2) S G inX0 (xe_1 k0) rfl 0 (by decide) kf_X0_13 rfl dX0_isBelow_40 ?_
        refine lv_iload_n hx hb dX0_isBelow_43 rfl (lv_at hl 2 rfl) ?_
        obtain ⟨i_44, hw⟩ := hw
        refine x_iald (k := b2_35.toNatClampNeg) S G (xe_20 (kxr_1 _ (kX_lt k0) k0) rfl) i_44 rfl rfl dX0_isBelow_44 ?_
        refine lv_aload_n hx hb dX0_isBelow_45 rfl (lv_at hl 1 rfl) ?_
        refine x_get (C := RX0) (T := TX0) (n := 2) S G inX0 (xe_1 k1) rfl 0 (by decide) kf_X0_13 rfl dX0_isBelow_46 ?_
        refine lv_iload_n hx hb dX0_isBelow_49 rfl (lv_at hl 2 rfl) ?_
        obtain ⟨i_50, hw⟩ := hw
        refine x_iald (k := b2_35.toNatClampNeg) S G (xe_20 (kxr_1 _ (kX_lt k1) k1) rfl) i_50 rfl rfl dX0_isBelow_50 ?_
        refine lv_icmp_eq (tgt := 75) hx hb dX0_isBelow_51 (by decide) (fun c_51 => ?_) (fun c_51 => ?_)
        · have hw := hw.1 c_51
          obtain ⟨a2_75, ea2_75⟩ : ∃ y : Int32, y = b2_35 + (-1) := ⟨_, rfl⟩
          have hw := hw a2_75 ea2_75
          refine lv_iinc (v := a2_75) (lv' := [(2, .int a2_75), (0, .ref (ad a0)), (1, .ref (ad a1))]) hx hb dX0_isBelow_75 hl (k := 2) rfl (by rw [ea2_75]; rfl) (by decide) rfl (fun ls hl => ?_)
          refine lv_goto (tgt := 35) hx hb dX0_isBelow_78 (by decide) ?_
          exact hw _ _ _ (lv_sub hl [1, 2, 0] rfl) G
        · have hw := hw.2 c_51
          refine lv_aload_n hx hb dX0_isBelow_54 rfl (lv_at hl 0 rfl) ?_
          refine x_get (C := RX0) (T := TX0) (n := 2) S G inX0 (xe_1 k0) rfl 0 (by decide) kf_X0_13 rfl dX0_isBelow_55 ?_
          refine lv_iload_n hx hb dX0_isBelow_58 rfl (lv_at hl 2 rfl) ?_
          obtain ⟨i_59, hw⟩ := hw
          refine x_iald (k := b2_35.toNatClampNeg) S G (xe_20 (kxr_1 _ (kX_lt k0) k0) rfl) i_59 rfl rfl dX0_isBelow_59 ?_
          refine lv_aload_n hx hb dX0_isBelow_60 rfl (lv_at hl 1 rfl) ?_
          refine x_get (C := RX0) (T := TX0) (n := 2) S G inX0 (xe_1 k1) rfl 0 (by decide) kf_X0_13 rfl dX0_isBelow_61 ?_
          refine lv_iload_n hx hb dX0_isBelow_64 rfl (lv_at hl 2 rfl) ?_
          obtain ⟨i_65, hw⟩ := hw
          refine x_iald (k := b2_35.toNatClampNeg) S G (xe_20 (kxr_1 _ (kX_lt k1) k1) rfl) i_65 rfl rfl dX0_isBelow_65 ?_
          have hw := hw (fun (t0_74 : Int32) => ∀ (ls : Array Slot) (H : Heap) (locs : List Loc), lv_has ls 3 [] → okW D q A s (wX q ad h) H locs → W p l e R s m args below meth c H locs 0 0 Qm (F0 m 74 ls [.int t0_74])) (by
            intro t0_74 hw ls H locs hl G
            obtain ⟨z_74, hw⟩ := hw
            exact RT _ _ _ _ _ _ G z_74 ⟨rfl, hw⟩ dX0_isBelow_74)
          refine lv_icmp_ge (tgt := 73) hx hb dX0_isBelow_66 (by decide) (fun c_66 => ?_) (fun c_66 => ?_)
          · have hw := hw.1 c_66
            refine lv_iconst (v := 0) hx hb dX0_isBelow_73 (by decide) ?_
            exact hw _ _ _ (lv_sub hl [] rfl) G
          · have hw := hw.2 c_66
            refine lv_iconst (v := 1) hx hb dX0_isBelow_69 (by decide) ?_
            refine lv_goto (tgt := 74) hx hb dX0_isBelow_70 (by decide) ?_
            exact hw _ _ _ (lv_sub hl [] rfl) G)
    exact hw _ _ _ (lv_sub hl [1, 2, 0] rfl) G
  · have hw := hw.2 c_8
    refine lv_aload_n hx hb dX0_isBelow_11 rfl (lv_at hl 0 rfl) ?_
    refine x_get (C := RX0) (T := TX0) (n := 2) S G inX0 (xe_1 k0) rfl 1 (by decide) kf_X0_19 rfl dX0_isBelow_12 ?_
    refine lv_aload_n hx hb dX0_isBelow_15 rfl (lv_at hl 1 rfl) ?_
    refine x_get (C := RX0) (T := TX0) (n := 2) S G inX0 (xe_1 k1) rfl 1 (by decide) kf_X0_19 rfl dX0_isBelow_16 ?_
    have hw := hw (fun (t0_27 : Int32) => ∀ (ls : Array Slot) (H : Heap) (locs : List Loc), lv_has ls 3 [] → okW D q A s (wX q ad h) H locs → W p l e R s m args below meth c H locs 0 0 Qm (F0 m 27 ls [.int t0_27])) (by
      intro t0_27 hw ls H locs hl G
      obtain ⟨z_27, hw⟩ := hw
      exact RT _ _ _ _ _ _ G z_27 ⟨rfl, hw⟩ dX0_isBelow_27)
    refine lv_icmp_ge (tgt := 26) hx hb dX0_isBelow_19 (by decide) (fun c_19 => ?_) (fun c_19 => ?_)
    · have hw := hw.1 c_19
      refine lv_iconst (v := 0) hx hb dX0_isBelow_26 (by decide) ?_
      exact hw _ _ _ (lv_sub hl [] rfl) G
    · have hw := hw.2 c_19
      refine lv_iconst (v := 1) hx hb dX0_isBelow_22 (by decide) ?_
      refine lv_goto (tgt := 27) hx hb dX0_isBelow_23 (by decide) ?_
      exact hw _ _ _ (lv_sub hl [] rfl) G
theorem cw_X0_54 {R : Room} {s : State} {args : Array Value} (hts : ∀ w ∈ gW, w.before args s = true) (hR : rm_Big_isBelow.frames + 1 ≤ R.frames ∧ 8 + (3 + 11) + rm_Big_isBelow.locals ≤ R.locals) : CallW R s args RX0 RX0 54 yX0_isBelow cX0_isBelow 3 (some .boolean) (mw yX0_isBelow cX0_isBelow 3 (some .boolean)) rm_Big_isBelow 0 0 1 := cwV9 hts km_X0_54 ki_X0_isBelow ks_X0_isBelow kn_X0 kk_X0_isBelow rfl rfl (by decide +kernel) hR
abbrev rm_Big_topTwo : Room := { frames := 1, cells := 0, slots := 0, locals := 21 }
set_option maxHeartbeats 4000000 in
set_option maxRecDepth 100000 in
theorem c_Big_topTwo (l : Launch) (D : va_G) (q : Nat → ClassId) (A : Nat → Prop) (ad : Nat → Nat) (a0 : Nat) (k0 : kX a0 = 1) (h : Hs) (Q : Int64 → Prop) (hw : p_Big_topTwo a0 h Q) : Met l yX0_topTwo (mw yX0_topTwo cX0_topTwo 1 (some .long)) rm_Big_topTwo (va_Pc [.ref (ad a0)] (pW D q A (wX q ad h))) (va_Ql (fun r h9 => h9 = h ∧ Q r) (fun h t => pW D q A (wX q ad h) t) A) 0 0 A := by
  refine met_l (Qp := (fun r h9 => h9 = h ∧ Q r)) (by decide) (Nat.le_of_ble_eq_true rfl) ?_
  intro p e R s m args below meth c Qm ls hR1 hR2 S RT hl G
  have hx := S.1
  have hb := S.2.1
  have hl : lv_has ls 1 [(0, .ref (ad a0))] := hl
  unfold p_Big_topTwo at hw
  refine lv_aload_n hx hb dX0_topTwo_0 rfl (lv_at hl 0 rfl) ?_
  refine lv_aload_n hx hb dX0_topTwo_1 rfl (lv_at hl 0 rfl) ?_
  refine x_get (C := RX0) (T := TX0) (n := 2) S G inX0 (xe_1 k0) rfl 1 (by decide) kf_X0_19 rfl dX0_topTwo_2 ?_
  refine lv_iconst (v := 1) hx hb dX0_topTwo_5 (by decide) ?_
  refine lv_isub hx hb dX0_topTwo_6 ?_
  refine x_ViP S hl.1 G (c_Big_digit l D q A ad a0 ((gi h a0 1) - 1) k0 h _ hw) (cw_X0_58 S.2.2.2.2 ⟨Nat.le_trans (Nat.le_of_ble_eq_true rfl) hR1, Nat.le_trans (Nat.le_of_ble_eq_true rfl) hR2⟩) (xe_1 k0) rfl rfl rfl (Nat.le_of_ble_eq_true rfl) dX0_topTwo_7 (fun r_7 H locs G hw => ?_)
  refine lv_i2l hx hb dX0_topTwo_10 rfl ?_
  refine lv_bipush (v := 30) hx hb dX0_topTwo_11 (by decide) ?_
  refine lv_lshl hx hb dX0_topTwo_13 rfl ?_
  refine lv_aload_n hx hb dX0_topTwo_14 rfl (lv_at hl 0 rfl) ?_
  refine lv_aload_n hx hb dX0_topTwo_15 rfl (lv_at hl 0 rfl) ?_
  refine x_get (C := RX0) (T := TX0) (n := 2) S G inX0 (xe_1 k0) rfl 1 (by decide) kf_X0_19 rfl dX0_topTwo_16 ?_
  refine lv_iconst (v := 2) hx hb dX0_topTwo_19 (by decide) ?_
  refine lv_isub hx hb dX0_topTwo_20 ?_
  refine x_ViP S hl.1 G (c_Big_digit l D q A ad a0 ((gi h a0 1) - 2) k0 h _ hw) (cw_X0_58 S.2.2.2.2 ⟨Nat.le_trans (Nat.le_of_ble_eq_true rfl) hR1, Nat.le_trans (Nat.le_of_ble_eq_true rfl) hR2⟩) (xe_1 k0) rfl rfl rfl (Nat.le_of_ble_eq_true rfl) dX0_topTwo_21 (fun r_21 H locs G hw => ?_)
  refine lv_i2l hx hb dX0_topTwo_24 rfl ?_
  refine lv_ladd hx hb dX0_topTwo_25 ?_
  exact RT _ _ _ _ _ _ G ⟨rfl, hw⟩ dX0_topTwo_26
theorem cw_X0_62 {R : Room} {s : State} {args : Array Value} (hts : ∀ w ∈ gW, w.before args s = true) (hR : rm_Big_topTwo.frames + 1 ≤ R.frames ∧ 8 + (1 + 11) + rm_Big_topTwo.locals ≤ R.locals) : CallW R s args RX0 RX0 62 yX0_topTwo cX0_topTwo 1 (some .long) (mw yX0_topTwo cX0_topTwo 1 (some .long)) rm_Big_topTwo 0 0 0 := cwV9 hts km_X0_62 ki_X0_topTwo ks_X0_topTwo kn_X0 kk_X0_topTwo rfl rfl (by decide +kernel) hR
abbrev rm_Big_takeAway : Room := { frames := 1, cells := 0, slots := 0, locals := 20 }
set_option maxHeartbeats 4000000 in
set_option maxRecDepth 100000 in
theorem c_Big_takeAway (l : Launch) (D : va_G) (q : Nat → ClassId) (A : Nat → Prop) (ad : Nat → Nat) (a0 : Nat) (a1 : Nat) (a2 : Int64) (a4 : Int32) (k0 : kX a0 = 1) (k1 : kX a1 = 1) (h : Hs) (Q : Hs → Prop) (hw : p_Big_takeAway a0 a1 a2 a4 h Q) : Met l yX0_takeAway (mw yX0_takeAway cX0_takeAway 8 none) rm_Big_takeAway (va_Pc [.ref (ad a0), .ref (ad a1), .long a2, .int a4] (pW D q A (wX q ad h))) (va_Qv Q (fun h t => pW D q A (wX q ad h) t) A) 0 0 A := by
  refine met_v (Qp := Q) (by decide) (Nat.le_of_ble_eq_true rfl) ?_
  intro p e R s m args below meth c Qm ls hR1 hR2 S RT hl G
  have hx := S.1
  have hb := S.2.1
  have hl : lv_has ls 8 [(0, .ref (ad a0)), (1, .ref (ad a1)), (2, .long a2), (4, .int a4)] := hl
  unfold p_Big_takeAway at hw
  refine lv_lconst (v := 0) hx hb dX0_takeAway_0 (by decide) ?_
  refine lv_lstore (lv' := [(5, .long 0), (0, .ref (ad a0)), (1, .ref (ad a1)), (2, .long a2), (4, .int a4)]) hx hb dX0_takeAway_1 hl (by decide) rfl (fun ls hl => ?_)
  refine lv_iconst (v := 0) hx hb dX0_takeAway_3 (by decide) ?_
  refine lv_istore (lv' := [(7, .int 0), (5, .long 0), (0, .ref (ad a0)), (1, .ref (ad a1)), (2, .long a2), (4, .int a4)]) hx hb dX0_takeAway_4 hl (by decide) rfl (fun ls hl => ?_)
  have hw := hw (fun (b5_6 : Int64) (b7_6 : Int32) (g_6 : Hs) => ∀ (ls : Array Slot) (H : Heap) (locs : List Loc), lv_has ls 8 [(0, .ref (ad a0)), (1, .ref (ad a1)), (2, .long a2), (4, .int a4), (5, .long b5_6), (7, .int b7_6)] → okW D q A s (wX q ad g_6) H locs → W p l e R s m args below meth c H locs 0 0 Qm (F0 m 6 ls [])) (by
    intro b5_6 b7_6 g_6 hw ls H locs hl G
    refine lv_iload hx hb dX0_takeAway_6 (lv_at hl 5 rfl) ?_
    refine lv_aload_n hx hb dX0_takeAway_8 rfl (lv_at hl 1 rfl) ?_
    refine x_get (C := RX0) (T := TX0) (n := 2) S G inX0 (xe_1 k1) rfl 1 (by decide) kf_X0_19 rfl dX0_takeAway_9 ?_
    have hw := hw (∀ (ls : Array Slot) (H : Heap) (locs : List Loc), lv_has ls 8 [(0, .ref (ad a0)), (1, .ref (ad a1)), (4, .int a4), (5, .long b5_6)] → okW D q A s (wX q ad g_6) H locs → W p l e R s m args below meth c H locs 0 0 Qm (F0 m 84 ls [])) (by
      intro hw ls H locs hl G
      refine lv_iload hx hb dX0_takeAway_84 (lv_at hl 2 rfl) ?_
      refine lv_aload_n hx hb dX0_takeAway_86 rfl (lv_at hl 1 rfl) ?_
      refine x_get (C := RX0) (T := TX0) (n := 2) S G inX0 (xe_1 k1) rfl 1 (by decide) kf_X0_19 rfl dX0_takeAway_87 ?_
      refine lv_iadd hx hb dX0_takeAway_90 ?_
      refine lv_topi (fun a7_91 ea7_91 => ?_)
      have hw := hw a7_91 ea7_91
      refine lv_istore (lv' := [(7, .int a7_91), (0, .ref (ad a0)), (1, .ref (ad a1)), (4, .int a4), (5, .long b5_6)]) hx hb dX0_takeAway_91 hl (by decide) rfl (fun ls hl => ?_)
      have hw := hw (fun (b5_93 : Int64) (b7_93 : Int32) (g_93 : Hs) => ∀ (ls : Array Slot) (H : Heap) (locs : List Loc), lv_has ls 8 [(0, .ref (ad a0)), (5, .long b5_93), (7, .int b7_93)] → okW D q A s (wX q ad g_93) H locs → W p l e R s m args below meth c H locs 0 0 Qm (F0 m 93 ls [])) (by
        intro b5_93 b7_93 g_93 hw ls H locs hl G
        refine lv_iload hx hb dX0_takeAway_93 (lv_at hl 2 rfl) ?_
        refine lv_aload_n hx hb dX0_takeAway_95 rfl (lv_at hl 0 rfl) ?_
        refine x_get (C := RX0) (T := TX0) (n := 2) S G inX0 (xe_1 k0) rfl 1 (by decide) kf_X0_19 rfl dX0_takeAway_96 ?_
        have hw := hw (∀ (ls : Array Slot) (H : Heap) (locs : List Loc), lv_has ls 8 [(0, .ref (ad a0))] → okW D q A s (wX q ad g_93) H locs → W p l e R s m args below meth c H locs 0 0 Qm (F0 m 149 ls [])) (by
          intro hw ls H locs hl G
          refine lv_aload_n hx hb dX0_takeAway_149 rfl (lv_at hl 0 rfl) ?_
          refine x_Vv S hl.1 G (c_Big_trim l D q A ad a0 k0 g_93 _ hw) (cw_X0_42 S.2.2.2.2 ⟨Nat.le_trans (Nat.le_of_ble_eq_true rfl) hR1, Nat.le_trans (Nat.le_of_ble_eq_true rfl) hR2⟩) (xe_1 k0) rfl rfl rfl (Nat.le_of_ble_eq_true rfl) dX0_takeAway_150 (fun h_150 H locs G hw => ?_)
          exact RT _ _ _ _ _ G hw dX0_takeAway_153)
        refine lv_icmp_ge (tgt := 149) hx hb dX0_takeAway_99 (by decide) (fun c_99 => ?_) (fun c_99 => ?_)
        · have hw := hw.1 c_99
          exact hw _ _ _ (lv_sub hl [0] rfl) G
        · have hw := hw.2 c_99
          refine lv_lload hx hb dX0_takeAway_102 (lv_at hl 1 rfl) ?_
          refine lv_lconst (v := 0) hx hb dX0_takeAway_104 (by decide) ?_
          refine W.lcmp hx hb dX0_takeAway_105 ?_
          refine lv_if_eq (tgt := 149) hx hb dX0_takeAway_106 (by decide) (fun c_106 => ?_) (fun c_106 => ?_)
          · have hw := hw.1 c_106
            exact hw _ _ _ (lv_sub hl [0] rfl) G
          · have hw := hw.2 c_106
            refine lv_lload hx hb dX0_takeAway_109 (lv_at hl 1 rfl) ?_
            refine lv_aload_n hx hb dX0_takeAway_111 rfl (lv_at hl 0 rfl) ?_
            refine x_get (C := RX0) (T := TX0) (n := 2) S G inX0 (xe_1 k0) rfl 0 (by decide) kf_X0_13 rfl dX0_takeAway_112 ?_
            refine lv_iload hx hb dX0_takeAway_115 (lv_at hl 2 rfl) ?_
            obtain ⟨i_117, hw⟩ := hw
            refine x_iald (k := b7_93.toNatClampNeg) S G (xe_20 (kxr_1 _ (kX_lt k0) k0) rfl) i_117 rfl rfl dX0_takeAway_117 ?_
            refine lv_i2l hx hb dX0_takeAway_118 rfl ?_
            refine lv_ladd hx hb dX0_takeAway_119 ?_
            refine lv_topl (fun a5_120 ea5_120 => ?_)
            have hw := hw a5_120 ea5_120
            refine lv_lstore (lv' := [(5, .long a5_120), (0, .ref (ad a0)), (7, .int b7_93)]) hx hb dX0_takeAway_120 hl (by decide) rfl (fun ls hl => ?_)
            refine lv_aload_n hx hb dX0_takeAway_122 rfl (lv_at hl 1 rfl) ?_
            refine x_get (C := RX0) (T := TX0) (n := 2) S G inX0 (xe_1 k0) rfl 0 (by decide) kf_X0_13 rfl dX0_takeAway_123 ?_
            refine lv_iload hx hb dX0_takeAway_126 (lv_at hl 2 rfl) ?_
            refine lv_lload hx hb dX0_takeAway_128 (lv_at hl 0 rfl) ?_
            refine lv_ldc2 (v := 1073741823) hx hb S.2.2.2.1 (S.2.2.2.2 _ kl_X0_23) dX0_takeAway_130 ?_
            refine lv_land hx hb dX0_takeAway_133 ?_
            refine lv_l2i hx hb dX0_takeAway_134 rfl ?_
            obtain ⟨i_135, hw⟩ := hw
            refine x_iast (k := b7_93.toNatClampNeg) S G (xe_20 (kxr_1 _ (kX_lt k0) k0) rfl) i_135 rfl (xs_20 (kxr_1 _ (kX_lt k0) k0) rfl) dX0_takeAway_135 (fun H locs G => ?_)
            obtain ⟨h_135, eh_135⟩ : ∃ y : Hs, y = si g_93 (a0 + 1) b7_93.toNatClampNeg ((a5_120 &&& 1073741823).toInt32) := ⟨_, rfl⟩
            rw [← eh_135] at G
            have hw := hw h_135 eh_135
            refine lv_lload hx hb dX0_takeAway_136 (lv_at hl 0 rfl) ?_
            refine lv_bipush (v := 30) hx hb dX0_takeAway_138 (by decide) ?_
            refine lv_lshr hx hb dX0_takeAway_140 rfl ?_
            refine lv_topl (fun a5_141 ea5_141 => ?_)
            have hw := hw a5_141 ea5_141
            refine lv_lstore (lv' := [(5, .long a5_141), (0, .ref (ad a0)), (7, .int b7_93)]) hx hb dX0_takeAway_141 hl (by decide) rfl (fun ls hl => ?_)
            obtain ⟨a7_143, ea7_143⟩ : ∃ y : Int32, y = b7_93 + 1 := ⟨_, rfl⟩
            have hw := hw a7_143 ea7_143
            refine lv_iinc (v := a7_143) (lv' := [(7, .int a7_143), (5, .long a5_141), (0, .ref (ad a0))]) hx hb dX0_takeAway_143 hl (k := 2) rfl (by rw [ea7_143]; rfl) (by decide) rfl (fun ls hl => ?_)
            refine lv_goto (tgt := 93) hx hb dX0_takeAway_146 (by decide) ?_
            exact hw _ _ _ (lv_sub hl [2, 1, 0] rfl) G)
      exact hw _ _ _ (lv_sub hl [1, 4, 0] rfl) G)
    refine lv_icmp_ge (tgt := 84) hx hb dX0_takeAway_12 (by decide) (fun c_12 => ?_) (fun c_12 => ?_)
    · have hw := hw.1 c_12
      exact hw _ _ _ (lv_sub hl [0, 1, 3, 4] rfl) G
    · have hw := hw.2 c_12
      refine lv_iload hx hb dX0_takeAway_15 (lv_at hl 3 rfl) ?_
      refine lv_iload hx hb dX0_takeAway_17 (lv_at hl 5 rfl) ?_
      refine lv_iadd hx hb dX0_takeAway_19 ?_
      refine lv_aload_n hx hb dX0_takeAway_20 rfl (lv_at hl 0 rfl) ?_
      refine x_get (C := RX0) (T := TX0) (n := 2) S G inX0 (xe_1 k0) rfl 1 (by decide) kf_X0_19 rfl dX0_takeAway_21 ?_
      refine lv_icmp_ge (tgt := 84) hx hb dX0_takeAway_24 (by decide) (fun c_24 => ?_) (fun c_24 => ?_)
      · have hw := hw.1 c_24
        exact hw _ _ _ (lv_sub hl [0, 1, 3, 4] rfl) G
      · have hw := hw.2 c_24
        refine lv_lload hx hb dX0_takeAway_27 (lv_at hl 4 rfl) ?_
        refine lv_aload_n hx hb dX0_takeAway_29 rfl (lv_at hl 0 rfl) ?_
        refine x_get (C := RX0) (T := TX0) (n := 2) S G inX0 (xe_1 k0) rfl 0 (by decide) kf_X0_13 rfl dX0_takeAway_30 ?_
        refine lv_iload hx hb dX0_takeAway_33 (lv_at hl 3 rfl) ?_
        refine lv_iload hx hb dX0_takeAway_35 (lv_at hl 5 rfl) ?_
        refine lv_iadd hx hb dX0_takeAway_37 ?_
        obtain ⟨i_38, hw⟩ := hw
        refine x_iald (k := (a4 + b7_6).toNatClampNeg) S G (xe_20 (kxr_1 _ (kX_lt k0) k0) rfl) i_38 rfl rfl dX0_takeAway_38 ?_
        refine lv_i2l hx hb dX0_takeAway_39 rfl ?_
        refine lv_lload_n hx hb dX0_takeAway_40 rfl (lv_at hl 2 rfl) ?_
        refine lv_aload_n hx hb dX0_takeAway_41 rfl (lv_at hl 1 rfl) ?_
        refine x_get (C := RX0) (T := TX0) (n := 2) S G inX0 (xe_1 k1) rfl 0 (by decide) kf_X0_13 rfl dX0_takeAway_42 ?_
        refine lv_iload hx hb dX0_takeAway_45 (lv_at hl 5 rfl) ?_
        obtain ⟨i_47, hw⟩ := hw
        refine x_iald (k := b7_6.toNatClampNeg) S G (xe_20 (kxr_1 _ (kX_lt k1) k1) rfl) i_47 rfl rfl dX0_takeAway_47 ?_
        refine lv_i2l hx hb dX0_takeAway_48 rfl ?_
        refine lv_lmul hx hb dX0_takeAway_49 ?_
        refine lv_lsub hx hb dX0_takeAway_50 ?_
        refine lv_ladd hx hb dX0_takeAway_51 ?_
        refine lv_topl (fun a5_52 ea5_52 => ?_)
        have hw := hw a5_52 ea5_52
        refine lv_lstore (lv' := [(5, .long a5_52), (0, .ref (ad a0)), (1, .ref (ad a1)), (2, .long a2), (4, .int a4), (7, .int b7_6)]) hx hb dX0_takeAway_52 hl (by decide) rfl (fun ls hl => ?_)
        refine lv_aload_n hx hb dX0_takeAway_54 rfl (lv_at hl 1 rfl) ?_
        refine x_get (C := RX0) (T := TX0) (n := 2) S G inX0 (xe_1 k0) rfl 0 (by decide) kf_X0_13 rfl dX0_takeAway_55 ?_
        refine lv_iload hx hb dX0_takeAway_58 (lv_at hl 4 rfl) ?_
        refine lv_iload hx hb dX0_takeAway_60 (lv_at hl 5 rfl) ?_
        refine lv_iadd hx hb dX0_takeAway_62 ?_
        refine lv_lload hx hb dX0_takeAway_63 (lv_at hl 0 rfl) ?_
        refine lv_ldc2 (v := 1073741823) hx hb S.2.2.2.1 (S.2.2.2.2 _ kl_X0_23) dX0_takeAway_65 ?_
        refine lv_land hx hb dX0_takeAway_68 ?_
        refine lv_l2i hx hb dX0_takeAway_69 rfl ?_
        obtain ⟨i_70, hw⟩ := hw
        refine x_iast (k := (a4 + b7_6).toNatClampNeg) S G (xe_20 (kxr_1 _ (kX_lt k0) k0) rfl) i_70 rfl (xs_20 (kxr_1 _ (kX_lt k0) k0) rfl) dX0_takeAway_70 (fun H locs G => ?_)
        obtain ⟨h_70, eh_70⟩ : ∃ y : Hs, y = si g_6 (a0 + 1) ((a4 + b7_6).toNatClampNeg) ((a5_52 &&& 1073741823).toInt32) := ⟨_, rfl⟩
        rw [← eh_70] at G
        have hw := hw h_70 eh_70
        refine lv_lload hx hb dX0_takeAway_71 (lv_at hl 0 rfl) ?_
        refine lv_bipush (v := 30) hx hb dX0_takeAway_73 (by decide) ?_
        refine lv_lshr hx hb dX0_takeAway_75 rfl ?_
        refine lv_topl (fun a5_76 ea5_76 => ?_)
        have hw := hw a5_76 ea5_76
        refine lv_lstore (lv' := [(5, .long a5_76), (0, .ref (ad a0)), (1, .ref (ad a1)), (2, .long a2), (4, .int a4), (7, .int b7_6)]) hx hb dX0_takeAway_76 hl (by decide) rfl (fun ls hl => ?_)
        obtain ⟨a7_78, ea7_78⟩ : ∃ y : Int32, y = b7_6 + 1 := ⟨_, rfl⟩
        have hw := hw a7_78 ea7_78
        refine lv_iinc (v := a7_78) (lv' := [(7, .int a7_78), (5, .long a5_76), (0, .ref (ad a0)), (1, .ref (ad a1)), (2, .long a2), (4, .int a4)]) hx hb dX0_takeAway_78 hl (k := 5) rfl (by rw [ea7_78]; rfl) (by decide) rfl (fun ls hl => ?_)
        refine lv_goto (tgt := 6) hx hb dX0_takeAway_81 (by decide) ?_
        exact hw _ _ _ (lv_sub hl [2, 3, 4, 5, 1, 0] rfl) G)
  exact hw _ _ _ (lv_sub hl [2, 3, 4, 5, 1, 0] rfl) G
theorem cw_X0_69 {R : Room} {s : State} {args : Array Value} (hts : ∀ w ∈ gW, w.before args s = true) (hR : rm_Big_takeAway.frames + 1 ≤ R.frames ∧ 8 + (8 + 11) + rm_Big_takeAway.locals ≤ R.locals) : CallW R s args RX0 RX0 69 yX0_takeAway cX0_takeAway 8 none (mw yX0_takeAway cX0_takeAway 8 none) rm_Big_takeAway 0 0 3 := cwV9 hts km_X0_69 ki_X0_takeAway ks_X0_takeAway kn_X0 kk_X0_takeAway rfl rfl (by decide +kernel) hR
abbrev rm_Big_raise : Room := { frames := 1, cells := 0, slots := 0, locals := 21 }
set_option maxHeartbeats 4000000 in
set_option maxRecDepth 100000 in
theorem c_Big_raise (l : Launch) (D : va_G) (q : Nat → ClassId) (A : Nat → Prop) (ad : Nat → Nat) (a0 : Nat) (a1 : Int32) (a2 : Int32) (k0 : kX a0 = 1) (h : Hs) (Q : Hs → Prop) (hw : p_Big_raise a0 a1 a2 h Q) : Met l yX0_raise (mw yX0_raise cX0_raise 5 none) rm_Big_raise (va_Pc [.ref (ad a0), .int a1, .int a2] (pW D q A (wX q ad h))) (va_Qv Q (fun h t => pW D q A (wX q ad h) t) A) 0 0 A := by
  refine met_v (Qp := Q) (by decide) (Nat.le_of_ble_eq_true rfl) ?_
  intro p e R s m args below meth c Qm ls hR1 hR2 S RT hl G
  have hx := S.1
  have hb := S.2.1
  have hl : lv_has ls 5 [(0, .ref (ad a0)), (1, .int a1), (2, .int a2)] := hl
  unfold p_Big_raise at hw
  refine lv_aload_n hx hb dX0_raise_0 rfl (lv_at hl 0 rfl) ?_
  refine lv_aload_n hx hb dX0_raise_1 rfl (lv_at hl 0 rfl) ?_
  refine x_get (C := RX0) (T := TX0) (n := 2) S G inX0 (xe_1 k0) rfl 1 (by decide) kf_X0_19 rfl dX0_raise_2 ?_
  refine lv_iload_n hx hb dX0_raise_5 rfl (lv_at hl 2 rfl) ?_
  refine lv_iconst (v := 1) hx hb dX0_raise_6 (by decide) ?_
  refine lv_iadd hx hb dX0_raise_7 ?_
  refine va_mmax hx hb (S.2.2.1.trans hl.1.symm) S.2.2.2.1 (S.2.2.2.2 _ km_X0_7) (S.2.2.2.2 _ kt_J9_max_7cf53) (S.2.2.2.2 _ kn_J9) (S.2.2.2.2 _ kk_J9_max_7cf53) (Nat.le_trans (Nat.le_of_ble_eq_true rfl) hR1) (Nat.le_trans (Nat.le_of_ble_eq_true rfl) hR2) (Nat.zero_le _) (Nat.zero_le _) dX0_raise_8 ?_
  refine lv_iconst (v := 1) hx hb dX0_raise_11 (by decide) ?_
  refine lv_iadd hx hb dX0_raise_12 ?_
  refine x_Vv S hl.1 G (c_Big_growTo l D q A ad a0 ((if (gi h a0 1) < (a2 + 1) then (a2 + 1) else (gi h a0 1)) + 1) k0 h _ hw) (cw_X0_38 S.2.2.2.2 ⟨Nat.le_trans (Nat.le_of_ble_eq_true rfl) hR1, Nat.le_trans (Nat.le_of_ble_eq_true rfl) hR2⟩) (xe_1 k0) rfl rfl rfl (Nat.le_of_ble_eq_true rfl) dX0_raise_13 (fun h_13 H locs G hw => ?_)
  refine lv_iload_n hx hb dX0_raise_16 rfl (lv_at hl 1 rfl) ?_
  refine lv_istore_n (lv' := [(3, .int a1), (0, .ref (ad a0)), (1, .int a1), (2, .int a2)]) hx hb dX0_raise_17 rfl hl (by decide) rfl (fun ls hl => ?_)
  refine lv_iload_n hx hb dX0_raise_18 rfl (lv_at hl 3 rfl) ?_
  refine lv_istore (lv' := [(4, .int a2), (3, .int a1), (0, .ref (ad a0)), (1, .int a1), (2, .int a2)]) hx hb dX0_raise_19 hl (by decide) rfl (fun ls hl => ?_)
  have hw := hw (fun (b3_21 : Int32) (b4_21 : Int32) (g_21 : Hs) => ∀ (ls : Array Slot) (H : Heap) (locs : List Loc), lv_has ls 5 [(0, .ref (ad a0)), (3, .int b3_21), (4, .int b4_21)] → okW D q A s (wX q ad g_21) H locs → W p l e R s m args below meth c H locs 0 0 Qm (F0 m 21 ls [])) (by
    intro b3_21 b4_21 g_21 hw ls H locs hl G
    refine lv_iload hx hb dX0_raise_21 (lv_at hl 2 rfl) ?_
    refine lv_aload_n hx hb dX0_raise_23 rfl (lv_at hl 0 rfl) ?_
    refine x_get (C := RX0) (T := TX0) (n := 2) S G inX0 (xe_1 k0) rfl 1 (by decide) kf_X0_19 rfl dX0_raise_24 ?_
    have hw := hw (∀ (ls : Array Slot) (H : Heap) (locs : List Loc), lv_has ls 5 [(0, .ref (ad a0))] → okW D q A s (wX q ad g_21) H locs → W p l e R s m args below meth c H locs 0 0 Qm (F0 m 66 ls [])) (by
      intro hw ls H locs hl G
      refine lv_aload_n hx hb dX0_raise_66 rfl (lv_at hl 0 rfl) ?_
      refine x_Vv S hl.1 G (c_Big_trim l D q A ad a0 k0 g_21 _ hw) (cw_X0_42 S.2.2.2.2 ⟨Nat.le_trans (Nat.le_of_ble_eq_true rfl) hR1, Nat.le_trans (Nat.le_of_ble_eq_true rfl) hR2⟩) (xe_1 k0) rfl rfl rfl (Nat.le_of_ble_eq_true rfl) dX0_raise_67 (fun h_67 H locs G hw => ?_)
      exact RT _ _ _ _ _ G hw dX0_raise_70)
    refine lv_icmp_ge (tgt := 66) hx hb dX0_raise_27 (by decide) (fun c_27 => ?_) (fun c_27 => ?_)
    · have hw := hw.1 c_27
      exact hw _ _ _ (lv_sub hl [0] rfl) G
    · have hw := hw.2 c_27
      refine lv_iload_n hx hb dX0_raise_30 rfl (lv_at hl 1 rfl) ?_
      refine lv_if_le (tgt := 66) hx hb dX0_raise_31 (by decide) (fun c_31 => ?_) (fun c_31 => ?_)
      · have hw := hw.1 c_31
        exact hw _ _ _ (lv_sub hl [0] rfl) G
      · have hw := hw.2 c_31
        refine lv_iload_n hx hb dX0_raise_34 rfl (lv_at hl 1 rfl) ?_
        refine lv_aload_n hx hb dX0_raise_35 rfl (lv_at hl 0 rfl) ?_
        refine x_get (C := RX0) (T := TX0) (n := 2) S G inX0 (xe_1 k0) rfl 0 (by decide) kf_X0_13 rfl dX0_raise_36 ?_
        refine lv_iload hx hb dX0_raise_39 (lv_at hl 2 rfl) ?_
        obtain ⟨i_41, hw⟩ := hw
        refine x_iald (k := b4_21.toNatClampNeg) S G (xe_20 (kxr_1 _ (kX_lt k0) k0) rfl) i_41 rfl rfl dX0_raise_41 ?_
        refine lv_iadd hx hb dX0_raise_42 ?_
        refine lv_topi (fun a3_43 ea3_43 => ?_)
        have hw := hw a3_43 ea3_43
        refine lv_istore_n (lv' := [(3, .int a3_43), (0, .ref (ad a0)), (4, .int b4_21)]) hx hb dX0_raise_43 rfl hl (by decide) rfl (fun ls hl => ?_)
        refine lv_aload_n hx hb dX0_raise_44 rfl (lv_at hl 1 rfl) ?_
        refine x_get (C := RX0) (T := TX0) (n := 2) S G inX0 (xe_1 k0) rfl 0 (by decide) kf_X0_13 rfl dX0_raise_45 ?_
        refine lv_iload hx hb dX0_raise_48 (lv_at hl 2 rfl) ?_
        refine lv_iload_n hx hb dX0_raise_50 rfl (lv_at hl 0 rfl) ?_
        refine lv_ldc (v := 1073741823) hx hb S.2.2.2.1 (S.2.2.2.2 _ kc_X0_41) dX0_raise_51 ?_
        refine lv_iand hx hb dX0_raise_53 ?_
        obtain ⟨i_54, hw⟩ := hw
        refine x_iast (k := b4_21.toNatClampNeg) S G (xe_20 (kxr_1 _ (kX_lt k0) k0) rfl) i_54 rfl (xs_20 (kxr_1 _ (kX_lt k0) k0) rfl) dX0_raise_54 (fun H locs G => ?_)
        obtain ⟨h_54, eh_54⟩ : ∃ y : Hs, y = si g_21 (a0 + 1) b4_21.toNatClampNeg (a3_43 &&& 1073741823) := ⟨_, rfl⟩
        rw [← eh_54] at G
        have hw := hw h_54 eh_54
        refine lv_iload_n hx hb dX0_raise_55 rfl (lv_at hl 0 rfl) ?_
        refine lv_bipush (v := 30) hx hb dX0_raise_56 (by decide) ?_
        refine lv_ishr hx hb dX0_raise_58 ?_
        refine lv_topi (fun a3_59 ea3_59 => ?_)
        have hw := hw a3_59 ea3_59
        refine lv_istore_n (lv' := [(3, .int a3_59), (0, .ref (ad a0)), (4, .int b4_21)]) hx hb dX0_raise_59 rfl hl (by decide) rfl (fun ls hl => ?_)
        obtain ⟨a4_60, ea4_60⟩ : ∃ y : Int32, y = b4_21 + 1 := ⟨_, rfl⟩
        have hw := hw a4_60 ea4_60
        refine lv_iinc (v := a4_60) (lv' := [(4, .int a4_60), (3, .int a3_59), (0, .ref (ad a0))]) hx hb dX0_raise_60 hl (k := 2) rfl (by rw [ea4_60]; rfl) (by decide) rfl (fun ls hl => ?_)
        refine lv_goto (tgt := 21) hx hb dX0_raise_63 (by decide) ?_
        exact hw _ _ _ (lv_sub hl [2, 1, 0] rfl) G)
  exact hw _ _ _ (lv_sub hl [2, 1, 0] rfl) G
theorem cw_X0_73 {R : Room} {s : State} {args : Array Value} (hts : ∀ w ∈ gW, w.before args s = true) (hR : rm_Big_raise.frames + 1 ≤ R.frames ∧ 8 + (5 + 11) + rm_Big_raise.locals ≤ R.locals) : CallW R s args RX0 RX0 73 yX0_raise cX0_raise 5 none (mw yX0_raise cX0_raise 5 none) rm_Big_raise 0 0 2 := cwV9 hts km_X0_73 ki_X0_raise ks_X0_raise kn_X0 kk_X0_raise rfl rfl (by decide +kernel) hR
abbrev rm_Big_divide : Room := { frames := 2, cells := 0, slots := 0, locals := 47 }
set_option maxHeartbeats 4000000 in
set_option maxRecDepth 100000 in
theorem c_Big_divide (l : Launch) (D : va_G) (q : Nat → ClassId) (A : Nat → Prop) (ad : Nat → Nat) (a0 : Nat) (a1 : Nat) (a2 : Nat) (k0 : kX a0 = 1) (k1 : kX a1 = 1) (k2 : kX a2 = 1) (h : Hs) (Q : Hs → Prop) (hw : p_Big_divide a0 a1 a2 h Q) : Met l yX0_divide (mw yX0_divide cX0_divide 11 none) rm_Big_divide (va_Pc [.ref (ad a0), .ref (ad a1), .ref (ad a2)] (pW D q A (wX q ad h))) (va_Qv Q (fun h t => pW D q A (wX q ad h) t) A) 0 0 A := by
  refine met_v (Qp := Q) (by decide) (Nat.le_of_ble_eq_true rfl) ?_
  intro p e R s m args below meth c Qm ls hR1 hR2 S RT hl G
  have hx := S.1
  have hb := S.2.1
  have hl : lv_has ls 11 [(0, .ref (ad a0)), (1, .ref (ad a1)), (2, .ref (ad a2))] := hl
  unfold p_Big_divide at hw
  refine lv_aload_n hx hb dX0_divide_0 rfl (lv_at hl 2 rfl) ?_
  refine lv_lconst (v := 0) hx hb dX0_divide_1 (by decide) ?_
  refine x_Vv S hl.1 G (c_Big_become l D q A ad a2 0 k2 h _ hw) (cw_X0_45 S.2.2.2.2 ⟨Nat.le_trans (Nat.le_of_ble_eq_true rfl) hR1, Nat.le_trans (Nat.le_of_ble_eq_true rfl) hR2⟩) (xe_1 k2) rfl rfl rfl (Nat.le_of_ble_eq_true rfl) dX0_divide_2 (fun h_2 H locs G hw => ?_)
  refine lv_iconst (v := 0) hx hb dX0_divide_5 (by decide) ?_
  refine lv_istore_n (lv' := [(3, .int 0), (0, .ref (ad a0)), (1, .ref (ad a1)), (2, .ref (ad a2))]) hx hb dX0_divide_6 rfl hl (by decide) rfl (fun ls hl => ?_)
  have hw := hw (fun (b3_7 : Int32) (g_7 : Hs) => ∀ (ls : Array Slot) (H : Heap) (locs : List Loc), lv_has ls 11 [(0, .ref (ad a0)), (1, .ref (ad a1)), (2, .ref (ad a2)), (3, .int b3_7)] → okW D q A s (wX q ad g_7) H locs → W p l e R s m args below meth c H locs 0 0 Qm (F0 m 7 ls [])) (by
    intro b3_7 g_7 hw ls H locs hl G
    refine lv_iload_n hx hb dX0_divide_7 rfl (lv_at hl 3 rfl) ?_
    refine lv_ldc (v := 1000000) hx hb S.2.2.2.1 (S.2.2.2.2 _ kc_X0_49) dX0_divide_8 ?_
    have hw := hw (∀ (ls : Array Slot) (H : Heap) (locs : List Loc), lv_has ls 11 [] → okW D q A s (wX q ad g_7) H locs → W p l e R s m args below meth c H locs 0 0 Qm (F0 m 146 ls [])) (by
      intro hw ls H locs hl G
      exact RT _ _ _ _ _ G hw dX0_divide_146)
    refine lv_icmp_ge (tgt := 146) hx hb dX0_divide_10 (by decide) (fun c_10 => ?_) (fun c_10 => ?_)
    · have hw := hw.1 c_10
      exact hw _ _ _ (lv_sub hl [] rfl) G
    · have hw := hw.2 c_10
      refine lv_aload_n hx hb dX0_divide_13 rfl (lv_at hl 1 rfl) ?_
      refine x_VzP S hl.1 G (c_Big_isZero l D q A ad a1 k1 g_7 _ hw) (cw_X0_50 S.2.2.2.2 ⟨Nat.le_trans (Nat.le_of_ble_eq_true rfl) hR1, Nat.le_trans (Nat.le_of_ble_eq_true rfl) hR2⟩) (xe_1 k1) rfl rfl rfl (Nat.le_of_ble_eq_true rfl) dX0_divide_14 (fun r_14 H locs G z_14 hw => ?_)
      refine lv_if_ne (tgt := 146) hx hb dX0_divide_17 (by decide) (fun c_17 => ?_) (fun c_17 => ?_)
      · have hw := hw.1 c_17
        exact hw _ _ _ (lv_sub hl [] rfl) G
      · have hw := hw.2 c_17
        refine lv_aload_n hx hb dX0_divide_20 rfl (lv_at hl 0 rfl) ?_
        refine lv_aload_n hx hb dX0_divide_21 rfl (lv_at hl 1 rfl) ?_
        refine x_VzP S hl.1 G (c_Big_isBelow l D q A ad a0 a1 k0 k1 g_7 _ hw) (cw_X0_54 S.2.2.2.2 ⟨Nat.le_trans (Nat.le_of_ble_eq_true rfl) hR1, Nat.le_trans (Nat.le_of_ble_eq_true rfl) hR2⟩) (xe_1 k0) rfl rfl rfl (Nat.le_of_ble_eq_true rfl) dX0_divide_22 (fun r_22 H locs G z_22 hw => ?_)
        refine lv_if_ne (tgt := 146) hx hb dX0_divide_25 (by decide) (fun c_25 => ?_) (fun c_25 => ?_)
        · have hw := hw.1 c_25
          exact hw _ _ _ (lv_sub hl [] rfl) G
        · have hw := hw.2 c_25
          refine lv_aload_n hx hb dX0_divide_28 rfl (lv_at hl 0 rfl) ?_
          refine x_get (C := RX0) (T := TX0) (n := 2) S G inX0 (xe_1 k0) rfl 1 (by decide) kf_X0_19 rfl dX0_divide_29 ?_
          refine lv_aload_n hx hb dX0_divide_32 rfl (lv_at hl 1 rfl) ?_
          refine x_get (C := RX0) (T := TX0) (n := 2) S G inX0 (xe_1 k1) rfl 1 (by decide) kf_X0_19 rfl dX0_divide_33 ?_
          refine lv_isub hx hb dX0_divide_36 ?_
          refine lv_topi (fun a4_37 ea4_37 => ?_)
          have hw := hw a4_37 ea4_37
          refine lv_istore (lv' := [(4, .int a4_37), (0, .ref (ad a0)), (1, .ref (ad a1)), (2, .ref (ad a2)), (3, .int b3_7)]) hx hb dX0_divide_37 hl (by decide) rfl (fun ls hl => ?_)
          refine lv_aload_n hx hb dX0_divide_39 rfl (lv_at hl 1 rfl) ?_
          refine lv_aload_n hx hb dX0_divide_40 rfl (lv_at hl 1 rfl) ?_
          refine x_get (C := RX0) (T := TX0) (n := 2) S G inX0 (xe_1 k0) rfl 1 (by decide) kf_X0_19 rfl dX0_divide_41 ?_
          refine lv_iconst (v := 1) hx hb dX0_divide_44 (by decide) ?_
          refine lv_isub hx hb dX0_divide_45 ?_
          refine x_ViP S hl.1 G (c_Big_digit l D q A ad a0 ((gi g_7 a0 1) - 1) k0 g_7 _ hw) (cw_X0_58 S.2.2.2.2 ⟨Nat.le_trans (Nat.le_of_ble_eq_true rfl) hR1, Nat.le_trans (Nat.le_of_ble_eq_true rfl) hR2⟩) (xe_1 k0) rfl rfl rfl (Nat.le_of_ble_eq_true rfl) dX0_divide_46 (fun r_46 H locs G hw => ?_)
          refine lv_i2l hx hb dX0_divide_49 rfl ?_
          refine lv_topl (fun a5_50 ea5_50 => ?_)
          have hw := hw a5_50 ea5_50
          refine lv_lstore (lv' := [(5, .long a5_50), (4, .int a4_37), (0, .ref (ad a0)), (1, .ref (ad a1)), (2, .ref (ad a2)), (3, .int b3_7)]) hx hb dX0_divide_50 hl (by decide) rfl (fun ls hl => ?_)
          refine lv_aload_n hx hb dX0_divide_52 rfl (lv_at hl 3 rfl) ?_
          refine lv_aload_n hx hb dX0_divide_53 rfl (lv_at hl 3 rfl) ?_
          refine x_get (C := RX0) (T := TX0) (n := 2) S G inX0 (xe_1 k1) rfl 1 (by decide) kf_X0_19 rfl dX0_divide_54 ?_
          refine lv_iconst (v := 1) hx hb dX0_divide_57 (by decide) ?_
          refine lv_isub hx hb dX0_divide_58 ?_
          refine x_ViP S hl.1 G (c_Big_digit l D q A ad a1 ((gi g_7 a1 1) - 1) k1 g_7 _ hw) (cw_X0_58 S.2.2.2.2 ⟨Nat.le_trans (Nat.le_of_ble_eq_true rfl) hR1, Nat.le_trans (Nat.le_of_ble_eq_true rfl) hR2⟩) (xe_1 k1) rfl rfl rfl (Nat.le_of_ble_eq_true rfl) dX0_divide_59 (fun r_59 H locs G hw => ?_)
          refine lv_i2l hx hb dX0_divide_62 rfl ?_
          refine lv_lconst (v := 1) hx hb dX0_divide_63 (by decide) ?_
          refine lv_ladd hx hb dX0_divide_64 ?_
          refine lv_topl (fun a7_65 ea7_65 => ?_)
          have hw := hw a7_65 ea7_65
          refine lv_lstore (lv' := [(7, .long a7_65), (5, .long a5_50), (4, .int a4_37), (0, .ref (ad a0)), (1, .ref (ad a1)), (2, .ref (ad a2)), (3, .int b3_7)]) hx hb dX0_divide_65 hl (by decide) rfl (fun ls hl => ?_)
          refine lv_iload hx hb dX0_divide_67 (lv_at hl 2 rfl) ?_
          have hw := hw (fun (b4_122 : Int32) (b9_122 : Int64) => ∀ (ls : Array Slot) (H : Heap) (locs : List Loc), lv_has ls 11 [(0, .ref (ad a0)), (1, .ref (ad a1)), (2, .ref (ad a2)), (3, .int b3_7), (4, .int b4_122), (9, .long b9_122)] → okW D q A s (wX q ad g_7) H locs → W p l e R s m args below meth c H locs 0 0 Qm (F0 m 122 ls [])) (by
            intro b4_122 b9_122 hw ls H locs hl G
            refine lv_aload_n hx hb dX0_divide_122 rfl (lv_at hl 0 rfl) ?_
            refine lv_aload_n hx hb dX0_divide_123 rfl (lv_at hl 1 rfl) ?_
            refine lv_lload hx hb dX0_divide_124 (lv_at hl 5 rfl) ?_
            refine lv_iload hx hb dX0_divide_126 (lv_at hl 4 rfl) ?_
            refine x_Vv S hl.1 G (c_Big_takeAway l D q A ad a0 a1 b9_122 b4_122 k0 k1 g_7 _ hw) (cw_X0_69 S.2.2.2.2 ⟨Nat.le_trans (Nat.le_of_ble_eq_true rfl) hR1, Nat.le_trans (Nat.le_of_ble_eq_true rfl) hR2⟩) (xe_1 k0) rfl rfl rfl (Nat.le_of_ble_eq_true rfl) dX0_divide_128 (fun h_128 H locs G hw => ?_)
            refine lv_aload_n hx hb dX0_divide_131 rfl (lv_at hl 2 rfl) ?_
            refine lv_lload hx hb dX0_divide_132 (lv_at hl 5 rfl) ?_
            refine lv_l2i hx hb dX0_divide_134 rfl ?_
            refine lv_iload hx hb dX0_divide_135 (lv_at hl 4 rfl) ?_
            refine x_Vv S hl.1 G (c_Big_raise l D q A ad a2 b9_122.toInt32 b4_122 k2 h_128 _ hw) (cw_X0_73 S.2.2.2.2 ⟨Nat.le_trans (Nat.le_of_ble_eq_true rfl) hR1, Nat.le_trans (Nat.le_of_ble_eq_true rfl) hR2⟩) (xe_1 k2) rfl rfl rfl (Nat.le_of_ble_eq_true rfl) dX0_divide_137 (fun h_137 H locs G hw => ?_)
            obtain ⟨a3_140, ea3_140⟩ : ∃ y : Int32, y = b3_7 + 1 := ⟨_, rfl⟩
            have hw := hw a3_140 ea3_140
            refine lv_iinc (v := a3_140) (lv' := [(3, .int a3_140), (0, .ref (ad a0)), (1, .ref (ad a1)), (2, .ref (ad a2)), (4, .int b4_122), (9, .long b9_122)]) hx hb dX0_divide_140 hl (k := 3) rfl (by rw [ea3_140]; rfl) (by decide) rfl (fun ls hl => ?_)
            refine lv_goto (tgt := 7) hx hb dX0_divide_143 (by decide) ?_
            exact hw _ _ _ (lv_sub hl [1, 2, 3, 0] rfl) G)
          refine lv_if_ne (tgt := 92) hx hb dX0_divide_69 (by decide) (fun c_69 => ?_) (fun c_69 => ?_)
          · have hw := hw.1 c_69
            refine lv_lload hx hb dX0_divide_92 (lv_at hl 1 rfl) ?_
            refine lv_lload hx hb dX0_divide_94 (lv_at hl 0 rfl) ?_
            refine W.lcmp hx hb dX0_divide_96 ?_
            refine lv_if_lt (tgt := 110) hx hb dX0_divide_97 (by decide) (fun c_97 => ?_) (fun c_97 => ?_)
            · have hw := hw.1 c_97
              obtain ⟨a4_110, ea4_110⟩ : ∃ y : Int32, y = a4_37 + (-1) := ⟨_, rfl⟩
              have hw := hw a4_110 ea4_110
              refine lv_iinc (v := a4_110) (lv' := [(4, .int a4_110), (7, .long a7_65), (5, .long a5_50), (0, .ref (ad a0)), (1, .ref (ad a1)), (2, .ref (ad a2)), (3, .int b3_7)]) hx hb dX0_divide_110 hl (k := 2) rfl (by rw [ea4_110]; rfl) (by decide) rfl (fun ls hl => ?_)
              refine lv_aload_n hx hb dX0_divide_113 rfl (lv_at hl 3 rfl) ?_
              refine x_VlP S hl.1 G (c_Big_topTwo l D q A ad a0 k0 g_7 _ hw) (cw_X0_62 S.2.2.2.2 ⟨Nat.le_trans (Nat.le_of_ble_eq_true rfl) hR1, Nat.le_trans (Nat.le_of_ble_eq_true rfl) hR2⟩) (xe_1 k0) rfl rfl rfl (Nat.le_of_ble_eq_true rfl) dX0_divide_114 (fun r_114 H locs G hw => ?_)
              refine lv_lload hx hb dX0_divide_117 (lv_at hl 1 rfl) ?_
              obtain ⟨n_119, hw⟩ := hw
              refine lv_ldiv hx hb dX0_divide_119 n_119 ?_
              refine lv_topl (fun a9_120 ea9_120 => ?_)
              have hw := hw a9_120 ea9_120
              refine lv_lstore (lv' := [(9, .long a9_120), (4, .int a4_110), (7, .long a7_65), (5, .long a5_50), (0, .ref (ad a0)), (1, .ref (ad a1)), (2, .ref (ad a2)), (3, .int b3_7)]) hx hb dX0_divide_120 hl (by decide) rfl (fun ls hl => ?_)
              exact hw _ _ _ (lv_sub hl [4, 5, 6, 7, 1, 0] rfl) G
            · have hw := hw.2 c_97
              refine lv_lload hx hb dX0_divide_100 (lv_at hl 1 rfl) ?_
              refine lv_lload hx hb dX0_divide_102 (lv_at hl 0 rfl) ?_
              obtain ⟨n_104, hw⟩ := hw
              refine lv_ldiv hx hb dX0_divide_104 n_104 ?_
              refine lv_topl (fun a9_105 ea9_105 => ?_)
              have hw := hw a9_105 ea9_105
              refine lv_lstore (lv' := [(9, .long a9_105), (7, .long a7_65), (5, .long a5_50), (4, .int a4_37), (0, .ref (ad a0)), (1, .ref (ad a1)), (2, .ref (ad a2)), (3, .int b3_7)]) hx hb dX0_divide_105 hl (by decide) rfl (fun ls hl => ?_)
              refine lv_goto (tgt := 122) hx hb dX0_divide_107 (by decide) ?_
              exact hw _ _ _ (lv_sub hl [4, 5, 6, 7, 3, 0] rfl) G
          · have hw := hw.2 c_69
            refine lv_aload_n hx hb dX0_divide_72 rfl (lv_at hl 3 rfl) ?_
            refine x_VlP S hl.1 G (c_Big_topTwo l D q A ad a0 k0 g_7 _ hw) (cw_X0_62 S.2.2.2.2 ⟨Nat.le_trans (Nat.le_of_ble_eq_true rfl) hR1, Nat.le_trans (Nat.le_of_ble_eq_true rfl) hR2⟩) (xe_1 k0) rfl rfl rfl (Nat.le_of_ble_eq_true rfl) dX0_divide_73 (fun r_73 H locs G hw => ?_)
            refine lv_aload_n hx hb dX0_divide_76 rfl (lv_at hl 4 rfl) ?_
            refine x_VlP S hl.1 G (c_Big_topTwo l D q A ad a1 k1 g_7 _ hw) (cw_X0_62 S.2.2.2.2 ⟨Nat.le_trans (Nat.le_of_ble_eq_true rfl) hR1, Nat.le_trans (Nat.le_of_ble_eq_true rfl) hR2⟩) (xe_1 k1) rfl rfl rfl (Nat.le_of_ble_eq_true rfl) dX0_divide_77 (fun r_77 H locs G hw => ?_)
            refine lv_lconst (v := 1) hx hb dX0_divide_80 (by decide) ?_
            refine lv_ladd hx hb dX0_divide_81 ?_
            obtain ⟨n_82, hw⟩ := hw
            refine lv_ldiv hx hb dX0_divide_82 n_82 ?_
            refine lv_lconst (v := 1) hx hb dX0_divide_83 (by decide) ?_
            refine va_mmax_long hx hb (S.2.2.1.trans hl.1.symm) S.2.2.2.1 (S.2.2.2.2 _ km_X0_66) (S.2.2.2.2 _ kt_J9_max_f86c9) (S.2.2.2.2 _ kn_J9) (S.2.2.2.2 _ kk_J9_max_f86c9) (Nat.le_trans (Nat.le_of_ble_eq_true rfl) hR1) (Nat.le_trans (Nat.le_of_ble_eq_true rfl) hR2) (Nat.zero_le _) (Nat.zero_le _) dX0_divide_84 ?_
            refine lv_topl (fun a9_87 ea9_87 => ?_)
            have hw := hw a9_87 ea9_87
            refine lv_lstore (lv' := [(9, .long a9_87), (7, .long a7_65), (5, .long a5_50), (4, .int a4_37), (0, .ref (ad a0)), (1, .ref (ad a1)), (2, .ref (ad a2)), (3, .int b3_7)]) hx hb dX0_divide_87 hl (by decide) rfl (fun ls hl => ?_)
            refine lv_goto (tgt := 122) hx hb dX0_divide_89 (by decide) ?_
            exact hw _ _ _ (lv_sub hl [4, 5, 6, 7, 3, 0] rfl) G)
  exact hw _ _ _ (lv_sub hl [1, 2, 3, 0] rfl) G
theorem cw_X2_43 {R : Room} {s : State} {args : Array Value} (hts : ∀ w ∈ gW, w.before args s = true) (hR : rm_Big_divide.frames + 1 ≤ R.frames ∧ 8 + (11 + 11) + rm_Big_divide.locals ≤ R.locals) : CallW R s args RX2 RX0 43 yX0_divide cX0_divide 11 none (mw yX0_divide cX0_divide 11 none) rm_Big_divide 0 0 2 := cwV9 hts km_X2_43 ki_X0_divide ks_X0_divide kn_X0 kk_X0_divide rfl rfl (by decide +kernel) hR
