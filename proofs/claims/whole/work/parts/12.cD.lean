abbrev rm_M_in : Room := { frames := 0, cells := 0, slots := 0, locals := 0 }
set_option maxHeartbeats 4000000 in
set_option maxRecDepth 100000 in
theorem c_M_in (l : Launch) (D : va_G) (q : Nat → ClassId) (A : Nat → Prop) (ad : Nat → Nat) (a0 : Int64) (a2 : Int64) (a4 : Int64) (h : Hs) (Q : Int32 → Prop) (hw : p_M_in a0 a2 a4 h Q) : Met l yX10_in (mw yX10_in cX10_in 6 (some .boolean)) rm_M_in (va_Pc [.long a0, .long a2, .long a4] (pW D q A (wM q ad h))) (va_Qi (fun r h9 => zb r ∧ h9 = h ∧ Q r) (fun h t => pW D q A (wM q ad h) t) A) 0 0 A := by
  refine met_z (Qp := (fun r h9 => h9 = h ∧ Q r)) (by decide) (Nat.le_of_ble_eq_true rfl) ?_
  intro p e R s m args below meth c Qm ls hR1 hR2 S RT hl G
  have hx := S.1
  have hb := S.2.1
  have hl : lv_has ls 6 [(0, .long a0), (2, .long a2), (4, .long a4)] := hl
  unfold p_M_in at hw
  refine lv_lload_n hx hb dX10_in_0 rfl (lv_at hl 0 rfl) ?_
  refine lv_lload_n hx hb dX10_in_1 rfl (lv_at hl 1 rfl) ?_
  refine W.lcmp hx hb dX10_in_2 ?_
  have hw := hw (fun (t0_18 : Int32) => ∀ (ls : Array Slot) (H : Heap) (locs : List Loc), lv_has ls 6 [] → okW D q A s (wM q ad h) H locs → W p l e R s m args below meth c H locs 0 0 Qm (F0 m 18 ls [.int t0_18])) (by
    intro t0_18 hw ls H locs hl G
    obtain ⟨z_18, hw⟩ := hw
    exact RT _ _ _ _ _ _ G z_18 ⟨rfl, hw⟩ dX10_in_18)
  have hw := hw (∀ (ls : Array Slot) (H : Heap) (locs : List Loc), lv_has ls 6 [] → okW D q A s (wM q ad h) H locs → W p l e R s m args below meth c H locs 0 0 Qm (F0 m 17 ls [])) (by
    intro hw ls H locs hl G
    refine lv_iconst (v := 0) hx hb dX10_in_17 (by decide) ?_
    exact hw _ _ _ (lv_sub hl [] rfl) G)
  refine lv_if_lt (tgt := 17) hx hb dX10_in_3 (by decide) (fun c_3 => ?_) (fun c_3 => ?_)
  · have hw := hw.1 c_3
    exact hw _ _ _ (lv_sub hl [] rfl) G
  · have hw := hw.2 c_3
    refine lv_lload_n hx hb dX10_in_6 rfl (lv_at hl 0 rfl) ?_
    refine lv_lload hx hb dX10_in_7 (lv_at hl 2 rfl) ?_
    refine W.lcmp hx hb dX10_in_9 ?_
    refine lv_if_gt (tgt := 17) hx hb dX10_in_10 (by decide) (fun c_10 => ?_) (fun c_10 => ?_)
    · have hw := hw.1 c_10
      exact hw _ _ _ (lv_sub hl [] rfl) G
    · have hw := hw.2 c_10
      refine lv_iconst (v := 1) hx hb dX10_in_13 (by decide) ?_
      refine lv_goto (tgt := 18) hx hb dX10_in_14 (by decide) ?_
      exact hw _ _ _ (lv_sub hl [] rfl) G
theorem cw_X10_105 {R : Room} {s : State} {args : Array Value} (hts : ∀ w ∈ gW, w.before args s = true) (hR : rm_M_in.frames + 1 ≤ R.frames ∧ 8 + (6 + 11) + rm_M_in.locals ≤ R.locals) : CallB R s args RX10 105 yX10_in cX10_in 6 (some .boolean) (mw yX10_in cX10_in 6 (some .boolean)) rm_M_in 0 0 3 ∧ (Cond.static yX10_in).before args s = true := cwS9 hts km_X10_105 kt_X10_in kn_X10 kk_X10_in rfl rfl (by decide +kernel) hR
abbrev rm_M_bad : Room := { frames := 0, cells := 0, slots := 0, locals := 0 }
set_option maxHeartbeats 4000000 in
set_option maxRecDepth 100000 in
theorem c_M_bad (l : Launch) (D : va_G) (q : Nat → ClassId) (A : Nat → Prop) (ad : Nat → Nat) (a1 : Int32) (h : Hs) (Q : Int32 → Hs → Prop) (hw : p_M_bad a1 h Q) : Met l yX10_bad (mw yX10_bad cX10_bad 2 (some .int)) rm_M_bad (va_Pc [.ref (ad 0), .int a1] (pW D q A (wM q ad h))) (va_Qi Q (fun h t => pW D q A (wM q ad h) t) A) 0 0 A := by
  refine met_i (Qp := Q) (by decide) (Nat.le_of_ble_eq_true rfl) ?_
  intro p e R s m args below meth c Qm ls hR1 hR2 S RT hl G
  have hx := S.1
  have hb := S.2.1
  have hl : lv_has ls 2 [(0, .ref (ad 0)), (1, .int a1)] := hl
  unfold p_M_bad at hw
  refine lv_aload_n hx hb dX10_bad_0 rfl (lv_at hl 0 rfl) ?_
  refine x_get (C := RX10) (T := TX10) (n := 21) S G inX10 (me_11 km_0) rfl 3 (by decide) kf_X10_20 rfl dX10_bad_1 ?_
  refine lv_iconst (v := 0) hx hb dX10_bad_4 (by decide) ?_
  refine lv_dup2_11 hx hb dX10_bad_5 rfl rfl ?_
  refine x_iald (k := 0) S G (me_20 km_4 lm_4) (vpi (by decide)) rfl rfl dX10_bad_6 ?_
  refine lv_iconst (v := 1) hx hb dX10_bad_7 (by decide) ?_
  refine lv_iadd hx hb dX10_bad_8 ?_
  refine x_iast (k := 0) S G (me_20 km_4 lm_4) (vpi (by decide)) rfl (ms_20 km_4 lm_4) dX10_bad_9 (fun H locs G => ?_)
  obtain ⟨h_9, eh_9⟩ : ∃ y : Hs, y = si h 4 0 ((gi h 4 0) + 1) := ⟨_, rfl⟩
  rw [← eh_9] at G
  have hw := hw h_9 eh_9
  refine lv_iload_n hx hb dX10_bad_10 rfl (lv_at hl 1 rfl) ?_
  exact RT _ _ _ _ _ _ G hw dX10_bad_11
theorem cw_X10_118 {R : Room} {s : State} {args : Array Value} (hts : ∀ w ∈ gW, w.before args s = true) (hR : rm_M_bad.frames + 1 ≤ R.frames ∧ 8 + (2 + 11) + rm_M_bad.locals ≤ R.locals) : CallW R s args RX10 RX10 118 yX10_bad cX10_bad 2 (some .int) (mw yX10_bad cX10_bad 2 (some .int)) rm_M_bad 0 0 1 := cwV9 hts km_X10_118 ki_X10_bad ks_X10_bad kn_X10 kk_X10_bad rfl rfl (by decide +kernel) hR
abbrev rm_M_no : Room := { frames := 0, cells := 0, slots := 0, locals := 0 }
set_option maxHeartbeats 4000000 in
set_option maxRecDepth 100000 in
theorem c_M_no (l : Launch) (D : va_G) (q : Nat → ClassId) (A : Nat → Prop) (ad : Nat → Nat) (h : Hs) (Q : Int32 → Hs → Prop) (hw : p_M_no h Q) : Met l yX10_no (mw yX10_no cX10_no 1 (some .int)) rm_M_no (va_Pc [.ref (ad 0)] (pW D q A (wM q ad h))) (va_Qi Q (fun h t => pW D q A (wM q ad h) t) A) 0 0 A := by
  refine met_i (Qp := Q) (by decide) (Nat.le_of_ble_eq_true rfl) ?_
  intro p e R s m args below meth c Qm ls hR1 hR2 S RT hl G
  have hx := S.1
  have hb := S.2.1
  have hl : lv_has ls 1 [(0, .ref (ad 0))] := hl
  unfold p_M_no at hw
  refine lv_aload_n hx hb dX10_no_0 rfl (lv_at hl 0 rfl) ?_
  refine x_get (C := RX10) (T := TX10) (n := 21) S G inX10 (me_11 km_0) rfl 3 (by decide) kf_X10_20 rfl dX10_no_1 ?_
  refine lv_iconst (v := 1) hx hb dX10_no_4 (by decide) ?_
  refine lv_dup2_11 hx hb dX10_no_5 rfl rfl ?_
  refine x_iald (k := 1) S G (me_20 km_4 lm_4) (vpi (by decide)) rfl rfl dX10_no_6 ?_
  refine lv_iconst (v := 1) hx hb dX10_no_7 (by decide) ?_
  refine lv_iadd hx hb dX10_no_8 ?_
  refine x_iast (k := 1) S G (me_20 km_4 lm_4) (vpi (by decide)) rfl (ms_20 km_4 lm_4) dX10_no_9 (fun H locs G => ?_)
  obtain ⟨h_9, eh_9⟩ : ∃ y : Hs, y = si h 4 1 ((gi h 4 1) + 1) := ⟨_, rfl⟩
  rw [← eh_9] at G
  have hw := hw h_9 eh_9
  refine lv_bipush (v := (-3)) hx hb dX10_no_10 (by decide) ?_
  exact RT _ _ _ _ _ _ G hw dX10_no_12
theorem cw_X10_286 {R : Room} {s : State} {args : Array Value} (hts : ∀ w ∈ gW, w.before args s = true) (hR : rm_M_no.frames + 1 ≤ R.frames ∧ 8 + (1 + 11) + rm_M_no.locals ≤ R.locals) : CallW R s args RX10 RX10 286 yX10_no cX10_no 1 (some .int) (mw yX10_no cX10_no 1 (some .int)) rm_M_no 0 0 0 := cwV9 hts km_X10_286 ki_X10_no ks_X10_no kn_X10 kk_X10_no rfl rfl (by decide +kernel) hR
abbrev rm_M_full : Room := { frames := 0, cells := 0, slots := 0, locals := 0 }
set_option maxHeartbeats 4000000 in
set_option maxRecDepth 100000 in
theorem c_M_full (l : Launch) (D : va_G) (q : Nat → ClassId) (A : Nat → Prop) (ad : Nat → Nat) (h : Hs) (Q : Int32 → Hs → Prop) (hw : p_M_full h Q) : Met l yX10_full (mw yX10_full cX10_full 1 (some .int)) rm_M_full (va_Pc [.ref (ad 0)] (pW D q A (wM q ad h))) (va_Qi Q (fun h t => pW D q A (wM q ad h) t) A) 0 0 A := by
  refine met_i (Qp := Q) (by decide) (Nat.le_of_ble_eq_true rfl) ?_
  intro p e R s m args below meth c Qm ls hR1 hR2 S RT hl G
  have hx := S.1
  have hb := S.2.1
  have hl : lv_has ls 1 [(0, .ref (ad 0))] := hl
  unfold p_M_full at hw
  refine lv_aload_n hx hb dX10_full_0 rfl (lv_at hl 0 rfl) ?_
  refine x_get (C := RX10) (T := TX10) (n := 21) S G inX10 (me_11 km_0) rfl 3 (by decide) kf_X10_20 rfl dX10_full_1 ?_
  refine lv_iconst (v := 2) hx hb dX10_full_4 (by decide) ?_
  refine lv_dup2_11 hx hb dX10_full_5 rfl rfl ?_
  refine x_iald (k := 2) S G (me_20 km_4 lm_4) (vpi (by decide)) rfl rfl dX10_full_6 ?_
  refine lv_iconst (v := 1) hx hb dX10_full_7 (by decide) ?_
  refine lv_iadd hx hb dX10_full_8 ?_
  refine x_iast (k := 2) S G (me_20 km_4 lm_4) (vpi (by decide)) rfl (ms_20 km_4 lm_4) dX10_full_9 (fun H locs G => ?_)
  obtain ⟨h_9, eh_9⟩ : ∃ y : Hs, y = si h 4 2 ((gi h 4 2) + 1) := ⟨_, rfl⟩
  rw [← eh_9] at G
  have hw := hw h_9 eh_9
  refine lv_bipush (v := (-4)) hx hb dX10_full_10 (by decide) ?_
  exact RT _ _ _ _ _ _ G hw dX10_full_12
theorem cw_X10_122 {R : Room} {s : State} {args : Array Value} (hts : ∀ w ∈ gW, w.before args s = true) (hR : rm_M_full.frames + 1 ≤ R.frames ∧ 8 + (1 + 11) + rm_M_full.locals ≤ R.locals) : CallW R s args RX10 RX10 122 yX10_full cX10_full 1 (some .int) (mw yX10_full cX10_full 1 (some .int)) rm_M_full 0 0 0 := cwV9 hts km_X10_122 ki_X10_full ks_X10_full kn_X10 kk_X10_full rfl rfl (by decide +kernel) hR
abbrev rm_M_set : Room := { frames := 0, cells := 0, slots := 0, locals := 0 }
set_option maxHeartbeats 4000000 in
set_option maxRecDepth 100000 in
theorem c_M_set (l : Launch) (D : va_G) (q : Nat → ClassId) (A : Nat → Prop) (ad : Nat → Nat) (a1 : Int32) (a2 : Int64) (h : Hs) (Q : Hs → Prop) (hw : p_M_set a1 a2 h Q) : Met l yX10_set (mw yX10_set cX10_set 6 none) rm_M_set (va_Pc [.ref (ad 0), .int a1, .long a2] (pW D q A (wM q ad h))) (va_Qv Q (fun h t => pW D q A (wM q ad h) t) A) 0 0 A := by
  refine met_v (Qp := Q) (by decide) (Nat.le_of_ble_eq_true rfl) ?_
  intro p e R s m args below meth c Qm ls hR1 hR2 S RT hl G
  have hx := S.1
  have hb := S.2.1
  have hl : lv_has ls 6 [(0, .ref (ad 0)), (1, .int a1), (2, .long a2)] := hl
  unfold p_M_set at hw
  refine lv_lload_n hx hb dX10_set_0 rfl (lv_at hl 2 rfl) ?_
  refine lv_lstore (lv' := [(4, .long a2), (0, .ref (ad 0)), (1, .int a1), (2, .long a2)]) hx hb dX10_set_1 hl (by decide) rfl (fun ls hl => ?_)
  refine lv_aload_n hx hb dX10_set_3 rfl (lv_at hl 1 rfl) ?_
  refine x_get (C := RX10) (T := TX10) (n := 21) S G inX10 (me_11 km_0) rfl 5 (by decide) kf_X10_27 rfl dX10_set_4 ?_
  refine lv_iload_n hx hb dX10_set_7 rfl (lv_at hl 2 rfl) ?_
  refine lv_iconst (v := 0) hx hb dX10_set_8 (by decide) ?_
  obtain ⟨i_9, hw⟩ := hw
  refine x_iast (k := a1.toNatClampNeg) S G (me_20 km_6 lm_6) i_9 rfl (ms_20 km_6 lm_6) dX10_set_9 (fun H locs G => ?_)
  obtain ⟨h_9, eh_9⟩ : ∃ y : Hs, y = si h 6 a1.toNatClampNeg 0 := ⟨_, rfl⟩
  rw [← eh_9] at G
  have hw := hw h_9 eh_9
  have hw := hw (fun (b4_10 : Int64) (g_10 : Hs) => ∀ (ls : Array Slot) (H : Heap) (locs : List Loc), lv_has ls 6 [(0, .ref (ad 0)), (1, .int a1), (4, .long b4_10)] → okW D q A s (wM q ad g_10) H locs → W p l e R s m args below meth c H locs 0 0 Qm (F0 m 10 ls [])) (by
    intro b4_10 g_10 hw ls H locs hl G
    refine lv_lload hx hb dX10_set_10 (lv_at hl 2 rfl) ?_
    refine lv_lconst (v := 0) hx hb dX10_set_12 (by decide) ?_
    refine W.lcmp hx hb dX10_set_13 ?_
    refine lv_if_le (tgt := 60) hx hb dX10_set_14 (by decide) (fun c_14 => ?_) (fun c_14 => ?_)
    · have hw := hw.1 c_14
      exact RT _ _ _ _ _ G hw dX10_set_60
    · have hw := hw.2 c_14
      refine lv_aload_n hx hb dX10_set_17 rfl (lv_at hl 0 rfl) ?_
      refine x_get (C := RX10) (T := TX10) (n := 21) S G inX10 (me_11 km_0) rfl 4 (by decide) kf_X10_23 rfl dX10_set_18 ?_
      refine lv_bipush (v := 64) hx hb dX10_set_21 (by decide) ?_
      refine lv_iload_n hx hb dX10_set_23 rfl (lv_at hl 1 rfl) ?_
      refine lv_imul hx hb dX10_set_24 ?_
      refine lv_aload_n hx hb dX10_set_25 rfl (lv_at hl 0 rfl) ?_
      refine x_get (C := RX10) (T := TX10) (n := 21) S G inX10 (me_11 km_0) rfl 5 (by decide) kf_X10_27 rfl dX10_set_26 ?_
      refine lv_iload_n hx hb dX10_set_29 rfl (lv_at hl 1 rfl) ?_
      obtain ⟨i_30, hw⟩ := hw
      refine x_iald (k := a1.toNatClampNeg) S G (me_20 km_6 lm_6) i_30 rfl rfl dX10_set_30 ?_
      refine lv_iadd hx hb dX10_set_31 ?_
      refine lv_lload hx hb dX10_set_32 (lv_at hl 2 rfl) ?_
      refine lv_ldc2 (v := 1073741824) hx hb S.2.2.2.1 (S.2.2.2.2 _ kl_X10_55) dX10_set_34 ?_
      refine lv_lrem hx hb dX10_set_37 (by decide) ?_
      obtain ⟨i_38, hw⟩ := hw
      refine x_last (k := ((64 * a1) + (gi g_10 6 a1.toNatClampNeg)).toNatClampNeg) S G (me_26 km_5 lm_5) i_38 rfl (ms_26 km_5 lm_5) dX10_set_38 (fun H locs G => ?_)
      obtain ⟨h_38, eh_38⟩ : ∃ y : Hs, y = sl g_10 5 (((64 * a1) + (gi g_10 6 a1.toNatClampNeg)).toNatClampNeg) (b4_10 - b4_10 / 1073741824 * 1073741824) := ⟨_, rfl⟩
      rw [← eh_38] at G
      have hw := hw h_38 eh_38
      refine lv_lload hx hb dX10_set_39 (lv_at hl 2 rfl) ?_
      refine lv_ldc2 (v := 1073741824) hx hb S.2.2.2.1 (S.2.2.2.2 _ kl_X10_55) dX10_set_41 ?_
      refine lv_ldiv hx hb dX10_set_44 (by decide) ?_
      refine lv_topl (fun a4_45 ea4_45 => ?_)
      have hw := hw a4_45 ea4_45
      refine lv_lstore (lv' := [(4, .long a4_45), (0, .ref (ad 0)), (1, .int a1)]) hx hb dX10_set_45 hl (by decide) rfl (fun ls hl => ?_)
      refine lv_aload_n hx hb dX10_set_47 rfl (lv_at hl 1 rfl) ?_
      refine x_get (C := RX10) (T := TX10) (n := 21) S G inX10 (me_11 km_0) rfl 5 (by decide) kf_X10_27 rfl dX10_set_48 ?_
      refine lv_iload_n hx hb dX10_set_51 rfl (lv_at hl 2 rfl) ?_
      refine lv_dup2_11 hx hb dX10_set_52 rfl rfl ?_
      obtain ⟨i_53, hw⟩ := hw
      refine x_iald (k := a1.toNatClampNeg) S G (me_20 km_6 lm_6) i_53 rfl rfl dX10_set_53 ?_
      refine lv_iconst (v := 1) hx hb dX10_set_54 (by decide) ?_
      refine lv_iadd hx hb dX10_set_55 ?_
      obtain ⟨i_56, hw⟩ := hw
      refine x_iast (k := a1.toNatClampNeg) S G (me_20 km_6 lm_6) i_56 rfl (ms_20 km_6 lm_6) dX10_set_56 (fun H locs G => ?_)
      obtain ⟨h_56, eh_56⟩ : ∃ y : Hs, y = si h_38 6 a1.toNatClampNeg ((gi h_38 6 a1.toNatClampNeg) + 1) := ⟨_, rfl⟩
      rw [← eh_56] at G
      have hw := hw h_56 eh_56
      refine lv_goto (tgt := 10) hx hb dX10_set_57 (by decide) ?_
      exact hw _ _ _ (lv_sub hl [1, 2, 0] rfl) G)
  exact hw _ _ _ (lv_sub hl [1, 2, 0] rfl) G
theorem cw_X10_51 {R : Room} {s : State} {args : Array Value} (hts : ∀ w ∈ gW, w.before args s = true) (hR : rm_M_set.frames + 1 ≤ R.frames ∧ 8 + (6 + 11) + rm_M_set.locals ≤ R.locals) : CallW R s args RX10 RX10 51 yX10_set cX10_set 6 none (mw yX10_set cX10_set 6 none) rm_M_set 0 0 2 := cwV9 hts km_X10_51 ki_X10_set ks_X10_set kn_X10 kk_X10_set rfl rfl (by decide +kernel) hR
abbrev rm_M_copy : Room := { frames := 0, cells := 0, slots := 0, locals := 0 }
set_option maxHeartbeats 4000000 in
set_option maxRecDepth 100000 in
theorem c_M_copy (l : Launch) (D : va_G) (q : Nat → ClassId) (A : Nat → Prop) (ad : Nat → Nat) (a1 : Int32) (a2 : Int32) (h : Hs) (Q : Hs → Prop) (hw : p_M_copy a1 a2 h Q) : Met l yX10_copy (mw yX10_copy cX10_copy 4 none) rm_M_copy (va_Pc [.ref (ad 0), .int a1, .int a2] (pW D q A (wM q ad h))) (va_Qv Q (fun h t => pW D q A (wM q ad h) t) A) 0 0 A := by
  refine met_v (Qp := Q) (by decide) (Nat.le_of_ble_eq_true rfl) ?_
  intro p e R s m args below meth c Qm ls hR1 hR2 S RT hl G
  have hx := S.1
  have hb := S.2.1
  have hl : lv_has ls 4 [(0, .ref (ad 0)), (1, .int a1), (2, .int a2)] := hl
  unfold p_M_copy at hw
  refine lv_iconst (v := 0) hx hb dX10_copy_0 (by decide) ?_
  refine lv_istore_n (lv' := [(3, .int 0), (0, .ref (ad 0)), (1, .int a1), (2, .int a2)]) hx hb dX10_copy_1 rfl hl (by decide) rfl (fun ls hl => ?_)
  have hw := hw (fun (b3_2 : Int32) (g_2 : Hs) => ∀ (ls : Array Slot) (H : Heap) (locs : List Loc), lv_has ls 4 [(0, .ref (ad 0)), (1, .int a1), (2, .int a2), (3, .int b3_2)] → okW D q A s (wM q ad g_2) H locs → W p l e R s m args below meth c H locs 0 0 Qm (F0 m 2 ls [])) (by
    intro b3_2 g_2 hw ls H locs hl G
    refine lv_iload_n hx hb dX10_copy_2 rfl (lv_at hl 3 rfl) ?_
    refine lv_aload_n hx hb dX10_copy_3 rfl (lv_at hl 0 rfl) ?_
    refine x_get (C := RX10) (T := TX10) (n := 21) S G inX10 (me_11 km_0) rfl 5 (by decide) kf_X10_27 rfl dX10_copy_4 ?_
    refine lv_iload_n hx hb dX10_copy_7 rfl (lv_at hl 2 rfl) ?_
    obtain ⟨i_8, hw⟩ := hw
    refine x_iald (k := a2.toNatClampNeg) S G (me_20 km_6 lm_6) i_8 rfl rfl dX10_copy_8 ?_
    refine lv_icmp_ge (tgt := 40) hx hb dX10_copy_9 (by decide) (fun c_9 => ?_) (fun c_9 => ?_)
    · have hw := hw.1 c_9
      refine lv_aload_n hx hb dX10_copy_40 rfl (lv_at hl 0 rfl) ?_
      refine x_get (C := RX10) (T := TX10) (n := 21) S G inX10 (me_11 km_0) rfl 5 (by decide) kf_X10_27 rfl dX10_copy_41 ?_
      refine lv_iload_n hx hb dX10_copy_44 rfl (lv_at hl 1 rfl) ?_
      refine lv_aload_n hx hb dX10_copy_45 rfl (lv_at hl 0 rfl) ?_
      refine x_get (C := RX10) (T := TX10) (n := 21) S G inX10 (me_11 km_0) rfl 5 (by decide) kf_X10_27 rfl dX10_copy_46 ?_
      refine lv_iload_n hx hb dX10_copy_49 rfl (lv_at hl 2 rfl) ?_
      obtain ⟨i_50, hw⟩ := hw
      refine x_iald (k := a2.toNatClampNeg) S G (me_20 km_6 lm_6) i_50 rfl rfl dX10_copy_50 ?_
      obtain ⟨i_51, hw⟩ := hw
      refine x_iast (k := a1.toNatClampNeg) S G (me_20 km_6 lm_6) i_51 rfl (ms_20 km_6 lm_6) dX10_copy_51 (fun H locs G => ?_)
      obtain ⟨h_51, eh_51⟩ : ∃ y : Hs, y = si g_2 6 a1.toNatClampNeg (gi g_2 6 a2.toNatClampNeg) := ⟨_, rfl⟩
      rw [← eh_51] at G
      have hw := hw h_51 eh_51
      exact RT _ _ _ _ _ G hw dX10_copy_52
    · have hw := hw.2 c_9
      refine lv_aload_n hx hb dX10_copy_12 rfl (lv_at hl 0 rfl) ?_
      refine x_get (C := RX10) (T := TX10) (n := 21) S G inX10 (me_11 km_0) rfl 4 (by decide) kf_X10_23 rfl dX10_copy_13 ?_
      refine lv_bipush (v := 64) hx hb dX10_copy_16 (by decide) ?_
      refine lv_iload_n hx hb dX10_copy_18 rfl (lv_at hl 1 rfl) ?_
      refine lv_imul hx hb dX10_copy_19 ?_
      refine lv_iload_n hx hb dX10_copy_20 rfl (lv_at hl 3 rfl) ?_
      refine lv_iadd hx hb dX10_copy_21 ?_
      refine lv_aload_n hx hb dX10_copy_22 rfl (lv_at hl 0 rfl) ?_
      refine x_get (C := RX10) (T := TX10) (n := 21) S G inX10 (me_11 km_0) rfl 4 (by decide) kf_X10_23 rfl dX10_copy_23 ?_
      refine lv_bipush (v := 64) hx hb dX10_copy_26 (by decide) ?_
      refine lv_iload_n hx hb dX10_copy_28 rfl (lv_at hl 2 rfl) ?_
      refine lv_imul hx hb dX10_copy_29 ?_
      refine lv_iload_n hx hb dX10_copy_30 rfl (lv_at hl 3 rfl) ?_
      refine lv_iadd hx hb dX10_copy_31 ?_
      obtain ⟨i_32, hw⟩ := hw
      refine x_lald (k := ((64 * a2) + b3_2).toNatClampNeg) S G (me_26 km_5 lm_5) i_32 rfl rfl dX10_copy_32 ?_
      obtain ⟨i_33, hw⟩ := hw
      refine x_last (k := ((64 * a1) + b3_2).toNatClampNeg) S G (me_26 km_5 lm_5) i_33 rfl (ms_26 km_5 lm_5) dX10_copy_33 (fun H locs G => ?_)
      obtain ⟨h_33, eh_33⟩ : ∃ y : Hs, y = sl g_2 5 (((64 * a1) + b3_2).toNatClampNeg) (gl g_2 5 (((64 * a2) + b3_2).toNatClampNeg)) := ⟨_, rfl⟩
      rw [← eh_33] at G
      have hw := hw h_33 eh_33
      obtain ⟨a3_34, ea3_34⟩ : ∃ y : Int32, y = b3_2 + 1 := ⟨_, rfl⟩
      have hw := hw a3_34 ea3_34
      refine lv_iinc (v := a3_34) (lv' := [(3, .int a3_34), (0, .ref (ad 0)), (1, .int a1), (2, .int a2)]) hx hb dX10_copy_34 hl (k := 3) rfl (by rw [ea3_34]; rfl) (by decide) rfl (fun ls hl => ?_)
      refine lv_goto (tgt := 2) hx hb dX10_copy_37 (by decide) ?_
      exact hw _ _ _ (lv_sub hl [1, 2, 3, 0] rfl) G)
  exact hw _ _ _ (lv_sub hl [1, 2, 3, 0] rfl) G
theorem cw_X10_63 {R : Room} {s : State} {args : Array Value} (hts : ∀ w ∈ gW, w.before args s = true) (hR : rm_M_copy.frames + 1 ≤ R.frames ∧ 8 + (4 + 11) + rm_M_copy.locals ≤ R.locals) : CallW R s args RX10 RX10 63 yX10_copy cX10_copy 4 none (mw yX10_copy cX10_copy 4 none) rm_M_copy 0 0 2 := cwV9 hts km_X10_63 ki_X10_copy ks_X10_copy kn_X10 kk_X10_copy rfl rfl (by decide +kernel) hR
abbrev rm_M_trim : Room := { frames := 0, cells := 0, slots := 0, locals := 0 }
set_option maxHeartbeats 4000000 in
set_option maxRecDepth 100000 in
theorem c_M_trim (l : Launch) (D : va_G) (q : Nat → ClassId) (A : Nat → Prop) (ad : Nat → Nat) (a1 : Int32) (h : Hs) (Q : Hs → Prop) (hw : p_M_trim a1 h Q) : Met l yX10_trim (mw yX10_trim cX10_trim 2 none) rm_M_trim (va_Pc [.ref (ad 0), .int a1] (pW D q A (wM q ad h))) (va_Qv Q (fun h t => pW D q A (wM q ad h) t) A) 0 0 A := by
  refine met_v (Qp := Q) (by decide) (Nat.le_of_ble_eq_true rfl) ?_
  intro p e R s m args below meth c Qm ls hR1 hR2 S RT hl G
  have hx := S.1
  have hb := S.2.1
  have hl : lv_has ls 2 [(0, .ref (ad 0)), (1, .int a1)] := hl
  unfold p_M_trim at hw
  have hw := hw (fun (g_0 : Hs) => ∀ (ls : Array Slot) (H : Heap) (locs : List Loc), lv_has ls 2 [(0, .ref (ad 0)), (1, .int a1)] → okW D q A s (wM q ad g_0) H locs → W p l e R s m args below meth c H locs 0 0 Qm (F0 m 0 ls [])) (by
    intro g_0 hw ls H locs hl G
    refine lv_aload_n hx hb dX10_trim_0 rfl (lv_at hl 0 rfl) ?_
    refine x_get (C := RX10) (T := TX10) (n := 21) S G inX10 (me_11 km_0) rfl 5 (by decide) kf_X10_27 rfl dX10_trim_1 ?_
    refine lv_iload_n hx hb dX10_trim_4 rfl (lv_at hl 1 rfl) ?_
    obtain ⟨i_5, hw⟩ := hw
    refine x_iald (k := a1.toNatClampNeg) S G (me_20 km_6 lm_6) i_5 rfl rfl dX10_trim_5 ?_
    have hw := hw (∀ (ls : Array Slot) (H : Heap) (locs : List Loc), lv_has ls 2 [] → okW D q A s (wM q ad g_0) H locs → W p l e R s m args below meth c H locs 0 0 Qm (F0 m 45 ls [])) (by
      intro hw ls H locs hl G
      exact RT _ _ _ _ _ G hw dX10_trim_45)
    refine lv_if_le (tgt := 45) hx hb dX10_trim_6 (by decide) (fun c_6 => ?_) (fun c_6 => ?_)
    · have hw := hw.1 c_6
      exact hw _ _ _ (lv_sub hl [] rfl) G
    · have hw := hw.2 c_6
      refine lv_aload_n hx hb dX10_trim_9 rfl (lv_at hl 0 rfl) ?_
      refine x_get (C := RX10) (T := TX10) (n := 21) S G inX10 (me_11 km_0) rfl 4 (by decide) kf_X10_23 rfl dX10_trim_10 ?_
      refine lv_bipush (v := 64) hx hb dX10_trim_13 (by decide) ?_
      refine lv_iload_n hx hb dX10_trim_15 rfl (lv_at hl 1 rfl) ?_
      refine lv_imul hx hb dX10_trim_16 ?_
      refine lv_aload_n hx hb dX10_trim_17 rfl (lv_at hl 0 rfl) ?_
      refine x_get (C := RX10) (T := TX10) (n := 21) S G inX10 (me_11 km_0) rfl 5 (by decide) kf_X10_27 rfl dX10_trim_18 ?_
      refine lv_iload_n hx hb dX10_trim_21 rfl (lv_at hl 1 rfl) ?_
      obtain ⟨i_22, hw⟩ := hw
      refine x_iald (k := a1.toNatClampNeg) S G (me_20 km_6 lm_6) i_22 rfl rfl dX10_trim_22 ?_
      refine lv_iadd hx hb dX10_trim_23 ?_
      refine lv_iconst (v := 1) hx hb dX10_trim_24 (by decide) ?_
      refine lv_isub hx hb dX10_trim_25 ?_
      obtain ⟨i_26, hw⟩ := hw
      refine x_lald (k := (((64 * a1) + (gi g_0 6 a1.toNatClampNeg)) - 1).toNatClampNeg) S G (me_26 km_5 lm_5) i_26 rfl rfl dX10_trim_26 ?_
      refine lv_lconst (v := 0) hx hb dX10_trim_27 (by decide) ?_
      refine W.lcmp hx hb dX10_trim_28 ?_
      refine lv_if_ne (tgt := 45) hx hb dX10_trim_29 (by decide) (fun c_29 => ?_) (fun c_29 => ?_)
      · have hw := hw.1 c_29
        exact hw _ _ _ (lv_sub hl [] rfl) G
      · have hw := hw.2 c_29
        refine lv_aload_n hx hb dX10_trim_32 rfl (lv_at hl 0 rfl) ?_
        refine x_get (C := RX10) (T := TX10) (n := 21) S G inX10 (me_11 km_0) rfl 5 (by decide) kf_X10_27 rfl dX10_trim_33 ?_
        refine lv_iload_n hx hb dX10_trim_36 rfl (lv_at hl 1 rfl) ?_
        refine lv_dup2_11 hx hb dX10_trim_37 rfl rfl ?_
        obtain ⟨i_38, hw⟩ := hw
        refine x_iald (k := a1.toNatClampNeg) S G (me_20 km_6 lm_6) i_38 rfl rfl dX10_trim_38 ?_
        refine lv_iconst (v := 1) hx hb dX10_trim_39 (by decide) ?_
        refine lv_isub hx hb dX10_trim_40 ?_
        obtain ⟨i_41, hw⟩ := hw
        refine x_iast (k := a1.toNatClampNeg) S G (me_20 km_6 lm_6) i_41 rfl (ms_20 km_6 lm_6) dX10_trim_41 (fun H locs G => ?_)
        obtain ⟨h_41, eh_41⟩ : ∃ y : Hs, y = si g_0 6 a1.toNatClampNeg ((gi g_0 6 a1.toNatClampNeg) - 1) := ⟨_, rfl⟩
        rw [← eh_41] at G
        have hw := hw h_41 eh_41
        refine lv_goto (tgt := 0) hx hb dX10_trim_42 (by decide) ?_
        exact hw _ _ _ (lv_sub hl [0, 1] rfl) G)
  exact hw _ _ _ (lv_sub hl [0, 1] rfl) G
theorem cw_X10_57 {R : Room} {s : State} {args : Array Value} (hts : ∀ w ∈ gW, w.before args s = true) (hR : rm_M_trim.frames + 1 ≤ R.frames ∧ 8 + (2 + 11) + rm_M_trim.locals ≤ R.locals) : CallW R s args RX10 RX10 57 yX10_trim cX10_trim 2 none (mw yX10_trim cX10_trim 2 none) rm_M_trim 0 0 1 := cwV9 hts km_X10_57 ki_X10_trim ks_X10_trim kn_X10 kk_X10_trim rfl rfl (by decide +kernel) hR
abbrev rm_M_times : Room := { frames := 1, cells := 0, slots := 0, locals := 21 }
set_option maxHeartbeats 4000000 in
set_option maxRecDepth 100000 in
theorem c_M_times (l : Launch) (D : va_G) (q : Nat → ClassId) (A : Nat → Prop) (ad : Nat → Nat) (a1 : Int32) (a2 : Int64) (h : Hs) (Q : Hs → Prop) (hw : p_M_times a1 a2 h Q) : Met l yX10_times (mw yX10_times cX10_times 9 none) rm_M_times (va_Pc [.ref (ad 0), .int a1, .long a2] (pW D q A (wM q ad h))) (va_Qv Q (fun h t => pW D q A (wM q ad h) t) A) 0 0 A := by
  refine met_v (Qp := Q) (by decide) (Nat.le_of_ble_eq_true rfl) ?_
  intro p e R s m args below meth c Qm ls hR1 hR2 S RT hl G
  have hx := S.1
  have hb := S.2.1
  have hl : lv_has ls 9 [(0, .ref (ad 0)), (1, .int a1), (2, .long a2)] := hl
  unfold p_M_times at hw
  refine lv_lconst (v := 0) hx hb dX10_times_0 (by decide) ?_
  refine lv_lstore (lv' := [(4, .long 0), (0, .ref (ad 0)), (1, .int a1), (2, .long a2)]) hx hb dX10_times_1 hl (by decide) rfl (fun ls hl => ?_)
  refine lv_iconst (v := 0) hx hb dX10_times_3 (by decide) ?_
  refine lv_istore (lv' := [(6, .int 0), (4, .long 0), (0, .ref (ad 0)), (1, .int a1), (2, .long a2)]) hx hb dX10_times_4 hl (by decide) rfl (fun ls hl => ?_)
  have hw := hw (fun (b4_6 : Int64) (b6_6 : Int32) (g_6 : Hs) => ∀ (ls : Array Slot) (H : Heap) (locs : List Loc), lv_has ls 9 [(0, .ref (ad 0)), (1, .int a1), (2, .long a2), (4, .long b4_6), (6, .int b6_6)] → okW D q A s (wM q ad g_6) H locs → W p l e R s m args below meth c H locs 0 0 Qm (F0 m 6 ls [])) (by
    intro b4_6 b6_6 g_6 hw ls H locs hl G
    refine lv_iload hx hb dX10_times_6 (lv_at hl 4 rfl) ?_
    refine lv_aload_n hx hb dX10_times_8 rfl (lv_at hl 0 rfl) ?_
    refine x_get (C := RX10) (T := TX10) (n := 21) S G inX10 (me_11 km_0) rfl 5 (by decide) kf_X10_27 rfl dX10_times_9 ?_
    refine lv_iload_n hx hb dX10_times_12 rfl (lv_at hl 1 rfl) ?_
    obtain ⟨i_13, hw⟩ := hw
    refine x_iald (k := a1.toNatClampNeg) S G (me_20 km_6 lm_6) i_13 rfl rfl dX10_times_13 ?_
    refine lv_icmp_ge (tgt := 68) hx hb dX10_times_14 (by decide) (fun c_14 => ?_) (fun c_14 => ?_)
    · have hw := hw.1 c_14
      refine lv_lload hx hb dX10_times_68 (lv_at hl 3 rfl) ?_
      refine lv_lconst (v := 0) hx hb dX10_times_70 (by decide) ?_
      refine W.lcmp hx hb dX10_times_71 ?_
      have hw := hw (fun (g_103 : Hs) => ∀ (ls : Array Slot) (H : Heap) (locs : List Loc), lv_has ls 9 [(0, .ref (ad 0)), (1, .int a1)] → okW D q A s (wM q ad g_103) H locs → W p l e R s m args below meth c H locs 0 0 Qm (F0 m 103 ls [])) (by
        intro g_103 hw ls H locs hl G
        refine lv_aload_n hx hb dX10_times_103 rfl (lv_at hl 0 rfl) ?_
        refine lv_iload_n hx hb dX10_times_104 rfl (lv_at hl 1 rfl) ?_
        refine x_Vv S hl.1 G (c_M_trim l D q A ad a1 g_103 _ hw) (cw_X10_57 S.2.2.2.2 ⟨Nat.le_trans (Nat.le_of_ble_eq_true rfl) hR1, Nat.le_trans (Nat.le_of_ble_eq_true rfl) hR2⟩) (me_11 km_0) rfl rfl rfl (Nat.le_of_ble_eq_true rfl) dX10_times_105 (fun h_105 H locs G hw => ?_)
        exact RT _ _ _ _ _ G hw dX10_times_108)
      refine lv_if_le (tgt := 103) hx hb dX10_times_72 (by decide) (fun c_72 => ?_) (fun c_72 => ?_)
      · have hw := hw.1 c_72
        exact hw _ _ _ (lv_sub hl [0, 1] rfl) G
      · have hw := hw.2 c_72
        refine lv_aload_n hx hb dX10_times_75 rfl (lv_at hl 0 rfl) ?_
        refine x_get (C := RX10) (T := TX10) (n := 21) S G inX10 (me_11 km_0) rfl 4 (by decide) kf_X10_23 rfl dX10_times_76 ?_
        refine lv_bipush (v := 64) hx hb dX10_times_79 (by decide) ?_
        refine lv_iload_n hx hb dX10_times_81 rfl (lv_at hl 1 rfl) ?_
        refine lv_imul hx hb dX10_times_82 ?_
        refine lv_aload_n hx hb dX10_times_83 rfl (lv_at hl 0 rfl) ?_
        refine x_get (C := RX10) (T := TX10) (n := 21) S G inX10 (me_11 km_0) rfl 5 (by decide) kf_X10_27 rfl dX10_times_84 ?_
        refine lv_iload_n hx hb dX10_times_87 rfl (lv_at hl 1 rfl) ?_
        obtain ⟨i_88, hw⟩ := hw
        refine x_iald (k := a1.toNatClampNeg) S G (me_20 km_6 lm_6) i_88 rfl rfl dX10_times_88 ?_
        refine lv_iadd hx hb dX10_times_89 ?_
        refine lv_lload hx hb dX10_times_90 (lv_at hl 3 rfl) ?_
        obtain ⟨i_92, hw⟩ := hw
        refine x_last (k := ((64 * a1) + (gi g_6 6 a1.toNatClampNeg)).toNatClampNeg) S G (me_26 km_5 lm_5) i_92 rfl (ms_26 km_5 lm_5) dX10_times_92 (fun H locs G => ?_)
        obtain ⟨h_92, eh_92⟩ : ∃ y : Hs, y = sl g_6 5 (((64 * a1) + (gi g_6 6 a1.toNatClampNeg)).toNatClampNeg) b4_6 := ⟨_, rfl⟩
        rw [← eh_92] at G
        have hw := hw h_92 eh_92
        refine lv_aload_n hx hb dX10_times_93 rfl (lv_at hl 0 rfl) ?_
        refine x_get (C := RX10) (T := TX10) (n := 21) S G inX10 (me_11 km_0) rfl 5 (by decide) kf_X10_27 rfl dX10_times_94 ?_
        refine lv_iload_n hx hb dX10_times_97 rfl (lv_at hl 1 rfl) ?_
        refine lv_dup2_11 hx hb dX10_times_98 rfl rfl ?_
        obtain ⟨i_99, hw⟩ := hw
        refine x_iald (k := a1.toNatClampNeg) S G (me_20 km_6 lm_6) i_99 rfl rfl dX10_times_99 ?_
        refine lv_iconst (v := 1) hx hb dX10_times_100 (by decide) ?_
        refine lv_iadd hx hb dX10_times_101 ?_
        obtain ⟨i_102, hw⟩ := hw
        refine x_iast (k := a1.toNatClampNeg) S G (me_20 km_6 lm_6) i_102 rfl (ms_20 km_6 lm_6) dX10_times_102 (fun H locs G => ?_)
        obtain ⟨h_102, eh_102⟩ : ∃ y : Hs, y = si h_92 6 a1.toNatClampNeg ((gi h_92 6 a1.toNatClampNeg) + 1) := ⟨_, rfl⟩
        rw [← eh_102] at G
        have hw := hw h_102 eh_102
        exact hw _ _ _ (lv_sub hl [0, 1] rfl) G
    · have hw := hw.2 c_14
      refine lv_aload_n hx hb dX10_times_17 rfl (lv_at hl 0 rfl) ?_
      refine x_get (C := RX10) (T := TX10) (n := 21) S G inX10 (me_11 km_0) rfl 4 (by decide) kf_X10_23 rfl dX10_times_18 ?_
      refine lv_bipush (v := 64) hx hb dX10_times_21 (by decide) ?_
      refine lv_iload_n hx hb dX10_times_23 rfl (lv_at hl 1 rfl) ?_
      refine lv_imul hx hb dX10_times_24 ?_
      refine lv_iload hx hb dX10_times_25 (lv_at hl 4 rfl) ?_
      refine lv_iadd hx hb dX10_times_27 ?_
      obtain ⟨i_28, hw⟩ := hw
      refine x_lald (k := ((64 * a1) + b6_6).toNatClampNeg) S G (me_26 km_5 lm_5) i_28 rfl rfl dX10_times_28 ?_
      refine lv_lload_n hx hb dX10_times_29 rfl (lv_at hl 2 rfl) ?_
      refine lv_lmul hx hb dX10_times_30 ?_
      refine lv_lload hx hb dX10_times_31 (lv_at hl 3 rfl) ?_
      refine lv_ladd hx hb dX10_times_33 ?_
      refine lv_topl (fun a7_34 ea7_34 => ?_)
      have hw := hw a7_34 ea7_34
      refine lv_lstore (lv' := [(7, .long a7_34), (0, .ref (ad 0)), (1, .int a1), (2, .long a2), (4, .long b4_6), (6, .int b6_6)]) hx hb dX10_times_34 hl (by decide) rfl (fun ls hl => ?_)
      refine lv_aload_n hx hb dX10_times_36 rfl (lv_at hl 1 rfl) ?_
      refine x_get (C := RX10) (T := TX10) (n := 21) S G inX10 (me_11 km_0) rfl 4 (by decide) kf_X10_23 rfl dX10_times_37 ?_
      refine lv_bipush (v := 64) hx hb dX10_times_40 (by decide) ?_
      refine lv_iload_n hx hb dX10_times_42 rfl (lv_at hl 2 rfl) ?_
      refine lv_imul hx hb dX10_times_43 ?_
      refine lv_iload hx hb dX10_times_44 (lv_at hl 5 rfl) ?_
      refine lv_iadd hx hb dX10_times_46 ?_
      refine lv_lload hx hb dX10_times_47 (lv_at hl 0 rfl) ?_
      refine lv_ldc2 (v := 1073741824) hx hb S.2.2.2.1 (S.2.2.2.2 _ kl_X10_55) dX10_times_49 ?_
      refine lv_lrem hx hb dX10_times_52 (by decide) ?_
      obtain ⟨i_53, hw⟩ := hw
      refine x_last (k := ((64 * a1) + b6_6).toNatClampNeg) S G (me_26 km_5 lm_5) i_53 rfl (ms_26 km_5 lm_5) dX10_times_53 (fun H locs G => ?_)
      obtain ⟨h_53, eh_53⟩ : ∃ y : Hs, y = sl g_6 5 (((64 * a1) + b6_6).toNatClampNeg) (a7_34 - a7_34 / 1073741824 * 1073741824) := ⟨_, rfl⟩
      rw [← eh_53] at G
      have hw := hw h_53 eh_53
      refine lv_lload hx hb dX10_times_54 (lv_at hl 0 rfl) ?_
      refine lv_ldc2 (v := 1073741824) hx hb S.2.2.2.1 (S.2.2.2.2 _ kl_X10_55) dX10_times_56 ?_
      refine lv_ldiv hx hb dX10_times_59 (by decide) ?_
      refine lv_topl (fun a4_60 ea4_60 => ?_)
      have hw := hw a4_60 ea4_60
      refine lv_lstore (lv' := [(4, .long a4_60), (7, .long a7_34), (0, .ref (ad 0)), (1, .int a1), (2, .long a2), (6, .int b6_6)]) hx hb dX10_times_60 hl (by decide) rfl (fun ls hl => ?_)
      obtain ⟨a6_62, ea6_62⟩ : ∃ y : Int32, y = b6_6 + 1 := ⟨_, rfl⟩
      have hw := hw a6_62 ea6_62
      refine lv_iinc (v := a6_62) (lv' := [(6, .int a6_62), (4, .long a4_60), (7, .long a7_34), (0, .ref (ad 0)), (1, .int a1), (2, .long a2)]) hx hb dX10_times_62 hl (k := 5) rfl (by rw [ea6_62]; rfl) (by decide) rfl (fun ls hl => ?_)
      refine lv_goto (tgt := 6) hx hb dX10_times_65 (by decide) ?_
      exact hw _ _ _ (lv_sub hl [3, 4, 5, 1, 0] rfl) G)
  exact hw _ _ _ (lv_sub hl [2, 3, 4, 1, 0] rfl) G
theorem cw_X10_81 {R : Room} {s : State} {args : Array Value} (hts : ∀ w ∈ gW, w.before args s = true) (hR : rm_M_times.frames + 1 ≤ R.frames ∧ 8 + (9 + 11) + rm_M_times.locals ≤ R.locals) : CallW R s args RX10 RX10 81 yX10_times cX10_times 9 none (mw yX10_times cX10_times 9 none) rm_M_times 0 0 2 := cwV9 hts km_X10_81 ki_X10_times ks_X10_times kn_X10 kk_X10_times rfl rfl (by decide +kernel) hR
abbrev rm_M_product : Room := { frames := 1, cells := 0, slots := 0, locals := 21 }
set_option maxHeartbeats 4000000 in
set_option maxRecDepth 100000 in
theorem c_M_product (l : Launch) (D : va_G) (q : Nat → ClassId) (A : Nat → Prop) (ad : Nat → Nat) (a1 : Int32) (a2 : Int32) (a3 : Int32) (h : Hs) (Q : Hs → Prop) (hw : p_M_product a1 a2 a3 h Q) : Met l yX10_product (mw yX10_product cX10_product 12 none) rm_M_product (va_Pc [.ref (ad 0), .int a1, .int a2, .int a3] (pW D q A (wM q ad h))) (va_Qv Q (fun h t => pW D q A (wM q ad h) t) A) 0 0 A := by
  refine met_v (Qp := Q) (by decide) (Nat.le_of_ble_eq_true rfl) ?_
  intro p e R s m args below meth c Qm ls hR1 hR2 S RT hl G
  have hx := S.1
  have hb := S.2.1
  have hl : lv_has ls 12 [(0, .ref (ad 0)), (1, .int a1), (2, .int a2), (3, .int a3)] := hl
  unfold p_M_product at hw
  refine lv_aload_n hx hb dX10_product_0 rfl (lv_at hl 0 rfl) ?_
  refine x_get (C := RX10) (T := TX10) (n := 21) S G inX10 (me_11 km_0) rfl 5 (by decide) kf_X10_27 rfl dX10_product_1 ?_
  refine lv_iload_n hx hb dX10_product_4 rfl (lv_at hl 2 rfl) ?_
  obtain ⟨i_5, hw⟩ := hw
  refine x_iald (k := a2.toNatClampNeg) S G (me_20 km_6 lm_6) i_5 rfl rfl dX10_product_5 ?_
  refine lv_aload_n hx hb dX10_product_6 rfl (lv_at hl 0 rfl) ?_
  refine x_get (C := RX10) (T := TX10) (n := 21) S G inX10 (me_11 km_0) rfl 5 (by decide) kf_X10_27 rfl dX10_product_7 ?_
  refine lv_iload_n hx hb dX10_product_10 rfl (lv_at hl 3 rfl) ?_
  obtain ⟨i_11, hw⟩ := hw
  refine x_iald (k := a3.toNatClampNeg) S G (me_20 km_6 lm_6) i_11 rfl rfl dX10_product_11 ?_
  refine lv_iadd hx hb dX10_product_12 ?_
  refine lv_topi (fun a4_13 ea4_13 => ?_)
  have hw := hw a4_13 ea4_13
  refine lv_istore (lv' := [(4, .int a4_13), (0, .ref (ad 0)), (1, .int a1), (2, .int a2), (3, .int a3)]) hx hb dX10_product_13 hl (by decide) rfl (fun ls hl => ?_)
  refine lv_iconst (v := 0) hx hb dX10_product_15 (by decide) ?_
  refine lv_istore (lv' := [(5, .int 0), (4, .int a4_13), (0, .ref (ad 0)), (1, .int a1), (2, .int a2), (3, .int a3)]) hx hb dX10_product_16 hl (by decide) rfl (fun ls hl => ?_)
  have hw := hw (fun (b5_18 : Int32) (g_18 : Hs) => ∀ (ls : Array Slot) (H : Heap) (locs : List Loc), lv_has ls 12 [(0, .ref (ad 0)), (1, .int a1), (2, .int a2), (3, .int a3), (4, .int a4_13), (5, .int b5_18)] → okW D q A s (wM q ad g_18) H locs → W p l e R s m args below meth c H locs 0 0 Qm (F0 m 18 ls [])) (by
    intro b5_18 g_18 hw ls H locs hl G
    refine lv_iload hx hb dX10_product_18 (lv_at hl 5 rfl) ?_
    refine lv_iload hx hb dX10_product_20 (lv_at hl 4 rfl) ?_
    refine lv_icmp_ge (tgt := 44) hx hb dX10_product_22 (by decide) (fun c_22 => ?_) (fun c_22 => ?_)
    · have hw := hw.1 c_22
      refine lv_iconst (v := 0) hx hb dX10_product_44 (by decide) ?_
      refine lv_istore (lv' := [(5, .int 0), (0, .ref (ad 0)), (1, .int a1), (2, .int a2), (3, .int a3), (4, .int a4_13)]) hx hb dX10_product_45 hl (by decide) rfl (fun ls hl => ?_)
      have hw := hw (fun (b5_47 : Int32) (g_47 : Hs) => ∀ (ls : Array Slot) (H : Heap) (locs : List Loc), lv_has ls 12 [(0, .ref (ad 0)), (1, .int a1), (2, .int a2), (3, .int a3), (4, .int a4_13), (5, .int b5_47)] → okW D q A s (wM q ad g_47) H locs → W p l e R s m args below meth c H locs 0 0 Qm (F0 m 47 ls [])) (by
        intro b5_47 g_47 hw ls H locs hl G
        refine lv_iload hx hb dX10_product_47 (lv_at hl 5 rfl) ?_
        refine lv_aload_n hx hb dX10_product_49 rfl (lv_at hl 0 rfl) ?_
        refine x_get (C := RX10) (T := TX10) (n := 21) S G inX10 (me_11 km_0) rfl 5 (by decide) kf_X10_27 rfl dX10_product_50 ?_
        refine lv_iload_n hx hb dX10_product_53 rfl (lv_at hl 2 rfl) ?_
        obtain ⟨i_54, hw⟩ := hw
        refine x_iald (k := a2.toNatClampNeg) S G (me_20 km_6 lm_6) i_54 rfl rfl dX10_product_54 ?_
        refine lv_icmp_ge (tgt := 179) hx hb dX10_product_55 (by decide) (fun c_55 => ?_) (fun c_55 => ?_)
        · have hw := hw.1 c_55
          refine lv_aload_n hx hb dX10_product_179 rfl (lv_at hl 0 rfl) ?_
          refine x_get (C := RX10) (T := TX10) (n := 21) S G inX10 (me_11 km_0) rfl 5 (by decide) kf_X10_27 rfl dX10_product_180 ?_
          refine lv_iload_n hx hb dX10_product_183 rfl (lv_at hl 1 rfl) ?_
          refine lv_iload hx hb dX10_product_184 (lv_at hl 4 rfl) ?_
          obtain ⟨i_186, hw⟩ := hw
          refine x_iast (k := a1.toNatClampNeg) S G (me_20 km_6 lm_6) i_186 rfl (ms_20 km_6 lm_6) dX10_product_186 (fun H locs G => ?_)
          obtain ⟨h_186, eh_186⟩ : ∃ y : Hs, y = si g_47 6 a1.toNatClampNeg a4_13 := ⟨_, rfl⟩
          rw [← eh_186] at G
          have hw := hw h_186 eh_186
          refine lv_aload_n hx hb dX10_product_187 rfl (lv_at hl 0 rfl) ?_
          refine lv_iload_n hx hb dX10_product_188 rfl (lv_at hl 1 rfl) ?_
          refine x_Vv S hl.1 G (c_M_trim l D q A ad a1 h_186 _ hw) (cw_X10_57 S.2.2.2.2 ⟨Nat.le_trans (Nat.le_of_ble_eq_true rfl) hR1, Nat.le_trans (Nat.le_of_ble_eq_true rfl) hR2⟩) (me_11 km_0) rfl rfl rfl (Nat.le_of_ble_eq_true rfl) dX10_product_189 (fun h_189 H locs G hw => ?_)
          exact RT _ _ _ _ _ G hw dX10_product_192
        · have hw := hw.2 c_55
          refine lv_lconst (v := 0) hx hb dX10_product_58 (by decide) ?_
          refine lv_lstore (lv' := [(6, .long 0), (0, .ref (ad 0)), (1, .int a1), (2, .int a2), (3, .int a3), (4, .int a4_13), (5, .int b5_47)]) hx hb dX10_product_59 hl (by decide) rfl (fun ls hl => ?_)
          refine lv_iconst (v := 0) hx hb dX10_product_61 (by decide) ?_
          refine lv_istore (lv' := [(8, .int 0), (6, .long 0), (0, .ref (ad 0)), (1, .int a1), (2, .int a2), (3, .int a3), (4, .int a4_13), (5, .int b5_47)]) hx hb dX10_product_62 hl (by decide) rfl (fun ls hl => ?_)
          have hw := hw (fun (b6_64 : Int64) (b8_64 : Int32) (g_64 : Hs) => ∀ (ls : Array Slot) (H : Heap) (locs : List Loc), lv_has ls 12 [(0, .ref (ad 0)), (1, .int a1), (2, .int a2), (3, .int a3), (4, .int a4_13), (5, .int b5_47), (6, .long b6_64), (8, .int b8_64)] → okW D q A s (wM q ad g_64) H locs → W p l e R s m args below meth c H locs 0 0 Qm (F0 m 64 ls [])) (by
            intro b6_64 b8_64 g_64 hw ls H locs hl G
            refine lv_iload hx hb dX10_product_64 (lv_at hl 7 rfl) ?_
            refine lv_aload_n hx hb dX10_product_66 rfl (lv_at hl 0 rfl) ?_
            refine x_get (C := RX10) (T := TX10) (n := 21) S G inX10 (me_11 km_0) rfl 5 (by decide) kf_X10_27 rfl dX10_product_67 ?_
            refine lv_iload_n hx hb dX10_product_70 rfl (lv_at hl 3 rfl) ?_
            obtain ⟨i_71, hw⟩ := hw
            refine x_iald (k := a3.toNatClampNeg) S G (me_20 km_6 lm_6) i_71 rfl rfl dX10_product_71 ?_
            refine lv_icmp_ge (tgt := 152) hx hb dX10_product_72 (by decide) (fun c_72 => ?_) (fun c_72 => ?_)
            · have hw := hw.1 c_72
              refine lv_aload_n hx hb dX10_product_152 rfl (lv_at hl 0 rfl) ?_
              refine x_get (C := RX10) (T := TX10) (n := 21) S G inX10 (me_11 km_0) rfl 4 (by decide) kf_X10_23 rfl dX10_product_153 ?_
              refine lv_bipush (v := 64) hx hb dX10_product_156 (by decide) ?_
              refine lv_iload_n hx hb dX10_product_158 rfl (lv_at hl 1 rfl) ?_
              refine lv_imul hx hb dX10_product_159 ?_
              refine lv_iload hx hb dX10_product_160 (lv_at hl 5 rfl) ?_
              refine lv_iadd hx hb dX10_product_162 ?_
              refine lv_aload_n hx hb dX10_product_163 rfl (lv_at hl 0 rfl) ?_
              refine x_get (C := RX10) (T := TX10) (n := 21) S G inX10 (me_11 km_0) rfl 5 (by decide) kf_X10_27 rfl dX10_product_164 ?_
              refine lv_iload_n hx hb dX10_product_167 rfl (lv_at hl 3 rfl) ?_
              obtain ⟨i_168, hw⟩ := hw
              refine x_iald (k := a3.toNatClampNeg) S G (me_20 km_6 lm_6) i_168 rfl rfl dX10_product_168 ?_
              refine lv_iadd hx hb dX10_product_169 ?_
              refine lv_lload hx hb dX10_product_170 (lv_at hl 6 rfl) ?_
              obtain ⟨i_172, hw⟩ := hw
              refine x_last (k := (((64 * a1) + b5_47) + (gi g_64 6 a3.toNatClampNeg)).toNatClampNeg) S G (me_26 km_5 lm_5) i_172 rfl (ms_26 km_5 lm_5) dX10_product_172 (fun H locs G => ?_)
              obtain ⟨h_172, eh_172⟩ : ∃ y : Hs, y = sl g_64 5 ((((64 * a1) + b5_47) + (gi g_64 6 a3.toNatClampNeg)).toNatClampNeg) b6_64 := ⟨_, rfl⟩
              rw [← eh_172] at G
              have hw := hw h_172 eh_172
              obtain ⟨a5_173, ea5_173⟩ : ∃ y : Int32, y = b5_47 + 1 := ⟨_, rfl⟩
              have hw := hw a5_173 ea5_173
              refine lv_iinc (v := a5_173) (lv' := [(5, .int a5_173), (0, .ref (ad 0)), (1, .int a1), (2, .int a2), (3, .int a3), (4, .int a4_13), (6, .long b6_64), (8, .int b8_64)]) hx hb dX10_product_173 hl (k := 5) rfl (by rw [ea5_173]; rfl) (by decide) rfl (fun ls hl => ?_)
              refine lv_goto (tgt := 47) hx hb dX10_product_176 (by decide) ?_
              exact hw _ _ _ (lv_sub hl [1, 2, 3, 4, 5, 0] rfl) G
            · have hw := hw.2 c_72
              refine lv_bipush (v := 64) hx hb dX10_product_75 (by decide) ?_
              refine lv_iload_n hx hb dX10_product_77 rfl (lv_at hl 1 rfl) ?_
              refine lv_imul hx hb dX10_product_78 ?_
              refine lv_iload hx hb dX10_product_79 (lv_at hl 5 rfl) ?_
              refine lv_iadd hx hb dX10_product_81 ?_
              refine lv_iload hx hb dX10_product_82 (lv_at hl 7 rfl) ?_
              refine lv_iadd hx hb dX10_product_84 ?_
              refine lv_topi (fun a9_85 ea9_85 => ?_)
              have hw := hw a9_85 ea9_85
              refine lv_istore (lv' := [(9, .int a9_85), (0, .ref (ad 0)), (1, .int a1), (2, .int a2), (3, .int a3), (4, .int a4_13), (5, .int b5_47), (6, .long b6_64), (8, .int b8_64)]) hx hb dX10_product_85 hl (by decide) rfl (fun ls hl => ?_)
              refine lv_aload_n hx hb dX10_product_87 rfl (lv_at hl 1 rfl) ?_
              refine x_get (C := RX10) (T := TX10) (n := 21) S G inX10 (me_11 km_0) rfl 4 (by decide) kf_X10_23 rfl dX10_product_88 ?_
              refine lv_bipush (v := 64) hx hb dX10_product_91 (by decide) ?_
              refine lv_iload_n hx hb dX10_product_93 rfl (lv_at hl 3 rfl) ?_
              refine lv_imul hx hb dX10_product_94 ?_
              refine lv_iload hx hb dX10_product_95 (lv_at hl 6 rfl) ?_
              refine lv_iadd hx hb dX10_product_97 ?_
              obtain ⟨i_98, hw⟩ := hw
              refine x_lald (k := ((64 * a2) + b5_47).toNatClampNeg) S G (me_26 km_5 lm_5) i_98 rfl rfl dX10_product_98 ?_
              refine lv_aload_n hx hb dX10_product_99 rfl (lv_at hl 1 rfl) ?_
              refine x_get (C := RX10) (T := TX10) (n := 21) S G inX10 (me_11 km_0) rfl 4 (by decide) kf_X10_23 rfl dX10_product_100 ?_
              refine lv_bipush (v := 64) hx hb dX10_product_103 (by decide) ?_
              refine lv_iload_n hx hb dX10_product_105 rfl (lv_at hl 4 rfl) ?_
              refine lv_imul hx hb dX10_product_106 ?_
              refine lv_iload hx hb dX10_product_107 (lv_at hl 8 rfl) ?_
              refine lv_iadd hx hb dX10_product_109 ?_
              obtain ⟨i_110, hw⟩ := hw
              refine x_lald (k := ((64 * a3) + b8_64).toNatClampNeg) S G (me_26 km_5 lm_5) i_110 rfl rfl dX10_product_110 ?_
              refine lv_lmul hx hb dX10_product_111 ?_
              refine lv_aload_n hx hb dX10_product_112 rfl (lv_at hl 1 rfl) ?_
              refine x_get (C := RX10) (T := TX10) (n := 21) S G inX10 (me_11 km_0) rfl 4 (by decide) kf_X10_23 rfl dX10_product_113 ?_
              refine lv_iload hx hb dX10_product_116 (lv_at hl 0 rfl) ?_
              obtain ⟨i_118, hw⟩ := hw
              refine x_lald (k := a9_85.toNatClampNeg) S G (me_26 km_5 lm_5) i_118 rfl rfl dX10_product_118 ?_
              refine lv_ladd hx hb dX10_product_119 ?_
              refine lv_lload hx hb dX10_product_120 (lv_at hl 7 rfl) ?_
              refine lv_ladd hx hb dX10_product_122 ?_
              refine lv_topl (fun a10_123 ea10_123 => ?_)
              have hw := hw a10_123 ea10_123
              refine lv_lstore (lv' := [(10, .long a10_123), (9, .int a9_85), (0, .ref (ad 0)), (1, .int a1), (2, .int a2), (3, .int a3), (4, .int a4_13), (5, .int b5_47), (6, .long b6_64), (8, .int b8_64)]) hx hb dX10_product_123 hl (by decide) rfl (fun ls hl => ?_)
              refine lv_aload_n hx hb dX10_product_125 rfl (lv_at hl 2 rfl) ?_
              refine x_get (C := RX10) (T := TX10) (n := 21) S G inX10 (me_11 km_0) rfl 4 (by decide) kf_X10_23 rfl dX10_product_126 ?_
              refine lv_iload hx hb dX10_product_129 (lv_at hl 1 rfl) ?_
              refine lv_lload hx hb dX10_product_131 (lv_at hl 0 rfl) ?_
              refine lv_ldc2 (v := 1073741824) hx hb S.2.2.2.1 (S.2.2.2.2 _ kl_X10_55) dX10_product_133 ?_
              refine lv_lrem hx hb dX10_product_136 (by decide) ?_
              obtain ⟨i_137, hw⟩ := hw
              refine x_last (k := a9_85.toNatClampNeg) S G (me_26 km_5 lm_5) i_137 rfl (ms_26 km_5 lm_5) dX10_product_137 (fun H locs G => ?_)
              obtain ⟨h_137, eh_137⟩ : ∃ y : Hs, y = sl g_64 5 a9_85.toNatClampNeg (a10_123 - a10_123 / 1073741824 * 1073741824) := ⟨_, rfl⟩
              rw [← eh_137] at G
              have hw := hw h_137 eh_137
              refine lv_lload hx hb dX10_product_138 (lv_at hl 0 rfl) ?_
              refine lv_ldc2 (v := 1073741824) hx hb S.2.2.2.1 (S.2.2.2.2 _ kl_X10_55) dX10_product_140 ?_
              refine lv_ldiv hx hb dX10_product_143 (by decide) ?_
              refine lv_topl (fun a6_144 ea6_144 => ?_)
              have hw := hw a6_144 ea6_144
              refine lv_lstore (lv' := [(6, .long a6_144), (10, .long a10_123), (9, .int a9_85), (0, .ref (ad 0)), (1, .int a1), (2, .int a2), (3, .int a3), (4, .int a4_13), (5, .int b5_47), (8, .int b8_64)]) hx hb dX10_product_144 hl (by decide) rfl (fun ls hl => ?_)
              obtain ⟨a8_146, ea8_146⟩ : ∃ y : Int32, y = b8_64 + 1 := ⟨_, rfl⟩
              have hw := hw a8_146 ea8_146
              refine lv_iinc (v := a8_146) (lv' := [(8, .int a8_146), (6, .long a6_144), (10, .long a10_123), (9, .int a9_85), (0, .ref (ad 0)), (1, .int a1), (2, .int a2), (3, .int a3), (4, .int a4_13), (5, .int b5_47)]) hx hb dX10_product_146 hl (k := 9) rfl (by rw [ea8_146]; rfl) (by decide) rfl (fun ls hl => ?_)
              refine lv_goto (tgt := 64) hx hb dX10_product_149 (by decide) ?_
              exact hw _ _ _ (lv_sub hl [4, 5, 6, 7, 8, 9, 1, 0] rfl) G)
          exact hw _ _ _ (lv_sub hl [2, 3, 4, 5, 6, 7, 1, 0] rfl) G)
      exact hw _ _ _ (lv_sub hl [1, 2, 3, 4, 5, 0] rfl) G
    · have hw := hw.2 c_22
      refine lv_aload_n hx hb dX10_product_25 rfl (lv_at hl 0 rfl) ?_
      refine x_get (C := RX10) (T := TX10) (n := 21) S G inX10 (me_11 km_0) rfl 4 (by decide) kf_X10_23 rfl dX10_product_26 ?_
      refine lv_bipush (v := 64) hx hb dX10_product_29 (by decide) ?_
      refine lv_iload_n hx hb dX10_product_31 rfl (lv_at hl 1 rfl) ?_
      refine lv_imul hx hb dX10_product_32 ?_
      refine lv_iload hx hb dX10_product_33 (lv_at hl 5 rfl) ?_
      refine lv_iadd hx hb dX10_product_35 ?_
      refine lv_lconst (v := 0) hx hb dX10_product_36 (by decide) ?_
      obtain ⟨i_37, hw⟩ := hw
      refine x_last (k := ((64 * a1) + b5_18).toNatClampNeg) S G (me_26 km_5 lm_5) i_37 rfl (ms_26 km_5 lm_5) dX10_product_37 (fun H locs G => ?_)
      obtain ⟨h_37, eh_37⟩ : ∃ y : Hs, y = sl g_18 5 (((64 * a1) + b5_18).toNatClampNeg) 0 := ⟨_, rfl⟩
      rw [← eh_37] at G
      have hw := hw h_37 eh_37
      obtain ⟨a5_38, ea5_38⟩ : ∃ y : Int32, y = b5_18 + 1 := ⟨_, rfl⟩
      have hw := hw a5_38 ea5_38
      refine lv_iinc (v := a5_38) (lv' := [(5, .int a5_38), (0, .ref (ad 0)), (1, .int a1), (2, .int a2), (3, .int a3), (4, .int a4_13)]) hx hb dX10_product_38 hl (k := 5) rfl (by rw [ea5_38]; rfl) (by decide) rfl (fun ls hl => ?_)
      refine lv_goto (tgt := 18) hx hb dX10_product_41 (by decide) ?_
      exact hw _ _ _ (lv_sub hl [1, 2, 3, 4, 5, 0] rfl) G)
  exact hw _ _ _ (lv_sub hl [2, 3, 4, 5, 1, 0] rfl) G
theorem cw_X10_263 {R : Room} {s : State} {args : Array Value} (hts : ∀ w ∈ gW, w.before args s = true) (hR : rm_M_product.frames + 1 ≤ R.frames ∧ 8 + (12 + 11) + rm_M_product.locals ≤ R.locals) : CallW R s args RX10 RX10 263 yX10_product cX10_product 12 none (mw yX10_product cX10_product 12 none) rm_M_product 0 0 3 := cwV9 hts km_X10_263 ki_X10_product ks_X10_product kn_X10 kk_X10_product rfl rfl (by decide +kernel) hR
abbrev rm_M_compare : Room := { frames := 0, cells := 0, slots := 0, locals := 0 }
set_option maxHeartbeats 4000000 in
set_option maxRecDepth 100000 in
theorem c_M_compare (l : Launch) (D : va_G) (q : Nat → ClassId) (A : Nat → Prop) (ad : Nat → Nat) (a1 : Int32) (a2 : Int32) (h : Hs) (Q : Int32 → Prop) (hw : p_M_compare a1 a2 h Q) : Met l yX10_compare (mw yX10_compare cX10_compare 6 (some .int)) rm_M_compare (va_Pc [.ref (ad 0), .int a1, .int a2] (pW D q A (wM q ad h))) (va_Qi (fun r h9 => h9 = h ∧ Q r) (fun h t => pW D q A (wM q ad h) t) A) 0 0 A := by
  refine met_i (Qp := (fun r h9 => h9 = h ∧ Q r)) (by decide) (Nat.le_of_ble_eq_true rfl) ?_
  intro p e R s m args below meth c Qm ls hR1 hR2 S RT hl G
  have hx := S.1
  have hb := S.2.1
  have hl : lv_has ls 6 [(0, .ref (ad 0)), (1, .int a1), (2, .int a2)] := hl
  unfold p_M_compare at hw
  refine lv_aload_n hx hb dX10_compare_0 rfl (lv_at hl 0 rfl) ?_
  refine x_get (C := RX10) (T := TX10) (n := 21) S G inX10 (me_11 km_0) rfl 5 (by decide) kf_X10_27 rfl dX10_compare_1 ?_
  refine lv_iload_n hx hb dX10_compare_4 rfl (lv_at hl 1 rfl) ?_
  obtain ⟨i_5, hw⟩ := hw
  refine x_iald (k := a1.toNatClampNeg) S G (me_20 km_6 lm_6) i_5 rfl rfl dX10_compare_5 ?_
  refine lv_aload_n hx hb dX10_compare_6 rfl (lv_at hl 0 rfl) ?_
  refine x_get (C := RX10) (T := TX10) (n := 21) S G inX10 (me_11 km_0) rfl 5 (by decide) kf_X10_27 rfl dX10_compare_7 ?_
  refine lv_iload_n hx hb dX10_compare_10 rfl (lv_at hl 2 rfl) ?_
  obtain ⟨i_11, hw⟩ := hw
  refine x_iald (k := a2.toNatClampNeg) S G (me_20 km_6 lm_6) i_11 rfl rfl dX10_compare_11 ?_
  refine lv_icmp_eq (tgt := 36) hx hb dX10_compare_12 (by decide) (fun c_12 => ?_) (fun c_12 => ?_)
  · have hw := hw.1 c_12
    refine lv_aload_n hx hb dX10_compare_36 rfl (lv_at hl 0 rfl) ?_
    refine x_get (C := RX10) (T := TX10) (n := 21) S G inX10 (me_11 km_0) rfl 5 (by decide) kf_X10_27 rfl dX10_compare_37 ?_
    refine lv_iload_n hx hb dX10_compare_40 rfl (lv_at hl 1 rfl) ?_
    obtain ⟨i_41, hw⟩ := hw
    refine x_iald (k := a1.toNatClampNeg) S G (me_20 km_6 lm_6) i_41 rfl rfl dX10_compare_41 ?_
    refine lv_iconst (v := 1) hx hb dX10_compare_42 (by decide) ?_
    refine lv_isub hx hb dX10_compare_43 ?_
    refine lv_topi (fun a3_44 ea3_44 => ?_)
    have hw := hw a3_44 ea3_44
    refine lv_istore_n (lv' := [(3, .int a3_44), (0, .ref (ad 0)), (1, .int a1), (2, .int a2)]) hx hb dX10_compare_44 rfl hl (by decide) rfl (fun ls hl => ?_)
    have hw := hw (fun (b3_45 : Int32) => ∀ (ls : Array Slot) (H : Heap) (locs : List Loc), lv_has ls 6 [(0, .ref (ad 0)), (1, .int a1), (2, .int a2), (3, .int b3_45)] → okW D q A s (wM q ad h) H locs → W p l e R s m args below meth c H locs 0 0 Qm (F0 m 45 ls [])) (by
      intro b3_45 hw ls H locs hl G
      refine lv_iload_n hx hb dX10_compare_45 rfl (lv_at hl 3 rfl) ?_
      refine lv_if_lt (tgt := 100) hx hb dX10_compare_46 (by decide) (fun c_46 => ?_) (fun c_46 => ?_)
      · have hw := hw.1 c_46
        refine lv_iconst (v := 0) hx hb dX10_compare_100 (by decide) ?_
        exact RT _ _ _ _ _ _ G ⟨rfl, hw⟩ dX10_compare_101
      · have hw := hw.2 c_46
        refine lv_aload_n hx hb dX10_compare_49 rfl (lv_at hl 0 rfl) ?_
        refine x_get (C := RX10) (T := TX10) (n := 21) S G inX10 (me_11 km_0) rfl 4 (by decide) kf_X10_23 rfl dX10_compare_50 ?_
        refine lv_bipush (v := 64) hx hb dX10_compare_53 (by decide) ?_
        refine lv_iload_n hx hb dX10_compare_55 rfl (lv_at hl 1 rfl) ?_
        refine lv_imul hx hb dX10_compare_56 ?_
        refine lv_iload_n hx hb dX10_compare_57 rfl (lv_at hl 3 rfl) ?_
        refine lv_iadd hx hb dX10_compare_58 ?_
        obtain ⟨i_59, hw⟩ := hw
        refine x_lald (k := ((64 * a1) + b3_45).toNatClampNeg) S G (me_26 km_5 lm_5) i_59 rfl rfl dX10_compare_59 ?_
        refine lv_aload_n hx hb dX10_compare_60 rfl (lv_at hl 0 rfl) ?_
        refine x_get (C := RX10) (T := TX10) (n := 21) S G inX10 (me_11 km_0) rfl 4 (by decide) kf_X10_23 rfl dX10_compare_61 ?_
        refine lv_bipush (v := 64) hx hb dX10_compare_64 (by decide) ?_
        refine lv_iload_n hx hb dX10_compare_66 rfl (lv_at hl 2 rfl) ?_
        refine lv_imul hx hb dX10_compare_67 ?_
        refine lv_iload_n hx hb dX10_compare_68 rfl (lv_at hl 3 rfl) ?_
        refine lv_iadd hx hb dX10_compare_69 ?_
        obtain ⟨i_70, hw⟩ := hw
        refine x_lald (k := ((64 * a2) + b3_45).toNatClampNeg) S G (me_26 km_5 lm_5) i_70 rfl rfl dX10_compare_70 ?_
        refine lv_lsub hx hb dX10_compare_71 ?_
        refine lv_topl (fun a4_72 ea4_72 => ?_)
        have hw := hw a4_72 ea4_72
        refine lv_lstore (lv' := [(4, .long a4_72), (0, .ref (ad 0)), (1, .int a1), (2, .int a2), (3, .int b3_45)]) hx hb dX10_compare_72 hl (by decide) rfl (fun ls hl => ?_)
        refine lv_lload hx hb dX10_compare_74 (lv_at hl 0 rfl) ?_
        refine lv_lconst (v := 0) hx hb dX10_compare_76 (by decide) ?_
        refine W.lcmp hx hb dX10_compare_77 ?_
        refine lv_if_eq (tgt := 94) hx hb dX10_compare_78 (by decide) (fun c_78 => ?_) (fun c_78 => ?_)
        · have hw := hw.1 c_78
          obtain ⟨a3_94, ea3_94⟩ : ∃ y : Int32, y = b3_45 + (-1) := ⟨_, rfl⟩
          have hw := hw a3_94 ea3_94
          refine lv_iinc (v := a3_94) (lv' := [(3, .int a3_94), (4, .long a4_72), (0, .ref (ad 0)), (1, .int a1), (2, .int a2)]) hx hb dX10_compare_94 hl (k := 4) rfl (by rw [ea3_94]; rfl) (by decide) rfl (fun ls hl => ?_)
          refine lv_goto (tgt := 45) hx hb dX10_compare_97 (by decide) ?_
          exact hw _ _ _ (lv_sub hl [2, 3, 4, 0] rfl) G
        · have hw := hw.2 c_78
          refine lv_lload hx hb dX10_compare_81 (lv_at hl 0 rfl) ?_
          refine lv_lconst (v := 0) hx hb dX10_compare_83 (by decide) ?_
          refine W.lcmp hx hb dX10_compare_84 ?_
          have hw := hw (fun (t0_93 : Int32) => ∀ (ls : Array Slot) (H : Heap) (locs : List Loc), lv_has ls 6 [] → okW D q A s (wM q ad h) H locs → W p l e R s m args below meth c H locs 0 0 Qm (F0 m 93 ls [.int t0_93])) (by
            intro t0_93 hw ls H locs hl G
            exact RT _ _ _ _ _ _ G ⟨rfl, hw⟩ dX10_compare_93)
          refine lv_if_ge (tgt := 92) hx hb dX10_compare_85 (by decide) (fun c_85 => ?_) (fun c_85 => ?_)
          · have hw := hw.1 c_85
            refine lv_iconst (v := 1) hx hb dX10_compare_92 (by decide) ?_
            exact hw _ _ _ (lv_sub hl [] rfl) G
          · have hw := hw.2 c_85
            refine lv_iconst (v := (-1)) hx hb dX10_compare_88 (by decide) ?_
            refine lv_goto (tgt := 93) hx hb dX10_compare_89 (by decide) ?_
            exact hw _ _ _ (lv_sub hl [] rfl) G)
    exact hw _ _ _ (lv_sub hl [1, 2, 3, 0] rfl) G
  · have hw := hw.2 c_12
    refine lv_aload_n hx hb dX10_compare_15 rfl (lv_at hl 0 rfl) ?_
    refine x_get (C := RX10) (T := TX10) (n := 21) S G inX10 (me_11 km_0) rfl 5 (by decide) kf_X10_27 rfl dX10_compare_16 ?_
    refine lv_iload_n hx hb dX10_compare_19 rfl (lv_at hl 1 rfl) ?_
    obtain ⟨i_20, hw⟩ := hw
    refine x_iald (k := a1.toNatClampNeg) S G (me_20 km_6 lm_6) i_20 rfl rfl dX10_compare_20 ?_
    refine lv_aload_n hx hb dX10_compare_21 rfl (lv_at hl 0 rfl) ?_
    refine x_get (C := RX10) (T := TX10) (n := 21) S G inX10 (me_11 km_0) rfl 5 (by decide) kf_X10_27 rfl dX10_compare_22 ?_
    refine lv_iload_n hx hb dX10_compare_25 rfl (lv_at hl 2 rfl) ?_
    obtain ⟨i_26, hw⟩ := hw
    refine x_iald (k := a2.toNatClampNeg) S G (me_20 km_6 lm_6) i_26 rfl rfl dX10_compare_26 ?_
    have hw := hw (fun (t0_35 : Int32) => ∀ (ls : Array Slot) (H : Heap) (locs : List Loc), lv_has ls 6 [] → okW D q A s (wM q ad h) H locs → W p l e R s m args below meth c H locs 0 0 Qm (F0 m 35 ls [.int t0_35])) (by
      intro t0_35 hw ls H locs hl G
      exact RT _ _ _ _ _ _ G ⟨rfl, hw⟩ dX10_compare_35)
    refine lv_icmp_ge (tgt := 34) hx hb dX10_compare_27 (by decide) (fun c_27 => ?_) (fun c_27 => ?_)
    · have hw := hw.1 c_27
      refine lv_iconst (v := 1) hx hb dX10_compare_34 (by decide) ?_
      exact hw _ _ _ (lv_sub hl [] rfl) G
    · have hw := hw.2 c_27
      refine lv_iconst (v := (-1)) hx hb dX10_compare_30 (by decide) ?_
      refine lv_goto (tgt := 35) hx hb dX10_compare_31 (by decide) ?_
      exact hw _ _ _ (lv_sub hl [] rfl) G
theorem cw_X10_74 {R : Room} {s : State} {args : Array Value} (hts : ∀ w ∈ gW, w.before args s = true) (hR : rm_M_compare.frames + 1 ≤ R.frames ∧ 8 + (6 + 11) + rm_M_compare.locals ≤ R.locals) : CallW R s args RX10 RX10 74 yX10_compare cX10_compare 6 (some .int) (mw yX10_compare cX10_compare 6 (some .int)) rm_M_compare 0 0 2 := cwV9 hts km_X10_74 ki_X10_compare ks_X10_compare kn_X10 kk_X10_compare rfl rfl (by decide +kernel) hR
abbrev rm_M_add : Room := { frames := 1, cells := 0, slots := 0, locals := 21 }
set_option maxHeartbeats 4000000 in
set_option maxRecDepth 100000 in
theorem c_M_add (l : Launch) (D : va_G) (q : Nat → ClassId) (A : Nat → Prop) (ad : Nat → Nat) (a1 : Int32) (a2 : Int32) (h : Hs) (Q : Hs → Prop) (hw : p_M_add a1 a2 h Q) : Met l yX10_add (mw yX10_add cX10_add 9 none) rm_M_add (va_Pc [.ref (ad 0), .int a1, .int a2] (pW D q A (wM q ad h))) (va_Qv Q (fun h t => pW D q A (wM q ad h) t) A) 0 0 A := by
  refine met_v (Qp := Q) (by decide) (Nat.le_of_ble_eq_true rfl) ?_
  intro p e R s m args below meth c Qm ls hR1 hR2 S RT hl G
  have hx := S.1
  have hb := S.2.1
  have hl : lv_has ls 9 [(0, .ref (ad 0)), (1, .int a1), (2, .int a2)] := hl
  unfold p_M_add at hw
  refine lv_lconst (v := 0) hx hb dX10_add_0 (by decide) ?_
  refine lv_lstore_n (lv' := [(3, .long 0), (0, .ref (ad 0)), (1, .int a1), (2, .int a2)]) hx hb dX10_add_1 rfl hl (by decide) rfl (fun ls hl => ?_)
  refine lv_aload_n hx hb dX10_add_2 rfl (lv_at hl 1 rfl) ?_
  refine x_get (C := RX10) (T := TX10) (n := 21) S G inX10 (me_11 km_0) rfl 5 (by decide) kf_X10_27 rfl dX10_add_3 ?_
  refine lv_iload_n hx hb dX10_add_6 rfl (lv_at hl 2 rfl) ?_
  obtain ⟨i_7, hw⟩ := hw
  refine x_iald (k := a1.toNatClampNeg) S G (me_20 km_6 lm_6) i_7 rfl rfl dX10_add_7 ?_
  refine lv_aload_n hx hb dX10_add_8 rfl (lv_at hl 1 rfl) ?_
  refine x_get (C := RX10) (T := TX10) (n := 21) S G inX10 (me_11 km_0) rfl 5 (by decide) kf_X10_27 rfl dX10_add_9 ?_
  refine lv_iload_n hx hb dX10_add_12 rfl (lv_at hl 3 rfl) ?_
  obtain ⟨i_13, hw⟩ := hw
  refine x_iald (k := a2.toNatClampNeg) S G (me_20 km_6 lm_6) i_13 rfl rfl dX10_add_13 ?_
  have hw := hw (fun (t0_32 : Int32) => ∀ (ls : Array Slot) (H : Heap) (locs : List Loc), lv_has ls 9 [(0, .ref (ad 0)), (1, .int a1), (2, .int a2), (3, .long 0)] → okW D q A s (wM q ad h) H locs → W p l e R s m args below meth c H locs 0 0 Qm (F0 m 32 ls [.int t0_32])) (by
    intro t0_32 hw ls H locs hl G
    refine lv_istore (lv' := [(5, .int t0_32), (0, .ref (ad 0)), (1, .int a1), (2, .int a2), (3, .long 0)]) hx hb dX10_add_32 hl (by decide) rfl (fun ls hl => ?_)
    refine lv_iconst (v := 0) hx hb dX10_add_34 (by decide) ?_
    refine lv_istore (lv' := [(6, .int 0), (5, .int t0_32), (0, .ref (ad 0)), (1, .int a1), (2, .int a2), (3, .long 0)]) hx hb dX10_add_35 hl (by decide) rfl (fun ls hl => ?_)
    have hw := hw (fun (b3_37 : Int64) (b6_37 : Int32) (g_37 : Hs) => ∀ (ls : Array Slot) (H : Heap) (locs : List Loc), lv_has ls 9 [(0, .ref (ad 0)), (1, .int a1), (2, .int a2), (3, .long b3_37), (5, .int t0_32), (6, .int b6_37)] → okW D q A s (wM q ad g_37) H locs → W p l e R s m args below meth c H locs 0 0 Qm (F0 m 37 ls [])) (by
      intro b3_37 b6_37 g_37 hw ls H locs hl G
      refine lv_iload hx hb dX10_add_37 (lv_at hl 5 rfl) ?_
      refine lv_iload hx hb dX10_add_39 (lv_at hl 4 rfl) ?_
      refine lv_icmp_ge (tgt := 134) hx hb dX10_add_41 (by decide) (fun c_41 => ?_) (fun c_41 => ?_)
      · have hw := hw.1 c_41
        refine lv_aload_n hx hb dX10_add_134 rfl (lv_at hl 0 rfl) ?_
        refine x_get (C := RX10) (T := TX10) (n := 21) S G inX10 (me_11 km_0) rfl 4 (by decide) kf_X10_23 rfl dX10_add_135 ?_
        refine lv_bipush (v := 64) hx hb dX10_add_138 (by decide) ?_
        refine lv_iload_n hx hb dX10_add_140 rfl (lv_at hl 1 rfl) ?_
        refine lv_imul hx hb dX10_add_141 ?_
        refine lv_iload hx hb dX10_add_142 (lv_at hl 4 rfl) ?_
        refine lv_iadd hx hb dX10_add_144 ?_
        refine lv_lload_n hx hb dX10_add_145 rfl (lv_at hl 3 rfl) ?_
        obtain ⟨i_146, hw⟩ := hw
        refine x_last (k := ((64 * a1) + t0_32).toNatClampNeg) S G (me_26 km_5 lm_5) i_146 rfl (ms_26 km_5 lm_5) dX10_add_146 (fun H locs G => ?_)
        obtain ⟨h_146, eh_146⟩ : ∃ y : Hs, y = sl g_37 5 (((64 * a1) + t0_32).toNatClampNeg) b3_37 := ⟨_, rfl⟩
        rw [← eh_146] at G
        have hw := hw h_146 eh_146
        refine lv_aload_n hx hb dX10_add_147 rfl (lv_at hl 0 rfl) ?_
        refine x_get (C := RX10) (T := TX10) (n := 21) S G inX10 (me_11 km_0) rfl 5 (by decide) kf_X10_27 rfl dX10_add_148 ?_
        refine lv_iload_n hx hb dX10_add_151 rfl (lv_at hl 1 rfl) ?_
        refine lv_iload hx hb dX10_add_152 (lv_at hl 4 rfl) ?_
        refine lv_iconst (v := 1) hx hb dX10_add_154 (by decide) ?_
        refine lv_iadd hx hb dX10_add_155 ?_
        obtain ⟨i_156, hw⟩ := hw
        refine x_iast (k := a1.toNatClampNeg) S G (me_20 km_6 lm_6) i_156 rfl (ms_20 km_6 lm_6) dX10_add_156 (fun H locs G => ?_)
        obtain ⟨h_156, eh_156⟩ : ∃ y : Hs, y = si h_146 6 a1.toNatClampNeg (t0_32 + 1) := ⟨_, rfl⟩
        rw [← eh_156] at G
        have hw := hw h_156 eh_156
        refine lv_aload_n hx hb dX10_add_157 rfl (lv_at hl 0 rfl) ?_
        refine lv_iload_n hx hb dX10_add_158 rfl (lv_at hl 1 rfl) ?_
        refine x_Vv S hl.1 G (c_M_trim l D q A ad a1 h_156 _ hw) (cw_X10_57 S.2.2.2.2 ⟨Nat.le_trans (Nat.le_of_ble_eq_true rfl) hR1, Nat.le_trans (Nat.le_of_ble_eq_true rfl) hR2⟩) (me_11 km_0) rfl rfl rfl (Nat.le_of_ble_eq_true rfl) dX10_add_159 (fun h_159 H locs G hw => ?_)
        exact RT _ _ _ _ _ G hw dX10_add_162
      · have hw := hw.2 c_41
        refine lv_iload hx hb dX10_add_44 (lv_at hl 5 rfl) ?_
        refine lv_aload_n hx hb dX10_add_46 rfl (lv_at hl 0 rfl) ?_
        refine x_get (C := RX10) (T := TX10) (n := 21) S G inX10 (me_11 km_0) rfl 5 (by decide) kf_X10_27 rfl dX10_add_47 ?_
        refine lv_iload_n hx hb dX10_add_50 rfl (lv_at hl 1 rfl) ?_
        obtain ⟨i_51, hw⟩ := hw
        refine x_iald (k := a1.toNatClampNeg) S G (me_20 km_6 lm_6) i_51 rfl rfl dX10_add_51 ?_
        have hw := hw (fun (t0_71 : Int64) => ∀ (ls : Array Slot) (H : Heap) (locs : List Loc), lv_has ls 9 [(0, .ref (ad 0)), (1, .int a1), (2, .int a2), (3, .long b3_37), (5, .int t0_32), (6, .int b6_37)] → okW D q A s (wM q ad g_37) H locs → W p l e R s m args below meth c H locs 0 0 Qm (F0 m 71 ls [.long t0_71])) (by
          intro t0_71 hw ls H locs hl G
          refine lv_iload hx hb dX10_add_71 (lv_at hl 5 rfl) ?_
          refine lv_aload_n hx hb dX10_add_73 rfl (lv_at hl 0 rfl) ?_
          refine x_get (C := RX10) (T := TX10) (n := 21) S G inX10 (me_11 km_0) rfl 5 (by decide) kf_X10_27 rfl dX10_add_74 ?_
          refine lv_iload_n hx hb dX10_add_77 rfl (lv_at hl 2 rfl) ?_
          obtain ⟨i_78, hw⟩ := hw
          refine x_iald (k := a2.toNatClampNeg) S G (me_20 km_6 lm_6) i_78 rfl rfl dX10_add_78 ?_
          have hw := hw (fun (t1_98 : Int64) => ∀ (ls : Array Slot) (H : Heap) (locs : List Loc), lv_has ls 9 [(0, .ref (ad 0)), (1, .int a1), (2, .int a2), (3, .long b3_37), (5, .int t0_32), (6, .int b6_37)] → okW D q A s (wM q ad g_37) H locs → W p l e R s m args below meth c H locs 0 0 Qm (F0 m 98 ls [.long t1_98, .long t0_71])) (by
            intro t1_98 hw ls H locs hl G
            refine lv_ladd hx hb dX10_add_98 ?_
            refine lv_lload_n hx hb dX10_add_99 rfl (lv_at hl 3 rfl) ?_
            refine lv_ladd hx hb dX10_add_100 ?_
            refine lv_topl (fun a7_101 ea7_101 => ?_)
            have hw := hw a7_101 ea7_101
            refine lv_lstore (lv' := [(7, .long a7_101), (0, .ref (ad 0)), (1, .int a1), (2, .int a2), (3, .long b3_37), (5, .int t0_32), (6, .int b6_37)]) hx hb dX10_add_101 hl (by decide) rfl (fun ls hl => ?_)
            refine lv_aload_n hx hb dX10_add_103 rfl (lv_at hl 1 rfl) ?_
            refine x_get (C := RX10) (T := TX10) (n := 21) S G inX10 (me_11 km_0) rfl 4 (by decide) kf_X10_23 rfl dX10_add_104 ?_
            refine lv_bipush (v := 64) hx hb dX10_add_107 (by decide) ?_
            refine lv_iload_n hx hb dX10_add_109 rfl (lv_at hl 2 rfl) ?_
            refine lv_imul hx hb dX10_add_110 ?_
            refine lv_iload hx hb dX10_add_111 (lv_at hl 6 rfl) ?_
            refine lv_iadd hx hb dX10_add_113 ?_
            refine lv_lload hx hb dX10_add_114 (lv_at hl 0 rfl) ?_
            refine lv_ldc2 (v := 1073741824) hx hb S.2.2.2.1 (S.2.2.2.2 _ kl_X10_55) dX10_add_116 ?_
            refine lv_lrem hx hb dX10_add_119 (by decide) ?_
            obtain ⟨i_120, hw⟩ := hw
            refine x_last (k := ((64 * a1) + b6_37).toNatClampNeg) S G (me_26 km_5 lm_5) i_120 rfl (ms_26 km_5 lm_5) dX10_add_120 (fun H locs G => ?_)
            obtain ⟨h_120, eh_120⟩ : ∃ y : Hs, y = sl g_37 5 (((64 * a1) + b6_37).toNatClampNeg) (a7_101 - a7_101 / 1073741824 * 1073741824) := ⟨_, rfl⟩
            rw [← eh_120] at G
            have hw := hw h_120 eh_120
            refine lv_lload hx hb dX10_add_121 (lv_at hl 0 rfl) ?_
            refine lv_ldc2 (v := 1073741824) hx hb S.2.2.2.1 (S.2.2.2.2 _ kl_X10_55) dX10_add_123 ?_
            refine lv_ldiv hx hb dX10_add_126 (by decide) ?_
            refine lv_topl (fun a3_127 ea3_127 => ?_)
            have hw := hw a3_127 ea3_127
            refine lv_lstore_n (lv' := [(3, .long a3_127), (7, .long a7_101), (0, .ref (ad 0)), (1, .int a1), (2, .int a2), (5, .int t0_32), (6, .int b6_37)]) hx hb dX10_add_127 rfl hl (by decide) rfl (fun ls hl => ?_)
            obtain ⟨a6_128, ea6_128⟩ : ∃ y : Int32, y = b6_37 + 1 := ⟨_, rfl⟩
            have hw := hw a6_128 ea6_128
            refine lv_iinc (v := a6_128) (lv' := [(6, .int a6_128), (3, .long a3_127), (7, .long a7_101), (0, .ref (ad 0)), (1, .int a1), (2, .int a2), (5, .int t0_32)]) hx hb dX10_add_128 hl (k := 6) rfl (by rw [ea6_128]; rfl) (by decide) rfl (fun ls hl => ?_)
            refine lv_goto (tgt := 37) hx hb dX10_add_131 (by decide) ?_
            exact hw _ _ _ (lv_sub hl [3, 4, 5, 1, 6, 0] rfl) G)
          refine lv_icmp_ge (tgt := 97) hx hb dX10_add_79 (by decide) (fun c_79 => ?_) (fun c_79 => ?_)
          · have hw := hw.1 c_79
            refine lv_lconst (v := 0) hx hb dX10_add_97 (by decide) ?_
            exact hw _ _ _ (lv_sub hl [0, 1, 2, 3, 4, 5] rfl) G
          · have hw := hw.2 c_79
            refine lv_aload_n hx hb dX10_add_82 rfl (lv_at hl 0 rfl) ?_
            refine x_get (C := RX10) (T := TX10) (n := 21) S G inX10 (me_11 km_0) rfl 4 (by decide) kf_X10_23 rfl dX10_add_83 ?_
            refine lv_bipush (v := 64) hx hb dX10_add_86 (by decide) ?_
            refine lv_iload_n hx hb dX10_add_88 rfl (lv_at hl 2 rfl) ?_
            refine lv_imul hx hb dX10_add_89 ?_
            refine lv_iload hx hb dX10_add_90 (lv_at hl 5 rfl) ?_
            refine lv_iadd hx hb dX10_add_92 ?_
            obtain ⟨i_93, hw⟩ := hw
            refine x_lald (k := ((64 * a2) + b6_37).toNatClampNeg) S G (me_26 km_5 lm_5) i_93 rfl rfl dX10_add_93 ?_
            refine lv_goto (tgt := 98) hx hb dX10_add_94 (by decide) ?_
            exact hw _ _ _ (lv_sub hl [0, 1, 2, 3, 4, 5] rfl) G)
        refine lv_icmp_ge (tgt := 70) hx hb dX10_add_52 (by decide) (fun c_52 => ?_) (fun c_52 => ?_)
        · have hw := hw.1 c_52
          refine lv_lconst (v := 0) hx hb dX10_add_70 (by decide) ?_
          exact hw _ _ _ (lv_sub hl [0, 1, 2, 3, 4, 5] rfl) G
        · have hw := hw.2 c_52
          refine lv_aload_n hx hb dX10_add_55 rfl (lv_at hl 0 rfl) ?_
          refine x_get (C := RX10) (T := TX10) (n := 21) S G inX10 (me_11 km_0) rfl 4 (by decide) kf_X10_23 rfl dX10_add_56 ?_
          refine lv_bipush (v := 64) hx hb dX10_add_59 (by decide) ?_
          refine lv_iload_n hx hb dX10_add_61 rfl (lv_at hl 1 rfl) ?_
          refine lv_imul hx hb dX10_add_62 ?_
          refine lv_iload hx hb dX10_add_63 (lv_at hl 5 rfl) ?_
          refine lv_iadd hx hb dX10_add_65 ?_
          obtain ⟨i_66, hw⟩ := hw
          refine x_lald (k := ((64 * a1) + b6_37).toNatClampNeg) S G (me_26 km_5 lm_5) i_66 rfl rfl dX10_add_66 ?_
          refine lv_goto (tgt := 71) hx hb dX10_add_67 (by decide) ?_
          exact hw _ _ _ (lv_sub hl [0, 1, 2, 3, 4, 5] rfl) G)
    exact hw _ _ _ (lv_sub hl [2, 3, 4, 5, 1, 0] rfl) G)
  refine lv_icmp_le (tgt := 26) hx hb dX10_add_14 (by decide) (fun c_14 => ?_) (fun c_14 => ?_)
  · have hw := hw.1 c_14
    refine lv_aload_n hx hb dX10_add_26 rfl (lv_at hl 1 rfl) ?_
    refine x_get (C := RX10) (T := TX10) (n := 21) S G inX10 (me_11 km_0) rfl 5 (by decide) kf_X10_27 rfl dX10_add_27 ?_
    refine lv_iload_n hx hb dX10_add_30 rfl (lv_at hl 3 rfl) ?_
    obtain ⟨i_31, hw⟩ := hw
    refine x_iald (k := a2.toNatClampNeg) S G (me_20 km_6 lm_6) i_31 rfl rfl dX10_add_31 ?_
    exact hw _ _ _ (lv_sub hl [1, 2, 3, 0] rfl) G
  · have hw := hw.2 c_14
    refine lv_aload_n hx hb dX10_add_17 rfl (lv_at hl 1 rfl) ?_
    refine x_get (C := RX10) (T := TX10) (n := 21) S G inX10 (me_11 km_0) rfl 5 (by decide) kf_X10_27 rfl dX10_add_18 ?_
    refine lv_iload_n hx hb dX10_add_21 rfl (lv_at hl 2 rfl) ?_
    obtain ⟨i_22, hw⟩ := hw
    refine x_iald (k := a1.toNatClampNeg) S G (me_20 km_6 lm_6) i_22 rfl rfl dX10_add_22 ?_
    refine lv_goto (tgt := 32) hx hb dX10_add_23 (by decide) ?_
    exact hw _ _ _ (lv_sub hl [1, 2, 3, 0] rfl) G
theorem cw_X10_248 {R : Room} {s : State} {args : Array Value} (hts : ∀ w ∈ gW, w.before args s = true) (hR : rm_M_add.frames + 1 ≤ R.frames ∧ 8 + (9 + 11) + rm_M_add.locals ≤ R.locals) : CallW R s args RX10 RX10 248 yX10_add cX10_add 9 none (mw yX10_add cX10_add 9 none) rm_M_add 0 0 2 := cwV9 hts km_X10_248 ki_X10_add ks_X10_add kn_X10 kk_X10_add rfl rfl (by decide +kernel) hR
abbrev rm_M_take : Room := { frames := 1, cells := 0, slots := 0, locals := 21 }
set_option maxHeartbeats 4000000 in
set_option maxRecDepth 100000 in
theorem c_M_take (l : Launch) (D : va_G) (q : Nat → ClassId) (A : Nat → Prop) (ad : Nat → Nat) (a1 : Int32) (a2 : Int32) (h : Hs) (Q : Hs → Prop) (hw : p_M_take a1 a2 h Q) : Met l yX10_take (mw yX10_take cX10_take 8 none) rm_M_take (va_Pc [.ref (ad 0), .int a1, .int a2] (pW D q A (wM q ad h))) (va_Qv Q (fun h t => pW D q A (wM q ad h) t) A) 0 0 A := by
  refine met_v (Qp := Q) (by decide) (Nat.le_of_ble_eq_true rfl) ?_
  intro p e R s m args below meth c Qm ls hR1 hR2 S RT hl G
  have hx := S.1
  have hb := S.2.1
  have hl : lv_has ls 8 [(0, .ref (ad 0)), (1, .int a1), (2, .int a2)] := hl
  unfold p_M_take at hw
  refine lv_lconst (v := 0) hx hb dX10_take_0 (by decide) ?_
  refine lv_lstore_n (lv' := [(3, .long 0), (0, .ref (ad 0)), (1, .int a1), (2, .int a2)]) hx hb dX10_take_1 rfl hl (by decide) rfl (fun ls hl => ?_)
  refine lv_iconst (v := 0) hx hb dX10_take_2 (by decide) ?_
  refine lv_istore (lv' := [(5, .int 0), (3, .long 0), (0, .ref (ad 0)), (1, .int a1), (2, .int a2)]) hx hb dX10_take_3 hl (by decide) rfl (fun ls hl => ?_)
  have hw := hw (fun (b3_5 : Int64) (b5_5 : Int32) (g_5 : Hs) => ∀ (ls : Array Slot) (H : Heap) (locs : List Loc), lv_has ls 8 [(0, .ref (ad 0)), (1, .int a1), (2, .int a2), (3, .long b3_5), (5, .int b5_5)] → okW D q A s (wM q ad g_5) H locs → W p l e R s m args below meth c H locs 0 0 Qm (F0 m 5 ls [])) (by
    intro b3_5 b5_5 g_5 hw ls H locs hl G
    refine lv_iload hx hb dX10_take_5 (lv_at hl 4 rfl) ?_
    refine lv_aload_n hx hb dX10_take_7 rfl (lv_at hl 0 rfl) ?_
    refine x_get (C := RX10) (T := TX10) (n := 21) S G inX10 (me_11 km_0) rfl 5 (by decide) kf_X10_27 rfl dX10_take_8 ?_
    refine lv_iload_n hx hb dX10_take_11 rfl (lv_at hl 1 rfl) ?_
    obtain ⟨i_12, hw⟩ := hw
    refine x_iald (k := a1.toNatClampNeg) S G (me_20 km_6 lm_6) i_12 rfl rfl dX10_take_12 ?_
    refine lv_icmp_ge (tgt := 99) hx hb dX10_take_13 (by decide) (fun c_13 => ?_) (fun c_13 => ?_)
    · have hw := hw.1 c_13
      refine lv_aload_n hx hb dX10_take_99 rfl (lv_at hl 0 rfl) ?_
      refine lv_iload_n hx hb dX10_take_100 rfl (lv_at hl 1 rfl) ?_
      refine x_Vv S hl.1 G (c_M_trim l D q A ad a1 g_5 _ hw) (cw_X10_57 S.2.2.2.2 ⟨Nat.le_trans (Nat.le_of_ble_eq_true rfl) hR1, Nat.le_trans (Nat.le_of_ble_eq_true rfl) hR2⟩) (me_11 km_0) rfl rfl rfl (Nat.le_of_ble_eq_true rfl) dX10_take_101 (fun h_101 H locs G hw => ?_)
      exact RT _ _ _ _ _ G hw dX10_take_104
    · have hw := hw.2 c_13
      refine lv_aload_n hx hb dX10_take_16 rfl (lv_at hl 0 rfl) ?_
      refine x_get (C := RX10) (T := TX10) (n := 21) S G inX10 (me_11 km_0) rfl 4 (by decide) kf_X10_23 rfl dX10_take_17 ?_
      refine lv_bipush (v := 64) hx hb dX10_take_20 (by decide) ?_
      refine lv_iload_n hx hb dX10_take_22 rfl (lv_at hl 1 rfl) ?_
      refine lv_imul hx hb dX10_take_23 ?_
      refine lv_iload hx hb dX10_take_24 (lv_at hl 4 rfl) ?_
      refine lv_iadd hx hb dX10_take_26 ?_
      obtain ⟨i_27, hw⟩ := hw
      refine x_lald (k := ((64 * a1) + b5_5).toNatClampNeg) S G (me_26 km_5 lm_5) i_27 rfl rfl dX10_take_27 ?_
      refine lv_iload hx hb dX10_take_28 (lv_at hl 4 rfl) ?_
      refine lv_aload_n hx hb dX10_take_30 rfl (lv_at hl 0 rfl) ?_
      refine x_get (C := RX10) (T := TX10) (n := 21) S G inX10 (me_11 km_0) rfl 5 (by decide) kf_X10_27 rfl dX10_take_31 ?_
      refine lv_iload_n hx hb dX10_take_34 rfl (lv_at hl 2 rfl) ?_
      obtain ⟨i_35, hw⟩ := hw
      refine x_iald (k := a2.toNatClampNeg) S G (me_20 km_6 lm_6) i_35 rfl rfl dX10_take_35 ?_
      have hw := hw (fun (t1_55 : Int64) => ∀ (ls : Array Slot) (H : Heap) (locs : List Loc), lv_has ls 8 [(0, .ref (ad 0)), (1, .int a1), (2, .int a2), (3, .long b3_5), (5, .int b5_5)] → okW D q A s (wM q ad g_5) H locs → W p l e R s m args below meth c H locs 0 0 Qm (F0 m 55 ls [.long t1_55, .long (gl g_5 5 (((64 * a1) + b5_5).toNatClampNeg))])) (by
        intro t1_55 hw ls H locs hl G
        refine lv_lsub hx hb dX10_take_55 ?_
        refine lv_lload_n hx hb dX10_take_56 rfl (lv_at hl 3 rfl) ?_
        refine lv_lsub hx hb dX10_take_57 ?_
        refine lv_topl (fun a6_58 ea6_58 => ?_)
        have hw := hw a6_58 ea6_58
        refine lv_lstore (lv' := [(6, .long a6_58), (0, .ref (ad 0)), (1, .int a1), (2, .int a2), (3, .long b3_5), (5, .int b5_5)]) hx hb dX10_take_58 hl (by decide) rfl (fun ls hl => ?_)
        refine lv_lload hx hb dX10_take_60 (lv_at hl 0 rfl) ?_
        refine lv_lconst (v := 0) hx hb dX10_take_62 (by decide) ?_
        refine W.lcmp hx hb dX10_take_63 ?_
        have hw := hw (fun (t0_72 : Int64) => ∀ (ls : Array Slot) (H : Heap) (locs : List Loc), lv_has ls 8 [(0, .ref (ad 0)), (1, .int a1), (2, .int a2), (5, .int b5_5), (6, .long a6_58)] → okW D q A s (wM q ad g_5) H locs → W p l e R s m args below meth c H locs 0 0 Qm (F0 m 72 ls [.long t0_72])) (by
          intro t0_72 hw ls H locs hl G
          refine lv_lstore_n (lv' := [(3, .long t0_72), (0, .ref (ad 0)), (1, .int a1), (2, .int a2), (5, .int b5_5), (6, .long a6_58)]) hx hb dX10_take_72 rfl hl (by decide) rfl (fun ls hl => ?_)
          refine lv_aload_n hx hb dX10_take_73 rfl (lv_at hl 1 rfl) ?_
          refine x_get (C := RX10) (T := TX10) (n := 21) S G inX10 (me_11 km_0) rfl 4 (by decide) kf_X10_23 rfl dX10_take_74 ?_
          refine lv_bipush (v := 64) hx hb dX10_take_77 (by decide) ?_
          refine lv_iload_n hx hb dX10_take_79 rfl (lv_at hl 2 rfl) ?_
          refine lv_imul hx hb dX10_take_80 ?_
          refine lv_iload hx hb dX10_take_81 (lv_at hl 4 rfl) ?_
          refine lv_iadd hx hb dX10_take_83 ?_
          refine lv_lload hx hb dX10_take_84 (lv_at hl 5 rfl) ?_
          refine lv_lload_n hx hb dX10_take_86 rfl (lv_at hl 0 rfl) ?_
          refine lv_ldc2 (v := 1073741824) hx hb S.2.2.2.1 (S.2.2.2.2 _ kl_X10_55) dX10_take_87 ?_
          refine lv_lmul hx hb dX10_take_90 ?_
          refine lv_ladd hx hb dX10_take_91 ?_
          obtain ⟨i_92, hw⟩ := hw
          refine x_last (k := ((64 * a1) + b5_5).toNatClampNeg) S G (me_26 km_5 lm_5) i_92 rfl (ms_26 km_5 lm_5) dX10_take_92 (fun H locs G => ?_)
          obtain ⟨h_92, eh_92⟩ : ∃ y : Hs, y = sl g_5 5 (((64 * a1) + b5_5).toNatClampNeg) (a6_58 + (t0_72 * 1073741824)) := ⟨_, rfl⟩
          rw [← eh_92] at G
          have hw := hw h_92 eh_92
          obtain ⟨a5_93, ea5_93⟩ : ∃ y : Int32, y = b5_5 + 1 := ⟨_, rfl⟩
          have hw := hw a5_93 ea5_93
          refine lv_iinc (v := a5_93) (lv' := [(5, .int a5_93), (3, .long t0_72), (0, .ref (ad 0)), (1, .int a1), (2, .int a2), (6, .long a6_58)]) hx hb dX10_take_93 hl (k := 4) rfl (by rw [ea5_93]; rfl) (by decide) rfl (fun ls hl => ?_)
          refine lv_goto (tgt := 5) hx hb dX10_take_96 (by decide) ?_
          exact hw _ _ _ (lv_sub hl [2, 3, 4, 1, 0] rfl) G)
        refine lv_if_ge (tgt := 71) hx hb dX10_take_64 (by decide) (fun c_64 => ?_) (fun c_64 => ?_)
        · have hw := hw.1 c_64
          refine lv_lconst (v := 0) hx hb dX10_take_71 (by decide) ?_
          exact hw _ _ _ (lv_sub hl [1, 2, 3, 5, 0] rfl) G
        · have hw := hw.2 c_64
          refine lv_lconst (v := 1) hx hb dX10_take_67 (by decide) ?_
          refine lv_goto (tgt := 72) hx hb dX10_take_68 (by decide) ?_
          exact hw _ _ _ (lv_sub hl [1, 2, 3, 5, 0] rfl) G)
      refine lv_icmp_ge (tgt := 54) hx hb dX10_take_36 (by decide) (fun c_36 => ?_) (fun c_36 => ?_)
      · have hw := hw.1 c_36
        refine lv_lconst (v := 0) hx hb dX10_take_54 (by decide) ?_
        exact hw _ _ _ (lv_sub hl [0, 1, 2, 3, 4] rfl) G
      · have hw := hw.2 c_36
        refine lv_aload_n hx hb dX10_take_39 rfl (lv_at hl 0 rfl) ?_
        refine x_get (C := RX10) (T := TX10) (n := 21) S G inX10 (me_11 km_0) rfl 4 (by decide) kf_X10_23 rfl dX10_take_40 ?_
        refine lv_bipush (v := 64) hx hb dX10_take_43 (by decide) ?_
        refine lv_iload_n hx hb dX10_take_45 rfl (lv_at hl 2 rfl) ?_
        refine lv_imul hx hb dX10_take_46 ?_
        refine lv_iload hx hb dX10_take_47 (lv_at hl 4 rfl) ?_
        refine lv_iadd hx hb dX10_take_49 ?_
        obtain ⟨i_50, hw⟩ := hw
        refine x_lald (k := ((64 * a2) + b5_5).toNatClampNeg) S G (me_26 km_5 lm_5) i_50 rfl rfl dX10_take_50 ?_
        refine lv_goto (tgt := 55) hx hb dX10_take_51 (by decide) ?_
        exact hw _ _ _ (lv_sub hl [0, 1, 2, 3, 4] rfl) G)
  exact hw _ _ _ (lv_sub hl [2, 3, 4, 1, 0] rfl) G
theorem cw_X10_78 {R : Room} {s : State} {args : Array Value} (hts : ∀ w ∈ gW, w.before args s = true) (hR : rm_M_take.frames + 1 ≤ R.frames ∧ 8 + (8 + 11) + rm_M_take.locals ≤ R.locals) : CallW R s args RX10 RX10 78 yX10_take cX10_take 8 none (mw yX10_take cX10_take 8 none) rm_M_take 0 0 2 := cwV9 hts km_X10_78 ki_X10_take ks_X10_take kn_X10 kk_X10_take rfl rfl (by decide +kernel) hR
abbrev rm_M_halve : Room := { frames := 1, cells := 0, slots := 0, locals := 21 }
set_option maxHeartbeats 4000000 in
set_option maxRecDepth 100000 in
theorem c_M_halve (l : Launch) (D : va_G) (q : Nat → ClassId) (A : Nat → Prop) (ad : Nat → Nat) (a1 : Int32) (h : Hs) (Q : Hs → Prop) (hw : p_M_halve a1 h Q) : Met l yX10_halve (mw yX10_halve cX10_halve 7 none) rm_M_halve (va_Pc [.ref (ad 0), .int a1] (pW D q A (wM q ad h))) (va_Qv Q (fun h t => pW D q A (wM q ad h) t) A) 0 0 A := by
  refine met_v (Qp := Q) (by decide) (Nat.le_of_ble_eq_true rfl) ?_
  intro p e R s m args below meth c Qm ls hR1 hR2 S RT hl G
  have hx := S.1
  have hb := S.2.1
  have hl : lv_has ls 7 [(0, .ref (ad 0)), (1, .int a1)] := hl
  unfold p_M_halve at hw
  refine lv_lconst (v := 0) hx hb dX10_halve_0 (by decide) ?_
  refine lv_lstore_n (lv' := [(2, .long 0), (0, .ref (ad 0)), (1, .int a1)]) hx hb dX10_halve_1 rfl hl (by decide) rfl (fun ls hl => ?_)
  refine lv_aload_n hx hb dX10_halve_2 rfl (lv_at hl 1 rfl) ?_
  refine x_get (C := RX10) (T := TX10) (n := 21) S G inX10 (me_11 km_0) rfl 5 (by decide) kf_X10_27 rfl dX10_halve_3 ?_
  refine lv_iload_n hx hb dX10_halve_6 rfl (lv_at hl 2 rfl) ?_
  obtain ⟨i_7, hw⟩ := hw
  refine x_iald (k := a1.toNatClampNeg) S G (me_20 km_6 lm_6) i_7 rfl rfl dX10_halve_7 ?_
  refine lv_iconst (v := 1) hx hb dX10_halve_8 (by decide) ?_
  refine lv_isub hx hb dX10_halve_9 ?_
  refine lv_topi (fun a4_10 ea4_10 => ?_)
  have hw := hw a4_10 ea4_10
  refine lv_istore (lv' := [(4, .int a4_10), (2, .long 0), (0, .ref (ad 0)), (1, .int a1)]) hx hb dX10_halve_10 hl (by decide) rfl (fun ls hl => ?_)
  have hw := hw (fun (b2_12 : Int64) (b4_12 : Int32) (g_12 : Hs) => ∀ (ls : Array Slot) (H : Heap) (locs : List Loc), lv_has ls 7 [(0, .ref (ad 0)), (1, .int a1), (2, .long b2_12), (4, .int b4_12)] → okW D q A s (wM q ad g_12) H locs → W p l e R s m args below meth c H locs 0 0 Qm (F0 m 12 ls [])) (by
    intro b2_12 b4_12 g_12 hw ls H locs hl G
    refine lv_iload hx hb dX10_halve_12 (lv_at hl 3 rfl) ?_
    refine lv_if_lt (tgt := 68) hx hb dX10_halve_14 (by decide) (fun c_14 => ?_) (fun c_14 => ?_)
    · have hw := hw.1 c_14
      refine lv_aload_n hx hb dX10_halve_68 rfl (lv_at hl 0 rfl) ?_
      refine lv_iload_n hx hb dX10_halve_69 rfl (lv_at hl 1 rfl) ?_
      refine x_Vv S hl.1 G (c_M_trim l D q A ad a1 g_12 _ hw) (cw_X10_57 S.2.2.2.2 ⟨Nat.le_trans (Nat.le_of_ble_eq_true rfl) hR1, Nat.le_trans (Nat.le_of_ble_eq_true rfl) hR2⟩) (me_11 km_0) rfl rfl rfl (Nat.le_of_ble_eq_true rfl) dX10_halve_70 (fun h_70 H locs G hw => ?_)
      exact RT _ _ _ _ _ G hw dX10_halve_73
    · have hw := hw.2 c_14
      refine lv_aload_n hx hb dX10_halve_17 rfl (lv_at hl 0 rfl) ?_
      refine x_get (C := RX10) (T := TX10) (n := 21) S G inX10 (me_11 km_0) rfl 4 (by decide) kf_X10_23 rfl dX10_halve_18 ?_
      refine lv_bipush (v := 64) hx hb dX10_halve_21 (by decide) ?_
      refine lv_iload_n hx hb dX10_halve_23 rfl (lv_at hl 1 rfl) ?_
      refine lv_imul hx hb dX10_halve_24 ?_
      refine lv_iload hx hb dX10_halve_25 (lv_at hl 3 rfl) ?_
      refine lv_iadd hx hb dX10_halve_27 ?_
      obtain ⟨i_28, hw⟩ := hw
      refine x_lald (k := ((64 * a1) + b4_12).toNatClampNeg) S G (me_26 km_5 lm_5) i_28 rfl rfl dX10_halve_28 ?_
      refine lv_lload_n hx hb dX10_halve_29 rfl (lv_at hl 2 rfl) ?_
      refine lv_ldc2 (v := 1073741824) hx hb S.2.2.2.1 (S.2.2.2.2 _ kl_X10_55) dX10_halve_30 ?_
      refine lv_lmul hx hb dX10_halve_33 ?_
      refine lv_ladd hx hb dX10_halve_34 ?_
      refine lv_topl (fun a5_35 ea5_35 => ?_)
      have hw := hw a5_35 ea5_35
      refine lv_lstore (lv' := [(5, .long a5_35), (0, .ref (ad 0)), (1, .int a1), (2, .long b2_12), (4, .int b4_12)]) hx hb dX10_halve_35 hl (by decide) rfl (fun ls hl => ?_)
      refine lv_aload_n hx hb dX10_halve_37 rfl (lv_at hl 1 rfl) ?_
      refine x_get (C := RX10) (T := TX10) (n := 21) S G inX10 (me_11 km_0) rfl 4 (by decide) kf_X10_23 rfl dX10_halve_38 ?_
      refine lv_bipush (v := 64) hx hb dX10_halve_41 (by decide) ?_
      refine lv_iload_n hx hb dX10_halve_43 rfl (lv_at hl 2 rfl) ?_
      refine lv_imul hx hb dX10_halve_44 ?_
      refine lv_iload hx hb dX10_halve_45 (lv_at hl 4 rfl) ?_
      refine lv_iadd hx hb dX10_halve_47 ?_
      refine lv_lload hx hb dX10_halve_48 (lv_at hl 0 rfl) ?_
      refine lv_ldc2 (v := 2) hx hb S.2.2.2.1 (S.2.2.2.2 _ kl_X10_61) dX10_halve_50 ?_
      refine lv_ldiv hx hb dX10_halve_53 (by decide) ?_
      obtain ⟨i_54, hw⟩ := hw
      refine x_last (k := ((64 * a1) + b4_12).toNatClampNeg) S G (me_26 km_5 lm_5) i_54 rfl (ms_26 km_5 lm_5) dX10_halve_54 (fun H locs G => ?_)
      obtain ⟨h_54, eh_54⟩ : ∃ y : Hs, y = sl g_12 5 (((64 * a1) + b4_12).toNatClampNeg) (a5_35 / 2) := ⟨_, rfl⟩
      rw [← eh_54] at G
      have hw := hw h_54 eh_54
      refine lv_lload hx hb dX10_halve_55 (lv_at hl 0 rfl) ?_
      refine lv_ldc2 (v := 2) hx hb S.2.2.2.1 (S.2.2.2.2 _ kl_X10_61) dX10_halve_57 ?_
      refine lv_lrem hx hb dX10_halve_60 (by decide) ?_
      refine lv_topl (fun a2_61 ea2_61 => ?_)
      have hw := hw a2_61 ea2_61
      refine lv_lstore_n (lv' := [(2, .long a2_61), (5, .long a5_35), (0, .ref (ad 0)), (1, .int a1), (4, .int b4_12)]) hx hb dX10_halve_61 rfl hl (by decide) rfl (fun ls hl => ?_)
      obtain ⟨a4_62, ea4_62⟩ : ∃ y : Int32, y = b4_12 + (-1) := ⟨_, rfl⟩
      have hw := hw a4_62 ea4_62
      refine lv_iinc (v := a4_62) (lv' := [(4, .int a4_62), (2, .long a2_61), (5, .long a5_35), (0, .ref (ad 0)), (1, .int a1)]) hx hb dX10_halve_62 hl (k := 4) rfl (by rw [ea4_62]; rfl) (by decide) rfl (fun ls hl => ?_)
      refine lv_goto (tgt := 12) hx hb dX10_halve_65 (by decide) ?_
      exact hw _ _ _ (lv_sub hl [3, 4, 1, 0] rfl) G)
  exact hw _ _ _ (lv_sub hl [2, 3, 1, 0] rfl) G
theorem cw_X10_71 {R : Room} {s : State} {args : Array Value} (hts : ∀ w ∈ gW, w.before args s = true) (hR : rm_M_halve.frames + 1 ≤ R.frames ∧ 8 + (7 + 11) + rm_M_halve.locals ≤ R.locals) : CallW R s args RX10 RX10 71 yX10_halve cX10_halve 7 none (mw yX10_halve cX10_halve 7 none) rm_M_halve 0 0 1 := cwV9 hts km_X10_71 ki_X10_halve ks_X10_halve kn_X10 kk_X10_halve rfl rfl (by decide +kernel) hR
abbrev rm_M_isEven : Room := { frames := 0, cells := 0, slots := 0, locals := 0 }
set_option maxHeartbeats 4000000 in
set_option maxRecDepth 100000 in
theorem c_M_isEven (l : Launch) (D : va_G) (q : Nat → ClassId) (A : Nat → Prop) (ad : Nat → Nat) (a1 : Int32) (h : Hs) (Q : Int32 → Prop) (hw : p_M_isEven a1 h Q) : Met l yX10_isEven (mw yX10_isEven cX10_isEven 2 (some .boolean)) rm_M_isEven (va_Pc [.ref (ad 0), .int a1] (pW D q A (wM q ad h))) (va_Qi (fun r h9 => zb r ∧ h9 = h ∧ Q r) (fun h t => pW D q A (wM q ad h) t) A) 0 0 A := by
  refine met_z (Qp := (fun r h9 => h9 = h ∧ Q r)) (by decide) (Nat.le_of_ble_eq_true rfl) ?_
  intro p e R s m args below meth c Qm ls hR1 hR2 S RT hl G
  have hx := S.1
  have hb := S.2.1
  have hl : lv_has ls 2 [(0, .ref (ad 0)), (1, .int a1)] := hl
  unfold p_M_isEven at hw
  refine lv_aload_n hx hb dX10_isEven_0 rfl (lv_at hl 0 rfl) ?_
  refine x_get (C := RX10) (T := TX10) (n := 21) S G inX10 (me_11 km_0) rfl 5 (by decide) kf_X10_27 rfl dX10_isEven_1 ?_
  refine lv_iload_n hx hb dX10_isEven_4 rfl (lv_at hl 1 rfl) ?_
  obtain ⟨i_5, hw⟩ := hw
  refine x_iald (k := a1.toNatClampNeg) S G (me_20 km_6 lm_6) i_5 rfl rfl dX10_isEven_5 ?_
  have hw := hw (fun (t0_32 : Int32) => ∀ (ls : Array Slot) (H : Heap) (locs : List Loc), lv_has ls 2 [] → okW D q A s (wM q ad h) H locs → W p l e R s m args below meth c H locs 0 0 Qm (F0 m 32 ls [.int t0_32])) (by
    intro t0_32 hw ls H locs hl G
    obtain ⟨z_32, hw⟩ := hw
    exact RT _ _ _ _ _ _ G z_32 ⟨rfl, hw⟩ dX10_isEven_32)
  have hw := hw (∀ (ls : Array Slot) (H : Heap) (locs : List Loc), lv_has ls 2 [] → okW D q A s (wM q ad h) H locs → W p l e R s m args below meth c H locs 0 0 Qm (F0 m 27 ls [])) (by
    intro hw ls H locs hl G
    refine lv_iconst (v := 1) hx hb dX10_isEven_27 (by decide) ?_
    refine lv_goto (tgt := 32) hx hb dX10_isEven_28 (by decide) ?_
    exact hw _ _ _ (lv_sub hl [] rfl) G)
  refine lv_if_eq (tgt := 27) hx hb dX10_isEven_6 (by decide) (fun c_6 => ?_) (fun c_6 => ?_)
  · have hw := hw.1 c_6
    exact hw _ _ _ (lv_sub hl [] rfl) G
  · have hw := hw.2 c_6
    refine lv_aload_n hx hb dX10_isEven_9 rfl (lv_at hl 0 rfl) ?_
    refine x_get (C := RX10) (T := TX10) (n := 21) S G inX10 (me_11 km_0) rfl 4 (by decide) kf_X10_23 rfl dX10_isEven_10 ?_
    refine lv_bipush (v := 64) hx hb dX10_isEven_13 (by decide) ?_
    refine lv_iload_n hx hb dX10_isEven_15 rfl (lv_at hl 1 rfl) ?_
    refine lv_imul hx hb dX10_isEven_16 ?_
    obtain ⟨i_17, hw⟩ := hw
    refine x_lald (k := (64 * a1).toNatClampNeg) S G (me_26 km_5 lm_5) i_17 rfl rfl dX10_isEven_17 ?_
    refine lv_ldc2 (v := 2) hx hb S.2.2.2.1 (S.2.2.2.2 _ kl_X10_61) dX10_isEven_18 ?_
    refine lv_lrem hx hb dX10_isEven_21 (by decide) ?_
    refine lv_lconst (v := 0) hx hb dX10_isEven_22 (by decide) ?_
    refine W.lcmp hx hb dX10_isEven_23 ?_
    refine lv_if_ne (tgt := 31) hx hb dX10_isEven_24 (by decide) (fun c_24 => ?_) (fun c_24 => ?_)
    · have hw := hw.1 c_24
      refine lv_iconst (v := 0) hx hb dX10_isEven_31 (by decide) ?_
      exact hw _ _ _ (lv_sub hl [] rfl) G
    · have hw := hw.2 c_24
      exact hw _ _ _ (lv_sub hl [] rfl) G
theorem cw_X10_67 {R : Room} {s : State} {args : Array Value} (hts : ∀ w ∈ gW, w.before args s = true) (hR : rm_M_isEven.frames + 1 ≤ R.frames ∧ 8 + (2 + 11) + rm_M_isEven.locals ≤ R.locals) : CallW R s args RX10 RX10 67 yX10_isEven cX10_isEven 2 (some .boolean) (mw yX10_isEven cX10_isEven 2 (some .boolean)) rm_M_isEven 0 0 1 := cwV9 hts km_X10_67 ki_X10_isEven ks_X10_isEven kn_X10 kk_X10_isEven rfl rfl (by decide +kernel) hR
abbrev rm_M_findDivisor : Room := { frames := 2, cells := 0, slots := 0, locals := 49 }
set_option maxHeartbeats 4000000 in
set_option maxRecDepth 100000 in
theorem c_M_findDivisor (l : Launch) (D : va_G) (q : Nat → ClassId) (A : Nat → Prop) (ad : Nat → Nat) (a1 : Int32) (a2 : Int32) (h : Hs) (Q : Hs → Prop) (hw : p_M_findDivisor a1 a2 h Q) : Met l yX10_findDivisor (mw yX10_findDivisor cX10_findDivisor 5 none) rm_M_findDivisor (va_Pc [.ref (ad 0), .int a1, .int a2] (pW D q A (wM q ad h))) (va_Qv Q (fun h t => pW D q A (wM q ad h) t) A) 0 0 A := by
  refine met_v (Qp := Q) (by decide) (Nat.le_of_ble_eq_true rfl) ?_
  intro p e R s m args below meth c Qm ls hR1 hR2 S RT hl G
  have hx := S.1
  have hb := S.2.1
  have hl : lv_has ls 5 [(0, .ref (ad 0)), (1, .int a1), (2, .int a2)] := hl
  unfold p_M_findDivisor at hw
  refine lv_aload_n hx hb dX10_findDivisor_0 rfl (lv_at hl 0 rfl) ?_
  refine lv_bipush (v := 8) hx hb dX10_findDivisor_1 (by decide) ?_
  refine lv_iload_n hx hb dX10_findDivisor_3 rfl (lv_at hl 1 rfl) ?_
  refine x_Vv S hl.1 G (c_M_copy l D q A ad 8 a1 h _ hw) (cw_X10_63 S.2.2.2.2 ⟨Nat.le_trans (Nat.le_of_ble_eq_true rfl) hR1, Nat.le_trans (Nat.le_of_ble_eq_true rfl) hR2⟩) (me_11 km_0) rfl rfl rfl (Nat.le_of_ble_eq_true rfl) dX10_findDivisor_4 (fun h_4 H locs G hw => ?_)
  refine lv_aload_n hx hb dX10_findDivisor_7 rfl (lv_at hl 0 rfl) ?_
  refine lv_bipush (v := 9) hx hb dX10_findDivisor_8 (by decide) ?_
  refine lv_iload_n hx hb dX10_findDivisor_10 rfl (lv_at hl 2 rfl) ?_
  refine x_Vv S hl.1 G (c_M_copy l D q A ad 9 a2 h_4 _ hw) (cw_X10_63 S.2.2.2.2 ⟨Nat.le_trans (Nat.le_of_ble_eq_true rfl) hR1, Nat.le_trans (Nat.le_of_ble_eq_true rfl) hR2⟩) (me_11 km_0) rfl rfl rfl (Nat.le_of_ble_eq_true rfl) dX10_findDivisor_11 (fun h_11 H locs G hw => ?_)
  refine lv_iconst (v := 0) hx hb dX10_findDivisor_14 (by decide) ?_
  refine lv_istore_n (lv' := [(3, .int 0), (0, .ref (ad 0)), (1, .int a1), (2, .int a2)]) hx hb dX10_findDivisor_15 rfl hl (by decide) rfl (fun ls hl => ?_)
  have hw := hw (fun (b3_16 : Int32) (g_16 : Hs) => ∀ (ls : Array Slot) (H : Heap) (locs : List Loc), lv_has ls 5 [(0, .ref (ad 0)), (3, .int b3_16)] → okW D q A s (wM q ad g_16) H locs → W p l e R s m args below meth c H locs 0 0 Qm (F0 m 16 ls [])) (by
    intro b3_16 g_16 hw ls H locs hl G
    refine lv_aload_n hx hb dX10_findDivisor_16 rfl (lv_at hl 0 rfl) ?_
    refine lv_bipush (v := 8) hx hb dX10_findDivisor_17 (by decide) ?_
    refine x_VzP S hl.1 G (c_M_isEven l D q A ad 8 g_16 _ hw) (cw_X10_67 S.2.2.2.2 ⟨Nat.le_trans (Nat.le_of_ble_eq_true rfl) hR1, Nat.le_trans (Nat.le_of_ble_eq_true rfl) hR2⟩) (me_11 km_0) rfl rfl rfl (Nat.le_of_ble_eq_true rfl) dX10_findDivisor_19 (fun r_19 H locs G z_19 hw => ?_)
    have hw := hw (fun (g_52 : Hs) => ∀ (ls : Array Slot) (H : Heap) (locs : List Loc), lv_has ls 5 [(0, .ref (ad 0)), (3, .int b3_16)] → okW D q A s (wM q ad g_52) H locs → W p l e R s m args below meth c H locs 0 0 Qm (F0 m 52 ls [])) (by
      intro g_52 hw ls H locs hl G
      refine lv_aload_n hx hb dX10_findDivisor_52 rfl (lv_at hl 0 rfl) ?_
      refine x_get (C := RX10) (T := TX10) (n := 21) S G inX10 (me_11 km_0) rfl 5 (by decide) kf_X10_27 rfl dX10_findDivisor_53 ?_
      refine lv_bipush (v := 9) hx hb dX10_findDivisor_56 (by decide) ?_
      refine x_iald (k := 9) S G (me_20 km_6 lm_6) (vpi (by decide)) rfl rfl dX10_findDivisor_58 ?_
      have hw := hw (fun (g_62 : Hs) => ∀ (ls : Array Slot) (H : Heap) (locs : List Loc), lv_has ls 5 [(0, .ref (ad 0)), (3, .int b3_16)] → okW D q A s (wM q ad g_62) H locs → W p l e R s m args below meth c H locs 0 0 Qm (F0 m 62 ls [])) (by
        intro g_62 hw ls H locs hl G
        refine lv_aload_n hx hb dX10_findDivisor_62 rfl (lv_at hl 0 rfl) ?_
        refine lv_bipush (v := 8) hx hb dX10_findDivisor_63 (by decide) ?_
        refine x_VzP S hl.1 G (c_M_isEven l D q A ad 8 g_62 _ hw) (cw_X10_67 S.2.2.2.2 ⟨Nat.le_trans (Nat.le_of_ble_eq_true rfl) hR1, Nat.le_trans (Nat.le_of_ble_eq_true rfl) hR2⟩) (me_11 km_0) rfl rfl rfl (Nat.le_of_ble_eq_true rfl) dX10_findDivisor_65 (fun r_65 H locs G z_65 hw => ?_)
        have hw := hw (fun (g_80 : Hs) => ∀ (ls : Array Slot) (H : Heap) (locs : List Loc), lv_has ls 5 [(0, .ref (ad 0)), (3, .int b3_16)] → okW D q A s (wM q ad g_80) H locs → W p l e R s m args below meth c H locs 0 0 Qm (F0 m 80 ls [])) (by
          intro g_80 hw ls H locs hl G
          refine lv_aload_n hx hb dX10_findDivisor_80 rfl (lv_at hl 0 rfl) ?_
          refine lv_bipush (v := 9) hx hb dX10_findDivisor_81 (by decide) ?_
          refine x_VzP S hl.1 G (c_M_isEven l D q A ad 9 g_80 _ hw) (cw_X10_67 S.2.2.2.2 ⟨Nat.le_trans (Nat.le_of_ble_eq_true rfl) hR1, Nat.le_trans (Nat.le_of_ble_eq_true rfl) hR2⟩) (me_11 km_0) rfl rfl rfl (Nat.le_of_ble_eq_true rfl) dX10_findDivisor_83 (fun r_83 H locs G z_83 hw => ?_)
          refine lv_if_eq (tgt := 98) hx hb dX10_findDivisor_86 (by decide) (fun c_86 => ?_) (fun c_86 => ?_)
          · have hw := hw.1 c_86
            refine lv_aload_n hx hb dX10_findDivisor_98 rfl (lv_at hl 0 rfl) ?_
            refine lv_bipush (v := 8) hx hb dX10_findDivisor_99 (by decide) ?_
            refine lv_bipush (v := 9) hx hb dX10_findDivisor_101 (by decide) ?_
            refine x_ViP S hl.1 G (c_M_compare l D q A ad 8 9 g_80 _ hw) (cw_X10_74 S.2.2.2.2 ⟨Nat.le_trans (Nat.le_of_ble_eq_true rfl) hR1, Nat.le_trans (Nat.le_of_ble_eq_true rfl) hR2⟩) (me_11 km_0) rfl rfl rfl (Nat.le_of_ble_eq_true rfl) dX10_findDivisor_103 (fun r_103 H locs G hw => ?_)
            have hw := hw (fun (g_133 : Hs) => ∀ (ls : Array Slot) (H : Heap) (locs : List Loc), lv_has ls 5 [(0, .ref (ad 0)), (3, .int b3_16)] → okW D q A s (wM q ad g_133) H locs → W p l e R s m args below meth c H locs 0 0 Qm (F0 m 133 ls [])) (by
              intro g_133 hw ls H locs hl G
              refine lv_aload_n hx hb dX10_findDivisor_133 rfl (lv_at hl 0 rfl) ?_
              refine lv_bipush (v := 9) hx hb dX10_findDivisor_134 (by decide) ?_
              refine lv_bipush (v := 8) hx hb dX10_findDivisor_136 (by decide) ?_
              refine x_Vv S hl.1 G (c_M_take l D q A ad 9 8 g_133 _ hw) (cw_X10_78 S.2.2.2.2 ⟨Nat.le_trans (Nat.le_of_ble_eq_true rfl) hR1, Nat.le_trans (Nat.le_of_ble_eq_true rfl) hR2⟩) (me_11 km_0) rfl rfl rfl (Nat.le_of_ble_eq_true rfl) dX10_findDivisor_138 (fun h_138 H locs G hw => ?_)
              refine lv_goto (tgt := 52) hx hb dX10_findDivisor_141 (by decide) ?_
              exact hw _ _ _ (lv_sub hl [0, 1] rfl) G)
            refine lv_if_le (tgt := 133) hx hb dX10_findDivisor_106 (by decide) (fun c_106 => ?_) (fun c_106 => ?_)
            · have hw := hw.1 c_106
              exact hw _ _ _ (lv_sub hl [0, 1] rfl) G
            · have hw := hw.2 c_106
              refine lv_aload_n hx hb dX10_findDivisor_109 rfl (lv_at hl 0 rfl) ?_
              refine lv_bipush (v := 10) hx hb dX10_findDivisor_110 (by decide) ?_
              refine lv_bipush (v := 8) hx hb dX10_findDivisor_112 (by decide) ?_
              refine x_Vv S hl.1 G (c_M_copy l D q A ad 10 8 g_80 _ hw) (cw_X10_63 S.2.2.2.2 ⟨Nat.le_trans (Nat.le_of_ble_eq_true rfl) hR1, Nat.le_trans (Nat.le_of_ble_eq_true rfl) hR2⟩) (me_11 km_0) rfl rfl rfl (Nat.le_of_ble_eq_true rfl) dX10_findDivisor_114 (fun h_114 H locs G hw => ?_)
              refine lv_aload_n hx hb dX10_findDivisor_117 rfl (lv_at hl 0 rfl) ?_
              refine lv_bipush (v := 8) hx hb dX10_findDivisor_118 (by decide) ?_
              refine lv_bipush (v := 9) hx hb dX10_findDivisor_120 (by decide) ?_
              refine x_Vv S hl.1 G (c_M_copy l D q A ad 8 9 h_114 _ hw) (cw_X10_63 S.2.2.2.2 ⟨Nat.le_trans (Nat.le_of_ble_eq_true rfl) hR1, Nat.le_trans (Nat.le_of_ble_eq_true rfl) hR2⟩) (me_11 km_0) rfl rfl rfl (Nat.le_of_ble_eq_true rfl) dX10_findDivisor_122 (fun h_122 H locs G hw => ?_)
              refine lv_aload_n hx hb dX10_findDivisor_125 rfl (lv_at hl 0 rfl) ?_
              refine lv_bipush (v := 9) hx hb dX10_findDivisor_126 (by decide) ?_
              refine lv_bipush (v := 10) hx hb dX10_findDivisor_128 (by decide) ?_
              refine x_Vv S hl.1 G (c_M_copy l D q A ad 9 10 h_122 _ hw) (cw_X10_63 S.2.2.2.2 ⟨Nat.le_trans (Nat.le_of_ble_eq_true rfl) hR1, Nat.le_trans (Nat.le_of_ble_eq_true rfl) hR2⟩) (me_11 km_0) rfl rfl rfl (Nat.le_of_ble_eq_true rfl) dX10_findDivisor_130 (fun h_130 H locs G hw => ?_)
              exact hw _ _ _ (lv_sub hl [0, 1] rfl) G
          · have hw := hw.2 c_86
            refine lv_aload_n hx hb dX10_findDivisor_89 rfl (lv_at hl 0 rfl) ?_
            refine lv_bipush (v := 9) hx hb dX10_findDivisor_90 (by decide) ?_
            refine x_Vv S hl.1 G (c_M_halve l D q A ad 9 g_80 _ hw) (cw_X10_71 S.2.2.2.2 ⟨Nat.le_trans (Nat.le_of_ble_eq_true rfl) hR1, Nat.le_trans (Nat.le_of_ble_eq_true rfl) hR2⟩) (me_11 km_0) rfl rfl rfl (Nat.le_of_ble_eq_true rfl) dX10_findDivisor_92 (fun h_92 H locs G hw => ?_)
            refine lv_goto (tgt := 80) hx hb dX10_findDivisor_95 (by decide) ?_
            exact hw _ _ _ (lv_sub hl [0, 1] rfl) G)
        refine lv_if_eq (tgt := 80) hx hb dX10_findDivisor_68 (by decide) (fun c_68 => ?_) (fun c_68 => ?_)
        · have hw := hw.1 c_68
          exact hw _ _ _ (lv_sub hl [0, 1] rfl) G
        · have hw := hw.2 c_68
          refine lv_aload_n hx hb dX10_findDivisor_71 rfl (lv_at hl 0 rfl) ?_
          refine lv_bipush (v := 8) hx hb dX10_findDivisor_72 (by decide) ?_
          refine x_Vv S hl.1 G (c_M_halve l D q A ad 8 g_62 _ hw) (cw_X10_71 S.2.2.2.2 ⟨Nat.le_trans (Nat.le_of_ble_eq_true rfl) hR1, Nat.le_trans (Nat.le_of_ble_eq_true rfl) hR2⟩) (me_11 km_0) rfl rfl rfl (Nat.le_of_ble_eq_true rfl) dX10_findDivisor_74 (fun h_74 H locs G hw => ?_)
          refine lv_goto (tgt := 62) hx hb dX10_findDivisor_77 (by decide) ?_
          exact hw _ _ _ (lv_sub hl [0, 1] rfl) G)
      refine lv_if_le (tgt := 144) hx hb dX10_findDivisor_59 (by decide) (fun c_59 => ?_) (fun c_59 => ?_)
      · have hw := hw.1 c_59
        refine lv_iconst (v := 0) hx hb dX10_findDivisor_144 (by decide) ?_
        refine lv_istore (lv' := [(4, .int 0), (0, .ref (ad 0)), (3, .int b3_16)]) hx hb dX10_findDivisor_145 hl (by decide) rfl (fun ls hl => ?_)
        have hw := hw (fun (b4_147 : Int32) (g_147 : Hs) => ∀ (ls : Array Slot) (H : Heap) (locs : List Loc), lv_has ls 5 [(0, .ref (ad 0)), (3, .int b3_16), (4, .int b4_147)] → okW D q A s (wM q ad g_147) H locs → W p l e R s m args below meth c H locs 0 0 Qm (F0 m 147 ls [])) (by
          intro b4_147 g_147 hw ls H locs hl G
          refine lv_iload hx hb dX10_findDivisor_147 (lv_at hl 2 rfl) ?_
          refine lv_iload_n hx hb dX10_findDivisor_149 rfl (lv_at hl 1 rfl) ?_
          refine lv_icmp_ge (tgt := 168) hx hb dX10_findDivisor_150 (by decide) (fun c_150 => ?_) (fun c_150 => ?_)
          · have hw := hw.1 c_150
            exact RT _ _ _ _ _ G hw dX10_findDivisor_168
          · have hw := hw.2 c_150
            refine lv_aload_n hx hb dX10_findDivisor_153 rfl (lv_at hl 0 rfl) ?_
            refine lv_bipush (v := 8) hx hb dX10_findDivisor_154 (by decide) ?_
            refine lv_ldc2 (v := 2) hx hb S.2.2.2.1 (S.2.2.2.2 _ kl_X10_61) dX10_findDivisor_156 ?_
            refine x_Vv S hl.1 G (c_M_times l D q A ad 8 2 g_147 _ hw) (cw_X10_81 S.2.2.2.2 ⟨Nat.le_trans (Nat.le_of_ble_eq_true rfl) hR1, Nat.le_trans (Nat.le_of_ble_eq_true rfl) hR2⟩) (me_11 km_0) rfl rfl rfl (Nat.le_of_ble_eq_true rfl) dX10_findDivisor_159 (fun h_159 H locs G hw => ?_)
            obtain ⟨a4_162, ea4_162⟩ : ∃ y : Int32, y = b4_147 + 1 := ⟨_, rfl⟩
            have hw := hw a4_162 ea4_162
            refine lv_iinc (v := a4_162) (lv' := [(4, .int a4_162), (0, .ref (ad 0)), (3, .int b3_16)]) hx hb dX10_findDivisor_162 hl (k := 2) rfl (by rw [ea4_162]; rfl) (by decide) rfl (fun ls hl => ?_)
            refine lv_goto (tgt := 147) hx hb dX10_findDivisor_165 (by decide) ?_
            exact hw _ _ _ (lv_sub hl [1, 2, 0] rfl) G)
        exact hw _ _ _ (lv_sub hl [1, 2, 0] rfl) G
      · have hw := hw.2 c_59
        exact hw _ _ _ (lv_sub hl [0, 1] rfl) G)
    refine lv_if_eq (tgt := 52) hx hb dX10_findDivisor_22 (by decide) (fun c_22 => ?_) (fun c_22 => ?_)
    · have hw := hw.1 c_22
      exact hw _ _ _ (lv_sub hl [0, 1] rfl) G
    · have hw := hw.2 c_22
      refine lv_aload_n hx hb dX10_findDivisor_25 rfl (lv_at hl 0 rfl) ?_
      refine lv_bipush (v := 9) hx hb dX10_findDivisor_26 (by decide) ?_
      refine x_VzP S hl.1 G (c_M_isEven l D q A ad 9 g_16 _ hw) (cw_X10_67 S.2.2.2.2 ⟨Nat.le_trans (Nat.le_of_ble_eq_true rfl) hR1, Nat.le_trans (Nat.le_of_ble_eq_true rfl) hR2⟩) (me_11 km_0) rfl rfl rfl (Nat.le_of_ble_eq_true rfl) dX10_findDivisor_28 (fun r_28 H locs G z_28 hw => ?_)
      refine lv_if_eq (tgt := 52) hx hb dX10_findDivisor_31 (by decide) (fun c_31 => ?_) (fun c_31 => ?_)
      · have hw := hw.1 c_31
        exact hw _ _ _ (lv_sub hl [0, 1] rfl) G
      · have hw := hw.2 c_31
        refine lv_aload_n hx hb dX10_findDivisor_34 rfl (lv_at hl 0 rfl) ?_
        refine lv_bipush (v := 8) hx hb dX10_findDivisor_35 (by decide) ?_
        refine x_Vv S hl.1 G (c_M_halve l D q A ad 8 g_16 _ hw) (cw_X10_71 S.2.2.2.2 ⟨Nat.le_trans (Nat.le_of_ble_eq_true rfl) hR1, Nat.le_trans (Nat.le_of_ble_eq_true rfl) hR2⟩) (me_11 km_0) rfl rfl rfl (Nat.le_of_ble_eq_true rfl) dX10_findDivisor_37 (fun h_37 H locs G hw => ?_)
        refine lv_aload_n hx hb dX10_findDivisor_40 rfl (lv_at hl 0 rfl) ?_
        refine lv_bipush (v := 9) hx hb dX10_findDivisor_41 (by decide) ?_
        refine x_Vv S hl.1 G (c_M_halve l D q A ad 9 h_37 _ hw) (cw_X10_71 S.2.2.2.2 ⟨Nat.le_trans (Nat.le_of_ble_eq_true rfl) hR1, Nat.le_trans (Nat.le_of_ble_eq_true rfl) hR2⟩) (me_11 km_0) rfl rfl rfl (Nat.le_of_ble_eq_true rfl) dX10_findDivisor_43 (fun h_43 H locs G hw => ?_)
        obtain ⟨a3_46, ea3_46⟩ : ∃ y : Int32, y = b3_16 + 1 := ⟨_, rfl⟩
        have hw := hw a3_46 ea3_46
        refine lv_iinc (v := a3_46) (lv' := [(3, .int a3_46), (0, .ref (ad 0))]) hx hb dX10_findDivisor_46 hl (k := 1) rfl (by rw [ea3_46]; rfl) (by decide) rfl (fun ls hl => ?_)
        refine lv_goto (tgt := 16) hx hb dX10_findDivisor_49 (by decide) ?_
        exact hw _ _ _ (lv_sub hl [1, 0] rfl) G)
  exact hw _ _ _ (lv_sub hl [1, 0] rfl) G
theorem cw_X10_91 {R : Room} {s : State} {args : Array Value} (hts : ∀ w ∈ gW, w.before args s = true) (hR : rm_M_findDivisor.frames + 1 ≤ R.frames ∧ 8 + (5 + 11) + rm_M_findDivisor.locals ≤ R.locals) : CallW R s args RX10 RX10 91 yX10_findDivisor cX10_findDivisor 5 none (mw yX10_findDivisor cX10_findDivisor 5 none) rm_M_findDivisor 0 0 2 := cwV9 hts km_X10_91 ki_X10_findDivisor ks_X10_findDivisor kn_X10 kk_X10_findDivisor rfl rfl (by decide +kernel) hR
abbrev rm_M_addOne : Room := { frames := 1, cells := 0, slots := 0, locals := 25 }
set_option maxHeartbeats 4000000 in
set_option maxRecDepth 100000 in
theorem c_M_addOne (l : Launch) (D : va_G) (q : Nat → ClassId) (A : Nat → Prop) (ad : Nat → Nat) (h : Hs) (Q : Hs → Prop) (hw : p_M_addOne h Q) : Met l yX10_addOne (mw yX10_addOne cX10_addOne 1 none) rm_M_addOne (va_Pc [.ref (ad 0)] (pW D q A (wM q ad h))) (va_Qv Q (fun h t => pW D q A (wM q ad h) t) A) 0 0 A := by
  refine met_v (Qp := Q) (by decide) (Nat.le_of_ble_eq_true rfl) ?_
  intro p e R s m args below meth c Qm ls hR1 hR2 S RT hl G
  have hx := S.1
  have hb := S.2.1
  have hl : lv_has ls 1 [(0, .ref (ad 0))] := hl
  unfold p_M_addOne at hw
  refine lv_aload_n hx hb dX10_addOne_0 rfl (lv_at hl 0 rfl) ?_
  refine x_get (C := RX10) (T := TX10) (n := 21) S G inX10 (me_11 km_0) rfl 5 (by decide) kf_X10_27 rfl dX10_addOne_1 ?_
  refine lv_bipush (v := 9) hx hb dX10_addOne_4 (by decide) ?_
  refine x_iald (k := 9) S G (me_20 km_6 lm_6) (vpi (by decide)) rfl rfl dX10_addOne_6 ?_
  have hw := hw (fun (g_32 : Hs) => ∀ (ls : Array Slot) (H : Heap) (locs : List Loc), lv_has ls 1 [] → okW D q A s (wM q ad g_32) H locs → W p l e R s m args below meth c H locs 0 0 Qm (F0 m 32 ls [])) (by
    intro g_32 hw ls H locs hl G
    exact RT _ _ _ _ _ G hw dX10_addOne_32)
  refine lv_if_ne (tgt := 20) hx hb dX10_addOne_7 (by decide) (fun c_7 => ?_) (fun c_7 => ?_)
  · have hw := hw.1 c_7
    refine lv_aload_n hx hb dX10_addOne_20 rfl (lv_at hl 0 rfl) ?_
    refine x_get (C := RX10) (T := TX10) (n := 21) S G inX10 (me_11 km_0) rfl 4 (by decide) kf_X10_23 rfl dX10_addOne_21 ?_
    refine lv_sipush (v := 576) hx hb dX10_addOne_24 (by decide) ?_
    refine lv_dup2_11 hx hb dX10_addOne_27 rfl rfl ?_
    refine x_lald (k := 576) S G (me_26 km_5 lm_5) (vpi (by decide)) rfl rfl dX10_addOne_28 ?_
    refine lv_lconst (v := 1) hx hb dX10_addOne_29 (by decide) ?_
    refine lv_ladd hx hb dX10_addOne_30 ?_
    refine x_last (k := 576) S G (me_26 km_5 lm_5) (vpi (by decide)) rfl (ms_26 km_5 lm_5) dX10_addOne_31 (fun H locs G => ?_)
    obtain ⟨h_31, eh_31⟩ : ∃ y : Hs, y = sl h 5 576 ((gl h 5 576) + 1) := ⟨_, rfl⟩
    rw [← eh_31] at G
    have hw := hw h_31 eh_31
    exact hw _ _ _ (lv_sub hl [] rfl) G
  · have hw := hw.2 c_7
    refine lv_aload_n hx hb dX10_addOne_10 rfl (lv_at hl 0 rfl) ?_
    refine lv_bipush (v := 9) hx hb dX10_addOne_11 (by decide) ?_
    refine lv_lconst (v := 1) hx hb dX10_addOne_13 (by decide) ?_
    refine x_Vv S hl.1 G (c_M_set l D q A ad 9 1 h _ hw) (cw_X10_51 S.2.2.2.2 ⟨Nat.le_trans (Nat.le_of_ble_eq_true rfl) hR1, Nat.le_trans (Nat.le_of_ble_eq_true rfl) hR2⟩) (me_11 km_0) rfl rfl rfl (Nat.le_of_ble_eq_true rfl) dX10_addOne_14 (fun h_14 H locs G hw => ?_)
    refine lv_goto (tgt := 32) hx hb dX10_addOne_17 (by decide) ?_
    exact hw _ _ _ (lv_sub hl [] rfl) G
theorem cw_X10_84 {R : Room} {s : State} {args : Array Value} (hts : ∀ w ∈ gW, w.before args s = true) (hR : rm_M_addOne.frames + 1 ≤ R.frames ∧ 8 + (1 + 11) + rm_M_addOne.locals ≤ R.locals) : CallW R s args RX10 RX10 84 yX10_addOne cX10_addOne 1 none (mw yX10_addOne cX10_addOne 1 none) rm_M_addOne 0 0 0 := cwV9 hts km_X10_84 ki_X10_addOne ks_X10_addOne kn_X10 kk_X10_addOne rfl rfl (by decide +kernel) hR
abbrev rm_M_divide : Room := { frames := 2, cells := 0, slots := 0, locals := 49 }
set_option maxHeartbeats 4000000 in
set_option maxRecDepth 100000 in
theorem c_M_divide (l : Launch) (D : va_G) (q : Nat → ClassId) (A : Nat → Prop) (ad : Nat → Nat) (a1 : Int32) (h : Hs) (Q : Hs → Prop) (hw : p_M_divide a1 h Q) : Met l yX10_divide (mw yX10_divide cX10_divide 7 none) rm_M_divide (va_Pc [.ref (ad 0), .int a1] (pW D q A (wM q ad h))) (va_Qv Q (fun h t => pW D q A (wM q ad h) t) A) 0 0 A := by
  refine met_v (Qp := Q) (by decide) (Nat.le_of_ble_eq_true rfl) ?_
  intro p e R s m args below meth c Qm ls hR1 hR2 S RT hl G
  have hx := S.1
  have hb := S.2.1
  have hl : lv_has ls 7 [(0, .ref (ad 0)), (1, .int a1)] := hl
  unfold p_M_divide at hw
  refine lv_aload_n hx hb dX10_divide_0 rfl (lv_at hl 0 rfl) ?_
  refine lv_bipush (v := 10) hx hb dX10_divide_1 (by decide) ?_
  refine lv_iload_n hx hb dX10_divide_3 rfl (lv_at hl 1 rfl) ?_
  refine x_Vv S hl.1 G (c_M_copy l D q A ad 10 a1 h _ hw) (cw_X10_63 S.2.2.2.2 ⟨Nat.le_trans (Nat.le_of_ble_eq_true rfl) hR1, Nat.le_trans (Nat.le_of_ble_eq_true rfl) hR2⟩) (me_11 km_0) rfl rfl rfl (Nat.le_of_ble_eq_true rfl) dX10_divide_4 (fun h_4 H locs G hw => ?_)
  refine lv_aload_n hx hb dX10_divide_7 rfl (lv_at hl 0 rfl) ?_
  refine lv_bipush (v := 9) hx hb dX10_divide_8 (by decide) ?_
  refine lv_lconst (v := 0) hx hb dX10_divide_10 (by decide) ?_
  refine x_Vv S hl.1 G (c_M_set l D q A ad 9 0 h_4 _ hw) (cw_X10_51 S.2.2.2.2 ⟨Nat.le_trans (Nat.le_of_ble_eq_true rfl) hR1, Nat.le_trans (Nat.le_of_ble_eq_true rfl) hR2⟩) (me_11 km_0) rfl rfl rfl (Nat.le_of_ble_eq_true rfl) dX10_divide_11 (fun h_11 H locs G hw => ?_)
  refine lv_aload_n hx hb dX10_divide_14 rfl (lv_at hl 0 rfl) ?_
  refine x_get (C := RX10) (T := TX10) (n := 21) S G inX10 (me_11 km_0) rfl 5 (by decide) kf_X10_27 rfl dX10_divide_15 ?_
  refine lv_bipush (v := 10) hx hb dX10_divide_18 (by decide) ?_
  refine x_iald (k := 10) S G (me_20 km_6 lm_6) (vpi (by decide)) rfl rfl dX10_divide_20 ?_
  refine lv_topi (fun a2_21 ea2_21 => ?_)
  have hw := hw a2_21 ea2_21
  refine lv_istore_n (lv' := [(2, .int a2_21), (0, .ref (ad 0)), (1, .int a1)]) hx hb dX10_divide_21 rfl hl (by decide) rfl (fun ls hl => ?_)
  refine lv_iconst (v := 0) hx hb dX10_divide_22 (by decide) ?_
  refine lv_istore_n (lv' := [(3, .int 0), (2, .int a2_21), (0, .ref (ad 0)), (1, .int a1)]) hx hb dX10_divide_23 rfl hl (by decide) rfl (fun ls hl => ?_)
  have hw := hw (fun (b3_24 : Int32) (g_24 : Hs) => ∀ (ls : Array Slot) (H : Heap) (locs : List Loc), lv_has ls 7 [(0, .ref (ad 0)), (1, .int a1), (2, .int a2_21), (3, .int b3_24)] → okW D q A s (wM q ad g_24) H locs → W p l e R s m args below meth c H locs 0 0 Qm (F0 m 24 ls [])) (by
    intro b3_24 g_24 hw ls H locs hl G
    refine lv_iload_n hx hb dX10_divide_24 rfl (lv_at hl 3 rfl) ?_
    refine lv_iload_n hx hb dX10_divide_25 rfl (lv_at hl 2 rfl) ?_
    refine lv_icmp_ge (tgt := 47) hx hb dX10_divide_26 (by decide) (fun c_26 => ?_) (fun c_26 => ?_)
    · have hw := hw.1 c_26
      refine lv_iload_n hx hb dX10_divide_47 rfl (lv_at hl 2 rfl) ?_
      refine lv_iconst (v := 1) hx hb dX10_divide_48 (by decide) ?_
      refine lv_isub hx hb dX10_divide_49 ?_
      refine lv_topi (fun a3_50 ea3_50 => ?_)
      have hw := hw a3_50 ea3_50
      refine lv_istore_n (lv' := [(3, .int a3_50), (0, .ref (ad 0)), (1, .int a1), (2, .int a2_21)]) hx hb dX10_divide_50 rfl hl (by decide) rfl (fun ls hl => ?_)
      have hw := hw (fun (b3_51 : Int32) (g_51 : Hs) => ∀ (ls : Array Slot) (H : Heap) (locs : List Loc), lv_has ls 7 [(0, .ref (ad 0)), (1, .int a1), (3, .int b3_51)] → okW D q A s (wM q ad g_51) H locs → W p l e R s m args below meth c H locs 0 0 Qm (F0 m 51 ls [])) (by
        intro b3_51 g_51 hw ls H locs hl G
        refine lv_iload_n hx hb dX10_divide_51 rfl (lv_at hl 2 rfl) ?_
        refine lv_if_lt (tgt := 158) hx hb dX10_divide_52 (by decide) (fun c_52 => ?_) (fun c_52 => ?_)
        · have hw := hw.1 c_52
          refine lv_aload_n hx hb dX10_divide_158 rfl (lv_at hl 0 rfl) ?_
          refine lv_iload_n hx hb dX10_divide_159 rfl (lv_at hl 1 rfl) ?_
          refine x_Vv S hl.1 G (c_M_trim l D q A ad a1 g_51 _ hw) (cw_X10_57 S.2.2.2.2 ⟨Nat.le_trans (Nat.le_of_ble_eq_true rfl) hR1, Nat.le_trans (Nat.le_of_ble_eq_true rfl) hR2⟩) (me_11 km_0) rfl rfl rfl (Nat.le_of_ble_eq_true rfl) dX10_divide_160 (fun h_160 H locs G hw => ?_)
          exact RT _ _ _ _ _ G hw dX10_divide_163
        · have hw := hw.2 c_52
          refine lv_lconst (v := 0) hx hb dX10_divide_55 (by decide) ?_
          refine lv_lstore (lv' := [(4, .long 0), (0, .ref (ad 0)), (1, .int a1), (3, .int b3_51)]) hx hb dX10_divide_56 hl (by decide) rfl (fun ls hl => ?_)
          refine lv_bipush (v := 29) hx hb dX10_divide_58 (by decide) ?_
          refine lv_istore (lv' := [(6, .int 29), (4, .long 0), (0, .ref (ad 0)), (1, .int a1), (3, .int b3_51)]) hx hb dX10_divide_60 hl (by decide) rfl (fun ls hl => ?_)
          have hw := hw (fun (b4_62 : Int64) (b6_62 : Int32) (g_62 : Hs) => ∀ (ls : Array Slot) (H : Heap) (locs : List Loc), lv_has ls 7 [(0, .ref (ad 0)), (1, .int a1), (3, .int b3_51), (4, .long b4_62), (6, .int b6_62)] → okW D q A s (wM q ad g_62) H locs → W p l e R s m args below meth c H locs 0 0 Qm (F0 m 62 ls [])) (by
            intro b4_62 b6_62 g_62 hw ls H locs hl G
            refine lv_iload hx hb dX10_divide_62 (lv_at hl 4 rfl) ?_
            refine lv_if_lt (tgt := 139) hx hb dX10_divide_64 (by decide) (fun c_64 => ?_) (fun c_64 => ?_)
            · have hw := hw.1 c_64
              refine lv_aload_n hx hb dX10_divide_139 rfl (lv_at hl 0 rfl) ?_
              refine x_get (C := RX10) (T := TX10) (n := 21) S G inX10 (me_11 km_0) rfl 4 (by decide) kf_X10_23 rfl dX10_divide_140 ?_
              refine lv_bipush (v := 64) hx hb dX10_divide_143 (by decide) ?_
              refine lv_iload_n hx hb dX10_divide_145 rfl (lv_at hl 1 rfl) ?_
              refine lv_imul hx hb dX10_divide_146 ?_
              refine lv_iload_n hx hb dX10_divide_147 rfl (lv_at hl 2 rfl) ?_
              refine lv_iadd hx hb dX10_divide_148 ?_
              refine lv_lload hx hb dX10_divide_149 (lv_at hl 3 rfl) ?_
              obtain ⟨i_151, hw⟩ := hw
              refine x_last (k := ((64 * a1) + b3_51).toNatClampNeg) S G (me_26 km_5 lm_5) i_151 rfl (ms_26 km_5 lm_5) dX10_divide_151 (fun H locs G => ?_)
              obtain ⟨h_151, eh_151⟩ : ∃ y : Hs, y = sl g_62 5 (((64 * a1) + b3_51).toNatClampNeg) b4_62 := ⟨_, rfl⟩
              rw [← eh_151] at G
              have hw := hw h_151 eh_151
              obtain ⟨a3_152, ea3_152⟩ : ∃ y : Int32, y = b3_51 + (-1) := ⟨_, rfl⟩
              have hw := hw a3_152 ea3_152
              refine lv_iinc (v := a3_152) (lv' := [(3, .int a3_152), (0, .ref (ad 0)), (1, .int a1), (4, .long b4_62), (6, .int b6_62)]) hx hb dX10_divide_152 hl (k := 2) rfl (by rw [ea3_152]; rfl) (by decide) rfl (fun ls hl => ?_)
              refine lv_goto (tgt := 51) hx hb dX10_divide_155 (by decide) ?_
              exact hw _ _ _ (lv_sub hl [1, 2, 0] rfl) G
            · have hw := hw.2 c_64
              refine lv_aload_n hx hb dX10_divide_67 rfl (lv_at hl 0 rfl) ?_
              refine lv_bipush (v := 9) hx hb dX10_divide_68 (by decide) ?_
              refine lv_ldc2 (v := 2) hx hb S.2.2.2.1 (S.2.2.2.2 _ kl_X10_61) dX10_divide_70 ?_
              refine x_Vv S hl.1 G (c_M_times l D q A ad 9 2 g_62 _ hw) (cw_X10_81 S.2.2.2.2 ⟨Nat.le_trans (Nat.le_of_ble_eq_true rfl) hR1, Nat.le_trans (Nat.le_of_ble_eq_true rfl) hR2⟩) (me_11 km_0) rfl rfl rfl (Nat.le_of_ble_eq_true rfl) dX10_divide_73 (fun h_73 H locs G hw => ?_)
              refine lv_aload_n hx hb dX10_divide_76 rfl (lv_at hl 0 rfl) ?_
              refine x_get (C := RX10) (T := TX10) (n := 21) S G inX10 (me_11 km_0) rfl 4 (by decide) kf_X10_23 rfl dX10_divide_77 ?_
              refine lv_sipush (v := 640) hx hb dX10_divide_80 (by decide) ?_
              refine lv_iload_n hx hb dX10_divide_83 rfl (lv_at hl 2 rfl) ?_
              refine lv_iadd hx hb dX10_divide_84 ?_
              obtain ⟨i_85, hw⟩ := hw
              refine x_lald (k := (640 + b3_51).toNatClampNeg) S G (me_26 km_5 lm_5) i_85 rfl rfl dX10_divide_85 ?_
              refine lv_iload hx hb dX10_divide_86 (lv_at hl 4 rfl) ?_
              refine lv_lshr hx hb dX10_divide_88 rfl ?_
              refine lv_lconst (v := 1) hx hb dX10_divide_89 (by decide) ?_
              refine lv_land hx hb dX10_divide_90 ?_
              refine lv_lconst (v := 1) hx hb dX10_divide_91 (by decide) ?_
              refine W.lcmp hx hb dX10_divide_92 ?_
              have hw := hw (fun (g_100 : Hs) => ∀ (ls : Array Slot) (H : Heap) (locs : List Loc), lv_has ls 7 [(0, .ref (ad 0)), (1, .int a1), (3, .int b3_51), (4, .long b4_62), (6, .int b6_62)] → okW D q A s (wM q ad g_100) H locs → W p l e R s m args below meth c H locs 0 0 Qm (F0 m 100 ls [])) (by
                intro g_100 hw ls H locs hl G
                refine lv_ldc2 (v := 2) hx hb S.2.2.2.1 (S.2.2.2.2 _ kl_X10_61) dX10_divide_100 ?_
                refine lv_lload hx hb dX10_divide_103 (lv_at hl 3 rfl) ?_
                refine lv_lmul hx hb dX10_divide_105 ?_
                refine lv_topl (fun a4_106 ea4_106 => ?_)
                have hw := hw a4_106 ea4_106
                refine lv_lstore (lv' := [(4, .long a4_106), (0, .ref (ad 0)), (1, .int a1), (3, .int b3_51), (6, .int b6_62)]) hx hb dX10_divide_106 hl (by decide) rfl (fun ls hl => ?_)
                refine lv_aload_n hx hb dX10_divide_108 rfl (lv_at hl 1 rfl) ?_
                refine lv_bipush (v := 9) hx hb dX10_divide_109 (by decide) ?_
                refine lv_bipush (v := 8) hx hb dX10_divide_111 (by decide) ?_
                refine x_ViP S hl.1 G (c_M_compare l D q A ad 9 8 g_100 _ hw) (cw_X10_74 S.2.2.2.2 ⟨Nat.le_trans (Nat.le_of_ble_eq_true rfl) hR1, Nat.le_trans (Nat.le_of_ble_eq_true rfl) hR2⟩) (me_11 km_0) rfl rfl rfl (Nat.le_of_ble_eq_true rfl) dX10_divide_113 (fun r_113 H locs G hw => ?_)
                have hw := hw (fun (b4_133 : Int64) (g_133 : Hs) => ∀ (ls : Array Slot) (H : Heap) (locs : List Loc), lv_has ls 7 [(0, .ref (ad 0)), (1, .int a1), (3, .int b3_51), (4, .long b4_133), (6, .int b6_62)] → okW D q A s (wM q ad g_133) H locs → W p l e R s m args below meth c H locs 0 0 Qm (F0 m 133 ls [])) (by
                  intro b4_133 g_133 hw ls H locs hl G
                  obtain ⟨a6_133, ea6_133⟩ : ∃ y : Int32, y = b6_62 + (-1) := ⟨_, rfl⟩
                  have hw := hw a6_133 ea6_133
                  refine lv_iinc (v := a6_133) (lv' := [(6, .int a6_133), (0, .ref (ad 0)), (1, .int a1), (3, .int b3_51), (4, .long b4_133)]) hx hb dX10_divide_133 hl (k := 4) rfl (by rw [ea6_133]; rfl) (by decide) rfl (fun ls hl => ?_)
                  refine lv_goto (tgt := 62) hx hb dX10_divide_136 (by decide) ?_
                  exact hw _ _ _ (lv_sub hl [1, 2, 3, 4, 0] rfl) G)
                refine lv_if_lt (tgt := 133) hx hb dX10_divide_116 (by decide) (fun c_116 => ?_) (fun c_116 => ?_)
                · have hw := hw.1 c_116
                  exact hw _ _ _ (lv_sub hl [1, 2, 3, 0, 4] rfl) G
                · have hw := hw.2 c_116
                  refine lv_aload_n hx hb dX10_divide_119 rfl (lv_at hl 1 rfl) ?_
                  refine lv_bipush (v := 9) hx hb dX10_divide_120 (by decide) ?_
                  refine lv_bipush (v := 8) hx hb dX10_divide_122 (by decide) ?_
                  refine x_Vv S hl.1 G (c_M_take l D q A ad 9 8 g_100 _ hw) (cw_X10_78 S.2.2.2.2 ⟨Nat.le_trans (Nat.le_of_ble_eq_true rfl) hR1, Nat.le_trans (Nat.le_of_ble_eq_true rfl) hR2⟩) (me_11 km_0) rfl rfl rfl (Nat.le_of_ble_eq_true rfl) dX10_divide_124 (fun h_124 H locs G hw => ?_)
                  refine lv_lload hx hb dX10_divide_127 (lv_at hl 0 rfl) ?_
                  refine lv_lconst (v := 1) hx hb dX10_divide_129 (by decide) ?_
                  refine lv_ladd hx hb dX10_divide_130 ?_
                  refine lv_topl (fun a4_131 ea4_131 => ?_)
                  have hw := hw a4_131 ea4_131
                  refine lv_lstore (lv' := [(4, .long a4_131), (0, .ref (ad 0)), (1, .int a1), (3, .int b3_51), (6, .int b6_62)]) hx hb dX10_divide_131 hl (by decide) rfl (fun ls hl => ?_)
                  exact hw _ _ _ (lv_sub hl [1, 2, 3, 0, 4] rfl) G)
              refine lv_if_ne (tgt := 100) hx hb dX10_divide_93 (by decide) (fun c_93 => ?_) (fun c_93 => ?_)
              · have hw := hw.1 c_93
                exact hw _ _ _ (lv_sub hl [0, 1, 2, 3, 4] rfl) G
              · have hw := hw.2 c_93
                refine lv_aload_n hx hb dX10_divide_96 rfl (lv_at hl 0 rfl) ?_
                refine x_Vv S hl.1 G (c_M_addOne l D q A ad h_73 _ hw) (cw_X10_84 S.2.2.2.2 ⟨Nat.le_trans (Nat.le_of_ble_eq_true rfl) hR1, Nat.le_trans (Nat.le_of_ble_eq_true rfl) hR2⟩) (me_11 km_0) rfl rfl rfl (Nat.le_of_ble_eq_true rfl) dX10_divide_97 (fun h_97 H locs G hw => ?_)
                exact hw _ _ _ (lv_sub hl [0, 1, 2, 3, 4] rfl) G)
          exact hw _ _ _ (lv_sub hl [2, 3, 4, 1, 0] rfl) G)
      exact hw _ _ _ (lv_sub hl [1, 2, 0] rfl) G
    · have hw := hw.2 c_26
      refine lv_aload_n hx hb dX10_divide_29 rfl (lv_at hl 0 rfl) ?_
      refine x_get (C := RX10) (T := TX10) (n := 21) S G inX10 (me_11 km_0) rfl 4 (by decide) kf_X10_23 rfl dX10_divide_30 ?_
      refine lv_bipush (v := 64) hx hb dX10_divide_33 (by decide) ?_
      refine lv_iload_n hx hb dX10_divide_35 rfl (lv_at hl 1 rfl) ?_
      refine lv_imul hx hb dX10_divide_36 ?_
      refine lv_iload_n hx hb dX10_divide_37 rfl (lv_at hl 3 rfl) ?_
      refine lv_iadd hx hb dX10_divide_38 ?_
      refine lv_lconst (v := 0) hx hb dX10_divide_39 (by decide) ?_
      obtain ⟨i_40, hw⟩ := hw
      refine x_last (k := ((64 * a1) + b3_24).toNatClampNeg) S G (me_26 km_5 lm_5) i_40 rfl (ms_26 km_5 lm_5) dX10_divide_40 (fun H locs G => ?_)
      obtain ⟨h_40, eh_40⟩ : ∃ y : Hs, y = sl g_24 5 (((64 * a1) + b3_24).toNatClampNeg) 0 := ⟨_, rfl⟩
      rw [← eh_40] at G
      have hw := hw h_40 eh_40
      obtain ⟨a3_41, ea3_41⟩ : ∃ y : Int32, y = b3_24 + 1 := ⟨_, rfl⟩
      have hw := hw a3_41 ea3_41
      refine lv_iinc (v := a3_41) (lv' := [(3, .int a3_41), (0, .ref (ad 0)), (1, .int a1), (2, .int a2_21)]) hx hb dX10_divide_41 hl (k := 3) rfl (by rw [ea3_41]; rfl) (by decide) rfl (fun ls hl => ?_)
      refine lv_goto (tgt := 24) hx hb dX10_divide_44 (by decide) ?_
      exact hw _ _ _ (lv_sub hl [1, 2, 3, 0] rfl) G)
  exact hw _ _ _ (lv_sub hl [2, 3, 1, 0] rfl) G
theorem cw_X10_94 {R : Room} {s : State} {args : Array Value} (hts : ∀ w ∈ gW, w.before args s = true) (hR : rm_M_divide.frames + 1 ≤ R.frames ∧ 8 + (7 + 11) + rm_M_divide.locals ≤ R.locals) : CallW R s args RX10 RX10 94 yX10_divide cX10_divide 7 none (mw yX10_divide cX10_divide 7 none) rm_M_divide 0 0 1 := cwV9 hts km_X10_94 ki_X10_divide ks_X10_divide kn_X10 kk_X10_divide rfl rfl (by decide +kernel) hR
abbrev rm_M_tell : Room := { frames := 3, cells := 0, slots := 0, locals := 75 }
set_option maxHeartbeats 4000000 in
set_option maxRecDepth 100000 in
theorem c_M_tell (l : Launch) (D : va_G) (q : Nat → ClassId) (A : Nat → Prop) (ad : Nat → Nat) (a1 : Int32) (a2 : Int32) (a3 : Int32) (h : Hs) (Q : Hs → Prop) (hw : p_M_tell a1 a2 a3 h Q) : Met l yX10_tell (mw yX10_tell cX10_tell 4 none) rm_M_tell (va_Pc [.ref (ad 0), .int a1, .int a2, .int a3] (pW D q A (wM q ad h))) (va_Qv Q (fun h t => pW D q A (wM q ad h) t) A) 0 0 A := by
  refine met_v (Qp := Q) (by decide) (Nat.le_of_ble_eq_true rfl) ?_
  intro p e R s m args below meth c Qm ls hR1 hR2 S RT hl G
  have hx := S.1
  have hb := S.2.1
  have hl : lv_has ls 4 [(0, .ref (ad 0)), (1, .int a1), (2, .int a2), (3, .int a3)] := hl
  unfold p_M_tell at hw
  refine lv_aload_n hx hb dX10_tell_0 rfl (lv_at hl 0 rfl) ?_
  refine x_get (C := RX10) (T := TX10) (n := 21) S G inX10 (me_11 km_0) rfl 5 (by decide) kf_X10_27 rfl dX10_tell_1 ?_
  refine lv_iload_n hx hb dX10_tell_4 rfl (lv_at hl 1 rfl) ?_
  obtain ⟨i_5, hw⟩ := hw
  refine x_iald (k := a1.toNatClampNeg) S G (me_20 km_6 lm_6) i_5 rfl rfl dX10_tell_5 ?_
  refine lv_if_ne (tgt := 27) hx hb dX10_tell_6 (by decide) (fun c_6 => ?_) (fun c_6 => ?_)
  · have hw := hw.1 c_6
    refine lv_aload_n hx hb dX10_tell_27 rfl (lv_at hl 0 rfl) ?_
    refine lv_iload_n hx hb dX10_tell_28 rfl (lv_at hl 1 rfl) ?_
    refine lv_iload_n hx hb dX10_tell_29 rfl (lv_at hl 2 rfl) ?_
    refine x_Vv S hl.1 G (c_M_findDivisor l D q A ad a1 a2 h _ hw) (cw_X10_91 S.2.2.2.2 ⟨Nat.le_trans (Nat.le_of_ble_eq_true rfl) hR1, Nat.le_trans (Nat.le_of_ble_eq_true rfl) hR2⟩) (me_11 km_0) rfl rfl rfl (Nat.le_of_ble_eq_true rfl) dX10_tell_30 (fun h_30 H locs G hw => ?_)
    refine lv_aload_n hx hb dX10_tell_33 rfl (lv_at hl 0 rfl) ?_
    refine lv_iconst (v := 0) hx hb dX10_tell_34 (by decide) ?_
    refine lv_iload_n hx hb dX10_tell_35 rfl (lv_at hl 1 rfl) ?_
    refine x_Vv S hl.1 G (c_M_copy l D q A ad 0 a1 h_30 _ hw) (cw_X10_63 S.2.2.2.2 ⟨Nat.le_trans (Nat.le_of_ble_eq_true rfl) hR1, Nat.le_trans (Nat.le_of_ble_eq_true rfl) hR2⟩) (me_11 km_0) rfl rfl rfl (Nat.le_of_ble_eq_true rfl) dX10_tell_36 (fun h_36 H locs G hw => ?_)
    refine lv_aload_n hx hb dX10_tell_39 rfl (lv_at hl 0 rfl) ?_
    refine lv_iconst (v := 0) hx hb dX10_tell_40 (by decide) ?_
    refine x_Vv S hl.1 G (c_M_divide l D q A ad 0 h_36 _ hw) (cw_X10_94 S.2.2.2.2 ⟨Nat.le_trans (Nat.le_of_ble_eq_true rfl) hR1, Nat.le_trans (Nat.le_of_ble_eq_true rfl) hR2⟩) (me_11 km_0) rfl rfl rfl (Nat.le_of_ble_eq_true rfl) dX10_tell_41 (fun h_41 H locs G hw => ?_)
    refine lv_aload_n hx hb dX10_tell_44 rfl (lv_at hl 0 rfl) ?_
    refine lv_iconst (v := 1) hx hb dX10_tell_45 (by decide) ?_
    refine lv_iload_n hx hb dX10_tell_46 rfl (lv_at hl 2 rfl) ?_
    refine x_Vv S hl.1 G (c_M_copy l D q A ad 1 a2 h_41 _ hw) (cw_X10_63 S.2.2.2.2 ⟨Nat.le_trans (Nat.le_of_ble_eq_true rfl) hR1, Nat.le_trans (Nat.le_of_ble_eq_true rfl) hR2⟩) (me_11 km_0) rfl rfl rfl (Nat.le_of_ble_eq_true rfl) dX10_tell_47 (fun h_47 H locs G hw => ?_)
    refine lv_aload_n hx hb dX10_tell_50 rfl (lv_at hl 0 rfl) ?_
    refine lv_iconst (v := 1) hx hb dX10_tell_51 (by decide) ?_
    refine x_Vv S hl.1 G (c_M_divide l D q A ad 1 h_47 _ hw) (cw_X10_94 S.2.2.2.2 ⟨Nat.le_trans (Nat.le_of_ble_eq_true rfl) hR1, Nat.le_trans (Nat.le_of_ble_eq_true rfl) hR2⟩) (me_11 km_0) rfl rfl rfl (Nat.le_of_ble_eq_true rfl) dX10_tell_52 (fun h_52 H locs G hw => ?_)
    refine lv_aload_n hx hb dX10_tell_55 rfl (lv_at hl 0 rfl) ?_
    refine lv_iload_n hx hb dX10_tell_56 rfl (lv_at hl 3 rfl) ?_
    have hw := hw (fun (t1_65 : Int32) => ∀ (ls : Array Slot) (H : Heap) (locs : List Loc), lv_has ls 4 [] → okW D q A s (wM q ad h_52) H locs → W p l e R s m args below meth c H locs 0 0 Qm (F0 m 65 ls [.int t1_65, .ref (ad 0)])) (by
      intro t1_65 hw ls H locs hl G
      refine x_put (C := RX10) (T := TX10) (n := 21) S G inX10 tyX10 tyX10_ok nmX10 (me_11 km_0) rfl 6 (by decide) kf_X10_87 rfl rfl rfl (Nat.le_of_ble_eq_true rfl) (mp_11_6 km_0) dX10_tell_65 (fun H locs G => ?_)
      obtain ⟨h_65, eh_65⟩ : ∃ y : Hs, y = si h_52 0 6 t1_65 := ⟨_, rfl⟩
      rw [← eh_65] at G
      have hw := hw h_65 eh_65
      exact RT _ _ _ _ _ G hw dX10_tell_68)
    refine lv_if_eq (tgt := 64) hx hb dX10_tell_57 (by decide) (fun c_57 => ?_) (fun c_57 => ?_)
    · have hw := hw.1 c_57
      refine lv_iconst (v := 1) hx hb dX10_tell_64 (by decide) ?_
      exact hw _ _ _ (lv_sub hl [] rfl) G
    · have hw := hw.2 c_57
      refine lv_iconst (v := (-1)) hx hb dX10_tell_60 (by decide) ?_
      refine lv_goto (tgt := 65) hx hb dX10_tell_61 (by decide) ?_
      exact hw _ _ _ (lv_sub hl [] rfl) G
  · have hw := hw.2 c_6
    refine lv_aload_n hx hb dX10_tell_9 rfl (lv_at hl 0 rfl) ?_
    refine lv_iconst (v := 0) hx hb dX10_tell_10 (by decide) ?_
    refine lv_lconst (v := 0) hx hb dX10_tell_11 (by decide) ?_
    refine x_Vv S hl.1 G (c_M_set l D q A ad 0 0 h _ hw) (cw_X10_51 S.2.2.2.2 ⟨Nat.le_trans (Nat.le_of_ble_eq_true rfl) hR1, Nat.le_trans (Nat.le_of_ble_eq_true rfl) hR2⟩) (me_11 km_0) rfl rfl rfl (Nat.le_of_ble_eq_true rfl) dX10_tell_12 (fun h_12 H locs G hw => ?_)
    refine lv_aload_n hx hb dX10_tell_15 rfl (lv_at hl 0 rfl) ?_
    refine lv_iconst (v := 1) hx hb dX10_tell_16 (by decide) ?_
    refine lv_lconst (v := 1) hx hb dX10_tell_17 (by decide) ?_
    refine x_Vv S hl.1 G (c_M_set l D q A ad 1 1 h_12 _ hw) (cw_X10_51 S.2.2.2.2 ⟨Nat.le_trans (Nat.le_of_ble_eq_true rfl) hR1, Nat.le_trans (Nat.le_of_ble_eq_true rfl) hR2⟩) (me_11 km_0) rfl rfl rfl (Nat.le_of_ble_eq_true rfl) dX10_tell_18 (fun h_18 H locs G hw => ?_)
    refine lv_aload_n hx hb dX10_tell_21 rfl (lv_at hl 0 rfl) ?_
    refine lv_iconst (v := 0) hx hb dX10_tell_22 (by decide) ?_
    refine x_put (C := RX10) (T := TX10) (n := 21) S G inX10 tyX10 tyX10_ok nmX10 (me_11 km_0) rfl 6 (by decide) kf_X10_87 rfl rfl rfl (Nat.le_of_ble_eq_true rfl) (mp_11_6 km_0) dX10_tell_23 (fun H locs G => ?_)
    obtain ⟨h_23, eh_23⟩ : ∃ y : Hs, y = si h_18 0 6 0 := ⟨_, rfl⟩
    rw [← eh_23] at G
    have hw := hw h_23 eh_23
    exact RT _ _ _ _ _ G hw dX10_tell_26
theorem cw_X10_97 {R : Room} {s : State} {args : Array Value} (hts : ∀ w ∈ gW, w.before args s = true) (hR : rm_M_tell.frames + 1 ≤ R.frames ∧ 8 + (4 + 11) + rm_M_tell.locals ≤ R.locals) : CallW R s args RX10 RX10 97 yX10_tell cX10_tell 4 none (mw yX10_tell cX10_tell 4 none) rm_M_tell 0 0 3 := cwV9 hts km_X10_97 ki_X10_tell ks_X10_tell kn_X10 kk_X10_tell rfl rfl (by decide +kernel) hR
abbrev rm_M_tells : Room := { frames := 4, cells := 0, slots := 0, locals := 98 }
set_option maxHeartbeats 4000000 in
set_option maxRecDepth 100000 in
theorem c_M_tells (l : Launch) (D : va_G) (q : Nat → ClassId) (A : Nat → Prop) (ad : Nat → Nat) (a1 : Int64) (a3 : Int64) (h : Hs) (Q : Int32 → Hs → Prop) (hw : p_M_tells a1 a3 h Q) : Met l yX10_tells (mw yX10_tells cX10_tells 5 (some .int)) rm_M_tells (va_Pc [.ref (ad 0), .long a1, .long a3] (pW D q A (wM q ad h))) (va_Qi Q (fun h t => pW D q A (wM q ad h) t) A) 0 0 A := by
  refine met_i (Qp := Q) (by decide) (Nat.le_of_ble_eq_true rfl) ?_
  intro p e R s m args below meth c Qm ls hR1 hR2 S RT hl G
  have hx := S.1
  have hb := S.2.1
  have hl : lv_has ls 5 [(0, .ref (ad 0)), (1, .long a1), (3, .long a3)] := hl
  unfold p_M_tells at hw
  refine lv_aload_n hx hb dX10_tells_0 rfl (lv_at hl 0 rfl) ?_
  refine lv_iconst (v := 2) hx hb dX10_tells_1 (by decide) ?_
  refine lv_lload_n hx hb dX10_tells_2 rfl (lv_at hl 1 rfl) ?_
  refine lv_lconst (v := 0) hx hb dX10_tells_3 (by decide) ?_
  refine W.lcmp hx hb dX10_tells_4 ?_
  have hw := hw (fun (t2_14 : Int64) => ∀ (ls : Array Slot) (H : Heap) (locs : List Loc), lv_has ls 5 [(0, .ref (ad 0)), (1, .long a1), (3, .long a3)] → okW D q A s (wM q ad h) H locs → W p l e R s m args below meth c H locs 0 0 Qm (F0 m 14 ls [.long t2_14, .int 2, .ref (ad 0)])) (by
    intro t2_14 hw ls H locs hl G
    refine x_Vv S hl.1 G (c_M_set l D q A ad 2 t2_14 h _ hw) (cw_X10_51 S.2.2.2.2 ⟨Nat.le_trans (Nat.le_of_ble_eq_true rfl) hR1, Nat.le_trans (Nat.le_of_ble_eq_true rfl) hR2⟩) (me_11 km_0) rfl rfl rfl (Nat.le_of_ble_eq_true rfl) dX10_tells_14 (fun h_14 H locs G hw => ?_)
    refine lv_aload_n hx hb dX10_tells_17 rfl (lv_at hl 0 rfl) ?_
    refine lv_iconst (v := 3) hx hb dX10_tells_18 (by decide) ?_
    refine lv_lload_n hx hb dX10_tells_19 rfl (lv_at hl 2 rfl) ?_
    refine x_Vv S hl.1 G (c_M_set l D q A ad 3 a3 h_14 _ hw) (cw_X10_51 S.2.2.2.2 ⟨Nat.le_trans (Nat.le_of_ble_eq_true rfl) hR1, Nat.le_trans (Nat.le_of_ble_eq_true rfl) hR2⟩) (me_11 km_0) rfl rfl rfl (Nat.le_of_ble_eq_true rfl) dX10_tells_20 (fun h_20 H locs G hw => ?_)
    refine lv_aload_n hx hb dX10_tells_23 rfl (lv_at hl 0 rfl) ?_
    refine lv_iconst (v := 2) hx hb dX10_tells_24 (by decide) ?_
    refine lv_iconst (v := 3) hx hb dX10_tells_25 (by decide) ?_
    refine lv_lload_n hx hb dX10_tells_26 rfl (lv_at hl 1 rfl) ?_
    refine lv_lconst (v := 0) hx hb dX10_tells_27 (by decide) ?_
    refine W.lcmp hx hb dX10_tells_28 ?_
    have hw := hw (fun (t3_37 : Int32) => ∀ (ls : Array Slot) (H : Heap) (locs : List Loc), lv_has ls 5 [] → okW D q A s (wM q ad h_20) H locs → W p l e R s m args below meth c H locs 0 0 Qm (F0 m 37 ls [.int t3_37, .int 3, .int 2, .ref (ad 0)])) (by
      intro t3_37 hw ls H locs hl G
      refine x_Vv S hl.1 G (c_M_tell l D q A ad 2 3 t3_37 h_20 _ hw) (cw_X10_97 S.2.2.2.2 ⟨Nat.le_trans (Nat.le_of_ble_eq_true rfl) hR1, Nat.le_trans (Nat.le_of_ble_eq_true rfl) hR2⟩) (me_11 km_0) rfl rfl rfl (Nat.le_of_ble_eq_true rfl) dX10_tells_37 (fun h_37 H locs G hw => ?_)
      refine lv_iconst (v := 1) hx hb dX10_tells_40 (by decide) ?_
      exact RT _ _ _ _ _ _ G hw dX10_tells_41)
    refine lv_if_ge (tgt := 36) hx hb dX10_tells_29 (by decide) (fun c_29 => ?_) (fun c_29 => ?_)
    · have hw := hw.1 c_29
      refine lv_iconst (v := 0) hx hb dX10_tells_36 (by decide) ?_
      exact hw _ _ _ (lv_sub hl [] rfl) G
    · have hw := hw.2 c_29
      refine lv_iconst (v := 1) hx hb dX10_tells_32 (by decide) ?_
      refine lv_goto (tgt := 37) hx hb dX10_tells_33 (by decide) ?_
      exact hw _ _ _ (lv_sub hl [] rfl) G)
  refine lv_if_ge (tgt := 13) hx hb dX10_tells_5 (by decide) (fun c_5 => ?_) (fun c_5 => ?_)
  · have hw := hw.1 c_5
    refine lv_lload_n hx hb dX10_tells_13 rfl (lv_at hl 1 rfl) ?_
    exact hw _ _ _ (lv_sub hl [0, 1, 2] rfl) G
  · have hw := hw.2 c_5
    refine lv_lload_n hx hb dX10_tells_8 rfl (lv_at hl 1 rfl) ?_
    refine lv_lneg hx hb dX10_tells_9 ?_
    refine lv_goto (tgt := 14) hx hb dX10_tells_10 (by decide) ?_
    exact hw _ _ _ (lv_sub hl [0, 1, 2] rfl) G
theorem cw_X10_312 {R : Room} {s : State} {args : Array Value} (hts : ∀ w ∈ gW, w.before args s = true) (hR : rm_M_tells.frames + 1 ≤ R.frames ∧ 8 + (5 + 11) + rm_M_tells.locals ≤ R.locals) : CallW R s args RX10 RX10 312 yX10_tells cX10_tells 5 (some .int) (mw yX10_tells cX10_tells 5 (some .int)) rm_M_tells 0 0 2 := cwV9 hts km_X10_312 ki_X10_tells ks_X10_tells kn_X10 kk_X10_tells rfl rfl (by decide +kernel) hR
abbrev rm_M_places : Room := { frames := 0, cells := 0, slots := 0, locals := 0 }
set_option maxHeartbeats 4000000 in
set_option maxRecDepth 100000 in
theorem c_M_places (l : Launch) (D : va_G) (q : Nat → ClassId) (A : Nat → Prop) (ad : Nat → Nat) (h : Hs) (Q : Int32 → Prop) (hw : p_M_places h Q) : Met l yX10_places (mw yX10_places cX10_places 1 (some .int)) rm_M_places (va_Pc [.ref (ad 0)] (pW D q A (wM q ad h))) (va_Qi (fun r h9 => h9 = h ∧ Q r) (fun h t => pW D q A (wM q ad h) t) A) 0 0 A := by
  refine met_i (Qp := (fun r h9 => h9 = h ∧ Q r)) (by decide) (Nat.le_of_ble_eq_true rfl) ?_
  intro p e R s m args below meth c Qm ls hR1 hR2 S RT hl G
  have hx := S.1
  have hb := S.2.1
  have hl : lv_has ls 1 [(0, .ref (ad 0))] := hl
  unfold p_M_places at hw
  refine lv_aload_n hx hb dX10_places_0 rfl (lv_at hl 0 rfl) ?_
  refine x_get (C := RX10) (T := TX10) (n := 21) S G inX10 (me_11 km_0) rfl 0 (by decide) kf_X10_7 rfl dX10_places_1 ?_
  refine lv_sipush (v := 671) hx hb dX10_places_4 (by decide) ?_
  refine x_iald (k := 671) S G (me_20 km_1 lm_1) (vpi (by decide)) rfl rfl dX10_places_7 ?_
  exact RT _ _ _ _ _ _ G ⟨rfl, hw⟩ dX10_places_8
theorem cw_X10_101 {R : Room} {s : State} {args : Array Value} (hts : ∀ w ∈ gW, w.before args s = true) (hR : rm_M_places.frames + 1 ≤ R.frames ∧ 8 + (1 + 11) + rm_M_places.locals ≤ R.locals) : CallW R s args RX10 RX10 101 yX10_places cX10_places 1 (some .int) (mw yX10_places cX10_places 1 (some .int)) rm_M_places 0 0 0 := cwV9 hts km_X10_101 ki_X10_places ks_X10_places kn_X10 kk_X10_places rfl rfl (by decide +kernel) hR
abbrev rm_M_lots : Room := { frames := 0, cells := 0, slots := 0, locals := 0 }
set_option maxHeartbeats 4000000 in
set_option maxRecDepth 100000 in
theorem c_M_lots (l : Launch) (D : va_G) (q : Nat → ClassId) (A : Nat → Prop) (ad : Nat → Nat) (h : Hs) (Q : Int32 → Prop) (hw : p_M_lots h Q) : Met l yX10_lots (mw yX10_lots cX10_lots 1 (some .int)) rm_M_lots (va_Pc [.ref (ad 0)] (pW D q A (wM q ad h))) (va_Qi (fun r h9 => h9 = h ∧ Q r) (fun h t => pW D q A (wM q ad h) t) A) 0 0 A := by
  refine met_i (Qp := (fun r h9 => h9 = h ∧ Q r)) (by decide) (Nat.le_of_ble_eq_true rfl) ?_
  intro p e R s m args below meth c Qm ls hR1 hR2 S RT hl G
  have hx := S.1
  have hb := S.2.1
  have hl : lv_has ls 1 [(0, .ref (ad 0))] := hl
  unfold p_M_lots at hw
  refine lv_aload_n hx hb dX10_lots_0 rfl (lv_at hl 0 rfl) ?_
  refine x_get (C := RX10) (T := TX10) (n := 21) S G inX10 (me_11 km_0) rfl 0 (by decide) kf_X10_7 rfl dX10_lots_1 ?_
  refine lv_sipush (v := 672) hx hb dX10_lots_4 (by decide) ?_
  refine x_iald (k := 672) S G (me_20 km_1 lm_1) (vpi (by decide)) rfl rfl dX10_lots_7 ?_
  exact RT _ _ _ _ _ _ G ⟨rfl, hw⟩ dX10_lots_8
theorem cw_X10_109 {R : Room} {s : State} {args : Array Value} (hts : ∀ w ∈ gW, w.before args s = true) (hR : rm_M_lots.frames + 1 ≤ R.frames ∧ 8 + (1 + 11) + rm_M_lots.locals ≤ R.locals) : CallW R s args RX10 RX10 109 yX10_lots cX10_lots 1 (some .int) (mw yX10_lots cX10_lots 1 (some .int)) rm_M_lots 0 0 0 := cwV9 hts km_X10_109 ki_X10_lots ks_X10_lots kn_X10 kk_X10_lots rfl rfl (by decide +kernel) hR
abbrev rm_M_signs : Room := { frames := 0, cells := 0, slots := 0, locals := 0 }
set_option maxHeartbeats 4000000 in
set_option maxRecDepth 100000 in
theorem c_M_signs (l : Launch) (D : va_G) (q : Nat → ClassId) (A : Nat → Prop) (ad : Nat → Nat) (h : Hs) (Q : Int32 → Prop) (hw : p_M_signs h Q) : Met l yX10_signs (mw yX10_signs cX10_signs 1 (some .int)) rm_M_signs (va_Pc [.ref (ad 0)] (pW D q A (wM q ad h))) (va_Qi (fun r h9 => h9 = h ∧ Q r) (fun h t => pW D q A (wM q ad h) t) A) 0 0 A := by
  refine met_i (Qp := (fun r h9 => h9 = h ∧ Q r)) (by decide) (Nat.le_of_ble_eq_true rfl) ?_
  intro p e R s m args below meth c Qm ls hR1 hR2 S RT hl G
  have hx := S.1
  have hb := S.2.1
  have hl : lv_has ls 1 [(0, .ref (ad 0))] := hl
  unfold p_M_signs at hw
  refine lv_aload_n hx hb dX10_signs_0 rfl (lv_at hl 0 rfl) ?_
  refine x_get (C := RX10) (T := TX10) (n := 21) S G inX10 (me_11 km_0) rfl 0 (by decide) kf_X10_7 rfl dX10_signs_1 ?_
  refine lv_sipush (v := 673) hx hb dX10_signs_4 (by decide) ?_
  refine x_iald (k := 673) S G (me_20 km_1 lm_1) (vpi (by decide)) rfl rfl dX10_signs_7 ?_
  exact RT _ _ _ _ _ _ G ⟨rfl, hw⟩ dX10_signs_8
theorem cw_X10_215 {R : Room} {s : State} {args : Array Value} (hts : ∀ w ∈ gW, w.before args s = true) (hR : rm_M_signs.frames + 1 ≤ R.frames ∧ 8 + (1 + 11) + rm_M_signs.locals ≤ R.locals) : CallW R s args RX10 RX10 215 yX10_signs cX10_signs 1 (some .int) (mw yX10_signs cX10_signs 1 (some .int)) rm_M_signs 0 0 0 := cwV9 hts km_X10_215 ki_X10_signs ks_X10_signs kn_X10 kk_X10_signs rfl rfl (by decide +kernel) hR
abbrev rm_M_tellers : Room := { frames := 0, cells := 0, slots := 0, locals := 0 }
set_option maxHeartbeats 4000000 in
set_option maxRecDepth 100000 in
theorem c_M_tellers (l : Launch) (D : va_G) (q : Nat → ClassId) (A : Nat → Prop) (ad : Nat → Nat) (h : Hs) (Q : Int32 → Prop) (hw : p_M_tellers h Q) : Met l yX10_tellers (mw yX10_tellers cX10_tellers 1 (some .int)) rm_M_tellers (va_Pc [.ref (ad 0)] (pW D q A (wM q ad h))) (va_Qi (fun r h9 => h9 = h ∧ Q r) (fun h t => pW D q A (wM q ad h) t) A) 0 0 A := by
  refine met_i (Qp := (fun r h9 => h9 = h ∧ Q r)) (by decide) (Nat.le_of_ble_eq_true rfl) ?_
  intro p e R s m args below meth c Qm ls hR1 hR2 S RT hl G
  have hx := S.1
  have hb := S.2.1
  have hl : lv_has ls 1 [(0, .ref (ad 0))] := hl
  unfold p_M_tellers at hw
  refine lv_aload_n hx hb dX10_tellers_0 rfl (lv_at hl 0 rfl) ?_
  refine x_get (C := RX10) (T := TX10) (n := 21) S G inX10 (me_11 km_0) rfl 0 (by decide) kf_X10_7 rfl dX10_tellers_1 ?_
  refine lv_sipush (v := 674) hx hb dX10_tellers_4 (by decide) ?_
  refine x_iald (k := 674) S G (me_20 km_1 lm_1) (vpi (by decide)) rfl rfl dX10_tellers_7 ?_
  exact RT _ _ _ _ _ _ G ⟨rfl, hw⟩ dX10_tellers_8
theorem cw_X10_229 {R : Room} {s : State} {args : Array Value} (hts : ∀ w ∈ gW, w.before args s = true) (hR : rm_M_tellers.frames + 1 ≤ R.frames ∧ 8 + (1 + 11) + rm_M_tellers.locals ≤ R.locals) : CallW R s args RX10 RX10 229 yX10_tellers cX10_tellers 1 (some .int) (mw yX10_tellers cX10_tellers 1 (some .int)) rm_M_tellers 0 0 0 := cwV9 hts km_X10_229 ki_X10_tellers ks_X10_tellers kn_X10 kk_X10_tellers rfl rfl (by decide +kernel) hR
abbrev rm_M_isPlace : Room := { frames := 1, cells := 0, slots := 0, locals := 25 }
set_option maxHeartbeats 4000000 in
set_option maxRecDepth 100000 in
theorem c_M_isPlace (l : Launch) (D : va_G) (q : Nat → ClassId) (A : Nat → Prop) (ad : Nat → Nat) (a1 : Int32) (h : Hs) (Q : Int32 → Prop) (hw : p_M_isPlace a1 h Q) : Met l yX10_isPlace (mw yX10_isPlace cX10_isPlace 2 (some .boolean)) rm_M_isPlace (va_Pc [.ref (ad 0), .int a1] (pW D q A (wM q ad h))) (va_Qi (fun r h9 => zb r ∧ h9 = h ∧ Q r) (fun h t => pW D q A (wM q ad h) t) A) 0 0 A := by
  refine met_z (Qp := (fun r h9 => h9 = h ∧ Q r)) (by decide) (Nat.le_of_ble_eq_true rfl) ?_
  intro p e R s m args below meth c Qm ls hR1 hR2 S RT hl G
  have hx := S.1
  have hb := S.2.1
  have hl : lv_has ls 2 [(0, .ref (ad 0)), (1, .int a1)] := hl
  unfold p_M_isPlace at hw
  refine lv_iload_n hx hb dX10_isPlace_0 rfl (lv_at hl 1 rfl) ?_
  refine lv_i2l hx hb dX10_isPlace_1 rfl ?_
  refine lv_lconst (v := 0) hx hb dX10_isPlace_2 (by decide) ?_
  refine lv_aload_n hx hb dX10_isPlace_3 rfl (lv_at hl 0 rfl) ?_
  refine x_ViP S hl.1 G (c_M_places l D q A ad h _ hw) (cw_X10_101 S.2.2.2.2 ⟨Nat.le_trans (Nat.le_of_ble_eq_true rfl) hR1, Nat.le_trans (Nat.le_of_ble_eq_true rfl) hR2⟩) (me_11 km_0) rfl rfl rfl (Nat.le_of_ble_eq_true rfl) dX10_isPlace_4 (fun r_4 H locs G hw => ?_)
  refine lv_iconst (v := 1) hx hb dX10_isPlace_7 (by decide) ?_
  refine lv_isub hx hb dX10_isPlace_8 ?_
  refine lv_i2l hx hb dX10_isPlace_9 rfl ?_
  refine x_SzP S hl.1 G (c_M_in l D q A ad a1.toInt64 0 ((r_4 - 1).toInt64) h _ hw) (cw_X10_105 S.2.2.2.2 ⟨Nat.le_trans (Nat.le_of_ble_eq_true rfl) hR1, Nat.le_trans (Nat.le_of_ble_eq_true rfl) hR2⟩) rfl rfl (Nat.le_of_ble_eq_true rfl) dX10_isPlace_10 (fun r_10 H locs G z_10 hw => ?_)
  exact RT _ _ _ _ _ _ G z_10 ⟨rfl, hw⟩ dX10_isPlace_13
theorem cw_X10_194 {R : Room} {s : State} {args : Array Value} (hts : ∀ w ∈ gW, w.before args s = true) (hR : rm_M_isPlace.frames + 1 ≤ R.frames ∧ 8 + (2 + 11) + rm_M_isPlace.locals ≤ R.locals) : CallW R s args RX10 RX10 194 yX10_isPlace cX10_isPlace 2 (some .boolean) (mw yX10_isPlace cX10_isPlace 2 (some .boolean)) rm_M_isPlace 0 0 1 := cwV9 hts km_X10_194 ki_X10_isPlace ks_X10_isPlace kn_X10 kk_X10_isPlace rfl rfl (by decide +kernel) hR
abbrev rm_M_isLot : Room := { frames := 1, cells := 0, slots := 0, locals := 25 }
set_option maxHeartbeats 4000000 in
set_option maxRecDepth 100000 in
theorem c_M_isLot (l : Launch) (D : va_G) (q : Nat → ClassId) (A : Nat → Prop) (ad : Nat → Nat) (a1 : Int32) (h : Hs) (Q : Int32 → Prop) (hw : p_M_isLot a1 h Q) : Met l yX10_isLot (mw yX10_isLot cX10_isLot 2 (some .boolean)) rm_M_isLot (va_Pc [.ref (ad 0), .int a1] (pW D q A (wM q ad h))) (va_Qi (fun r h9 => zb r ∧ h9 = h ∧ Q r) (fun h t => pW D q A (wM q ad h) t) A) 0 0 A := by
  refine met_z (Qp := (fun r h9 => h9 = h ∧ Q r)) (by decide) (Nat.le_of_ble_eq_true rfl) ?_
  intro p e R s m args below meth c Qm ls hR1 hR2 S RT hl G
  have hx := S.1
  have hb := S.2.1
  have hl : lv_has ls 2 [(0, .ref (ad 0)), (1, .int a1)] := hl
  unfold p_M_isLot at hw
  refine lv_iload_n hx hb dX10_isLot_0 rfl (lv_at hl 1 rfl) ?_
  refine lv_i2l hx hb dX10_isLot_1 rfl ?_
  refine lv_lconst (v := 0) hx hb dX10_isLot_2 (by decide) ?_
  refine lv_aload_n hx hb dX10_isLot_3 rfl (lv_at hl 0 rfl) ?_
  refine x_ViP S hl.1 G (c_M_lots l D q A ad h _ hw) (cw_X10_109 S.2.2.2.2 ⟨Nat.le_trans (Nat.le_of_ble_eq_true rfl) hR1, Nat.le_trans (Nat.le_of_ble_eq_true rfl) hR2⟩) (me_11 km_0) rfl rfl rfl (Nat.le_of_ble_eq_true rfl) dX10_isLot_4 (fun r_4 H locs G hw => ?_)
  refine lv_iconst (v := 1) hx hb dX10_isLot_7 (by decide) ?_
  refine lv_isub hx hb dX10_isLot_8 ?_
  refine lv_i2l hx hb dX10_isLot_9 rfl ?_
  refine x_SzP S hl.1 G (c_M_in l D q A ad a1.toInt64 0 ((r_4 - 1).toInt64) h _ hw) (cw_X10_105 S.2.2.2.2 ⟨Nat.le_trans (Nat.le_of_ble_eq_true rfl) hR1, Nat.le_trans (Nat.le_of_ble_eq_true rfl) hR2⟩) rfl rfl (Nat.le_of_ble_eq_true rfl) dX10_isLot_10 (fun r_10 H locs G z_10 hw => ?_)
  exact RT _ _ _ _ _ _ G z_10 ⟨rfl, hw⟩ dX10_isLot_13
theorem cw_X10_220 {R : Room} {s : State} {args : Array Value} (hts : ∀ w ∈ gW, w.before args s = true) (hR : rm_M_isLot.frames + 1 ≤ R.frames ∧ 8 + (2 + 11) + rm_M_isLot.locals ≤ R.locals) : CallW R s args RX10 RX10 220 yX10_isLot cX10_isLot 2 (some .boolean) (mw yX10_isLot cX10_isLot 2 (some .boolean)) rm_M_isLot 0 0 1 := cwV9 hts km_X10_220 ki_X10_isLot ks_X10_isLot kn_X10 kk_X10_isLot rfl rfl (by decide +kernel) hR
abbrev rm_M_isFour : Room := { frames := 1, cells := 0, slots := 0, locals := 25 }
set_option maxHeartbeats 4000000 in
set_option maxRecDepth 100000 in
theorem c_M_isFour (l : Launch) (D : va_G) (q : Nat → ClassId) (A : Nat → Prop) (ad : Nat → Nat) (a0 : Int32) (h : Hs) (Q : Int32 → Prop) (hw : p_M_isFour a0 h Q) : Met l yX10_isFour (mw yX10_isFour cX10_isFour 1 (some .boolean)) rm_M_isFour (va_Pc [.int a0] (pW D q A (wM q ad h))) (va_Qi (fun r h9 => zb r ∧ h9 = h ∧ Q r) (fun h t => pW D q A (wM q ad h) t) A) 0 0 A := by
  refine met_z (Qp := (fun r h9 => h9 = h ∧ Q r)) (by decide) (Nat.le_of_ble_eq_true rfl) ?_
  intro p e R s m args below meth c Qm ls hR1 hR2 S RT hl G
  have hx := S.1
  have hb := S.2.1
  have hl : lv_has ls 1 [(0, .int a0)] := hl
  unfold p_M_isFour at hw
  refine lv_iload_n hx hb dX10_isFour_0 rfl (lv_at hl 0 rfl) ?_
  refine lv_i2l hx hb dX10_isFour_1 rfl ?_
  refine lv_lconst (v := 0) hx hb dX10_isFour_2 (by decide) ?_
  refine lv_ldc2 (v := 3) hx hb S.2.2.2.1 (S.2.2.2.2 _ kl_X10_112) dX10_isFour_3 ?_
  refine x_SzP S hl.1 G (c_M_in l D q A ad a0.toInt64 0 3 h _ hw) (cw_X10_105 S.2.2.2.2 ⟨Nat.le_trans (Nat.le_of_ble_eq_true rfl) hR1, Nat.le_trans (Nat.le_of_ble_eq_true rfl) hR2⟩) rfl rfl (Nat.le_of_ble_eq_true rfl) dX10_isFour_6 (fun r_6 H locs G z_6 hw => ?_)
  exact RT _ _ _ _ _ _ G z_6 ⟨rfl, hw⟩ dX10_isFour_9
theorem cw_X10_129 {R : Room} {s : State} {args : Array Value} (hts : ∀ w ∈ gW, w.before args s = true) (hR : rm_M_isFour.frames + 1 ≤ R.frames ∧ 8 + (1 + 11) + rm_M_isFour.locals ≤ R.locals) : CallB R s args RX10 129 yX10_isFour cX10_isFour 1 (some .boolean) (mw yX10_isFour cX10_isFour 1 (some .boolean)) rm_M_isFour 0 0 1 ∧ (Cond.static yX10_isFour).before args s = true := cwS9 hts km_X10_129 kt_X10_isFour kn_X10 kk_X10_isFour rfl rfl (by decide +kernel) hR
abbrev rm_M_isMonth : Room := { frames := 1, cells := 0, slots := 0, locals := 25 }
set_option maxHeartbeats 4000000 in
set_option maxRecDepth 100000 in
theorem c_M_isMonth (l : Launch) (D : va_G) (q : Nat → ClassId) (A : Nat → Prop) (ad : Nat → Nat) (a0 : Int32) (h : Hs) (Q : Int32 → Prop) (hw : p_M_isMonth a0 h Q) : Met l yX10_isMonth (mw yX10_isMonth cX10_isMonth 1 (some .boolean)) rm_M_isMonth (va_Pc [.int a0] (pW D q A (wM q ad h))) (va_Qi (fun r h9 => zb r ∧ h9 = h ∧ Q r) (fun h t => pW D q A (wM q ad h) t) A) 0 0 A := by
  refine met_z (Qp := (fun r h9 => h9 = h ∧ Q r)) (by decide) (Nat.le_of_ble_eq_true rfl) ?_
  intro p e R s m args below meth c Qm ls hR1 hR2 S RT hl G
  have hx := S.1
  have hb := S.2.1
  have hl : lv_has ls 1 [(0, .int a0)] := hl
  unfold p_M_isMonth at hw
  refine lv_iload_n hx hb dX10_isMonth_0 rfl (lv_at hl 0 rfl) ?_
  refine lv_i2l hx hb dX10_isMonth_1 rfl ?_
  refine lv_lconst (v := 0) hx hb dX10_isMonth_2 (by decide) ?_
  refine lv_ldc2 (v := 119) hx hb S.2.2.2.1 (S.2.2.2.2 _ kl_X10_114) dX10_isMonth_3 ?_
  refine x_SzP S hl.1 G (c_M_in l D q A ad a0.toInt64 0 119 h _ hw) (cw_X10_105 S.2.2.2.2 ⟨Nat.le_trans (Nat.le_of_ble_eq_true rfl) hR1, Nat.le_trans (Nat.le_of_ble_eq_true rfl) hR2⟩) rfl rfl (Nat.le_of_ble_eq_true rfl) dX10_isMonth_6 (fun r_6 H locs G z_6 hw => ?_)
  exact RT _ _ _ _ _ _ G z_6 ⟨rfl, hw⟩ dX10_isMonth_9
theorem cw_X10_223 {R : Room} {s : State} {args : Array Value} (hts : ∀ w ∈ gW, w.before args s = true) (hR : rm_M_isMonth.frames + 1 ≤ R.frames ∧ 8 + (1 + 11) + rm_M_isMonth.locals ≤ R.locals) : CallB R s args RX10 223 yX10_isMonth cX10_isMonth 1 (some .boolean) (mw yX10_isMonth cX10_isMonth 1 (some .boolean)) rm_M_isMonth 0 0 1 ∧ (Cond.static yX10_isMonth).before args s = true := cwS9 hts km_X10_223 kt_X10_isMonth kn_X10 kk_X10_isMonth rfl rfl (by decide +kernel) hR
abbrev rm_M_place : Room := { frames := 1, cells := 0, slots := 0, locals := 25 }
set_option maxHeartbeats 4000000 in
set_option maxRecDepth 100000 in
theorem c_M_place (l : Launch) (D : va_G) (q : Nat → ClassId) (A : Nat → Prop) (ad : Nat → Nat) (a1 : Int32) (h : Hs) (Q : Int32 → Hs → Prop) (hw : p_M_place a1 h Q) : Met l yX10_place (mw yX10_place cX10_place 4 (some .int)) rm_M_place (va_Pc [.ref (ad 0), .int a1] (pW D q A (wM q ad h))) (va_Qi Q (fun h t => pW D q A (wM q ad h) t) A) 0 0 A := by
  refine met_i (Qp := Q) (by decide) (Nat.le_of_ble_eq_true rfl) ?_
  intro p e R s m args below meth c Qm ls hR1 hR2 S RT hl G
  have hx := S.1
  have hb := S.2.1
  have hl : lv_has ls 4 [(0, .ref (ad 0)), (1, .int a1)] := hl
  unfold p_M_place at hw
  refine lv_iload_n hx hb dX10_place_0 rfl (lv_at hl 1 rfl) ?_
  refine lv_i2l hx hb dX10_place_1 rfl ?_
  refine lv_lconst (v := 0) hx hb dX10_place_2 (by decide) ?_
  refine lv_ldc2 (v := 200) hx hb S.2.2.2.1 (S.2.2.2.2 _ kl_X10_116) dX10_place_3 ?_
  refine x_SzP S hl.1 G (c_M_in l D q A ad a1.toInt64 0 200 h _ hw) (cw_X10_105 S.2.2.2.2 ⟨Nat.le_trans (Nat.le_of_ble_eq_true rfl) hR1, Nat.le_trans (Nat.le_of_ble_eq_true rfl) hR2⟩) rfl rfl (Nat.le_of_ble_eq_true rfl) dX10_place_6 (fun r_6 H locs G z_6 hw => ?_)
  refine lv_if_ne (tgt := 19) hx hb dX10_place_9 (by decide) (fun c_9 => ?_) (fun c_9 => ?_)
  · have hw := hw.1 c_9
    refine lv_aload_n hx hb dX10_place_19 rfl (lv_at hl 0 rfl) ?_
    refine x_ViP S hl.1 G (c_M_places l D q A ad h _ hw) (cw_X10_101 S.2.2.2.2 ⟨Nat.le_trans (Nat.le_of_ble_eq_true rfl) hR1, Nat.le_trans (Nat.le_of_ble_eq_true rfl) hR2⟩) (me_11 km_0) rfl rfl rfl (Nat.le_of_ble_eq_true rfl) dX10_place_20 (fun r_20 H locs G hw => ?_)
    refine lv_istore_n (lv' := [(2, .int r_20), (0, .ref (ad 0)), (1, .int a1)]) hx hb dX10_place_23 rfl hl (by decide) rfl (fun ls hl => ?_)
    refine lv_iload_n hx hb dX10_place_24 rfl (lv_at hl 0 rfl) ?_
    refine lv_bipush (v := 6) hx hb dX10_place_25 (by decide) ?_
    refine lv_icmp_ne (tgt := 35) hx hb dX10_place_27 (by decide) (fun c_27 => ?_) (fun c_27 => ?_)
    · have hw := hw.1 c_27
      refine lv_aload_n hx hb dX10_place_35 rfl (lv_at hl 1 rfl) ?_
      refine x_get (C := RX10) (T := TX10) (n := 21) S G inX10 (me_11 km_0) rfl 0 (by decide) kf_X10_7 rfl dX10_place_36 ?_
      refine lv_iconst (v := 0) hx hb dX10_place_39 (by decide) ?_
      refine lv_iload_n hx hb dX10_place_40 rfl (lv_at hl 0 rfl) ?_
      refine lv_iadd hx hb dX10_place_41 ?_
      refine lv_iload_n hx hb dX10_place_42 rfl (lv_at hl 2 rfl) ?_
      obtain ⟨i_43, hw⟩ := hw
      refine x_iast (k := (0 + r_20).toNatClampNeg) S G (me_20 km_1 lm_1) i_43 rfl (ms_20 km_1 lm_1) dX10_place_43 (fun H locs G => ?_)
      obtain ⟨h_43, eh_43⟩ : ∃ y : Hs, y = si h 1 ((0 + r_20).toNatClampNeg) a1 := ⟨_, rfl⟩
      rw [← eh_43] at G
      have hw := hw h_43 eh_43
      refine lv_iconst (v := 0) hx hb dX10_place_44 (by decide) ?_
      refine lv_istore_n (lv' := [(3, .int 0), (2, .int r_20), (0, .ref (ad 0)), (1, .int a1)]) hx hb dX10_place_45 rfl hl (by decide) rfl (fun ls hl => ?_)
      have hw := hw (fun (b3_46 : Int32) (g_46 : Hs) => ∀ (ls : Array Slot) (H : Heap) (locs : List Loc), lv_has ls 4 [(0, .ref (ad 0)), (2, .int r_20), (3, .int b3_46)] → okW D q A s (wM q ad g_46) H locs → W p l e R s m args below meth c H locs 0 0 Qm (F0 m 46 ls [])) (by
        intro b3_46 g_46 hw ls H locs hl G
        refine lv_iload_n hx hb dX10_place_46 rfl (lv_at hl 2 rfl) ?_
        refine lv_bipush (v := 6) hx hb dX10_place_47 (by decide) ?_
        refine lv_icmp_ge (tgt := 90) hx hb dX10_place_49 (by decide) (fun c_49 => ?_) (fun c_49 => ?_)
        · have hw := hw.1 c_49
          refine lv_aload_n hx hb dX10_place_90 rfl (lv_at hl 0 rfl) ?_
          refine x_get (C := RX10) (T := TX10) (n := 21) S G inX10 (me_11 km_0) rfl 0 (by decide) kf_X10_7 rfl dX10_place_91 ?_
          refine lv_sipush (v := 671) hx hb dX10_place_94 (by decide) ?_
          refine lv_dup2_11 hx hb dX10_place_97 rfl rfl ?_
          refine x_iald (k := 671) S G (me_20 km_1 lm_1) (vpi (by decide)) rfl rfl dX10_place_98 ?_
          refine lv_iconst (v := 1) hx hb dX10_place_99 (by decide) ?_
          refine lv_iadd hx hb dX10_place_100 ?_
          refine x_iast (k := 671) S G (me_20 km_1 lm_1) (vpi (by decide)) rfl (ms_20 km_1 lm_1) dX10_place_101 (fun H locs G => ?_)
          obtain ⟨h_101, eh_101⟩ : ∃ y : Hs, y = si g_46 1 671 ((gi g_46 1 671) + 1) := ⟨_, rfl⟩
          rw [← eh_101] at G
          have hw := hw h_101 eh_101
          refine lv_iload_n hx hb dX10_place_102 rfl (lv_at hl 1 rfl) ?_
          exact RT _ _ _ _ _ _ G hw dX10_place_103
        · have hw := hw.2 c_49
          refine lv_aload_n hx hb dX10_place_52 rfl (lv_at hl 0 rfl) ?_
          refine x_get (C := RX10) (T := TX10) (n := 21) S G inX10 (me_11 km_0) rfl 0 (by decide) kf_X10_7 rfl dX10_place_53 ?_
          refine lv_sipush (v := 575) hx hb dX10_place_56 (by decide) ?_
          refine lv_bipush (v := 6) hx hb dX10_place_59 (by decide) ?_
          refine lv_iload_n hx hb dX10_place_61 rfl (lv_at hl 1 rfl) ?_
          refine lv_imul hx hb dX10_place_62 ?_
          refine lv_iadd hx hb dX10_place_63 ?_
          refine lv_iload_n hx hb dX10_place_64 rfl (lv_at hl 2 rfl) ?_
          refine lv_iadd hx hb dX10_place_65 ?_
          refine lv_iconst (v := 0) hx hb dX10_place_66 (by decide) ?_
          obtain ⟨i_67, hw⟩ := hw
          refine x_iast (k := ((575 + (6 * r_20)) + b3_46).toNatClampNeg) S G (me_20 km_1 lm_1) i_67 rfl (ms_20 km_1 lm_1) dX10_place_67 (fun H locs G => ?_)
          obtain ⟨h_67, eh_67⟩ : ∃ y : Hs, y = si g_46 1 (((575 + (6 * r_20)) + b3_46).toNatClampNeg) 0 := ⟨_, rfl⟩
          rw [← eh_67] at G
          have hw := hw h_67 eh_67
          refine lv_aload_n hx hb dX10_place_68 rfl (lv_at hl 0 rfl) ?_
          refine x_get (C := RX10) (T := TX10) (n := 21) S G inX10 (me_11 km_0) rfl 0 (by decide) kf_X10_7 rfl dX10_place_69 ?_
          refine lv_sipush (v := 575) hx hb dX10_place_72 (by decide) ?_
          refine lv_bipush (v := 6) hx hb dX10_place_75 (by decide) ?_
          refine lv_iload_n hx hb dX10_place_77 rfl (lv_at hl 2 rfl) ?_
          refine lv_imul hx hb dX10_place_78 ?_
          refine lv_iadd hx hb dX10_place_79 ?_
          refine lv_iload_n hx hb dX10_place_80 rfl (lv_at hl 1 rfl) ?_
          refine lv_iadd hx hb dX10_place_81 ?_
          refine lv_iconst (v := 0) hx hb dX10_place_82 (by decide) ?_
          obtain ⟨i_83, hw⟩ := hw
          refine x_iast (k := ((575 + (6 * b3_46)) + r_20).toNatClampNeg) S G (me_20 km_1 lm_1) i_83 rfl (ms_20 km_1 lm_1) dX10_place_83 (fun H locs G => ?_)
          obtain ⟨h_83, eh_83⟩ : ∃ y : Hs, y = si h_67 1 (((575 + (6 * b3_46)) + r_20).toNatClampNeg) 0 := ⟨_, rfl⟩
          rw [← eh_83] at G
          have hw := hw h_83 eh_83
          obtain ⟨a3_84, ea3_84⟩ : ∃ y : Int32, y = b3_46 + 1 := ⟨_, rfl⟩
          have hw := hw a3_84 ea3_84
          refine lv_iinc (v := a3_84) (lv' := [(3, .int a3_84), (0, .ref (ad 0)), (2, .int r_20)]) hx hb dX10_place_84 hl (k := 2) rfl (by rw [ea3_84]; rfl) (by decide) rfl (fun ls hl => ?_)
          refine lv_goto (tgt := 46) hx hb dX10_place_87 (by decide) ?_
          exact hw _ _ _ (lv_sub hl [1, 2, 0] rfl) G)
      exact hw _ _ _ (lv_sub hl [2, 1, 0] rfl) G
    · have hw := hw.2 c_27
      refine lv_aload_n hx hb dX10_place_30 rfl (lv_at hl 1 rfl) ?_
      refine x_Vi S hl.1 G (c_M_full l D q A ad h _ hw) (cw_X10_122 S.2.2.2.2 ⟨Nat.le_trans (Nat.le_of_ble_eq_true rfl) hR1, Nat.le_trans (Nat.le_of_ble_eq_true rfl) hR2⟩) (me_11 km_0) rfl rfl rfl (Nat.le_of_ble_eq_true rfl) dX10_place_31 (fun r_31 h_31 H locs G hw => ?_)
      exact RT _ _ _ _ _ _ G hw dX10_place_34
  · have hw := hw.2 c_9
    refine lv_aload_n hx hb dX10_place_12 rfl (lv_at hl 0 rfl) ?_
    refine lv_bipush (v := (-2)) hx hb dX10_place_13 (by decide) ?_
    refine x_Vi S hl.1 G (c_M_bad l D q A ad (-2) h _ hw) (cw_X10_118 S.2.2.2.2 ⟨Nat.le_trans (Nat.le_of_ble_eq_true rfl) hR1, Nat.le_trans (Nat.le_of_ble_eq_true rfl) hR2⟩) (me_11 km_0) rfl rfl rfl (Nat.le_of_ble_eq_true rfl) dX10_place_15 (fun r_15 h_15 H locs G hw => ?_)
    exact RT _ _ _ _ _ _ G hw dX10_place_18

abbrev rm_M_rain : Room := { frames := 1, cells := 0, slots := 0, locals := 25 }
set_option maxHeartbeats 4000000 in
set_option maxRecDepth 100000 in
theorem c_M_rain (l : Launch) (D : va_G) (q : Nat → ClassId) (A : Nat → Prop) (ad : Nat → Nat) (a1 : Int32) (a2 : Int32) (h : Hs) (Q : Int32 → Hs → Prop) (hw : p_M_rain a1 a2 h Q) : Met l yX10_rain (mw yX10_rain cX10_rain 4 (some .int)) rm_M_rain (va_Pc [.ref (ad 0), .int a1, .int a2] (pW D q A (wM q ad h))) (va_Qi Q (fun h t => pW D q A (wM q ad h) t) A) 0 0 A := by
  refine met_i (Qp := Q) (by decide) (Nat.le_of_ble_eq_true rfl) ?_
  intro p e R s m args below meth c Qm ls hR1 hR2 S RT hl G
  have hx := S.1
  have hb := S.2.1
  have hl : lv_has ls 4 [(0, .ref (ad 0)), (1, .int a1), (2, .int a2)] := hl
  unfold p_M_rain at hw
  refine lv_iload_n hx hb dX10_rain_0 rfl (lv_at hl 1 rfl) ?_
  refine lv_i2l hx hb dX10_rain_1 rfl ?_
  refine lv_lconst (v := 0) hx hb dX10_rain_2 (by decide) ?_
  refine lv_ldc2 (v := 9) hx hb S.2.2.2.1 (S.2.2.2.2 _ kl_X10_125) dX10_rain_3 ?_
  refine x_SzP S hl.1 G (c_M_in l D q A ad a1.toInt64 0 9 h _ hw) (cw_X10_105 S.2.2.2.2 ⟨Nat.le_trans (Nat.le_of_ble_eq_true rfl) hR1, Nat.le_trans (Nat.le_of_ble_eq_true rfl) hR2⟩) rfl rfl (Nat.le_of_ble_eq_true rfl) dX10_rain_6 (fun r_6 H locs G z_6 hw => ?_)
  have hw := hw (∀ (ls : Array Slot) (H : Heap) (locs : List Loc), lv_has ls 4 [(0, .ref (ad 0))] → okW D q A s (wM q ad h) H locs → W p l e R s m args below meth c H locs 0 0 Qm (F0 m 24 ls [])) (by
    intro hw ls H locs hl G
    refine lv_aload_n hx hb dX10_rain_24 rfl (lv_at hl 0 rfl) ?_
    refine lv_bipush (v := (-2)) hx hb dX10_rain_25 (by decide) ?_
    refine x_Vi S hl.1 G (c_M_bad l D q A ad (-2) h _ hw) (cw_X10_118 S.2.2.2.2 ⟨Nat.le_trans (Nat.le_of_ble_eq_true rfl) hR1, Nat.le_trans (Nat.le_of_ble_eq_true rfl) hR2⟩) (me_11 km_0) rfl rfl rfl (Nat.le_of_ble_eq_true rfl) dX10_rain_27 (fun r_27 h_27 H locs G hw => ?_)
    exact RT _ _ _ _ _ _ G hw dX10_rain_30)
  refine lv_if_eq (tgt := 24) hx hb dX10_rain_9 (by decide) (fun c_9 => ?_) (fun c_9 => ?_)
  · have hw := hw.1 c_9
    exact hw _ _ _ (lv_sub hl [0] rfl) G
  · have hw := hw.2 c_9
    refine lv_iload_n hx hb dX10_rain_12 rfl (lv_at hl 2 rfl) ?_
    refine lv_i2l hx hb dX10_rain_13 rfl ?_
    refine lv_lconst (v := 0) hx hb dX10_rain_14 (by decide) ?_
    refine lv_ldc2 (v := 9) hx hb S.2.2.2.1 (S.2.2.2.2 _ kl_X10_125) dX10_rain_15 ?_
    refine x_SzP S hl.1 G (c_M_in l D q A ad a2.toInt64 0 9 h _ hw) (cw_X10_105 S.2.2.2.2 ⟨Nat.le_trans (Nat.le_of_ble_eq_true rfl) hR1, Nat.le_trans (Nat.le_of_ble_eq_true rfl) hR2⟩) rfl rfl (Nat.le_of_ble_eq_true rfl) dX10_rain_18 (fun r_18 H locs G z_18 hw => ?_)
    refine lv_if_ne (tgt := 31) hx hb dX10_rain_21 (by decide) (fun c_21 => ?_) (fun c_21 => ?_)
    · have hw := hw.1 c_21
      refine lv_aload_n hx hb dX10_rain_31 rfl (lv_at hl 0 rfl) ?_
      refine x_get (C := RX10) (T := TX10) (n := 21) S G inX10 (me_11 km_0) rfl 0 (by decide) kf_X10_7 rfl dX10_rain_32 ?_
      refine lv_bipush (v := 6) hx hb dX10_rain_35 (by decide) ?_
      refine lv_iload_n hx hb dX10_rain_37 rfl (lv_at hl 1 rfl) ?_
      refine lv_iadd hx hb dX10_rain_38 ?_
      obtain ⟨i_39, hw⟩ := hw
      refine x_iald (k := (6 + a1).toNatClampNeg) S G (me_20 km_1 lm_1) i_39 rfl rfl dX10_rain_39 ?_
      refine lv_topi (fun a3_40 ea3_40 => ?_)
      have hw := hw a3_40 ea3_40
      refine lv_istore_n (lv' := [(3, .int a3_40), (0, .ref (ad 0)), (1, .int a1), (2, .int a2)]) hx hb dX10_rain_40 rfl hl (by decide) rfl (fun ls hl => ?_)
      refine lv_aload_n hx hb dX10_rain_41 rfl (lv_at hl 1 rfl) ?_
      refine x_get (C := RX10) (T := TX10) (n := 21) S G inX10 (me_11 km_0) rfl 0 (by decide) kf_X10_7 rfl dX10_rain_42 ?_
      refine lv_bipush (v := 6) hx hb dX10_rain_45 (by decide) ?_
      refine lv_iload_n hx hb dX10_rain_47 rfl (lv_at hl 2 rfl) ?_
      refine lv_iadd hx hb dX10_rain_48 ?_
      refine lv_iload_n hx hb dX10_rain_49 rfl (lv_at hl 3 rfl) ?_
      obtain ⟨i_50, hw⟩ := hw
      refine x_iast (k := (6 + a1).toNatClampNeg) S G (me_20 km_1 lm_1) i_50 rfl (ms_20 km_1 lm_1) dX10_rain_50 (fun H locs G => ?_)
      obtain ⟨h_50, eh_50⟩ : ∃ y : Hs, y = si h 1 ((6 + a1).toNatClampNeg) a2 := ⟨_, rfl⟩
      rw [← eh_50] at G
      have hw := hw h_50 eh_50
      refine lv_iload_n hx hb dX10_rain_51 rfl (lv_at hl 0 rfl) ?_
      exact RT _ _ _ _ _ _ G hw dX10_rain_52
    · have hw := hw.2 c_21
      exact hw _ _ _ (lv_sub hl [0] rfl) G

abbrev rm_M_lot : Room := { frames := 1, cells := 0, slots := 0, locals := 25 }
set_option maxHeartbeats 4000000 in
set_option maxRecDepth 100000 in
theorem c_M_lot (l : Launch) (D : va_G) (q : Nat → ClassId) (A : Nat → Prop) (ad : Nat → Nat) (a1 : Int32) (h : Hs) (Q : Int32 → Hs → Prop) (hw : p_M_lot a1 h Q) : Met l yX10_lot (mw yX10_lot cX10_lot 2 (some .int)) rm_M_lot (va_Pc [.ref (ad 0), .int a1] (pW D q A (wM q ad h))) (va_Qi Q (fun h t => pW D q A (wM q ad h) t) A) 0 0 A := by
  refine met_i (Qp := Q) (by decide) (Nat.le_of_ble_eq_true rfl) ?_
  intro p e R s m args below meth c Qm ls hR1 hR2 S RT hl G
  have hx := S.1
  have hb := S.2.1
  have hl : lv_has ls 2 [(0, .ref (ad 0)), (1, .int a1)] := hl
  unfold p_M_lot at hw
  refine lv_iload_n hx hb dX10_lot_0 rfl (lv_at hl 1 rfl) ?_
  refine lv_i2l hx hb dX10_lot_1 rfl ?_
  refine lv_lconst (v := 1) hx hb dX10_lot_2 (by decide) ?_
  refine lv_ldc2 (v := 60) hx hb S.2.2.2.1 (S.2.2.2.2 _ kl_X10_127) dX10_lot_3 ?_
  refine x_SzP S hl.1 G (c_M_in l D q A ad a1.toInt64 1 60 h _ hw) (cw_X10_105 S.2.2.2.2 ⟨Nat.le_trans (Nat.le_of_ble_eq_true rfl) hR1, Nat.le_trans (Nat.le_of_ble_eq_true rfl) hR2⟩) rfl rfl (Nat.le_of_ble_eq_true rfl) dX10_lot_6 (fun r_6 H locs G z_6 hw => ?_)
  refine lv_if_ne (tgt := 19) hx hb dX10_lot_9 (by decide) (fun c_9 => ?_) (fun c_9 => ?_)
  · have hw := hw.1 c_9
    refine lv_aload_n hx hb dX10_lot_19 rfl (lv_at hl 0 rfl) ?_
    refine x_ViP S hl.1 G (c_M_lots l D q A ad h _ hw) (cw_X10_109 S.2.2.2.2 ⟨Nat.le_trans (Nat.le_of_ble_eq_true rfl) hR1, Nat.le_trans (Nat.le_of_ble_eq_true rfl) hR2⟩) (me_11 km_0) rfl rfl rfl (Nat.le_of_ble_eq_true rfl) dX10_lot_20 (fun r_20 H locs G hw => ?_)
    refine lv_iconst (v := 4) hx hb dX10_lot_23 (by decide) ?_
    refine lv_icmp_ne (tgt := 32) hx hb dX10_lot_24 (by decide) (fun c_24 => ?_) (fun c_24 => ?_)
    · have hw := hw.1 c_24
      refine lv_aload_n hx hb dX10_lot_32 rfl (lv_at hl 0 rfl) ?_
      refine x_get (C := RX10) (T := TX10) (n := 21) S G inX10 (me_11 km_0) rfl 0 (by decide) kf_X10_7 rfl dX10_lot_33 ?_
      refine lv_bipush (v := 16) hx hb dX10_lot_36 (by decide) ?_
      refine lv_aload_n hx hb dX10_lot_38 rfl (lv_at hl 0 rfl) ?_
      refine x_ViP S hl.1 G (c_M_lots l D q A ad h _ hw) (cw_X10_109 S.2.2.2.2 ⟨Nat.le_trans (Nat.le_of_ble_eq_true rfl) hR1, Nat.le_trans (Nat.le_of_ble_eq_true rfl) hR2⟩) (me_11 km_0) rfl rfl rfl (Nat.le_of_ble_eq_true rfl) dX10_lot_39 (fun r_39 H locs G hw => ?_)
      refine lv_iadd hx hb dX10_lot_42 ?_
      refine lv_iload_n hx hb dX10_lot_43 rfl (lv_at hl 1 rfl) ?_
      obtain ⟨i_44, hw⟩ := hw
      refine x_iast (k := (16 + r_39).toNatClampNeg) S G (me_20 km_1 lm_1) i_44 rfl (ms_20 km_1 lm_1) dX10_lot_44 (fun H locs G => ?_)
      obtain ⟨h_44, eh_44⟩ : ∃ y : Hs, y = si h 1 ((16 + r_39).toNatClampNeg) a1 := ⟨_, rfl⟩
      rw [← eh_44] at G
      have hw := hw h_44 eh_44
      refine lv_aload_n hx hb dX10_lot_45 rfl (lv_at hl 0 rfl) ?_
      refine x_get (C := RX10) (T := TX10) (n := 21) S G inX10 (me_11 km_0) rfl 0 (by decide) kf_X10_7 rfl dX10_lot_46 ?_
      refine lv_sipush (v := 672) hx hb dX10_lot_49 (by decide) ?_
      refine lv_dup2_11 hx hb dX10_lot_52 rfl rfl ?_
      refine x_iald (k := 672) S G (me_20 km_1 lm_1) (vpi (by decide)) rfl rfl dX10_lot_53 ?_
      refine lv_iconst (v := 1) hx hb dX10_lot_54 (by decide) ?_
      refine lv_iadd hx hb dX10_lot_55 ?_
      refine x_iast (k := 672) S G (me_20 km_1 lm_1) (vpi (by decide)) rfl (ms_20 km_1 lm_1) dX10_lot_56 (fun H locs G => ?_)
      obtain ⟨h_56, eh_56⟩ : ∃ y : Hs, y = si h_44 1 672 ((gi h_44 1 672) + 1) := ⟨_, rfl⟩
      rw [← eh_56] at G
      have hw := hw h_56 eh_56
      refine lv_aload_n hx hb dX10_lot_57 rfl (lv_at hl 0 rfl) ?_
      refine x_ViP S hl.1 G (c_M_lots l D q A ad h_56 _ hw) (cw_X10_109 S.2.2.2.2 ⟨Nat.le_trans (Nat.le_of_ble_eq_true rfl) hR1, Nat.le_trans (Nat.le_of_ble_eq_true rfl) hR2⟩) (me_11 km_0) rfl rfl rfl (Nat.le_of_ble_eq_true rfl) dX10_lot_58 (fun r_58 H locs G hw => ?_)
      refine lv_iconst (v := 1) hx hb dX10_lot_61 (by decide) ?_
      refine lv_isub hx hb dX10_lot_62 ?_
      exact RT _ _ _ _ _ _ G hw dX10_lot_63
    · have hw := hw.2 c_24
      refine lv_aload_n hx hb dX10_lot_27 rfl (lv_at hl 0 rfl) ?_
      refine x_Vi S hl.1 G (c_M_full l D q A ad h _ hw) (cw_X10_122 S.2.2.2.2 ⟨Nat.le_trans (Nat.le_of_ble_eq_true rfl) hR1, Nat.le_trans (Nat.le_of_ble_eq_true rfl) hR2⟩) (me_11 km_0) rfl rfl rfl (Nat.le_of_ble_eq_true rfl) dX10_lot_28 (fun r_28 h_28 H locs G hw => ?_)
      exact RT _ _ _ _ _ _ G hw dX10_lot_31
  · have hw := hw.2 c_9
    refine lv_aload_n hx hb dX10_lot_12 rfl (lv_at hl 0 rfl) ?_
    refine lv_bipush (v := (-2)) hx hb dX10_lot_13 (by decide) ?_
    refine x_Vi S hl.1 G (c_M_bad l D q A ad (-2) h _ hw) (cw_X10_118 S.2.2.2.2 ⟨Nat.le_trans (Nat.le_of_ble_eq_true rfl) hR1, Nat.le_trans (Nat.le_of_ble_eq_true rfl) hR2⟩) (me_11 km_0) rfl rfl rfl (Nat.le_of_ble_eq_true rfl) dX10_lot_15 (fun r_15 h_15 H locs G hw => ?_)
    exact RT _ _ _ _ _ _ G hw dX10_lot_18

abbrev rm_M_put : Room := { frames := 1, cells := 0, slots := 0, locals := 25 }
set_option maxHeartbeats 4000000 in
set_option maxRecDepth 100000 in
theorem c_M_put (l : Launch) (D : va_G) (q : Nat → ClassId) (A : Nat → Prop) (ad : Nat → Nat) (a1 : Int32) (a2 : Int32) (h : Hs) (Q : Int32 → Hs → Prop) (hw : p_M_put a1 a2 h Q) : Met l yX10_put (mw yX10_put cX10_put 4 (some .int)) rm_M_put (va_Pc [.ref (ad 0), .int a1, .int a2] (pW D q A (wM q ad h))) (va_Qi Q (fun h t => pW D q A (wM q ad h) t) A) 0 0 A := by
  refine met_i (Qp := Q) (by decide) (Nat.le_of_ble_eq_true rfl) ?_
  intro p e R s m args below meth c Qm ls hR1 hR2 S RT hl G
  have hx := S.1
  have hb := S.2.1
  have hl : lv_has ls 4 [(0, .ref (ad 0)), (1, .int a1), (2, .int a2)] := hl
  unfold p_M_put at hw
  refine lv_iload_n hx hb dX10_put_0 rfl (lv_at hl 1 rfl) ?_
  refine lv_i2l hx hb dX10_put_1 rfl ?_
  refine lv_lconst (v := 0) hx hb dX10_put_2 (by decide) ?_
  refine lv_lconst (v := 1) hx hb dX10_put_3 (by decide) ?_
  refine x_SzP S hl.1 G (c_M_in l D q A ad a1.toInt64 0 1 h _ hw) (cw_X10_105 S.2.2.2.2 ⟨Nat.le_trans (Nat.le_of_ble_eq_true rfl) hR1, Nat.le_trans (Nat.le_of_ble_eq_true rfl) hR2⟩) rfl rfl (Nat.le_of_ble_eq_true rfl) dX10_put_4 (fun r_4 H locs G z_4 hw => ?_)
  have hw := hw (∀ (ls : Array Slot) (H : Heap) (locs : List Loc), lv_has ls 4 [(0, .ref (ad 0))] → okW D q A s (wM q ad h) H locs → W p l e R s m args below meth c H locs 0 0 Qm (F0 m 23 ls [])) (by
    intro hw ls H locs hl G
    refine lv_aload_n hx hb dX10_put_23 rfl (lv_at hl 0 rfl) ?_
    refine lv_bipush (v := (-2)) hx hb dX10_put_24 (by decide) ?_
    refine x_Vi S hl.1 G (c_M_bad l D q A ad (-2) h _ hw) (cw_X10_118 S.2.2.2.2 ⟨Nat.le_trans (Nat.le_of_ble_eq_true rfl) hR1, Nat.le_trans (Nat.le_of_ble_eq_true rfl) hR2⟩) (me_11 km_0) rfl rfl rfl (Nat.le_of_ble_eq_true rfl) dX10_put_26 (fun r_26 h_26 H locs G hw => ?_)
    exact RT _ _ _ _ _ _ G hw dX10_put_29)
  refine lv_if_eq (tgt := 23) hx hb dX10_put_7 (by decide) (fun c_7 => ?_) (fun c_7 => ?_)
  · have hw := hw.1 c_7
    exact hw _ _ _ (lv_sub hl [0] rfl) G
  · have hw := hw.2 c_7
    refine lv_iload_n hx hb dX10_put_10 rfl (lv_at hl 2 rfl) ?_
    refine lv_i2l hx hb dX10_put_11 rfl ?_
    refine lv_iload_n hx hb dX10_put_12 rfl (lv_at hl 1 rfl) ?_
    refine lv_i2l hx hb dX10_put_13 rfl ?_
    refine lv_ldc2 (v := 9) hx hb S.2.2.2.1 (S.2.2.2.2 _ kl_X10_125) dX10_put_14 ?_
    refine x_SzP S hl.1 G (c_M_in l D q A ad a2.toInt64 a1.toInt64 9 h _ hw) (cw_X10_105 S.2.2.2.2 ⟨Nat.le_trans (Nat.le_of_ble_eq_true rfl) hR1, Nat.le_trans (Nat.le_of_ble_eq_true rfl) hR2⟩) rfl rfl (Nat.le_of_ble_eq_true rfl) dX10_put_17 (fun r_17 H locs G z_17 hw => ?_)
    refine lv_if_ne (tgt := 30) hx hb dX10_put_20 (by decide) (fun c_20 => ?_) (fun c_20 => ?_)
    · have hw := hw.1 c_20
      refine lv_aload_n hx hb dX10_put_30 rfl (lv_at hl 0 rfl) ?_
      refine x_get (C := RX10) (T := TX10) (n := 21) S G inX10 (me_11 km_0) rfl 0 (by decide) kf_X10_7 rfl dX10_put_31 ?_
      refine lv_bipush (v := 20) hx hb dX10_put_34 (by decide) ?_
      refine lv_iload_n hx hb dX10_put_36 rfl (lv_at hl 1 rfl) ?_
      refine lv_iadd hx hb dX10_put_37 ?_
      obtain ⟨i_38, hw⟩ := hw
      refine x_iald (k := (20 + a1).toNatClampNeg) S G (me_20 km_1 lm_1) i_38 rfl rfl dX10_put_38 ?_
      refine lv_topi (fun a3_39 ea3_39 => ?_)
      have hw := hw a3_39 ea3_39
      refine lv_istore_n (lv' := [(3, .int a3_39), (0, .ref (ad 0)), (1, .int a1), (2, .int a2)]) hx hb dX10_put_39 rfl hl (by decide) rfl (fun ls hl => ?_)
      refine lv_aload_n hx hb dX10_put_40 rfl (lv_at hl 1 rfl) ?_
      refine x_get (C := RX10) (T := TX10) (n := 21) S G inX10 (me_11 km_0) rfl 0 (by decide) kf_X10_7 rfl dX10_put_41 ?_
      refine lv_bipush (v := 20) hx hb dX10_put_44 (by decide) ?_
      refine lv_iload_n hx hb dX10_put_46 rfl (lv_at hl 2 rfl) ?_
      refine lv_iadd hx hb dX10_put_47 ?_
      refine lv_iload_n hx hb dX10_put_48 rfl (lv_at hl 3 rfl) ?_
      obtain ⟨i_49, hw⟩ := hw
      refine x_iast (k := (20 + a1).toNatClampNeg) S G (me_20 km_1 lm_1) i_49 rfl (ms_20 km_1 lm_1) dX10_put_49 (fun H locs G => ?_)
      obtain ⟨h_49, eh_49⟩ : ∃ y : Hs, y = si h 1 ((20 + a1).toNatClampNeg) a2 := ⟨_, rfl⟩
      rw [← eh_49] at G
      have hw := hw h_49 eh_49
      refine lv_iload_n hx hb dX10_put_50 rfl (lv_at hl 0 rfl) ?_
      exact RT _ _ _ _ _ _ G hw dX10_put_51
    · have hw := hw.2 c_20
      exact hw _ _ _ (lv_sub hl [0] rfl) G

abbrev rm_M_kind : Room := { frames := 2, cells := 0, slots := 0, locals := 45 }
set_option maxHeartbeats 4000000 in
set_option maxRecDepth 100000 in
theorem c_M_kind (l : Launch) (D : va_G) (q : Nat → ClassId) (A : Nat → Prop) (ad : Nat → Nat) (a1 : Int32) (a2 : Int32) (a3 : Int32) (h : Hs) (Q : Int32 → Hs → Prop) (hw : p_M_kind a1 a2 a3 h Q) : Met l yX10_kind (mw yX10_kind cX10_kind 6 (some .int)) rm_M_kind (va_Pc [.ref (ad 0), .int a1, .int a2, .int a3] (pW D q A (wM q ad h))) (va_Qi Q (fun h t => pW D q A (wM q ad h) t) A) 0 0 A := by
  refine met_i (Qp := Q) (by decide) (Nat.le_of_ble_eq_true rfl) ?_
  intro p e R s m args below meth c Qm ls hR1 hR2 S RT hl G
  have hx := S.1
  have hb := S.2.1
  have hl : lv_has ls 6 [(0, .ref (ad 0)), (1, .int a1), (2, .int a2), (3, .int a3)] := hl
  unfold p_M_kind at hw
  refine lv_iload_n hx hb dX10_kind_0 rfl (lv_at hl 1 rfl) ?_
  refine x_SzP S hl.1 G (c_M_isFour l D q A ad a1 h _ hw) (cw_X10_129 S.2.2.2.2 ⟨Nat.le_trans (Nat.le_of_ble_eq_true rfl) hR1, Nat.le_trans (Nat.le_of_ble_eq_true rfl) hR2⟩) rfl rfl (Nat.le_of_ble_eq_true rfl) dX10_kind_1 (fun r_1 H locs G z_1 hw => ?_)
  have hw := hw (∀ (ls : Array Slot) (H : Heap) (locs : List Loc), lv_has ls 6 [(0, .ref (ad 0))] → okW D q A s (wM q ad h) H locs → W p l e R s m args below meth c H locs 0 0 Qm (F0 m 47 ls [])) (by
    intro hw ls H locs hl G
    refine lv_aload_n hx hb dX10_kind_47 rfl (lv_at hl 0 rfl) ?_
    refine lv_bipush (v := (-2)) hx hb dX10_kind_48 (by decide) ?_
    refine x_Vi S hl.1 G (c_M_bad l D q A ad (-2) h _ hw) (cw_X10_118 S.2.2.2.2 ⟨Nat.le_trans (Nat.le_of_ble_eq_true rfl) hR1, Nat.le_trans (Nat.le_of_ble_eq_true rfl) hR2⟩) (me_11 km_0) rfl rfl rfl (Nat.le_of_ble_eq_true rfl) dX10_kind_50 (fun r_50 h_50 H locs G hw => ?_)
    exact RT _ _ _ _ _ _ G hw dX10_kind_53)
  refine lv_if_eq (tgt := 47) hx hb dX10_kind_4 (by decide) (fun c_4 => ?_) (fun c_4 => ?_)
  · have hw := hw.1 c_4
    exact hw _ _ _ (lv_sub hl [0] rfl) G
  · have hw := hw.2 c_4
    refine lv_iload_n hx hb dX10_kind_7 rfl (lv_at hl 2 rfl) ?_
    refine lv_i2l hx hb dX10_kind_8 rfl ?_
    refine lv_lconst (v := 0) hx hb dX10_kind_9 (by decide) ?_
    refine lv_lconst (v := 1) hx hb dX10_kind_10 (by decide) ?_
    refine x_SzP S hl.1 G (c_M_in l D q A ad a2.toInt64 0 1 h _ hw) (cw_X10_105 S.2.2.2.2 ⟨Nat.le_trans (Nat.le_of_ble_eq_true rfl) hR1, Nat.le_trans (Nat.le_of_ble_eq_true rfl) hR2⟩) rfl rfl (Nat.le_of_ble_eq_true rfl) dX10_kind_11 (fun r_11 H locs G z_11 hw => ?_)
    refine lv_if_eq (tgt := 47) hx hb dX10_kind_14 (by decide) (fun c_14 => ?_) (fun c_14 => ?_)
    · have hw := hw.1 c_14
      exact hw _ _ _ (lv_sub hl [0] rfl) G
    · have hw := hw.2 c_14
      refine lv_iload_n hx hb dX10_kind_17 rfl (lv_at hl 3 rfl) ?_
      refine lv_i2l hx hb dX10_kind_18 rfl ?_
      refine lv_iload_n hx hb dX10_kind_19 rfl (lv_at hl 2 rfl) ?_
      have hw := hw (fun (t1_28 : Int64) => ∀ (ls : Array Slot) (H : Heap) (locs : List Loc), lv_has ls 6 [(0, .ref (ad 0)), (1, .int a1), (2, .int a2), (3, .int a3)] → okW D q A s (wM q ad h) H locs → W p l e R s m args below meth c H locs 0 0 Qm (F0 m 28 ls [.long t1_28, .long a3.toInt64])) (by
        intro t1_28 hw ls H locs hl G
        refine lv_iload_n hx hb dX10_kind_28 rfl (lv_at hl 2 rfl) ?_
        have hw := hw (fun (t2_41 : Int64) => ∀ (ls : Array Slot) (H : Heap) (locs : List Loc), lv_has ls 6 [(0, .ref (ad 0)), (1, .int a1), (2, .int a2), (3, .int a3)] → okW D q A s (wM q ad h) H locs → W p l e R s m args below meth c H locs 0 0 Qm (F0 m 41 ls [.long t2_41, .long t1_28, .long a3.toInt64])) (by
          intro t2_41 hw ls H locs hl G
          refine x_SzP S hl.1 G (c_M_in l D q A ad a3.toInt64 t1_28 t2_41 h _ hw) (cw_X10_105 S.2.2.2.2 ⟨Nat.le_trans (Nat.le_of_ble_eq_true rfl) hR1, Nat.le_trans (Nat.le_of_ble_eq_true rfl) hR2⟩) rfl rfl (Nat.le_of_ble_eq_true rfl) dX10_kind_41 (fun r_41 H locs G z_41 hw => ?_)
          refine lv_if_ne (tgt := 54) hx hb dX10_kind_44 (by decide) (fun c_44 => ?_) (fun c_44 => ?_)
          · have hw := hw.1 c_44
            refine lv_iload_n hx hb dX10_kind_54 rfl (lv_at hl 2 rfl) ?_
            have hw := hw (fun (t0_65 : Int32) => ∀ (ls : Array Slot) (H : Heap) (locs : List Loc), lv_has ls 6 [(0, .ref (ad 0)), (1, .int a1), (3, .int a3)] → okW D q A s (wM q ad h) H locs → W p l e R s m args below meth c H locs 0 0 Qm (F0 m 65 ls [.int t0_65])) (by
              intro t0_65 hw ls H locs hl G
              refine lv_iload_n hx hb dX10_kind_65 rfl (lv_at hl 1 rfl) ?_
              refine lv_iadd hx hb dX10_kind_66 ?_
              refine lv_topi (fun a4_67 ea4_67 => ?_)
              have hw := hw a4_67 ea4_67
              refine lv_istore (lv' := [(4, .int a4_67), (0, .ref (ad 0)), (1, .int a1), (3, .int a3)]) hx hb dX10_kind_67 hl (by decide) rfl (fun ls hl => ?_)
              refine lv_aload_n hx hb dX10_kind_69 rfl (lv_at hl 1 rfl) ?_
              refine x_get (C := RX10) (T := TX10) (n := 21) S G inX10 (me_11 km_0) rfl 0 (by decide) kf_X10_7 rfl dX10_kind_70 ?_
              refine lv_iload hx hb dX10_kind_73 (lv_at hl 0 rfl) ?_
              obtain ⟨i_75, hw⟩ := hw
              refine x_iald (k := a4_67.toNatClampNeg) S G (me_20 km_1 lm_1) i_75 rfl rfl dX10_kind_75 ?_
              refine lv_topi (fun a5_76 ea5_76 => ?_)
              have hw := hw a5_76 ea5_76
              refine lv_istore (lv' := [(5, .int a5_76), (4, .int a4_67), (0, .ref (ad 0)), (1, .int a1), (3, .int a3)]) hx hb dX10_kind_76 hl (by decide) rfl (fun ls hl => ?_)
              refine lv_aload_n hx hb dX10_kind_78 rfl (lv_at hl 2 rfl) ?_
              refine x_get (C := RX10) (T := TX10) (n := 21) S G inX10 (me_11 km_0) rfl 0 (by decide) kf_X10_7 rfl dX10_kind_79 ?_
              refine lv_iload hx hb dX10_kind_82 (lv_at hl 1 rfl) ?_
              refine lv_iload_n hx hb dX10_kind_84 rfl (lv_at hl 4 rfl) ?_
              obtain ⟨i_85, hw⟩ := hw
              refine x_iast (k := a4_67.toNatClampNeg) S G (me_20 km_1 lm_1) i_85 rfl (ms_20 km_1 lm_1) dX10_kind_85 (fun H locs G => ?_)
              obtain ⟨h_85, eh_85⟩ : ∃ y : Hs, y = si h 1 a4_67.toNatClampNeg a3 := ⟨_, rfl⟩
              rw [← eh_85] at G
              have hw := hw h_85 eh_85
              refine lv_iload hx hb dX10_kind_86 (lv_at hl 0 rfl) ?_
              exact RT _ _ _ _ _ _ G hw dX10_kind_88)
            refine lv_if_ne (tgt := 63) hx hb dX10_kind_55 (by decide) (fun c_55 => ?_) (fun c_55 => ?_)
            · have hw := hw.1 c_55
              refine lv_bipush (v := 26) hx hb dX10_kind_63 (by decide) ?_
              exact hw _ _ _ (lv_sub hl [0, 1, 3] rfl) G
            · have hw := hw.2 c_55
              refine lv_bipush (v := 22) hx hb dX10_kind_58 (by decide) ?_
              refine lv_goto (tgt := 65) hx hb dX10_kind_60 (by decide) ?_
              exact hw _ _ _ (lv_sub hl [0, 1, 3] rfl) G
          · have hw := hw.2 c_44
            exact hw _ _ _ (lv_sub hl [0] rfl) G)
        refine lv_if_ne (tgt := 38) hx hb dX10_kind_29 (by decide) (fun c_29 => ?_) (fun c_29 => ?_)
        · have hw := hw.1 c_29
          refine lv_ldc2 (v := 9) hx hb S.2.2.2.1 (S.2.2.2.2 _ kl_X10_125) dX10_kind_38 ?_
          exact hw _ _ _ (lv_sub hl [0, 1, 2, 3] rfl) G
        · have hw := hw.2 c_29
          refine lv_ldc2 (v := 999) hx hb S.2.2.2.1 (S.2.2.2.2 _ kl_X10_132) dX10_kind_32 ?_
          refine lv_goto (tgt := 41) hx hb dX10_kind_35 (by decide) ?_
          exact hw _ _ _ (lv_sub hl [0, 1, 2, 3] rfl) G)
      refine lv_if_ne (tgt := 27) hx hb dX10_kind_20 (by decide) (fun c_20 => ?_) (fun c_20 => ?_)
      · have hw := hw.1 c_20
        refine lv_lconst (v := 0) hx hb dX10_kind_27 (by decide) ?_
        exact hw _ _ _ (lv_sub hl [0, 1, 2, 3] rfl) G
      · have hw := hw.2 c_20
        refine lv_lconst (v := 1) hx hb dX10_kind_23 (by decide) ?_
        refine lv_goto (tgt := 28) hx hb dX10_kind_24 (by decide) ?_
        exact hw _ _ _ (lv_sub hl [0, 1, 2, 3] rfl) G

abbrev rm_M_prior : Room := { frames := 2, cells := 0, slots := 0, locals := 45 }
set_option maxHeartbeats 4000000 in
set_option maxRecDepth 100000 in
theorem c_M_prior (l : Launch) (D : va_G) (q : Nat → ClassId) (A : Nat → Prop) (ad : Nat → Nat) (a1 : Int32) (a2 : Int32) (h : Hs) (Q : Int32 → Hs → Prop) (hw : p_M_prior a1 a2 h Q) : Met l yX10_prior (mw yX10_prior cX10_prior 4 (some .int)) rm_M_prior (va_Pc [.ref (ad 0), .int a1, .int a2] (pW D q A (wM q ad h))) (va_Qi Q (fun h t => pW D q A (wM q ad h) t) A) 0 0 A := by
  refine met_i (Qp := Q) (by decide) (Nat.le_of_ble_eq_true rfl) ?_
  intro p e R s m args below meth c Qm ls hR1 hR2 S RT hl G
  have hx := S.1
  have hb := S.2.1
  have hl : lv_has ls 4 [(0, .ref (ad 0)), (1, .int a1), (2, .int a2)] := hl
  unfold p_M_prior at hw
  refine lv_iload_n hx hb dX10_prior_0 rfl (lv_at hl 1 rfl) ?_
  refine x_SzP S hl.1 G (c_M_isFour l D q A ad a1 h _ hw) (cw_X10_129 S.2.2.2.2 ⟨Nat.le_trans (Nat.le_of_ble_eq_true rfl) hR1, Nat.le_trans (Nat.le_of_ble_eq_true rfl) hR2⟩) rfl rfl (Nat.le_of_ble_eq_true rfl) dX10_prior_1 (fun r_1 H locs G z_1 hw => ?_)
  have hw := hw (∀ (ls : Array Slot) (H : Heap) (locs : List Loc), lv_has ls 4 [(0, .ref (ad 0))] → okW D q A s (wM q ad h) H locs → W p l e R s m args below meth c H locs 0 0 Qm (F0 m 19 ls [])) (by
    intro hw ls H locs hl G
    refine lv_aload_n hx hb dX10_prior_19 rfl (lv_at hl 0 rfl) ?_
    refine lv_bipush (v := (-2)) hx hb dX10_prior_20 (by decide) ?_
    refine x_Vi S hl.1 G (c_M_bad l D q A ad (-2) h _ hw) (cw_X10_118 S.2.2.2.2 ⟨Nat.le_trans (Nat.le_of_ble_eq_true rfl) hR1, Nat.le_trans (Nat.le_of_ble_eq_true rfl) hR2⟩) (me_11 km_0) rfl rfl rfl (Nat.le_of_ble_eq_true rfl) dX10_prior_22 (fun r_22 h_22 H locs G hw => ?_)
    exact RT _ _ _ _ _ _ G hw dX10_prior_25)
  refine lv_if_eq (tgt := 19) hx hb dX10_prior_4 (by decide) (fun c_4 => ?_) (fun c_4 => ?_)
  · have hw := hw.1 c_4
    exact hw _ _ _ (lv_sub hl [0] rfl) G
  · have hw := hw.2 c_4
    refine lv_iload_n hx hb dX10_prior_7 rfl (lv_at hl 2 rfl) ?_
    refine lv_i2l hx hb dX10_prior_8 rfl ?_
    refine lv_lconst (v := 1) hx hb dX10_prior_9 (by decide) ?_
    refine lv_ldc2 (v := 9) hx hb S.2.2.2.1 (S.2.2.2.2 _ kl_X10_125) dX10_prior_10 ?_
    refine x_SzP S hl.1 G (c_M_in l D q A ad a2.toInt64 1 9 h _ hw) (cw_X10_105 S.2.2.2.2 ⟨Nat.le_trans (Nat.le_of_ble_eq_true rfl) hR1, Nat.le_trans (Nat.le_of_ble_eq_true rfl) hR2⟩) rfl rfl (Nat.le_of_ble_eq_true rfl) dX10_prior_13 (fun r_13 H locs G z_13 hw => ?_)
    refine lv_if_ne (tgt := 26) hx hb dX10_prior_16 (by decide) (fun c_16 => ?_) (fun c_16 => ?_)
    · have hw := hw.1 c_16
      refine lv_aload_n hx hb dX10_prior_26 rfl (lv_at hl 0 rfl) ?_
      refine x_get (C := RX10) (T := TX10) (n := 21) S G inX10 (me_11 km_0) rfl 0 (by decide) kf_X10_7 rfl dX10_prior_27 ?_
      refine lv_bipush (v := 30) hx hb dX10_prior_30 (by decide) ?_
      refine lv_iload_n hx hb dX10_prior_32 rfl (lv_at hl 1 rfl) ?_
      refine lv_iadd hx hb dX10_prior_33 ?_
      obtain ⟨i_34, hw⟩ := hw
      refine x_iald (k := (30 + a1).toNatClampNeg) S G (me_20 km_1 lm_1) i_34 rfl rfl dX10_prior_34 ?_
      refine lv_topi (fun a3_35 ea3_35 => ?_)
      have hw := hw a3_35 ea3_35
      refine lv_istore_n (lv' := [(3, .int a3_35), (0, .ref (ad 0)), (1, .int a1), (2, .int a2)]) hx hb dX10_prior_35 rfl hl (by decide) rfl (fun ls hl => ?_)
      refine lv_aload_n hx hb dX10_prior_36 rfl (lv_at hl 1 rfl) ?_
      refine x_get (C := RX10) (T := TX10) (n := 21) S G inX10 (me_11 km_0) rfl 0 (by decide) kf_X10_7 rfl dX10_prior_37 ?_
      refine lv_bipush (v := 30) hx hb dX10_prior_40 (by decide) ?_
      refine lv_iload_n hx hb dX10_prior_42 rfl (lv_at hl 2 rfl) ?_
      refine lv_iadd hx hb dX10_prior_43 ?_
      refine lv_iload_n hx hb dX10_prior_44 rfl (lv_at hl 3 rfl) ?_
      obtain ⟨i_45, hw⟩ := hw
      refine x_iast (k := (30 + a1).toNatClampNeg) S G (me_20 km_1 lm_1) i_45 rfl (ms_20 km_1 lm_1) dX10_prior_45 (fun H locs G => ?_)
      obtain ⟨h_45, eh_45⟩ : ∃ y : Hs, y = si h 1 ((30 + a1).toNatClampNeg) a2 := ⟨_, rfl⟩
      rw [← eh_45] at G
      have hw := hw h_45 eh_45
      refine lv_iload_n hx hb dX10_prior_46 rfl (lv_at hl 0 rfl) ?_
      exact RT _ _ _ _ _ _ G hw dX10_prior_47
    · have hw := hw.2 c_16
      exact hw _ _ _ (lv_sub hl [0] rfl) G

abbrev rm_M_textLong : Room := { frames := 0, cells := 0, slots := 0, locals := 0 }
set_option maxHeartbeats 4000000 in
set_option maxRecDepth 100000 in
theorem c_M_textLong (l : Launch) (D : va_G) (q : Nat → ClassId) (A : Nat → Prop) (ad : Nat → Nat) (a1 : Int32) (h : Hs) (Q : Int32 → Prop) (hw : p_M_textLong a1 h Q) : Met l yX10_textLong (mw yX10_textLong cX10_textLong 2 (some .int)) rm_M_textLong (va_Pc [.ref (ad 0), .int a1] (pW D q A (wM q ad h))) (va_Qi (fun r h9 => h9 = h ∧ Q r) (fun h t => pW D q A (wM q ad h) t) A) 0 0 A := by
  refine met_i (Qp := (fun r h9 => h9 = h ∧ Q r)) (by decide) (Nat.le_of_ble_eq_true rfl) ?_
  intro p e R s m args below meth c Qm ls hR1 hR2 S RT hl G
  have hx := S.1
  have hb := S.2.1
  have hl : lv_has ls 2 [(0, .ref (ad 0)), (1, .int a1)] := hl
  unfold p_M_textLong at hw
  refine lv_aload_n hx hb dX10_textLong_0 rfl (lv_at hl 0 rfl) ?_
  refine x_get (C := RX10) (T := TX10) (n := 21) S G inX10 (me_11 km_0) rfl 0 (by decide) kf_X10_7 rfl dX10_textLong_1 ?_
  refine lv_bipush (v := 34) hx hb dX10_textLong_4 (by decide) ?_
  refine lv_bipush (v := 121) hx hb dX10_textLong_6 (by decide) ?_
  refine lv_iload_n hx hb dX10_textLong_8 rfl (lv_at hl 1 rfl) ?_
  refine lv_imul hx hb dX10_textLong_9 ?_
  refine lv_iadd hx hb dX10_textLong_10 ?_
  obtain ⟨i_11, hw⟩ := hw
  refine x_iald (k := (34 + (121 * a1)).toNatClampNeg) S G (me_20 km_1 lm_1) i_11 rfl rfl dX10_textLong_11 ?_
  exact RT _ _ _ _ _ _ G ⟨rfl, hw⟩ dX10_textLong_12
theorem cw_X10_136 {R : Room} {s : State} {args : Array Value} (hts : ∀ w ∈ gW, w.before args s = true) (hR : rm_M_textLong.frames + 1 ≤ R.frames ∧ 8 + (2 + 11) + rm_M_textLong.locals ≤ R.locals) : CallW R s args RX10 RX10 136 yX10_textLong cX10_textLong 2 (some .int) (mw yX10_textLong cX10_textLong 2 (some .int)) rm_M_textLong 0 0 1 := cwV9 hts km_X10_136 ki_X10_textLong ks_X10_textLong kn_X10 kk_X10_textLong rfl rfl (by decide +kernel) hR
abbrev rm_M_byteAt : Room := { frames := 0, cells := 0, slots := 0, locals := 0 }
set_option maxHeartbeats 4000000 in
set_option maxRecDepth 100000 in
theorem c_M_byteAt (l : Launch) (D : va_G) (q : Nat → ClassId) (A : Nat → Prop) (ad : Nat → Nat) (a1 : Int32) (a2 : Int32) (h : Hs) (Q : Int32 → Prop) (hw : p_M_byteAt a1 a2 h Q) : Met l yX10_byteAt (mw yX10_byteAt cX10_byteAt 3 (some .int)) rm_M_byteAt (va_Pc [.ref (ad 0), .int a1, .int a2] (pW D q A (wM q ad h))) (va_Qi (fun r h9 => h9 = h ∧ Q r) (fun h t => pW D q A (wM q ad h) t) A) 0 0 A := by
  refine met_i (Qp := (fun r h9 => h9 = h ∧ Q r)) (by decide) (Nat.le_of_ble_eq_true rfl) ?_
  intro p e R s m args below meth c Qm ls hR1 hR2 S RT hl G
  have hx := S.1
  have hb := S.2.1
  have hl : lv_has ls 3 [(0, .ref (ad 0)), (1, .int a1), (2, .int a2)] := hl
  unfold p_M_byteAt at hw
  refine lv_aload_n hx hb dX10_byteAt_0 rfl (lv_at hl 0 rfl) ?_
  refine x_get (C := RX10) (T := TX10) (n := 21) S G inX10 (me_11 km_0) rfl 0 (by decide) kf_X10_7 rfl dX10_byteAt_1 ?_
  refine lv_bipush (v := 34) hx hb dX10_byteAt_4 (by decide) ?_
  refine lv_bipush (v := 121) hx hb dX10_byteAt_6 (by decide) ?_
  refine lv_iload_n hx hb dX10_byteAt_8 rfl (lv_at hl 1 rfl) ?_
  refine lv_imul hx hb dX10_byteAt_9 ?_
  refine lv_iadd hx hb dX10_byteAt_10 ?_
  refine lv_iconst (v := 1) hx hb dX10_byteAt_11 (by decide) ?_
  refine lv_iadd hx hb dX10_byteAt_12 ?_
  refine lv_iload_n hx hb dX10_byteAt_13 rfl (lv_at hl 2 rfl) ?_
  refine lv_iadd hx hb dX10_byteAt_14 ?_
  obtain ⟨i_15, hw⟩ := hw
  refine x_iald (k := (((34 + (121 * a1)) + 1) + a2).toNatClampNeg) S G (me_20 km_1 lm_1) i_15 rfl rfl dX10_byteAt_15 ?_
  exact RT _ _ _ _ _ _ G ⟨rfl, hw⟩ dX10_byteAt_16
theorem cw_X10_155 {R : Room} {s : State} {args : Array Value} (hts : ∀ w ∈ gW, w.before args s = true) (hR : rm_M_byteAt.frames + 1 ≤ R.frames ∧ 8 + (3 + 11) + rm_M_byteAt.locals ≤ R.locals) : CallW R s args RX10 RX10 155 yX10_byteAt cX10_byteAt 3 (some .int) (mw yX10_byteAt cX10_byteAt 3 (some .int)) rm_M_byteAt 0 0 2 := cwV9 hts km_X10_155 ki_X10_byteAt ks_X10_byteAt kn_X10 kk_X10_byteAt rfl rfl (by decide +kernel) hR
abbrev rm_M_type : Room := { frames := 2, cells := 0, slots := 0, locals := 45 }
set_option maxHeartbeats 4000000 in
set_option maxRecDepth 100000 in
theorem c_M_type (l : Launch) (D : va_G) (q : Nat → ClassId) (A : Nat → Prop) (ad : Nat → Nat) (a1 : Int32) (a2 : Int64) (a4 : Int32) (h : Hs) (Q : Int32 → Hs → Prop) (hw : p_M_type a1 a2 a4 h Q) : Met l yX10_type (mw yX10_type cX10_type 6 (some .int)) rm_M_type (va_Pc [.ref (ad 0), .int a1, .long a2, .int a4] (pW D q A (wM q ad h))) (va_Qi Q (fun h t => pW D q A (wM q ad h) t) A) 0 0 A := by
  refine met_i (Qp := Q) (by decide) (Nat.le_of_ble_eq_true rfl) ?_
  intro p e R s m args below meth c Qm ls hR1 hR2 S RT hl G
  have hx := S.1
  have hb := S.2.1
  have hl : lv_has ls 6 [(0, .ref (ad 0)), (1, .int a1), (2, .long a2), (4, .int a4)] := hl
  unfold p_M_type at hw
  refine lv_iload_n hx hb dX10_type_0 rfl (lv_at hl 1 rfl) ?_
  refine x_SzP S hl.1 G (c_M_isFour l D q A ad a1 h _ hw) (cw_X10_129 S.2.2.2.2 ⟨Nat.le_trans (Nat.le_of_ble_eq_true rfl) hR1, Nat.le_trans (Nat.le_of_ble_eq_true rfl) hR2⟩) rfl rfl (Nat.le_of_ble_eq_true rfl) dX10_type_1 (fun r_1 H locs G z_1 hw => ?_)
  have hw := hw (∀ (ls : Array Slot) (H : Heap) (locs : List Loc), lv_has ls 6 [(0, .ref (ad 0))] → okW D q A s (wM q ad h) H locs → W p l e R s m args below meth c H locs 0 0 Qm (F0 m 20 ls [])) (by
    intro hw ls H locs hl G
    refine lv_aload_n hx hb dX10_type_20 rfl (lv_at hl 0 rfl) ?_
    refine lv_bipush (v := (-2)) hx hb dX10_type_21 (by decide) ?_
    refine x_Vi S hl.1 G (c_M_bad l D q A ad (-2) h _ hw) (cw_X10_118 S.2.2.2.2 ⟨Nat.le_trans (Nat.le_of_ble_eq_true rfl) hR1, Nat.le_trans (Nat.le_of_ble_eq_true rfl) hR2⟩) (me_11 km_0) rfl rfl rfl (Nat.le_of_ble_eq_true rfl) dX10_type_23 (fun r_23 h_23 H locs G hw => ?_)
    exact RT _ _ _ _ _ _ G hw dX10_type_26)
  refine lv_if_eq (tgt := 20) hx hb dX10_type_4 (by decide) (fun c_4 => ?_) (fun c_4 => ?_)
  · have hw := hw.1 c_4
    exact hw _ _ _ (lv_sub hl [0] rfl) G
  · have hw := hw.2 c_4
    refine lv_iload hx hb dX10_type_7 (lv_at hl 3 rfl) ?_
    refine lv_i2l hx hb dX10_type_9 rfl ?_
    refine lv_lconst (v := 1) hx hb dX10_type_10 (by decide) ?_
    refine lv_ldc2 (v := 8) hx hb S.2.2.2.1 (S.2.2.2.2 _ kl_X10_134) dX10_type_11 ?_
    refine x_SzP S hl.1 G (c_M_in l D q A ad a4.toInt64 1 8 h _ hw) (cw_X10_105 S.2.2.2.2 ⟨Nat.le_trans (Nat.le_of_ble_eq_true rfl) hR1, Nat.le_trans (Nat.le_of_ble_eq_true rfl) hR2⟩) rfl rfl (Nat.le_of_ble_eq_true rfl) dX10_type_14 (fun r_14 H locs G z_14 hw => ?_)
    refine lv_if_ne (tgt := 27) hx hb dX10_type_17 (by decide) (fun c_17 => ?_) (fun c_17 => ?_)
    · have hw := hw.1 c_17
      refine lv_aload_n hx hb dX10_type_27 rfl (lv_at hl 0 rfl) ?_
      refine lv_iload_n hx hb dX10_type_28 rfl (lv_at hl 1 rfl) ?_
      refine x_ViP S hl.1 G (c_M_textLong l D q A ad a1 h _ hw) (cw_X10_136 S.2.2.2.2 ⟨Nat.le_trans (Nat.le_of_ble_eq_true rfl) hR1, Nat.le_trans (Nat.le_of_ble_eq_true rfl) hR2⟩) (me_11 km_0) rfl rfl rfl (Nat.le_of_ble_eq_true rfl) dX10_type_29 (fun r_29 H locs G hw => ?_)
      refine lv_iload hx hb dX10_type_32 (lv_at hl 3 rfl) ?_
      refine lv_iadd hx hb dX10_type_34 ?_
      refine lv_bipush (v := 120) hx hb dX10_type_35 (by decide) ?_
      refine lv_icmp_le (tgt := 45) hx hb dX10_type_37 (by decide) (fun c_37 => ?_) (fun c_37 => ?_)
      · have hw := hw.1 c_37
        refine lv_iload hx hb dX10_type_45 (lv_at hl 3 rfl) ?_
        refine lv_iconst (v := 1) hx hb dX10_type_47 (by decide) ?_
        refine lv_isub hx hb dX10_type_48 ?_
        refine lv_topi (fun a5_49 ea5_49 => ?_)
        have hw := hw a5_49 ea5_49
        refine lv_istore (lv' := [(5, .int a5_49), (0, .ref (ad 0)), (1, .int a1), (2, .long a2), (4, .int a4)]) hx hb dX10_type_49 hl (by decide) rfl (fun ls hl => ?_)
        have hw := hw (fun (b5_51 : Int32) (g_51 : Hs) => ∀ (ls : Array Slot) (H : Heap) (locs : List Loc), lv_has ls 6 [(0, .ref (ad 0)), (1, .int a1), (2, .long a2), (5, .int b5_51)] → okW D q A s (wM q ad g_51) H locs → W p l e R s m args below meth c H locs 0 0 Qm (F0 m 51 ls [])) (by
          intro b5_51 g_51 hw ls H locs hl G
          refine lv_iload hx hb dX10_type_51 (lv_at hl 3 rfl) ?_
          refine lv_if_lt (tgt := 110) hx hb dX10_type_53 (by decide) (fun c_53 => ?_) (fun c_53 => ?_)
          · have hw := hw.1 c_53
            refine lv_aload_n hx hb dX10_type_110 rfl (lv_at hl 0 rfl) ?_
            refine lv_iload_n hx hb dX10_type_111 rfl (lv_at hl 1 rfl) ?_
            refine x_ViP S hl.1 G (c_M_textLong l D q A ad a1 g_51 _ hw) (cw_X10_136 S.2.2.2.2 ⟨Nat.le_trans (Nat.le_of_ble_eq_true rfl) hR1, Nat.le_trans (Nat.le_of_ble_eq_true rfl) hR2⟩) (me_11 km_0) rfl rfl rfl (Nat.le_of_ble_eq_true rfl) dX10_type_112 (fun r_112 H locs G hw => ?_)
            exact RT _ _ _ _ _ _ G hw dX10_type_115
          · have hw := hw.2 c_53
            refine lv_aload_n hx hb dX10_type_56 rfl (lv_at hl 0 rfl) ?_
            refine x_get (C := RX10) (T := TX10) (n := 21) S G inX10 (me_11 km_0) rfl 0 (by decide) kf_X10_7 rfl dX10_type_57 ?_
            refine lv_bipush (v := 34) hx hb dX10_type_60 (by decide) ?_
            refine lv_bipush (v := 121) hx hb dX10_type_62 (by decide) ?_
            refine lv_iload_n hx hb dX10_type_64 rfl (lv_at hl 1 rfl) ?_
            refine lv_imul hx hb dX10_type_65 ?_
            refine lv_iadd hx hb dX10_type_66 ?_
            refine lv_iconst (v := 1) hx hb dX10_type_67 (by decide) ?_
            refine lv_iadd hx hb dX10_type_68 ?_
            refine lv_aload_n hx hb dX10_type_69 rfl (lv_at hl 0 rfl) ?_
            refine lv_iload_n hx hb dX10_type_70 rfl (lv_at hl 1 rfl) ?_
            refine x_ViP S hl.1 G (c_M_textLong l D q A ad a1 g_51 _ hw) (cw_X10_136 S.2.2.2.2 ⟨Nat.le_trans (Nat.le_of_ble_eq_true rfl) hR1, Nat.le_trans (Nat.le_of_ble_eq_true rfl) hR2⟩) (me_11 km_0) rfl rfl rfl (Nat.le_of_ble_eq_true rfl) dX10_type_71 (fun r_71 H locs G hw => ?_)
            refine lv_iadd hx hb dX10_type_74 ?_
            refine lv_lload_n hx hb dX10_type_75 rfl (lv_at hl 2 rfl) ?_
            refine lv_bipush (v := 8) hx hb dX10_type_76 (by decide) ?_
            refine lv_iload hx hb dX10_type_78 (lv_at hl 3 rfl) ?_
            refine lv_imul hx hb dX10_type_80 ?_
            refine lv_lushr hx hb dX10_type_81 rfl ?_
            refine lv_ldc2 (v := 255) hx hb S.2.2.2.1 (S.2.2.2.2 _ kl_X10_139) dX10_type_82 ?_
            refine lv_land hx hb dX10_type_85 ?_
            refine lv_l2i hx hb dX10_type_86 rfl ?_
            obtain ⟨i_87, hw⟩ := hw
            refine x_iast (k := (((34 + (121 * a1)) + 1) + r_71).toNatClampNeg) S G (me_20 km_1 lm_1) i_87 rfl (ms_20 km_1 lm_1) dX10_type_87 (fun H locs G => ?_)
            obtain ⟨h_87, eh_87⟩ : ∃ y : Hs, y = si g_51 1 ((((34 + (121 * a1)) + 1) + r_71).toNatClampNeg) ((((a2.toUInt64 >>> ((8 * b5_51).toInt64.toUInt64 &&& Int64.toUInt64 63)).toInt64) &&& 255).toInt32) := ⟨_, rfl⟩
            rw [← eh_87] at G
            have hw := hw h_87 eh_87
            refine lv_aload_n hx hb dX10_type_88 rfl (lv_at hl 0 rfl) ?_
            refine x_get (C := RX10) (T := TX10) (n := 21) S G inX10 (me_11 km_0) rfl 0 (by decide) kf_X10_7 rfl dX10_type_89 ?_
            refine lv_bipush (v := 34) hx hb dX10_type_92 (by decide) ?_
            refine lv_bipush (v := 121) hx hb dX10_type_94 (by decide) ?_
            refine lv_iload_n hx hb dX10_type_96 rfl (lv_at hl 1 rfl) ?_
            refine lv_imul hx hb dX10_type_97 ?_
            refine lv_iadd hx hb dX10_type_98 ?_
            refine lv_dup2_11 hx hb dX10_type_99 rfl rfl ?_
            obtain ⟨i_100, hw⟩ := hw
            refine x_iald (k := (34 + (121 * a1)).toNatClampNeg) S G (me_20 km_1 lm_1) i_100 rfl rfl dX10_type_100 ?_
            refine lv_iconst (v := 1) hx hb dX10_type_101 (by decide) ?_
            refine lv_iadd hx hb dX10_type_102 ?_
            obtain ⟨i_103, hw⟩ := hw
            refine x_iast (k := (34 + (121 * a1)).toNatClampNeg) S G (me_20 km_1 lm_1) i_103 rfl (ms_20 km_1 lm_1) dX10_type_103 (fun H locs G => ?_)
            obtain ⟨h_103, eh_103⟩ : ∃ y : Hs, y = si h_87 1 ((34 + (121 * a1)).toNatClampNeg) ((gi h_87 1 ((34 + (121 * a1)).toNatClampNeg)) + 1) := ⟨_, rfl⟩
            rw [← eh_103] at G
            have hw := hw h_103 eh_103
            obtain ⟨a5_104, ea5_104⟩ : ∃ y : Int32, y = b5_51 + (-1) := ⟨_, rfl⟩
            have hw := hw a5_104 ea5_104
            refine lv_iinc (v := a5_104) (lv' := [(5, .int a5_104), (0, .ref (ad 0)), (1, .int a1), (2, .long a2)]) hx hb dX10_type_104 hl (k := 3) rfl (by rw [ea5_104]; rfl) (by decide) rfl (fun ls hl => ?_)
            refine lv_goto (tgt := 51) hx hb dX10_type_107 (by decide) ?_
            exact hw _ _ _ (lv_sub hl [1, 2, 3, 0] rfl) G)
        exact hw _ _ _ (lv_sub hl [1, 2, 3, 0] rfl) G
      · have hw := hw.2 c_37
        refine lv_aload_n hx hb dX10_type_40 rfl (lv_at hl 0 rfl) ?_
        refine x_Vi S hl.1 G (c_M_full l D q A ad h _ hw) (cw_X10_122 S.2.2.2.2 ⟨Nat.le_trans (Nat.le_of_ble_eq_true rfl) hR1, Nat.le_trans (Nat.le_of_ble_eq_true rfl) hR2⟩) (me_11 km_0) rfl rfl rfl (Nat.le_of_ble_eq_true rfl) dX10_type_41 (fun r_41 h_41 H locs G hw => ?_)
        exact RT _ _ _ _ _ _ G hw dX10_type_44
    · have hw := hw.2 c_17
      exact hw _ _ _ (lv_sub hl [0] rfl) G

abbrev rm_M_clear : Room := { frames := 2, cells := 0, slots := 0, locals := 45 }
set_option maxHeartbeats 4000000 in
set_option maxRecDepth 100000 in
theorem c_M_clear (l : Launch) (D : va_G) (q : Nat → ClassId) (A : Nat → Prop) (ad : Nat → Nat) (a1 : Int32) (h : Hs) (Q : Int32 → Hs → Prop) (hw : p_M_clear a1 h Q) : Met l yX10_clear (mw yX10_clear cX10_clear 3 (some .int)) rm_M_clear (va_Pc [.ref (ad 0), .int a1] (pW D q A (wM q ad h))) (va_Qi Q (fun h t => pW D q A (wM q ad h) t) A) 0 0 A := by
  refine met_i (Qp := Q) (by decide) (Nat.le_of_ble_eq_true rfl) ?_
  intro p e R s m args below meth c Qm ls hR1 hR2 S RT hl G
  have hx := S.1
  have hb := S.2.1
  have hl : lv_has ls 3 [(0, .ref (ad 0)), (1, .int a1)] := hl
  unfold p_M_clear at hw
  refine lv_iload_n hx hb dX10_clear_0 rfl (lv_at hl 1 rfl) ?_
  refine x_SzP S hl.1 G (c_M_isFour l D q A ad a1 h _ hw) (cw_X10_129 S.2.2.2.2 ⟨Nat.le_trans (Nat.le_of_ble_eq_true rfl) hR1, Nat.le_trans (Nat.le_of_ble_eq_true rfl) hR2⟩) rfl rfl (Nat.le_of_ble_eq_true rfl) dX10_clear_1 (fun r_1 H locs G z_1 hw => ?_)
  refine lv_if_ne (tgt := 14) hx hb dX10_clear_4 (by decide) (fun c_4 => ?_) (fun c_4 => ?_)
  · have hw := hw.1 c_4
    refine lv_aload_n hx hb dX10_clear_14 rfl (lv_at hl 0 rfl) ?_
    refine lv_iload_n hx hb dX10_clear_15 rfl (lv_at hl 1 rfl) ?_
    refine x_ViP S hl.1 G (c_M_textLong l D q A ad a1 h _ hw) (cw_X10_136 S.2.2.2.2 ⟨Nat.le_trans (Nat.le_of_ble_eq_true rfl) hR1, Nat.le_trans (Nat.le_of_ble_eq_true rfl) hR2⟩) (me_11 km_0) rfl rfl rfl (Nat.le_of_ble_eq_true rfl) dX10_clear_16 (fun r_16 H locs G hw => ?_)
    refine lv_istore_n (lv' := [(2, .int r_16), (0, .ref (ad 0)), (1, .int a1)]) hx hb dX10_clear_19 rfl hl (by decide) rfl (fun ls hl => ?_)
    refine lv_aload_n hx hb dX10_clear_20 rfl (lv_at hl 1 rfl) ?_
    refine x_get (C := RX10) (T := TX10) (n := 21) S G inX10 (me_11 km_0) rfl 0 (by decide) kf_X10_7 rfl dX10_clear_21 ?_
    refine lv_bipush (v := 34) hx hb dX10_clear_24 (by decide) ?_
    refine lv_bipush (v := 121) hx hb dX10_clear_26 (by decide) ?_
    refine lv_iload_n hx hb dX10_clear_28 rfl (lv_at hl 2 rfl) ?_
    refine lv_imul hx hb dX10_clear_29 ?_
    refine lv_iadd hx hb dX10_clear_30 ?_
    refine lv_iconst (v := 0) hx hb dX10_clear_31 (by decide) ?_
    obtain ⟨i_32, hw⟩ := hw
    refine x_iast (k := (34 + (121 * a1)).toNatClampNeg) S G (me_20 km_1 lm_1) i_32 rfl (ms_20 km_1 lm_1) dX10_clear_32 (fun H locs G => ?_)
    obtain ⟨h_32, eh_32⟩ : ∃ y : Hs, y = si h 1 ((34 + (121 * a1)).toNatClampNeg) 0 := ⟨_, rfl⟩
    rw [← eh_32] at G
    have hw := hw h_32 eh_32
    refine lv_iload_n hx hb dX10_clear_33 rfl (lv_at hl 0 rfl) ?_
    exact RT _ _ _ _ _ _ G hw dX10_clear_34
  · have hw := hw.2 c_4
    refine lv_aload_n hx hb dX10_clear_7 rfl (lv_at hl 0 rfl) ?_
    refine lv_bipush (v := (-2)) hx hb dX10_clear_8 (by decide) ?_
    refine x_Vi S hl.1 G (c_M_bad l D q A ad (-2) h _ hw) (cw_X10_118 S.2.2.2.2 ⟨Nat.le_trans (Nat.le_of_ble_eq_true rfl) hR1, Nat.le_trans (Nat.le_of_ble_eq_true rfl) hR2⟩) (me_11 km_0) rfl rfl rfl (Nat.le_of_ble_eq_true rfl) dX10_clear_10 (fun r_10 h_10 H locs G hw => ?_)
    exact RT _ _ _ _ _ _ G hw dX10_clear_13

abbrev rm_M_isSmall : Room := { frames := 1, cells := 0, slots := 0, locals := 25 }
set_option maxHeartbeats 4000000 in
set_option maxRecDepth 100000 in
theorem c_M_isSmall (l : Launch) (D : va_G) (q : Nat → ClassId) (A : Nat → Prop) (ad : Nat → Nat) (a0 : Int32) (h : Hs) (Q : Int32 → Prop) (hw : p_M_isSmall a0 h Q) : Met l yX10_isSmall (mw yX10_isSmall cX10_isSmall 1 (some .boolean)) rm_M_isSmall (va_Pc [.int a0] (pW D q A (wM q ad h))) (va_Qi (fun r h9 => zb r ∧ h9 = h ∧ Q r) (fun h t => pW D q A (wM q ad h) t) A) 0 0 A := by
  refine met_z (Qp := (fun r h9 => h9 = h ∧ Q r)) (by decide) (Nat.le_of_ble_eq_true rfl) ?_
  intro p e R s m args below meth c Qm ls hR1 hR2 S RT hl G
  have hx := S.1
  have hb := S.2.1
  have hl : lv_has ls 1 [(0, .int a0)] := hl
  unfold p_M_isSmall at hw
  refine lv_iload_n hx hb dX10_isSmall_0 rfl (lv_at hl 0 rfl) ?_
  refine lv_i2l hx hb dX10_isSmall_1 rfl ?_
  refine lv_ldc2 (v := 97) hx hb S.2.2.2.1 (S.2.2.2.2 _ kl_X10_141) dX10_isSmall_2 ?_
  refine lv_ldc2 (v := 122) hx hb S.2.2.2.1 (S.2.2.2.2 _ kl_X10_143) dX10_isSmall_5 ?_
  refine x_SzP S hl.1 G (c_M_in l D q A ad a0.toInt64 97 122 h _ hw) (cw_X10_105 S.2.2.2.2 ⟨Nat.le_trans (Nat.le_of_ble_eq_true rfl) hR1, Nat.le_trans (Nat.le_of_ble_eq_true rfl) hR2⟩) rfl rfl (Nat.le_of_ble_eq_true rfl) dX10_isSmall_8 (fun r_8 H locs G z_8 hw => ?_)
  exact RT _ _ _ _ _ _ G z_8 ⟨rfl, hw⟩ dX10_isSmall_11
theorem cw_X10_167 {R : Room} {s : State} {args : Array Value} (hts : ∀ w ∈ gW, w.before args s = true) (hR : rm_M_isSmall.frames + 1 ≤ R.frames ∧ 8 + (1 + 11) + rm_M_isSmall.locals ≤ R.locals) : CallB R s args RX10 167 yX10_isSmall cX10_isSmall 1 (some .boolean) (mw yX10_isSmall cX10_isSmall 1 (some .boolean)) rm_M_isSmall 0 0 1 ∧ (Cond.static yX10_isSmall).before args s = true := cwS9 hts km_X10_167 kt_X10_isSmall kn_X10 kk_X10_isSmall rfl rfl (by decide +kernel) hR
abbrev rm_M_isFigure : Room := { frames := 1, cells := 0, slots := 0, locals := 25 }
set_option maxHeartbeats 4000000 in
set_option maxRecDepth 100000 in
theorem c_M_isFigure (l : Launch) (D : va_G) (q : Nat → ClassId) (A : Nat → Prop) (ad : Nat → Nat) (a0 : Int32) (h : Hs) (Q : Int32 → Prop) (hw : p_M_isFigure a0 h Q) : Met l yX10_isFigure (mw yX10_isFigure cX10_isFigure 1 (some .boolean)) rm_M_isFigure (va_Pc [.int a0] (pW D q A (wM q ad h))) (va_Qi (fun r h9 => zb r ∧ h9 = h ∧ Q r) (fun h t => pW D q A (wM q ad h) t) A) 0 0 A := by
  refine met_z (Qp := (fun r h9 => h9 = h ∧ Q r)) (by decide) (Nat.le_of_ble_eq_true rfl) ?_
  intro p e R s m args below meth c Qm ls hR1 hR2 S RT hl G
  have hx := S.1
  have hb := S.2.1
  have hl : lv_has ls 1 [(0, .int a0)] := hl
  unfold p_M_isFigure at hw
  refine lv_iload_n hx hb dX10_isFigure_0 rfl (lv_at hl 0 rfl) ?_
  refine lv_i2l hx hb dX10_isFigure_1 rfl ?_
  refine lv_ldc2 (v := 48) hx hb S.2.2.2.1 (S.2.2.2.2 _ kl_X10_145) dX10_isFigure_2 ?_
  refine lv_ldc2 (v := 57) hx hb S.2.2.2.1 (S.2.2.2.2 _ kl_X10_147) dX10_isFigure_5 ?_
  refine x_SzP S hl.1 G (c_M_in l D q A ad a0.toInt64 48 57 h _ hw) (cw_X10_105 S.2.2.2.2 ⟨Nat.le_trans (Nat.le_of_ble_eq_true rfl) hR1, Nat.le_trans (Nat.le_of_ble_eq_true rfl) hR2⟩) rfl rfl (Nat.le_of_ble_eq_true rfl) dX10_isFigure_8 (fun r_8 H locs G z_8 hw => ?_)
  exact RT _ _ _ _ _ _ G z_8 ⟨rfl, hw⟩ dX10_isFigure_11
theorem cw_X10_170 {R : Room} {s : State} {args : Array Value} (hts : ∀ w ∈ gW, w.before args s = true) (hR : rm_M_isFigure.frames + 1 ≤ R.frames ∧ 8 + (1 + 11) + rm_M_isFigure.locals ≤ R.locals) : CallB R s args RX10 170 yX10_isFigure cX10_isFigure 1 (some .boolean) (mw yX10_isFigure cX10_isFigure 1 (some .boolean)) rm_M_isFigure 0 0 1 ∧ (Cond.static yX10_isFigure).before args s = true := cwS9 hts km_X10_170 kt_X10_isFigure kn_X10 kk_X10_isFigure rfl rfl (by decide +kernel) hR
abbrev rm_M_look : Room := { frames := 2, cells := 0, slots := 0, locals := 45 }
set_option maxHeartbeats 4000000 in
set_option maxRecDepth 100000 in
theorem c_M_look (l : Launch) (D : va_G) (q : Nat → ClassId) (A : Nat → Prop) (ad : Nat → Nat) (a1 : Int32) (h : Hs) (Q : Hs → Prop) (hw : p_M_look a1 h Q) : Met l yX10_look (mw yX10_look cX10_look 5 none) rm_M_look (va_Pc [.ref (ad 0), .int a1] (pW D q A (wM q ad h))) (va_Qv Q (fun h t => pW D q A (wM q ad h) t) A) 0 0 A := by
  refine met_v (Qp := Q) (by decide) (Nat.le_of_ble_eq_true rfl) ?_
  intro p e R s m args below meth c Qm ls hR1 hR2 S RT hl G
  have hx := S.1
  have hb := S.2.1
  have hl : lv_has ls 5 [(0, .ref (ad 0)), (1, .int a1)] := hl
  unfold p_M_look at hw
  refine lv_aload_n hx hb dX10_look_0 rfl (lv_at hl 0 rfl) ?_
  refine lv_iload_n hx hb dX10_look_1 rfl (lv_at hl 1 rfl) ?_
  refine x_put (C := RX10) (T := TX10) (n := 21) S G inX10 tyX10 tyX10_ok nmX10 (me_11 km_0) rfl 8 (by decide) kf_X10_149 rfl rfl rfl (Nat.le_of_ble_eq_true rfl) (mp_11_8 km_0) dX10_look_2 (fun H locs G => ?_)
  obtain ⟨h_2, eh_2⟩ : ∃ y : Hs, y = si h 0 8 a1 := ⟨_, rfl⟩
  rw [← eh_2] at G
  have hw := hw h_2 eh_2
  have hw := hw (fun (g_5 : Hs) => ∀ (ls : Array Slot) (H : Heap) (locs : List Loc), lv_has ls 5 [(0, .ref (ad 0))] → okW D q A s (wM q ad g_5) H locs → W p l e R s m args below meth c H locs 0 0 Qm (F0 m 5 ls [])) (by
    intro g_5 hw ls H locs hl G
    refine lv_aload_n hx hb dX10_look_5 rfl (lv_at hl 0 rfl) ?_
    refine x_get (C := RX10) (T := TX10) (n := 21) S G inX10 (me_11 km_0) rfl 8 (by decide) kf_X10_149 rfl dX10_look_6 ?_
    refine lv_aload_n hx hb dX10_look_9 rfl (lv_at hl 0 rfl) ?_
    refine lv_aload_n hx hb dX10_look_10 rfl (lv_at hl 0 rfl) ?_
    refine x_get (C := RX10) (T := TX10) (n := 21) S G inX10 (me_11 km_0) rfl 7 (by decide) kf_X10_152 rfl dX10_look_11 ?_
    refine x_ViP S hl.1 G (c_M_textLong l D q A ad (gi g_5 0 7) g_5 _ hw) (cw_X10_136 S.2.2.2.2 ⟨Nat.le_trans (Nat.le_of_ble_eq_true rfl) hR1, Nat.le_trans (Nat.le_of_ble_eq_true rfl) hR2⟩) (me_11 km_0) rfl rfl rfl (Nat.le_of_ble_eq_true rfl) dX10_look_14 (fun r_14 H locs G hw => ?_)
    have hw := hw (∀ (ls : Array Slot) (H : Heap) (locs : List Loc), lv_has ls 5 [(0, .ref (ad 0))] → okW D q A s (wM q ad g_5) H locs → W p l e R s m args below meth c H locs 0 0 Qm (F0 m 50 ls [])) (by
      intro hw ls H locs hl G
      refine lv_aload_n hx hb dX10_look_50 rfl (lv_at hl 0 rfl) ?_
      refine lv_iconst (v := 0) hx hb dX10_look_51 (by decide) ?_
      refine x_put (C := RX10) (T := TX10) (n := 21) S G inX10 tyX10 tyX10_ok nmX10 (me_11 km_0) rfl 9 (by decide) kf_X10_158 rfl rfl rfl (Nat.le_of_ble_eq_true rfl) (mp_11_9 km_0) dX10_look_52 (fun H locs G => ?_)
      obtain ⟨h_52, eh_52⟩ : ∃ y : Hs, y = si g_5 0 9 0 := ⟨_, rfl⟩
      rw [← eh_52] at G
      have hw := hw h_52 eh_52
      refine lv_aload_n hx hb dX10_look_55 rfl (lv_at hl 0 rfl) ?_
      refine lv_iconst (v := 0) hx hb dX10_look_56 (by decide) ?_
      refine x_put (C := RX10) (T := TX10) (n := 21) S G inX10 tyX10 tyX10_ok nmX10 (me_11 km_0) rfl 10 (by decide) kf_X10_161 rfl rfl rfl (Nat.le_of_ble_eq_true rfl) (mp_11_10 km_0) dX10_look_57 (fun H locs G => ?_)
      obtain ⟨h_57, eh_57⟩ : ∃ y : Hs, y = si h_52 0 10 0 := ⟨_, rfl⟩
      rw [← eh_57] at G
      have hw := hw h_57 eh_57
      refine lv_aload_n hx hb dX10_look_60 rfl (lv_at hl 0 rfl) ?_
      refine lv_iconst (v := 0) hx hb dX10_look_61 (by decide) ?_
      refine x_put (C := RX10) (T := TX10) (n := 21) S G inX10 tyX10 tyX10_ok nmX10 (me_11 km_0) rfl 11 (by decide) kf_X10_164 rfl rfl rfl (Nat.le_of_ble_eq_true rfl) (mp_11_11 km_0) dX10_look_62 (fun H locs G => ?_)
      obtain ⟨h_62, eh_62⟩ : ∃ y : Hs, y = si h_57 0 11 0 := ⟨_, rfl⟩
      rw [← eh_62] at G
      have hw := hw h_62 eh_62
      refine lv_aload_n hx hb dX10_look_65 rfl (lv_at hl 0 rfl) ?_
      refine x_get (C := RX10) (T := TX10) (n := 21) S G inX10 (me_11 km_0) rfl 8 (by decide) kf_X10_149 rfl dX10_look_66 ?_
      refine lv_aload_n hx hb dX10_look_69 rfl (lv_at hl 0 rfl) ?_
      refine lv_aload_n hx hb dX10_look_70 rfl (lv_at hl 0 rfl) ?_
      refine x_get (C := RX10) (T := TX10) (n := 21) S G inX10 (me_11 km_0) rfl 7 (by decide) kf_X10_152 rfl dX10_look_71 ?_
      refine x_ViP S hl.1 G (c_M_textLong l D q A ad (gi h_62 0 7) h_62 _ hw) (cw_X10_136 S.2.2.2.2 ⟨Nat.le_trans (Nat.le_of_ble_eq_true rfl) hR1, Nat.le_trans (Nat.le_of_ble_eq_true rfl) hR2⟩) (me_11 km_0) rfl rfl rfl (Nat.le_of_ble_eq_true rfl) dX10_look_74 (fun r_74 H locs G hw => ?_)
      refine lv_icmp_ne (tgt := 81) hx hb dX10_look_77 (by decide) (fun c_77 => ?_) (fun c_77 => ?_)
      · have hw := hw.1 c_77
        refine lv_aload_n hx hb dX10_look_81 rfl (lv_at hl 0 rfl) ?_
        refine lv_aload_n hx hb dX10_look_82 rfl (lv_at hl 0 rfl) ?_
        refine x_get (C := RX10) (T := TX10) (n := 21) S G inX10 (me_11 km_0) rfl 7 (by decide) kf_X10_152 rfl dX10_look_83 ?_
        refine lv_aload_n hx hb dX10_look_86 rfl (lv_at hl 0 rfl) ?_
        refine x_get (C := RX10) (T := TX10) (n := 21) S G inX10 (me_11 km_0) rfl 8 (by decide) kf_X10_149 rfl dX10_look_87 ?_
        refine x_ViP S hl.1 G (c_M_byteAt l D q A ad (gi h_62 0 7) (gi h_62 0 8) h_62 _ hw) (cw_X10_155 S.2.2.2.2 ⟨Nat.le_trans (Nat.le_of_ble_eq_true rfl) hR1, Nat.le_trans (Nat.le_of_ble_eq_true rfl) hR2⟩) (me_11 km_0) rfl rfl rfl (Nat.le_of_ble_eq_true rfl) dX10_look_90 (fun r_90 H locs G hw => ?_)
        refine lv_istore_n (lv' := [(2, .int r_90), (0, .ref (ad 0))]) hx hb dX10_look_93 rfl hl (by decide) rfl (fun ls hl => ?_)
        refine lv_aload_n hx hb dX10_look_94 rfl (lv_at hl 1 rfl) ?_
        refine lv_iload_n hx hb dX10_look_95 rfl (lv_at hl 0 rfl) ?_
        refine x_SzP S hl.1 G (c_M_isSmall l D q A ad r_90 h_62 _ hw) (cw_X10_167 S.2.2.2.2 ⟨Nat.le_trans (Nat.le_of_ble_eq_true rfl) hR1, Nat.le_trans (Nat.le_of_ble_eq_true rfl) hR2⟩) rfl rfl (Nat.le_of_ble_eq_true rfl) dX10_look_96 (fun r_96 H locs G z_96 hw => ?_)
        have hw := hw (fun (t1_128 : Int32) => ∀ (ls : Array Slot) (H : Heap) (locs : List Loc), lv_has ls 5 [(0, .ref (ad 0))] → okW D q A s (wM q ad h_62) H locs → W p l e R s m args below meth c H locs 0 0 Qm (F0 m 128 ls [.int t1_128, .ref (ad 0)])) (by
          intro t1_128 hw ls H locs hl G
          refine x_put (C := RX10) (T := TX10) (n := 21) S G inX10 tyX10 tyX10_ok nmX10 (me_11 km_0) rfl 10 (by decide) kf_X10_161 rfl rfl rfl (Nat.le_of_ble_eq_true rfl) (mp_11_10 km_0) dX10_look_128 (fun H locs G => ?_)
          obtain ⟨h_128, eh_128⟩ : ∃ y : Hs, y = si h_62 0 10 t1_128 := ⟨_, rfl⟩
          rw [← eh_128] at G
          have hw := hw h_128 eh_128
          refine lv_aload_n hx hb dX10_look_131 rfl (lv_at hl 0 rfl) ?_
          refine lv_iconst (v := 1) hx hb dX10_look_132 (by decide) ?_
          refine x_put (C := RX10) (T := TX10) (n := 21) S G inX10 tyX10 tyX10_ok nmX10 (me_11 km_0) rfl 9 (by decide) kf_X10_158 rfl rfl rfl (Nat.le_of_ble_eq_true rfl) (mp_11_9 km_0) dX10_look_133 (fun H locs G => ?_)
          obtain ⟨h_133, eh_133⟩ : ∃ y : Hs, y = si h_128 0 9 1 := ⟨_, rfl⟩
          rw [← eh_133] at G
          have hw := hw h_133 eh_133
          refine lv_aload_n hx hb dX10_look_136 rfl (lv_at hl 0 rfl) ?_
          refine x_get (C := RX10) (T := TX10) (n := 21) S G inX10 (me_11 km_0) rfl 10 (by decide) kf_X10_161 rfl dX10_look_137 ?_
          refine lv_iconst (v := 3) hx hb dX10_look_140 (by decide) ?_
          have hw := hw (fun (t0_149 : Int32) => ∀ (ls : Array Slot) (H : Heap) (locs : List Loc), lv_has ls 5 [(0, .ref (ad 0))] → okW D q A s (wM q ad h_133) H locs → W p l e R s m args below meth c H locs 0 0 Qm (F0 m 149 ls [.int t0_149])) (by
            intro t0_149 hw ls H locs hl G
            refine lv_istore_n (lv' := [(3, .int t0_149), (0, .ref (ad 0))]) hx hb dX10_look_149 rfl hl (by decide) rfl (fun ls hl => ?_)
            have hw := hw (fun (b3_150 : Int32) (g_150 : Hs) => ∀ (ls : Array Slot) (H : Heap) (locs : List Loc), lv_has ls 5 [(0, .ref (ad 0)), (3, .int b3_150)] → okW D q A s (wM q ad g_150) H locs → W p l e R s m args below meth c H locs 0 0 Qm (F0 m 150 ls [])) (by
              intro b3_150 g_150 hw ls H locs hl G
              refine lv_iload_n hx hb dX10_look_150 rfl (lv_at hl 1 rfl) ?_
              have hw := hw (∀ (ls : Array Slot) (H : Heap) (locs : List Loc), lv_has ls 5 [(0, .ref (ad 0))] → okW D q A s (wM q ad g_150) H locs → W p l e R s m args below meth c H locs 0 0 Qm (F0 m 236 ls [])) (by
                intro hw ls H locs hl G
                refine lv_iconst (v := 0) hx hb dX10_look_236 (by decide) ?_
                refine lv_istore (lv' := [(4, .int 0), (0, .ref (ad 0))]) hx hb dX10_look_237 hl (by decide) rfl (fun ls hl => ?_)
                have hw := hw (fun (b4_239 : Int32) (g_239 : Hs) => ∀ (ls : Array Slot) (H : Heap) (locs : List Loc), lv_has ls 5 [(0, .ref (ad 0)), (4, .int b4_239)] → okW D q A s (wM q ad g_239) H locs → W p l e R s m args below meth c H locs 0 0 Qm (F0 m 239 ls [])) (by
                  intro b4_239 g_239 hw ls H locs hl G
                  refine lv_iload hx hb dX10_look_239 (lv_at hl 1 rfl) ?_
                  refine lv_aload_n hx hb dX10_look_241 rfl (lv_at hl 0 rfl) ?_
                  refine x_get (C := RX10) (T := TX10) (n := 21) S G inX10 (me_11 km_0) rfl 9 (by decide) kf_X10_158 rfl dX10_look_242 ?_
                  have hw := hw (∀ (ls : Array Slot) (H : Heap) (locs : List Loc), lv_has ls 5 [(0, .ref (ad 0))] → okW D q A s (wM q ad g_239) H locs → W p l e R s m args below meth c H locs 0 0 Qm (F0 m 298 ls [])) (by
                    intro hw ls H locs hl G
                    refine lv_aload_n hx hb dX10_look_298 rfl (lv_at hl 0 rfl) ?_
                    refine lv_aload_n hx hb dX10_look_299 rfl (lv_at hl 0 rfl) ?_
                    refine x_get (C := RX10) (T := TX10) (n := 21) S G inX10 (me_11 km_0) rfl 10 (by decide) kf_X10_161 rfl dX10_look_300 ?_
                    refine lv_iconst (v := 2) hx hb dX10_look_303 (by decide) ?_
                    have hw := hw (fun (t1_323 : Int32) => ∀ (ls : Array Slot) (H : Heap) (locs : List Loc), lv_has ls 5 [] → okW D q A s (wM q ad g_239) H locs → W p l e R s m args below meth c H locs 0 0 Qm (F0 m 323 ls [.int t1_323, .ref (ad 0)])) (by
                      intro t1_323 hw ls H locs hl G
                      refine x_put (C := RX10) (T := TX10) (n := 21) S G inX10 tyX10 tyX10_ok nmX10 (me_11 km_0) rfl 10 (by decide) kf_X10_161 rfl rfl rfl (Nat.le_of_ble_eq_true rfl) (mp_11_10 km_0) dX10_look_323 (fun H locs G => ?_)
                      obtain ⟨h_323, eh_323⟩ : ∃ y : Hs, y = si g_239 0 10 t1_323 := ⟨_, rfl⟩
                      rw [← eh_323] at G
                      have hw := hw h_323 eh_323
                      exact RT _ _ _ _ _ G hw dX10_look_326)
                    have hw := hw (∀ (ls : Array Slot) (H : Heap) (locs : List Loc), lv_has ls 5 [(0, .ref (ad 0))] → okW D q A s (wM q ad g_239) H locs → W p l e R s m args below meth c H locs 0 0 Qm (F0 m 319 ls [.ref (ad 0)])) (by
                      intro hw ls H locs hl G
                      refine lv_aload_n hx hb dX10_look_319 rfl (lv_at hl 0 rfl) ?_
                      refine x_get (C := RX10) (T := TX10) (n := 21) S G inX10 (me_11 km_0) rfl 10 (by decide) kf_X10_161 rfl dX10_look_320 ?_
                      exact hw _ _ _ (lv_sub hl [] rfl) G)
                    refine lv_icmp_ne (tgt := 319) hx hb dX10_look_304 (by decide) (fun c_304 => ?_) (fun c_304 => ?_)
                    · have hw := hw.1 c_304
                      exact hw _ _ _ (lv_sub hl [0] rfl) G
                    · have hw := hw.2 c_304
                      refine lv_aload_n hx hb dX10_look_307 rfl (lv_at hl 0 rfl) ?_
                      refine x_get (C := RX10) (T := TX10) (n := 21) S G inX10 (me_11 km_0) rfl 9 (by decide) kf_X10_158 rfl dX10_look_308 ?_
                      refine lv_iconst (v := 3) hx hb dX10_look_311 (by decide) ?_
                      refine lv_icmp_le (tgt := 319) hx hb dX10_look_312 (by decide) (fun c_312 => ?_) (fun c_312 => ?_)
                      · have hw := hw.1 c_312
                        exact hw _ _ _ (lv_sub hl [0] rfl) G
                      · have hw := hw.2 c_312
                        refine lv_iconst (v := 4) hx hb dX10_look_315 (by decide) ?_
                        refine lv_goto (tgt := 323) hx hb dX10_look_316 (by decide) ?_
                        exact hw _ _ _ (lv_sub hl [] rfl) G)
                  refine lv_icmp_ge (tgt := 298) hx hb dX10_look_245 (by decide) (fun c_245 => ?_) (fun c_245 => ?_)
                  · have hw := hw.1 c_245
                    exact hw _ _ _ (lv_sub hl [0] rfl) G
                  · have hw := hw.2 c_245
                    refine lv_iload hx hb dX10_look_248 (lv_at hl 1 rfl) ?_
                    refine lv_iconst (v := 3) hx hb dX10_look_250 (by decide) ?_
                    refine lv_icmp_ge (tgt := 298) hx hb dX10_look_251 (by decide) (fun c_251 => ?_) (fun c_251 => ?_)
                    · have hw := hw.1 c_251
                      exact hw _ _ _ (lv_sub hl [0] rfl) G
                    · have hw := hw.2 c_251
                      refine lv_aload_n hx hb dX10_look_254 rfl (lv_at hl 0 rfl) ?_
                      refine x_get (C := RX10) (T := TX10) (n := 21) S G inX10 (me_11 km_0) rfl 10 (by decide) kf_X10_161 rfl dX10_look_255 ?_
                      refine lv_iconst (v := 2) hx hb dX10_look_258 (by decide) ?_
                      refine lv_icmp_ne (tgt := 298) hx hb dX10_look_259 (by decide) (fun c_259 => ?_) (fun c_259 => ?_)
                      · have hw := hw.1 c_259
                        exact hw _ _ _ (lv_sub hl [0] rfl) G
                      · have hw := hw.2 c_259
                        refine lv_aload_n hx hb dX10_look_262 rfl (lv_at hl 0 rfl) ?_
                        refine lv_bipush (v := 10) hx hb dX10_look_263 (by decide) ?_
                        refine lv_aload_n hx hb dX10_look_265 rfl (lv_at hl 0 rfl) ?_
                        refine x_get (C := RX10) (T := TX10) (n := 21) S G inX10 (me_11 km_0) rfl 11 (by decide) kf_X10_164 rfl dX10_look_266 ?_
                        refine lv_imul hx hb dX10_look_269 ?_
                        refine lv_aload_n hx hb dX10_look_270 rfl (lv_at hl 0 rfl) ?_
                        refine lv_aload_n hx hb dX10_look_271 rfl (lv_at hl 0 rfl) ?_
                        refine x_get (C := RX10) (T := TX10) (n := 21) S G inX10 (me_11 km_0) rfl 7 (by decide) kf_X10_152 rfl dX10_look_272 ?_
                        refine lv_aload_n hx hb dX10_look_275 rfl (lv_at hl 0 rfl) ?_
                        refine x_get (C := RX10) (T := TX10) (n := 21) S G inX10 (me_11 km_0) rfl 8 (by decide) kf_X10_149 rfl dX10_look_276 ?_
                        refine lv_iload hx hb dX10_look_279 (lv_at hl 1 rfl) ?_
                        refine lv_iadd hx hb dX10_look_281 ?_
                        refine x_ViP S hl.1 G (c_M_byteAt l D q A ad (gi g_239 0 7) ((gi g_239 0 8) + b4_239) g_239 _ hw) (cw_X10_155 S.2.2.2.2 ⟨Nat.le_trans (Nat.le_of_ble_eq_true rfl) hR1, Nat.le_trans (Nat.le_of_ble_eq_true rfl) hR2⟩) (me_11 km_0) rfl rfl rfl (Nat.le_of_ble_eq_true rfl) dX10_look_282 (fun r_282 H locs G hw => ?_)
                        refine lv_iadd hx hb dX10_look_285 ?_
                        refine lv_bipush (v := 48) hx hb dX10_look_286 (by decide) ?_
                        refine lv_isub hx hb dX10_look_288 ?_
                        refine x_put (C := RX10) (T := TX10) (n := 21) S G inX10 tyX10 tyX10_ok nmX10 (me_11 km_0) rfl 11 (by decide) kf_X10_164 rfl rfl rfl (Nat.le_of_ble_eq_true rfl) (mp_11_11 km_0) dX10_look_289 (fun H locs G => ?_)
                        obtain ⟨h_289, eh_289⟩ : ∃ y : Hs, y = si g_239 0 11 (((10 * (gi g_239 0 11)) + r_282) - 48) := ⟨_, rfl⟩
                        rw [← eh_289] at G
                        have hw := hw h_289 eh_289
                        obtain ⟨a4_292, ea4_292⟩ : ∃ y : Int32, y = b4_239 + 1 := ⟨_, rfl⟩
                        have hw := hw a4_292 ea4_292
                        refine lv_iinc (v := a4_292) (lv' := [(4, .int a4_292), (0, .ref (ad 0))]) hx hb dX10_look_292 hl (k := 1) rfl (by rw [ea4_292]; rfl) (by decide) rfl (fun ls hl => ?_)
                        refine lv_goto (tgt := 239) hx hb dX10_look_295 (by decide) ?_
                        exact hw _ _ _ (lv_sub hl [1, 0] rfl) G)
                exact hw _ _ _ (lv_sub hl [1, 0] rfl) G)
              refine lv_if_eq (tgt := 236) hx hb dX10_look_151 (by decide) (fun c_151 => ?_) (fun c_151 => ?_)
              · have hw := hw.1 c_151
                exact hw _ _ _ (lv_sub hl [0] rfl) G
              · have hw := hw.2 c_151
                refine lv_aload_n hx hb dX10_look_154 rfl (lv_at hl 0 rfl) ?_
                refine x_get (C := RX10) (T := TX10) (n := 21) S G inX10 (me_11 km_0) rfl 8 (by decide) kf_X10_149 rfl dX10_look_155 ?_
                refine lv_aload_n hx hb dX10_look_158 rfl (lv_at hl 0 rfl) ?_
                refine x_get (C := RX10) (T := TX10) (n := 21) S G inX10 (me_11 km_0) rfl 9 (by decide) kf_X10_158 rfl dX10_look_159 ?_
                refine lv_iadd hx hb dX10_look_162 ?_
                refine lv_aload_n hx hb dX10_look_163 rfl (lv_at hl 0 rfl) ?_
                refine lv_aload_n hx hb dX10_look_164 rfl (lv_at hl 0 rfl) ?_
                refine x_get (C := RX10) (T := TX10) (n := 21) S G inX10 (me_11 km_0) rfl 7 (by decide) kf_X10_152 rfl dX10_look_165 ?_
                refine x_ViP S hl.1 G (c_M_textLong l D q A ad (gi g_150 0 7) g_150 _ hw) (cw_X10_136 S.2.2.2.2 ⟨Nat.le_trans (Nat.le_of_ble_eq_true rfl) hR1, Nat.le_trans (Nat.le_of_ble_eq_true rfl) hR2⟩) (me_11 km_0) rfl rfl rfl (Nat.le_of_ble_eq_true rfl) dX10_look_168 (fun r_168 H locs G hw => ?_)
                refine lv_icmp_ge (tgt := 236) hx hb dX10_look_171 (by decide) (fun c_171 => ?_) (fun c_171 => ?_)
                · have hw := hw.1 c_171
                  exact hw _ _ _ (lv_sub hl [0] rfl) G
                · have hw := hw.2 c_171
                  refine lv_aload_n hx hb dX10_look_174 rfl (lv_at hl 0 rfl) ?_
                  refine lv_aload_n hx hb dX10_look_175 rfl (lv_at hl 0 rfl) ?_
                  refine x_get (C := RX10) (T := TX10) (n := 21) S G inX10 (me_11 km_0) rfl 7 (by decide) kf_X10_152 rfl dX10_look_176 ?_
                  refine lv_aload_n hx hb dX10_look_179 rfl (lv_at hl 0 rfl) ?_
                  refine x_get (C := RX10) (T := TX10) (n := 21) S G inX10 (me_11 km_0) rfl 8 (by decide) kf_X10_149 rfl dX10_look_180 ?_
                  refine lv_aload_n hx hb dX10_look_183 rfl (lv_at hl 0 rfl) ?_
                  refine x_get (C := RX10) (T := TX10) (n := 21) S G inX10 (me_11 km_0) rfl 9 (by decide) kf_X10_158 rfl dX10_look_184 ?_
                  refine lv_iadd hx hb dX10_look_187 ?_
                  refine x_ViP S hl.1 G (c_M_byteAt l D q A ad (gi g_150 0 7) ((gi g_150 0 8) + (gi g_150 0 9)) g_150 _ hw) (cw_X10_155 S.2.2.2.2 ⟨Nat.le_trans (Nat.le_of_ble_eq_true rfl) hR1, Nat.le_trans (Nat.le_of_ble_eq_true rfl) hR2⟩) (me_11 km_0) rfl rfl rfl (Nat.le_of_ble_eq_true rfl) dX10_look_188 (fun r_188 H locs G hw => ?_)
                  refine lv_istore (lv' := [(4, .int r_188), (0, .ref (ad 0)), (3, .int b3_150)]) hx hb dX10_look_191 hl (by decide) rfl (fun ls hl => ?_)
                  refine lv_aload_n hx hb dX10_look_193 rfl (lv_at hl 1 rfl) ?_
                  refine x_get (C := RX10) (T := TX10) (n := 21) S G inX10 (me_11 km_0) rfl 10 (by decide) kf_X10_161 rfl dX10_look_194 ?_
                  refine lv_iconst (v := 1) hx hb dX10_look_197 (by decide) ?_
                  have hw := hw (fun (t0_214 : Int32) => ∀ (ls : Array Slot) (H : Heap) (locs : List Loc), lv_has ls 5 [(0, .ref (ad 0))] → okW D q A s (wM q ad g_150) H locs → W p l e R s m args below meth c H locs 0 0 Qm (F0 m 214 ls [.int t0_214])) (by
                    intro t0_214 hw ls H locs hl G
                    refine lv_istore_n (lv' := [(3, .int t0_214), (0, .ref (ad 0))]) hx hb dX10_look_214 rfl hl (by decide) rfl (fun ls hl => ?_)
                    refine lv_aload_n hx hb dX10_look_215 rfl (lv_at hl 1 rfl) ?_
                    refine lv_dup hx hb dX10_look_216 rfl ?_
                    refine x_get (C := RX10) (T := TX10) (n := 21) S G inX10 (me_11 km_0) rfl 9 (by decide) kf_X10_158 rfl dX10_look_217 ?_
                    refine lv_iload_n hx hb dX10_look_220 rfl (lv_at hl 0 rfl) ?_
                    have hw := hw (fun (t2_229 : Int32) => ∀ (ls : Array Slot) (H : Heap) (locs : List Loc), lv_has ls 5 [(0, .ref (ad 0)), (3, .int t0_214)] → okW D q A s (wM q ad g_150) H locs → W p l e R s m args below meth c H locs 0 0 Qm (F0 m 229 ls [.int t2_229, .int (gi g_150 0 9), .ref (ad 0)])) (by
                      intro t2_229 hw ls H locs hl G
                      refine lv_iadd hx hb dX10_look_229 ?_
                      refine x_put (C := RX10) (T := TX10) (n := 21) S G inX10 tyX10 tyX10_ok nmX10 (me_11 km_0) rfl 9 (by decide) kf_X10_158 rfl rfl rfl (Nat.le_of_ble_eq_true rfl) (mp_11_9 km_0) dX10_look_230 (fun H locs G => ?_)
                      obtain ⟨h_230, eh_230⟩ : ∃ y : Hs, y = si g_150 0 9 ((gi g_150 0 9) + t2_229) := ⟨_, rfl⟩
                      rw [← eh_230] at G
                      have hw := hw h_230 eh_230
                      refine lv_goto (tgt := 150) hx hb dX10_look_233 (by decide) ?_
                      exact hw _ _ _ (lv_sub hl [0, 1] rfl) G)
                    refine lv_if_eq (tgt := 228) hx hb dX10_look_221 (by decide) (fun c_221 => ?_) (fun c_221 => ?_)
                    · have hw := hw.1 c_221
                      refine lv_iconst (v := 0) hx hb dX10_look_228 (by decide) ?_
                      exact hw _ _ _ (lv_sub hl [1, 0] rfl) G
                    · have hw := hw.2 c_221
                      refine lv_iconst (v := 1) hx hb dX10_look_224 (by decide) ?_
                      refine lv_goto (tgt := 229) hx hb dX10_look_225 (by decide) ?_
                      exact hw _ _ _ (lv_sub hl [1, 0] rfl) G)
                  refine lv_icmp_ne (tgt := 209) hx hb dX10_look_198 (by decide) (fun c_198 => ?_) (fun c_198 => ?_)
                  · have hw := hw.1 c_198
                    refine lv_iload hx hb dX10_look_209 (lv_at hl 0 rfl) ?_
                    refine x_SzP S hl.1 G (c_M_isFigure l D q A ad r_188 g_150 _ hw) (cw_X10_170 S.2.2.2.2 ⟨Nat.le_trans (Nat.le_of_ble_eq_true rfl) hR1, Nat.le_trans (Nat.le_of_ble_eq_true rfl) hR2⟩) rfl rfl (Nat.le_of_ble_eq_true rfl) dX10_look_211 (fun r_211 H locs G z_211 hw => ?_)
                    exact hw _ _ _ (lv_sub hl [1] rfl) G
                  · have hw := hw.2 c_198
                    refine lv_iload hx hb dX10_look_201 (lv_at hl 0 rfl) ?_
                    refine x_SzP S hl.1 G (c_M_isSmall l D q A ad r_188 g_150 _ hw) (cw_X10_167 S.2.2.2.2 ⟨Nat.le_trans (Nat.le_of_ble_eq_true rfl) hR1, Nat.le_trans (Nat.le_of_ble_eq_true rfl) hR2⟩) rfl rfl (Nat.le_of_ble_eq_true rfl) dX10_look_203 (fun r_203 H locs G z_203 hw => ?_)
                    refine lv_goto (tgt := 214) hx hb dX10_look_206 (by decide) ?_
                    exact hw _ _ _ (lv_sub hl [1] rfl) G)
            exact hw _ _ _ (lv_sub hl [1, 0] rfl) G)
          refine lv_icmp_ge (tgt := 148) hx hb dX10_look_141 (by decide) (fun c_141 => ?_) (fun c_141 => ?_)
          · have hw := hw.1 c_141
            refine lv_iconst (v := 0) hx hb dX10_look_148 (by decide) ?_
            exact hw _ _ _ (lv_sub hl [0] rfl) G
          · have hw := hw.2 c_141
            refine lv_iconst (v := 1) hx hb dX10_look_144 (by decide) ?_
            refine lv_goto (tgt := 149) hx hb dX10_look_145 (by decide) ?_
            exact hw _ _ _ (lv_sub hl [0] rfl) G)
        refine lv_if_eq (tgt := 106) hx hb dX10_look_99 (by decide) (fun c_99 => ?_) (fun c_99 => ?_)
        · have hw := hw.1 c_99
          refine lv_iload_n hx hb dX10_look_106 rfl (lv_at hl 0 rfl) ?_
          refine x_SzP S hl.1 G (c_M_isFigure l D q A ad r_90 h_62 _ hw) (cw_X10_170 S.2.2.2.2 ⟨Nat.le_trans (Nat.le_of_ble_eq_true rfl) hR1, Nat.le_trans (Nat.le_of_ble_eq_true rfl) hR2⟩) rfl rfl (Nat.le_of_ble_eq_true rfl) dX10_look_107 (fun r_107 H locs G z_107 hw => ?_)
          refine lv_if_eq (tgt := 117) hx hb dX10_look_110 (by decide) (fun c_110 => ?_) (fun c_110 => ?_)
          · have hw := hw.1 c_110
            refine lv_iload_n hx hb dX10_look_117 rfl (lv_at hl 0 rfl) ?_
            refine lv_bipush (v := 59) hx hb dX10_look_118 (by decide) ?_
            refine lv_icmp_ne (tgt := 127) hx hb dX10_look_120 (by decide) (fun c_120 => ?_) (fun c_120 => ?_)
            · have hw := hw.1 c_120
              refine lv_iconst (v := 4) hx hb dX10_look_127 (by decide) ?_
              exact hw _ _ _ (lv_sub hl [1] rfl) G
            · have hw := hw.2 c_120
              refine lv_iconst (v := 3) hx hb dX10_look_123 (by decide) ?_
              refine lv_goto (tgt := 128) hx hb dX10_look_124 (by decide) ?_
              exact hw _ _ _ (lv_sub hl [1] rfl) G
          · have hw := hw.2 c_110
            refine lv_iconst (v := 2) hx hb dX10_look_113 (by decide) ?_
            refine lv_goto (tgt := 128) hx hb dX10_look_114 (by decide) ?_
            exact hw _ _ _ (lv_sub hl [1] rfl) G
        · have hw := hw.2 c_99
          refine lv_iconst (v := 1) hx hb dX10_look_102 (by decide) ?_
          refine lv_goto (tgt := 128) hx hb dX10_look_103 (by decide) ?_
          exact hw _ _ _ (lv_sub hl [1] rfl) G
      · have hw := hw.2 c_77
        exact RT _ _ _ _ _ G hw dX10_look_80)
    refine lv_icmp_ge (tgt := 50) hx hb dX10_look_17 (by decide) (fun c_17 => ?_) (fun c_17 => ?_)
    · have hw := hw.1 c_17
      exact hw _ _ _ (lv_sub hl [0] rfl) G
    · have hw := hw.2 c_17
      refine lv_aload_n hx hb dX10_look_20 rfl (lv_at hl 0 rfl) ?_
      refine lv_aload_n hx hb dX10_look_21 rfl (lv_at hl 0 rfl) ?_
      refine x_get (C := RX10) (T := TX10) (n := 21) S G inX10 (me_11 km_0) rfl 7 (by decide) kf_X10_152 rfl dX10_look_22 ?_
      refine lv_aload_n hx hb dX10_look_25 rfl (lv_at hl 0 rfl) ?_
      refine x_get (C := RX10) (T := TX10) (n := 21) S G inX10 (me_11 km_0) rfl 8 (by decide) kf_X10_149 rfl dX10_look_26 ?_
      refine x_ViP S hl.1 G (c_M_byteAt l D q A ad (gi g_5 0 7) (gi g_5 0 8) g_5 _ hw) (cw_X10_155 S.2.2.2.2 ⟨Nat.le_trans (Nat.le_of_ble_eq_true rfl) hR1, Nat.le_trans (Nat.le_of_ble_eq_true rfl) hR2⟩) (me_11 km_0) rfl rfl rfl (Nat.le_of_ble_eq_true rfl) dX10_look_29 (fun r_29 H locs G hw => ?_)
      refine lv_bipush (v := 32) hx hb dX10_look_32 (by decide) ?_
      refine lv_icmp_ne (tgt := 50) hx hb dX10_look_34 (by decide) (fun c_34 => ?_) (fun c_34 => ?_)
      · have hw := hw.1 c_34
        exact hw _ _ _ (lv_sub hl [0] rfl) G
      · have hw := hw.2 c_34
        refine lv_aload_n hx hb dX10_look_37 rfl (lv_at hl 0 rfl) ?_
        refine lv_dup hx hb dX10_look_38 rfl ?_
        refine x_get (C := RX10) (T := TX10) (n := 21) S G inX10 (me_11 km_0) rfl 8 (by decide) kf_X10_149 rfl dX10_look_39 ?_
        refine lv_iconst (v := 1) hx hb dX10_look_42 (by decide) ?_
        refine lv_iadd hx hb dX10_look_43 ?_
        refine x_put (C := RX10) (T := TX10) (n := 21) S G inX10 tyX10 tyX10_ok nmX10 (me_11 km_0) rfl 8 (by decide) kf_X10_149 rfl rfl rfl (Nat.le_of_ble_eq_true rfl) (mp_11_8 km_0) dX10_look_44 (fun H locs G => ?_)
        obtain ⟨h_44, eh_44⟩ : ∃ y : Hs, y = si g_5 0 8 ((gi g_5 0 8) + 1) := ⟨_, rfl⟩
        rw [← eh_44] at G
        have hw := hw h_44 eh_44
        refine lv_goto (tgt := 5) hx hb dX10_look_47 (by decide) ?_
        exact hw _ _ _ (lv_sub hl [0] rfl) G)
  exact hw _ _ _ (lv_sub hl [0] rfl) G
theorem cw_X10_173 {R : Room} {s : State} {args : Array Value} (hts : ∀ w ∈ gW, w.before args s = true) (hR : rm_M_look.frames + 1 ≤ R.frames ∧ 8 + (5 + 11) + rm_M_look.locals ≤ R.locals) : CallW R s args RX10 RX10 173 yX10_look cX10_look 5 none (mw yX10_look cX10_look 5 none) rm_M_look 0 0 1 := cwV9 hts km_X10_173 ki_X10_look ks_X10_look kn_X10 kk_X10_look rfl rfl (by decide +kernel) hR
abbrev rm_M_goOn : Room := { frames := 3, cells := 0, slots := 0, locals := 69 }
set_option maxHeartbeats 4000000 in
set_option maxRecDepth 100000 in
theorem c_M_goOn (l : Launch) (D : va_G) (q : Nat → ClassId) (A : Nat → Prop) (ad : Nat → Nat) (h : Hs) (Q : Hs → Prop) (hw : p_M_goOn h Q) : Met l yX10_goOn (mw yX10_goOn cX10_goOn 1 none) rm_M_goOn (va_Pc [.ref (ad 0)] (pW D q A (wM q ad h))) (va_Qv Q (fun h t => pW D q A (wM q ad h) t) A) 0 0 A := by
  refine met_v (Qp := Q) (by decide) (Nat.le_of_ble_eq_true rfl) ?_
  intro p e R s m args below meth c Qm ls hR1 hR2 S RT hl G
  have hx := S.1
  have hb := S.2.1
  have hl : lv_has ls 1 [(0, .ref (ad 0))] := hl
  unfold p_M_goOn at hw
  refine lv_aload_n hx hb dX10_goOn_0 rfl (lv_at hl 0 rfl) ?_
  refine lv_aload_n hx hb dX10_goOn_1 rfl (lv_at hl 0 rfl) ?_
  refine x_get (C := RX10) (T := TX10) (n := 21) S G inX10 (me_11 km_0) rfl 8 (by decide) kf_X10_149 rfl dX10_goOn_2 ?_
  refine lv_aload_n hx hb dX10_goOn_5 rfl (lv_at hl 0 rfl) ?_
  refine x_get (C := RX10) (T := TX10) (n := 21) S G inX10 (me_11 km_0) rfl 9 (by decide) kf_X10_158 rfl dX10_goOn_6 ?_
  refine lv_iadd hx hb dX10_goOn_9 ?_
  refine x_Vv S hl.1 G (c_M_look l D q A ad ((gi h 0 8) + (gi h 0 9)) h _ hw) (cw_X10_173 S.2.2.2.2 ⟨Nat.le_trans (Nat.le_of_ble_eq_true rfl) hR1, Nat.le_trans (Nat.le_of_ble_eq_true rfl) hR2⟩) (me_11 km_0) rfl rfl rfl (Nat.le_of_ble_eq_true rfl) dX10_goOn_10 (fun h_10 H locs G hw => ?_)
  exact RT _ _ _ _ _ G hw dX10_goOn_13
theorem cw_X10_176 {R : Room} {s : State} {args : Array Value} (hts : ∀ w ∈ gW, w.before args s = true) (hR : rm_M_goOn.frames + 1 ≤ R.frames ∧ 8 + (1 + 11) + rm_M_goOn.locals ≤ R.locals) : CallW R s args RX10 RX10 176 yX10_goOn cX10_goOn 1 none (mw yX10_goOn cX10_goOn 1 none) rm_M_goOn 0 0 0 := cwV9 hts km_X10_176 ki_X10_goOn ks_X10_goOn kn_X10 kk_X10_goOn rfl rfl (by decide +kernel) hR
abbrev rm_M_isWord : Room := { frames := 1, cells := 0, slots := 0, locals := 22 }
set_option maxHeartbeats 4000000 in
set_option maxRecDepth 100000 in
theorem c_M_isWord (l : Launch) (D : va_G) (q : Nat → ClassId) (A : Nat → Prop) (ad : Nat → Nat) (a1 : Int32) (a2 : Int32) (a3 : Int32) (a4 : Int32) (a5 : Int32) (h : Hs) (Q : Int32 → Prop) (hw : p_M_isWord a1 a2 a3 a4 a5 h Q) : Met l yX10_isWord (mw yX10_isWord cX10_isWord 9 (some .boolean)) rm_M_isWord (va_Pc [.ref (ad 0), .int a1, .int a2, .int a3, .int a4, .int a5] (pW D q A (wM q ad h))) (va_Qi (fun r h9 => zb r ∧ h9 = h ∧ Q r) (fun h t => pW D q A (wM q ad h) t) A) 0 0 A := by
  refine met_z (Qp := (fun r h9 => h9 = h ∧ Q r)) (by decide) (Nat.le_of_ble_eq_true rfl) ?_
  intro p e R s m args below meth c Qm ls hR1 hR2 S RT hl G
  have hx := S.1
  have hb := S.2.1
  have hl : lv_has ls 9 [(0, .ref (ad 0)), (1, .int a1), (2, .int a2), (3, .int a3), (4, .int a4), (5, .int a5)] := hl
  unfold p_M_isWord at hw
  refine lv_iload_n hx hb dX10_isWord_0 rfl (lv_at hl 3 rfl) ?_
  have hw := hw (fun (t0_27 : Int32) => ∀ (ls : Array Slot) (H : Heap) (locs : List Loc), lv_has ls 9 [(0, .ref (ad 0)), (1, .int a1), (2, .int a2), (3, .int a3), (4, .int a4), (5, .int a5)] → okW D q A s (wM q ad h) H locs → W p l e R s m args below meth c H locs 0 0 Qm (F0 m 27 ls [.int t0_27])) (by
    intro t0_27 hw ls H locs hl G
    refine lv_istore (lv' := [(6, .int t0_27), (0, .ref (ad 0)), (1, .int a1), (2, .int a2), (3, .int a3), (4, .int a4), (5, .int a5)]) hx hb dX10_isWord_27 hl (by decide) rfl (fun ls hl => ?_)
    refine lv_aload_n hx hb dX10_isWord_29 rfl (lv_at hl 1 rfl) ?_
    refine x_get (C := RX10) (T := TX10) (n := 21) S G inX10 (me_11 km_0) rfl 10 (by decide) kf_X10_161 rfl dX10_isWord_30 ?_
    refine lv_iconst (v := 1) hx hb dX10_isWord_33 (by decide) ?_
    have hw := hw (fun (t0_51 : Int32) => ∀ (ls : Array Slot) (H : Heap) (locs : List Loc), lv_has ls 9 [(0, .ref (ad 0)), (1, .int a1), (2, .int a2), (3, .int a3), (4, .int a4), (5, .int a5), (6, .int t0_27)] → okW D q A s (wM q ad h) H locs → W p l e R s m args below meth c H locs 0 0 Qm (F0 m 51 ls [.int t0_51])) (by
      intro t0_51 hw ls H locs hl G
      refine lv_istore (lv' := [(7, .int t0_51), (0, .ref (ad 0)), (1, .int a1), (2, .int a2), (3, .int a3), (4, .int a4), (5, .int a5), (6, .int t0_27)]) hx hb dX10_isWord_51 hl (by decide) rfl (fun ls hl => ?_)
      refine lv_iconst (v := 0) hx hb dX10_isWord_53 (by decide) ?_
      refine lv_istore (lv' := [(8, .int 0), (7, .int t0_51), (0, .ref (ad 0)), (1, .int a1), (2, .int a2), (3, .int a3), (4, .int a4), (5, .int a5), (6, .int t0_27)]) hx hb dX10_isWord_54 hl (by decide) rfl (fun ls hl => ?_)
      have hw := hw (fun (b7_56 : Int32) (b8_56 : Int32) => ∀ (ls : Array Slot) (H : Heap) (locs : List Loc), lv_has ls 9 [(0, .ref (ad 0)), (1, .int a1), (2, .int a2), (3, .int a3), (4, .int a4), (5, .int a5), (6, .int t0_27), (7, .int b7_56), (8, .int b8_56)] → okW D q A s (wM q ad h) H locs → W p l e R s m args below meth c H locs 0 0 Qm (F0 m 56 ls [])) (by
        intro b7_56 b8_56 hw ls H locs hl G
        refine lv_iload hx hb dX10_isWord_56 (lv_at hl 8 rfl) ?_
        refine lv_iload hx hb dX10_isWord_58 (lv_at hl 6 rfl) ?_
        have hw := hw (∀ (ls : Array Slot) (H : Heap) (locs : List Loc), lv_has ls 9 [(7, .int b7_56)] → okW D q A s (wM q ad h) H locs → W p l e R s m args below meth c H locs 0 0 Qm (F0 m 141 ls [])) (by
          intro hw ls H locs hl G
          refine lv_iload hx hb dX10_isWord_141 (lv_at hl 0 rfl) ?_
          obtain ⟨z_143, hw⟩ := hw
          exact RT _ _ _ _ _ _ G z_143 ⟨rfl, hw⟩ dX10_isWord_143)
        refine lv_icmp_ge (tgt := 141) hx hb dX10_isWord_60 (by decide) (fun c_60 => ?_) (fun c_60 => ?_)
        · have hw := hw.1 c_60
          exact hw _ _ _ (lv_sub hl [7] rfl) G
        · have hw := hw.2 c_60
          refine lv_iload hx hb dX10_isWord_63 (lv_at hl 7 rfl) ?_
          refine lv_if_eq (tgt := 141) hx hb dX10_isWord_65 (by decide) (fun c_65 => ?_) (fun c_65 => ?_)
          · have hw := hw.1 c_65
            exact hw _ _ _ (lv_sub hl [7] rfl) G
          · have hw := hw.2 c_65
            refine lv_aload_n hx hb dX10_isWord_68 rfl (lv_at hl 0 rfl) ?_
            refine lv_aload_n hx hb dX10_isWord_69 rfl (lv_at hl 0 rfl) ?_
            refine x_get (C := RX10) (T := TX10) (n := 21) S G inX10 (me_11 km_0) rfl 7 (by decide) kf_X10_152 rfl dX10_isWord_70 ?_
            refine lv_aload_n hx hb dX10_isWord_73 rfl (lv_at hl 0 rfl) ?_
            refine x_get (C := RX10) (T := TX10) (n := 21) S G inX10 (me_11 km_0) rfl 8 (by decide) kf_X10_149 rfl dX10_isWord_74 ?_
            refine lv_iload hx hb dX10_isWord_77 (lv_at hl 8 rfl) ?_
            refine lv_iadd hx hb dX10_isWord_79 ?_
            refine x_ViP S hl.1 G (c_M_byteAt l D q A ad (gi h 0 7) ((gi h 0 8) + b8_56) h _ hw) (cw_X10_155 S.2.2.2.2 ⟨Nat.le_trans (Nat.le_of_ble_eq_true rfl) hR1, Nat.le_trans (Nat.le_of_ble_eq_true rfl) hR2⟩) (me_11 km_0) rfl rfl rfl (Nat.le_of_ble_eq_true rfl) dX10_isWord_80 (fun r_80 H locs G hw => ?_)
            refine lv_iload hx hb dX10_isWord_83 (lv_at hl 8 rfl) ?_
            have hw := hw (fun (t1_125 : Int32) => ∀ (ls : Array Slot) (H : Heap) (locs : List Loc), lv_has ls 9 [(0, .ref (ad 0)), (1, .int a1), (2, .int a2), (3, .int a3), (4, .int a4), (5, .int a5), (6, .int t0_27), (8, .int b8_56)] → okW D q A s (wM q ad h) H locs → W p l e R s m args below meth c H locs 0 0 Qm (F0 m 125 ls [.int t1_125, .int r_80])) (by
              intro t1_125 hw ls H locs hl G
              have hw := hw (fun (t0_133 : Int32) => ∀ (ls : Array Slot) (H : Heap) (locs : List Loc), lv_has ls 9 [(0, .ref (ad 0)), (1, .int a1), (2, .int a2), (3, .int a3), (4, .int a4), (5, .int a5), (6, .int t0_27), (8, .int b8_56)] → okW D q A s (wM q ad h) H locs → W p l e R s m args below meth c H locs 0 0 Qm (F0 m 133 ls [.int t0_133])) (by
                intro t0_133 hw ls H locs hl G
                refine lv_istore (lv' := [(7, .int t0_133), (0, .ref (ad 0)), (1, .int a1), (2, .int a2), (3, .int a3), (4, .int a4), (5, .int a5), (6, .int t0_27), (8, .int b8_56)]) hx hb dX10_isWord_133 hl (by decide) rfl (fun ls hl => ?_)
                obtain ⟨a8_135, ea8_135⟩ : ∃ y : Int32, y = b8_56 + 1 := ⟨_, rfl⟩
                have hw := hw a8_135 ea8_135
                refine lv_iinc (v := a8_135) (lv' := [(8, .int a8_135), (7, .int t0_133), (0, .ref (ad 0)), (1, .int a1), (2, .int a2), (3, .int a3), (4, .int a4), (5, .int a5), (6, .int t0_27)]) hx hb dX10_isWord_135 hl (k := 8) rfl (by rw [ea8_135]; rfl) (by decide) rfl (fun ls hl => ?_)
                refine lv_goto (tgt := 56) hx hb dX10_isWord_138 (by decide) ?_
                exact hw _ _ _ (lv_sub hl [2, 3, 4, 5, 6, 7, 8, 1, 0] rfl) G)
              refine lv_icmp_ne (tgt := 132) hx hb dX10_isWord_125 (by decide) (fun c_125 => ?_) (fun c_125 => ?_)
              · have hw := hw.1 c_125
                refine lv_iconst (v := 0) hx hb dX10_isWord_132 (by decide) ?_
                exact hw _ _ _ (lv_sub hl [0, 1, 2, 3, 4, 5, 6, 7] rfl) G
              · have hw := hw.2 c_125
                refine lv_iconst (v := 1) hx hb dX10_isWord_128 (by decide) ?_
                refine lv_goto (tgt := 133) hx hb dX10_isWord_129 (by decide) ?_
                exact hw _ _ _ (lv_sub hl [0, 1, 2, 3, 4, 5, 6, 7] rfl) G)
            refine lv_if_ne (tgt := 92) hx hb dX10_isWord_85 (by decide) (fun c_85 => ?_) (fun c_85 => ?_)
            · have hw := hw.1 c_85
              refine lv_iload hx hb dX10_isWord_92 (lv_at hl 8 rfl) ?_
              refine lv_iconst (v := 1) hx hb dX10_isWord_94 (by decide) ?_
              refine lv_icmp_ne (tgt := 102) hx hb dX10_isWord_95 (by decide) (fun c_95 => ?_) (fun c_95 => ?_)
              · have hw := hw.1 c_95
                refine lv_iload hx hb dX10_isWord_102 (lv_at hl 8 rfl) ?_
                refine lv_iconst (v := 2) hx hb dX10_isWord_104 (by decide) ?_
                refine lv_icmp_ne (tgt := 112) hx hb dX10_isWord_105 (by decide) (fun c_105 => ?_) (fun c_105 => ?_)
                · have hw := hw.1 c_105
                  refine lv_iload hx hb dX10_isWord_112 (lv_at hl 8 rfl) ?_
                  refine lv_iconst (v := 3) hx hb dX10_isWord_114 (by decide) ?_
                  refine lv_icmp_ne (tgt := 123) hx hb dX10_isWord_115 (by decide) (fun c_115 => ?_) (fun c_115 => ?_)
                  · have hw := hw.1 c_115
                    refine lv_iload hx hb dX10_isWord_123 (lv_at hl 5 rfl) ?_
                    exact hw _ _ _ (lv_sub hl [0, 1, 2, 3, 4, 5, 6, 8] rfl) G
                  · have hw := hw.2 c_115
                    refine lv_iload hx hb dX10_isWord_118 (lv_at hl 4 rfl) ?_
                    refine lv_goto (tgt := 125) hx hb dX10_isWord_120 (by decide) ?_
                    exact hw _ _ _ (lv_sub hl [0, 1, 2, 3, 4, 5, 6, 8] rfl) G
                · have hw := hw.2 c_105
                  refine lv_iload_n hx hb dX10_isWord_108 rfl (lv_at hl 3 rfl) ?_
                  refine lv_goto (tgt := 125) hx hb dX10_isWord_109 (by decide) ?_
                  exact hw _ _ _ (lv_sub hl [0, 1, 2, 3, 4, 5, 6, 8] rfl) G
              · have hw := hw.2 c_95
                refine lv_iload_n hx hb dX10_isWord_98 rfl (lv_at hl 2 rfl) ?_
                refine lv_goto (tgt := 125) hx hb dX10_isWord_99 (by decide) ?_
                exact hw _ _ _ (lv_sub hl [0, 1, 2, 3, 4, 5, 6, 8] rfl) G
            · have hw := hw.2 c_85
              refine lv_iload_n hx hb dX10_isWord_88 rfl (lv_at hl 1 rfl) ?_
              refine lv_goto (tgt := 125) hx hb dX10_isWord_89 (by decide) ?_
              exact hw _ _ _ (lv_sub hl [0, 1, 2, 3, 4, 5, 6, 8] rfl) G)
      exact hw _ _ _ (lv_sub hl [2, 3, 4, 5, 6, 7, 8, 1, 0] rfl) G)
    have hw := hw (∀ (ls : Array Slot) (H : Heap) (locs : List Loc), lv_has ls 9 [(0, .ref (ad 0)), (1, .int a1), (2, .int a2), (3, .int a3), (4, .int a4), (5, .int a5), (6, .int t0_27)] → okW D q A s (wM q ad h) H locs → W p l e R s m args below meth c H locs 0 0 Qm (F0 m 50 ls [])) (by
      intro hw ls H locs hl G
      refine lv_iconst (v := 0) hx hb dX10_isWord_50 (by decide) ?_
      exact hw _ _ _ (lv_sub hl [0, 1, 2, 3, 4, 5, 6] rfl) G)
    refine lv_icmp_ne (tgt := 50) hx hb dX10_isWord_34 (by decide) (fun c_34 => ?_) (fun c_34 => ?_)
    · have hw := hw.1 c_34
      exact hw _ _ _ (lv_sub hl [1, 2, 3, 4, 5, 6, 0] rfl) G
    · have hw := hw.2 c_34
      refine lv_aload_n hx hb dX10_isWord_37 rfl (lv_at hl 1 rfl) ?_
      refine x_get (C := RX10) (T := TX10) (n := 21) S G inX10 (me_11 km_0) rfl 9 (by decide) kf_X10_158 rfl dX10_isWord_38 ?_
      refine lv_iload hx hb dX10_isWord_41 (lv_at hl 0 rfl) ?_
      refine lv_icmp_ne (tgt := 50) hx hb dX10_isWord_43 (by decide) (fun c_43 => ?_) (fun c_43 => ?_)
      · have hw := hw.1 c_43
        exact hw _ _ _ (lv_sub hl [1, 2, 3, 4, 5, 6, 0] rfl) G
      · have hw := hw.2 c_43
        refine lv_iconst (v := 1) hx hb dX10_isWord_46 (by decide) ?_
        refine lv_goto (tgt := 51) hx hb dX10_isWord_47 (by decide) ?_
        exact hw _ _ _ (lv_sub hl [1, 2, 3, 4, 5, 6, 0] rfl) G)
  refine lv_if_ne (tgt := 8) hx hb dX10_isWord_1 (by decide) (fun c_1 => ?_) (fun c_1 => ?_)
  · have hw := hw.1 c_1
    refine lv_iload hx hb dX10_isWord_8 (lv_at hl 4 rfl) ?_
    refine lv_if_ne (tgt := 17) hx hb dX10_isWord_10 (by decide) (fun c_10 => ?_) (fun c_10 => ?_)
    · have hw := hw.1 c_10
      refine lv_iload hx hb dX10_isWord_17 (lv_at hl 5 rfl) ?_
      refine lv_if_ne (tgt := 26) hx hb dX10_isWord_19 (by decide) (fun c_19 => ?_) (fun c_19 => ?_)
      · have hw := hw.1 c_19
        refine lv_iconst (v := 5) hx hb dX10_isWord_26 (by decide) ?_
        exact hw _ _ _ (lv_sub hl [0, 1, 2, 3, 4, 5] rfl) G
      · have hw := hw.2 c_19
        refine lv_iconst (v := 4) hx hb dX10_isWord_22 (by decide) ?_
        refine lv_goto (tgt := 27) hx hb dX10_isWord_23 (by decide) ?_
        exact hw _ _ _ (lv_sub hl [0, 1, 2, 3, 4, 5] rfl) G
    · have hw := hw.2 c_10
      refine lv_iconst (v := 3) hx hb dX10_isWord_13 (by decide) ?_
      refine lv_goto (tgt := 27) hx hb dX10_isWord_14 (by decide) ?_
      exact hw _ _ _ (lv_sub hl [0, 1, 2, 3, 4, 5] rfl) G
  · have hw := hw.2 c_1
    refine lv_iconst (v := 2) hx hb dX10_isWord_4 (by decide) ?_
    refine lv_goto (tgt := 27) hx hb dX10_isWord_5 (by decide) ?_
    exact hw _ _ _ (lv_sub hl [0, 1, 2, 3, 4, 5] rfl) G
theorem cw_X10_182 {R : Room} {s : State} {args : Array Value} (hts : ∀ w ∈ gW, w.before args s = true) (hR : rm_M_isWord.frames + 1 ≤ R.frames ∧ 8 + (9 + 11) + rm_M_isWord.locals ≤ R.locals) : CallW R s args RX10 RX10 182 yX10_isWord cX10_isWord 9 (some .boolean) (mw yX10_isWord cX10_isWord 9 (some .boolean)) rm_M_isWord 0 0 5 := cwV9 hts km_X10_182 ki_X10_isWord ks_X10_isWord kn_X10 kk_X10_isWord rfl rfl (by decide +kernel) hR
abbrev rm_M_layFrom : Room := { frames := 0, cells := 0, slots := 0, locals := 0 }
set_option maxHeartbeats 4000000 in
set_option maxRecDepth 100000 in
theorem c_M_layFrom (l : Launch) (D : va_G) (q : Nat → ClassId) (A : Nat → Prop) (ad : Nat → Nat) (a1 : Int32) (a2 : Int32) (h : Hs) (Q : Hs → Prop) (hw : p_M_layFrom a1 a2 h Q) : Met l yX10_layFrom (mw yX10_layFrom cX10_layFrom 4 none) rm_M_layFrom (va_Pc [.ref (ad 0), .int a1, .int a2] (pW D q A (wM q ad h))) (va_Qv Q (fun h t => pW D q A (wM q ad h) t) A) 0 0 A := by
  refine met_v (Qp := Q) (by decide) (Nat.le_of_ble_eq_true rfl) ?_
  intro p e R s m args below meth c Qm ls hR1 hR2 S RT hl G
  have hx := S.1
  have hb := S.2.1
  have hl : lv_has ls 4 [(0, .ref (ad 0)), (1, .int a1), (2, .int a2)] := hl
  unfold p_M_layFrom at hw
  refine lv_iload_n hx hb dX10_layFrom_0 rfl (lv_at hl 1 rfl) ?_
  refine lv_istore_n (lv' := [(3, .int a1), (0, .ref (ad 0)), (1, .int a1), (2, .int a2)]) hx hb dX10_layFrom_1 rfl hl (by decide) rfl (fun ls hl => ?_)
  have hw := hw (fun (b3_2 : Int32) (g_2 : Hs) => ∀ (ls : Array Slot) (H : Heap) (locs : List Loc), lv_has ls 4 [(0, .ref (ad 0)), (2, .int a2), (3, .int b3_2)] → okW D q A s (wM q ad g_2) H locs → W p l e R s m args below meth c H locs 0 0 Qm (F0 m 2 ls [])) (by
    intro b3_2 g_2 hw ls H locs hl G
    refine lv_iload_n hx hb dX10_layFrom_2 rfl (lv_at hl 2 rfl) ?_
    refine lv_bipush (v := 120) hx hb dX10_layFrom_3 (by decide) ?_
    refine lv_icmp_ge (tgt := 29) hx hb dX10_layFrom_5 (by decide) (fun c_5 => ?_) (fun c_5 => ?_)
    · have hw := hw.1 c_5
      exact RT _ _ _ _ _ G hw dX10_layFrom_29
    · have hw := hw.2 c_5
      refine lv_aload_n hx hb dX10_layFrom_8 rfl (lv_at hl 0 rfl) ?_
      refine x_get (C := RX10) (T := TX10) (n := 21) S G inX10 (me_11 km_0) rfl 12 (by decide) kf_X10_30 rfl dX10_layFrom_9 ?_
      refine lv_bipush (v := 120) hx hb dX10_layFrom_12 (by decide) ?_
      refine lv_aload_n hx hb dX10_layFrom_14 rfl (lv_at hl 0 rfl) ?_
      refine x_get (C := RX10) (T := TX10) (n := 21) S G inX10 (me_11 km_0) rfl 7 (by decide) kf_X10_152 rfl dX10_layFrom_15 ?_
      refine lv_imul hx hb dX10_layFrom_18 ?_
      refine lv_iload_n hx hb dX10_layFrom_19 rfl (lv_at hl 2 rfl) ?_
      refine lv_iadd hx hb dX10_layFrom_20 ?_
      refine lv_iload_n hx hb dX10_layFrom_21 rfl (lv_at hl 1 rfl) ?_
      obtain ⟨i_22, hw⟩ := hw
      refine x_iast (k := ((120 * (gi g_2 0 7)) + b3_2).toNatClampNeg) S G (me_20 km_7 lm_7) i_22 rfl (ms_20 km_7 lm_7) dX10_layFrom_22 (fun H locs G => ?_)
      obtain ⟨h_22, eh_22⟩ : ∃ y : Hs, y = si g_2 7 (((120 * (gi g_2 0 7)) + b3_2).toNatClampNeg) a2 := ⟨_, rfl⟩
      rw [← eh_22] at G
      have hw := hw h_22 eh_22
      obtain ⟨a3_23, ea3_23⟩ : ∃ y : Int32, y = b3_2 + 1 := ⟨_, rfl⟩
      have hw := hw a3_23 ea3_23
      refine lv_iinc (v := a3_23) (lv' := [(3, .int a3_23), (0, .ref (ad 0)), (2, .int a2)]) hx hb dX10_layFrom_23 hl (k := 2) rfl (by rw [ea3_23]; rfl) (by decide) rfl (fun ls hl => ?_)
      refine lv_goto (tgt := 2) hx hb dX10_layFrom_26 (by decide) ?_
      exact hw _ _ _ (lv_sub hl [1, 2, 0] rfl) G)
  exact hw _ _ _ (lv_sub hl [1, 3, 0] rfl) G
theorem cw_X10_200 {R : Room} {s : State} {args : Array Value} (hts : ∀ w ∈ gW, w.before args s = true) (hR : rm_M_layFrom.frames + 1 ≤ R.frames ∧ 8 + (4 + 11) + rm_M_layFrom.locals ≤ R.locals) : CallW R s args RX10 RX10 200 yX10_layFrom cX10_layFrom 4 none (mw yX10_layFrom cX10_layFrom 4 none) rm_M_layFrom 0 0 2 := cwV9 hts km_X10_200 ki_X10_layFrom ks_X10_layFrom kn_X10 kk_X10_layFrom rfl rfl (by decide +kernel) hR
abbrev rm_M_stops : Room := { frames := 4, cells := 0, slots := 0, locals := 89 }
set_option maxHeartbeats 4000000 in
set_option maxRecDepth 100000 in
theorem c_M_stops (l : Launch) (D : va_G) (q : Nat → ClassId) (A : Nat → Prop) (ad : Nat → Nat) (h : Hs) (Q : Int32 → Hs → Prop) (hw : p_M_stops h Q) : Met l yX10_stops (mw yX10_stops cX10_stops 1 (some .boolean)) rm_M_stops (va_Pc [.ref (ad 0)] (pW D q A (wM q ad h))) (va_Qi (fun r h9 => zb r ∧ Q r h9) (fun h t => pW D q A (wM q ad h) t) A) 0 0 A := by
  refine met_z (Qp := Q) (by decide) (Nat.le_of_ble_eq_true rfl) ?_
  intro p e R s m args below meth c Qm ls hR1 hR2 S RT hl G
  have hx := S.1
  have hb := S.2.1
  have hl : lv_has ls 1 [(0, .ref (ad 0))] := hl
  unfold p_M_stops at hw
  refine lv_aload_n hx hb dX10_stops_0 rfl (lv_at hl 0 rfl) ?_
  refine x_get (C := RX10) (T := TX10) (n := 21) S G inX10 (me_11 km_0) rfl 10 (by decide) kf_X10_161 rfl dX10_stops_1 ?_
  refine lv_iconst (v := 3) hx hb dX10_stops_4 (by decide) ?_
  refine lv_icmp_eq (tgt := 10) hx hb dX10_stops_5 (by decide) (fun c_5 => ?_) (fun c_5 => ?_)
  · have hw := hw.1 c_5
    refine lv_aload_n hx hb dX10_stops_10 rfl (lv_at hl 0 rfl) ?_
    refine x_Vv S hl.1 G (c_M_goOn l D q A ad h _ hw) (cw_X10_176 S.2.2.2.2 ⟨Nat.le_trans (Nat.le_of_ble_eq_true rfl) hR1, Nat.le_trans (Nat.le_of_ble_eq_true rfl) hR2⟩) (me_11 km_0) rfl rfl rfl (Nat.le_of_ble_eq_true rfl) dX10_stops_11 (fun h_11 H locs G hw => ?_)
    refine lv_iconst (v := 1) hx hb dX10_stops_14 (by decide) ?_
    exact RT _ _ _ _ _ _ G zb1 hw dX10_stops_15
  · have hw := hw.2 c_5
    refine lv_iconst (v := 0) hx hb dX10_stops_8 (by decide) ?_
    exact RT _ _ _ _ _ _ G zb0 hw dX10_stops_9
theorem cw_X10_197 {R : Room} {s : State} {args : Array Value} (hts : ∀ w ∈ gW, w.before args s = true) (hR : rm_M_stops.frames + 1 ≤ R.frames ∧ 8 + (1 + 11) + rm_M_stops.locals ≤ R.locals) : CallW R s args RX10 RX10 197 yX10_stops cX10_stops 1 (some .boolean) (mw yX10_stops cX10_stops 1 (some .boolean)) rm_M_stops 0 0 0 := cwV9 hts km_X10_197 ki_X10_stops ks_X10_stops kn_X10 kk_X10_stops rfl rfl (by decide +kernel) hR
abbrev rm_M_takesMonth : Room := { frames := 4, cells := 0, slots := 0, locals := 89 }
set_option maxHeartbeats 4000000 in
set_option maxRecDepth 100000 in
theorem c_M_takesMonth (l : Launch) (D : va_G) (q : Nat → ClassId) (A : Nat → Prop) (ad : Nat → Nat) (h : Hs) (Q : Int32 → Hs → Prop) (hw : p_M_takesMonth h Q) : Met l yX10_takesMonth (mw yX10_takesMonth cX10_takesMonth 1 (some .boolean)) rm_M_takesMonth (va_Pc [.ref (ad 0)] (pW D q A (wM q ad h))) (va_Qi (fun r h9 => zb r ∧ Q r h9) (fun h t => pW D q A (wM q ad h) t) A) 0 0 A := by
  refine met_z (Qp := Q) (by decide) (Nat.le_of_ble_eq_true rfl) ?_
  intro p e R s m args below meth c Qm ls hR1 hR2 S RT hl G
  have hx := S.1
  have hb := S.2.1
  have hl : lv_has ls 1 [(0, .ref (ad 0))] := hl
  unfold p_M_takesMonth at hw
  refine lv_aload_n hx hb dX10_takesMonth_0 rfl (lv_at hl 0 rfl) ?_
  refine x_get (C := RX10) (T := TX10) (n := 21) S G inX10 (me_11 km_0) rfl 10 (by decide) kf_X10_161 rfl dX10_takesMonth_1 ?_
  refine lv_iconst (v := 2) hx hb dX10_takesMonth_4 (by decide) ?_
  have hw := hw (∀ (ls : Array Slot) (H : Heap) (locs : List Loc), lv_has ls 1 [] → okW D q A s (wM q ad h) H locs → W p l e R s m args below meth c H locs 0 0 Qm (F0 m 27 ls [])) (by
    intro hw ls H locs hl G
    refine lv_iconst (v := 0) hx hb dX10_takesMonth_27 (by decide) ?_
    exact RT _ _ _ _ _ _ G zb0 hw dX10_takesMonth_28)
  refine lv_icmp_ne (tgt := 27) hx hb dX10_takesMonth_5 (by decide) (fun c_5 => ?_) (fun c_5 => ?_)
  · have hw := hw.1 c_5
    exact hw _ _ _ (lv_sub hl [] rfl) G
  · have hw := hw.2 c_5
    refine lv_aload_n hx hb dX10_takesMonth_8 rfl (lv_at hl 0 rfl) ?_
    refine x_get (C := RX10) (T := TX10) (n := 21) S G inX10 (me_11 km_0) rfl 11 (by decide) kf_X10_164 rfl dX10_takesMonth_9 ?_
    refine lv_i2l hx hb dX10_takesMonth_12 rfl ?_
    refine lv_aload_n hx hb dX10_takesMonth_13 rfl (lv_at hl 0 rfl) ?_
    refine x_get (C := RX10) (T := TX10) (n := 21) S G inX10 (me_11 km_0) rfl 16 (by decide) kf_X10_179 rfl dX10_takesMonth_14 ?_
    refine lv_i2l hx hb dX10_takesMonth_17 rfl ?_
    refine lv_ldc2 (v := 119) hx hb S.2.2.2.1 (S.2.2.2.2 _ kl_X10_114) dX10_takesMonth_18 ?_
    refine x_SzP S hl.1 G (c_M_in l D q A ad ((gi h 0 11).toInt64) ((gi h 0 16).toInt64) 119 h _ hw) (cw_X10_105 S.2.2.2.2 ⟨Nat.le_trans (Nat.le_of_ble_eq_true rfl) hR1, Nat.le_trans (Nat.le_of_ble_eq_true rfl) hR2⟩) rfl rfl (Nat.le_of_ble_eq_true rfl) dX10_takesMonth_21 (fun r_21 H locs G z_21 hw => ?_)
    refine lv_if_ne (tgt := 29) hx hb dX10_takesMonth_24 (by decide) (fun c_24 => ?_) (fun c_24 => ?_)
    · have hw := hw.1 c_24
      refine lv_aload_n hx hb dX10_takesMonth_29 rfl (lv_at hl 0 rfl) ?_
      refine lv_aload_n hx hb dX10_takesMonth_30 rfl (lv_at hl 0 rfl) ?_
      refine x_get (C := RX10) (T := TX10) (n := 21) S G inX10 (me_11 km_0) rfl 11 (by decide) kf_X10_164 rfl dX10_takesMonth_31 ?_
      refine x_put (C := RX10) (T := TX10) (n := 21) S G inX10 tyX10 tyX10_ok nmX10 (me_11 km_0) rfl 16 (by decide) kf_X10_179 rfl rfl rfl (Nat.le_of_ble_eq_true rfl) (mp_11_16 km_0) dX10_takesMonth_34 (fun H locs G => ?_)
      obtain ⟨h_34, eh_34⟩ : ∃ y : Hs, y = si h 0 16 (gi h 0 11) := ⟨_, rfl⟩
      rw [← eh_34] at G
      have hw := hw h_34 eh_34
      refine lv_aload_n hx hb dX10_takesMonth_37 rfl (lv_at hl 0 rfl) ?_
      refine x_Vv S hl.1 G (c_M_goOn l D q A ad h_34 _ hw) (cw_X10_176 S.2.2.2.2 ⟨Nat.le_trans (Nat.le_of_ble_eq_true rfl) hR1, Nat.le_trans (Nat.le_of_ble_eq_true rfl) hR2⟩) (me_11 km_0) rfl rfl rfl (Nat.le_of_ble_eq_true rfl) dX10_takesMonth_38 (fun h_38 H locs G hw => ?_)
      refine lv_iconst (v := 1) hx hb dX10_takesMonth_41 (by decide) ?_
      exact RT _ _ _ _ _ _ G zb1 hw dX10_takesMonth_42
    · have hw := hw.2 c_24
      exact hw _ _ _ (lv_sub hl [] rfl) G
theorem cw_X10_190 {R : Room} {s : State} {args : Array Value} (hts : ∀ w ∈ gW, w.before args s = true) (hR : rm_M_takesMonth.frames + 1 ≤ R.frames ∧ 8 + (1 + 11) + rm_M_takesMonth.locals ≤ R.locals) : CallW R s args RX10 RX10 190 yX10_takesMonth cX10_takesMonth 1 (some .boolean) (mw yX10_takesMonth cX10_takesMonth 1 (some .boolean)) rm_M_takesMonth 0 0 0 := cwV9 hts km_X10_190 ki_X10_takesMonth ks_X10_takesMonth kn_X10 kk_X10_takesMonth rfl rfl (by decide +kernel) hR
abbrev rm_M_readItem : Room := { frames := 5, cells := 0, slots := 0, locals := 109 }
set_option maxHeartbeats 4000000 in
set_option maxRecDepth 100000 in
theorem c_M_readItem (l : Launch) (D : va_G) (q : Nat → ClassId) (A : Nat → Prop) (ad : Nat → Nat) (h : Hs) (Q : Int32 → Hs → Prop) (hw : p_M_readItem h Q) : Met l yX10_readItem (mw yX10_readItem cX10_readItem 4 (some .boolean)) rm_M_readItem (va_Pc [.ref (ad 0)] (pW D q A (wM q ad h))) (va_Qi (fun r h9 => zb r ∧ Q r h9) (fun h t => pW D q A (wM q ad h) t) A) 0 0 A := by
  refine met_z (Qp := Q) (by decide) (Nat.le_of_ble_eq_true rfl) ?_
  intro p e R s m args below meth c Qm ls hR1 hR2 S RT hl G
  have hx := S.1
  have hb := S.2.1
  have hl : lv_has ls 4 [(0, .ref (ad 0))] := hl
  unfold p_M_readItem at hw
  refine lv_aload_n hx hb dX10_readItem_0 rfl (lv_at hl 0 rfl) ?_
  refine lv_bipush (v := 103) hx hb dX10_readItem_1 (by decide) ?_
  refine lv_bipush (v := 111) hx hb dX10_readItem_3 (by decide) ?_
  refine lv_iconst (v := 0) hx hb dX10_readItem_5 (by decide) ?_
  refine lv_iconst (v := 0) hx hb dX10_readItem_6 (by decide) ?_
  refine lv_iconst (v := 0) hx hb dX10_readItem_7 (by decide) ?_
  refine x_VzP S hl.1 G (c_M_isWord l D q A ad 103 111 0 0 0 h _ hw) (cw_X10_182 S.2.2.2.2 ⟨Nat.le_trans (Nat.le_of_ble_eq_true rfl) hR1, Nat.le_trans (Nat.le_of_ble_eq_true rfl) hR2⟩) (me_11 km_0) rfl rfl rfl (Nat.le_of_ble_eq_true rfl) dX10_readItem_8 (fun r_8 H locs G z_8 hw => ?_)
  refine lv_istore_n (lv' := [(1, .int r_8), (0, .ref (ad 0))]) hx hb dX10_readItem_11 rfl hl (by decide) rfl (fun ls hl => ?_)
  refine lv_aload_n hx hb dX10_readItem_12 rfl (lv_at hl 1 rfl) ?_
  refine lv_bipush (v := 106) hx hb dX10_readItem_13 (by decide) ?_
  refine lv_bipush (v := 111) hx hb dX10_readItem_15 (by decide) ?_
  refine lv_bipush (v := 105) hx hb dX10_readItem_17 (by decide) ?_
  refine lv_bipush (v := 110) hx hb dX10_readItem_19 (by decide) ?_
  refine lv_iconst (v := 0) hx hb dX10_readItem_21 (by decide) ?_
  refine x_VzP S hl.1 G (c_M_isWord l D q A ad 106 111 105 110 0 h _ hw) (cw_X10_182 S.2.2.2.2 ⟨Nat.le_trans (Nat.le_of_ble_eq_true rfl) hR1, Nat.le_trans (Nat.le_of_ble_eq_true rfl) hR2⟩) (me_11 km_0) rfl rfl rfl (Nat.le_of_ble_eq_true rfl) dX10_readItem_22 (fun r_22 H locs G z_22 hw => ?_)
  refine lv_istore_n (lv' := [(2, .int r_22), (1, .int r_8), (0, .ref (ad 0))]) hx hb dX10_readItem_25 rfl hl (by decide) rfl (fun ls hl => ?_)
  refine lv_iload_n hx hb dX10_readItem_26 rfl (lv_at hl 1 rfl) ?_
  have hw := hw (∀ (ls : Array Slot) (H : Heap) (locs : List Loc), lv_has ls 4 [(0, .ref (ad 0)), (1, .int r_8), (2, .int r_22)] → okW D q A s (wM q ad h) H locs → W p l e R s m args below meth c H locs 0 0 Qm (F0 m 49 ls [])) (by
    intro hw ls H locs hl G
    refine lv_aload_n hx hb dX10_readItem_49 rfl (lv_at hl 0 rfl) ?_
    refine x_get (C := RX10) (T := TX10) (n := 21) S G inX10 (me_11 km_0) rfl 17 (by decide) kf_X10_186 rfl dX10_readItem_50 ?_
    refine lv_if_eq (tgt := 58) hx hb dX10_readItem_53 (by decide) (fun c_53 => ?_) (fun c_53 => ?_)
    · have hw := hw.1 c_53
      refine lv_aload_n hx hb dX10_readItem_58 rfl (lv_at hl 0 rfl) ?_
      refine x_Vv S hl.1 G (c_M_goOn l D q A ad h _ hw) (cw_X10_176 S.2.2.2.2 ⟨Nat.le_trans (Nat.le_of_ble_eq_true rfl) hR1, Nat.le_trans (Nat.le_of_ble_eq_true rfl) hR2⟩) (me_11 km_0) rfl rfl rfl (Nat.le_of_ble_eq_true rfl) dX10_readItem_59 (fun h_59 H locs G hw => ?_)
      refine lv_aload_n hx hb dX10_readItem_62 rfl (lv_at hl 0 rfl) ?_
      refine x_Vi S hl.1 G (c_M_takesMonth l D q A ad h_59 _ hw) (cw_X10_190 S.2.2.2.2 ⟨Nat.le_trans (Nat.le_of_ble_eq_true rfl) hR1, Nat.le_trans (Nat.le_of_ble_eq_true rfl) hR2⟩) (me_11 km_0) rfl rfl rfl (Nat.le_of_ble_eq_true rfl) dX10_readItem_63 (fun r_63 h_63 H locs G hw => ?_)
      obtain ⟨z_63, hw⟩ := hw
      refine lv_if_ne (tgt := 71) hx hb dX10_readItem_66 (by decide) (fun c_66 => ?_) (fun c_66 => ?_)
      · have hw := hw.1 c_66
        refine lv_iload_n hx hb dX10_readItem_71 rfl (lv_at hl 2 rfl) ?_
        have hw := hw (fun (t0_82 : Int32) => ∀ (ls : Array Slot) (H : Heap) (locs : List Loc), lv_has ls 4 [(0, .ref (ad 0)), (1, .int r_8)] → okW D q A s (wM q ad h_63) H locs → W p l e R s m args below meth c H locs 0 0 Qm (F0 m 82 ls [.int t0_82])) (by
          intro t0_82 hw ls H locs hl G
          refine lv_istore_n (lv' := [(3, .int t0_82), (0, .ref (ad 0)), (1, .int r_8)]) hx hb dX10_readItem_82 rfl hl (by decide) rfl (fun ls hl => ?_)
          refine lv_iload_n hx hb dX10_readItem_83 rfl (lv_at hl 2 rfl) ?_
          have hw := hw (fun (b3_117 : Int32) (g_117 : Hs) => ∀ (ls : Array Slot) (H : Heap) (locs : List Loc), lv_has ls 4 [(0, .ref (ad 0)), (1, .int r_8), (3, .int b3_117)] → okW D q A s (wM q ad g_117) H locs → W p l e R s m args below meth c H locs 0 0 Qm (F0 m 117 ls [])) (by
            intro b3_117 g_117 hw ls H locs hl G
            refine lv_aload_n hx hb dX10_readItem_117 rfl (lv_at hl 0 rfl) ?_
            refine x_Vi S hl.1 G (c_M_stops l D q A ad g_117 _ hw) (cw_X10_197 S.2.2.2.2 ⟨Nat.le_trans (Nat.le_of_ble_eq_true rfl) hR1, Nat.le_trans (Nat.le_of_ble_eq_true rfl) hR2⟩) (me_11 km_0) rfl rfl rfl (Nat.le_of_ble_eq_true rfl) dX10_readItem_118 (fun r_118 h_118 H locs G hw => ?_)
            obtain ⟨z_118, hw⟩ := hw
            refine lv_if_ne (tgt := 126) hx hb dX10_readItem_121 (by decide) (fun c_121 => ?_) (fun c_121 => ?_)
            · have hw := hw.1 c_121
              refine lv_aload_n hx hb dX10_readItem_126 rfl (lv_at hl 0 rfl) ?_
              refine lv_iload_n hx hb dX10_readItem_127 rfl (lv_at hl 1 rfl) ?_
              have hw := hw (fun (t1_136 : Int32) => ∀ (ls : Array Slot) (H : Heap) (locs : List Loc), lv_has ls 4 [(0, .ref (ad 0)), (3, .int b3_117)] → okW D q A s (wM q ad h_118) H locs → W p l e R s m args below meth c H locs 0 0 Qm (F0 m 136 ls [.int t1_136, .ref (ad 0)])) (by
                intro t1_136 hw ls H locs hl G
                obtain ⟨z_136, hw⟩ := hw
                refine x_put (C := RX10) (T := TX10) (n := 21) S G inX10 tyX10 tyX10_ok nmX10 (me_11 km_0) rfl 17 (by decide) kf_X10_186 rfl (zb_n z_136) (zb_f z_136) (Nat.le_of_ble_eq_true rfl) (mp_11_17 km_0) dX10_readItem_136 (fun H locs G => ?_)
                obtain ⟨h_136, eh_136⟩ : ∃ y : Hs, y = si h_118 0 17 t1_136 := ⟨_, rfl⟩
                rw [← eh_136] at G
                have hw := hw h_136 eh_136
                refine lv_aload_n hx hb dX10_readItem_139 rfl (lv_at hl 0 rfl) ?_
                refine lv_aload_n hx hb dX10_readItem_140 rfl (lv_at hl 0 rfl) ?_
                refine x_get (C := RX10) (T := TX10) (n := 21) S G inX10 (me_11 km_0) rfl 16 (by decide) kf_X10_179 rfl dX10_readItem_141 ?_
                refine lv_iload_n hx hb dX10_readItem_144 rfl (lv_at hl 1 rfl) ?_
                refine x_Vv S hl.1 G (c_M_layFrom l D q A ad (gi h_136 0 16) b3_117 h_136 _ hw) (cw_X10_200 S.2.2.2.2 ⟨Nat.le_trans (Nat.le_of_ble_eq_true rfl) hR1, Nat.le_trans (Nat.le_of_ble_eq_true rfl) hR2⟩) (me_11 km_0) rfl rfl rfl (Nat.le_of_ble_eq_true rfl) dX10_readItem_145 (fun h_145 H locs G hw => ?_)
                refine lv_iconst (v := 1) hx hb dX10_readItem_148 (by decide) ?_
                exact RT _ _ _ _ _ _ G zb1 hw dX10_readItem_149)
              refine lv_if_ne (tgt := 135) hx hb dX10_readItem_128 (by decide) (fun c_128 => ?_) (fun c_128 => ?_)
              · have hw := hw.1 c_128
                refine lv_iconst (v := 0) hx hb dX10_readItem_135 (by decide) ?_
                exact hw _ _ _ (lv_sub hl [0, 2] rfl) G
              · have hw := hw.2 c_128
                refine lv_iconst (v := 1) hx hb dX10_readItem_131 (by decide) ?_
                refine lv_goto (tgt := 136) hx hb dX10_readItem_132 (by decide) ?_
                exact hw _ _ _ (lv_sub hl [0, 2] rfl) G
            · have hw := hw.2 c_121
              refine lv_iconst (v := 0) hx hb dX10_readItem_124 (by decide) ?_
              exact RT _ _ _ _ _ _ G zb0 hw dX10_readItem_125)
          refine lv_if_eq (tgt := 117) hx hb dX10_readItem_84 (by decide) (fun c_84 => ?_) (fun c_84 => ?_)
          · have hw := hw.1 c_84
            exact hw _ _ _ (lv_sub hl [1, 2, 0] rfl) G
          · have hw := hw.2 c_84
            refine lv_aload_n hx hb dX10_readItem_87 rfl (lv_at hl 1 rfl) ?_
            refine x_get (C := RX10) (T := TX10) (n := 21) S G inX10 (me_11 km_0) rfl 10 (by decide) kf_X10_161 rfl dX10_readItem_88 ?_
            refine lv_iconst (v := 2) hx hb dX10_readItem_91 (by decide) ?_
            have hw := hw (∀ (ls : Array Slot) (H : Heap) (locs : List Loc), lv_has ls 4 [] → okW D q A s (wM q ad h_63) H locs → W p l e R s m args below meth c H locs 0 0 Qm (F0 m 106 ls [])) (by
              intro hw ls H locs hl G
              refine lv_iconst (v := 0) hx hb dX10_readItem_106 (by decide) ?_
              exact RT _ _ _ _ _ _ G zb0 hw dX10_readItem_107)
            refine lv_icmp_ne (tgt := 106) hx hb dX10_readItem_92 (by decide) (fun c_92 => ?_) (fun c_92 => ?_)
            · have hw := hw.1 c_92
              exact hw _ _ _ (lv_sub hl [] rfl) G
            · have hw := hw.2 c_92
              refine lv_aload_n hx hb dX10_readItem_95 rfl (lv_at hl 1 rfl) ?_
              refine lv_aload_n hx hb dX10_readItem_96 rfl (lv_at hl 1 rfl) ?_
              refine x_get (C := RX10) (T := TX10) (n := 21) S G inX10 (me_11 km_0) rfl 11 (by decide) kf_X10_164 rfl dX10_readItem_97 ?_
              refine x_VzP S hl.1 G (c_M_isPlace l D q A ad (gi h_63 0 11) h_63 _ hw) (cw_X10_194 S.2.2.2.2 ⟨Nat.le_trans (Nat.le_of_ble_eq_true rfl) hR1, Nat.le_trans (Nat.le_of_ble_eq_true rfl) hR2⟩) (me_11 km_0) rfl rfl rfl (Nat.le_of_ble_eq_true rfl) dX10_readItem_100 (fun r_100 H locs G z_100 hw => ?_)
              refine lv_if_ne (tgt := 108) hx hb dX10_readItem_103 (by decide) (fun c_103 => ?_) (fun c_103 => ?_)
              · have hw := hw.1 c_103
                refine lv_aload_n hx hb dX10_readItem_108 rfl (lv_at hl 1 rfl) ?_
                refine x_get (C := RX10) (T := TX10) (n := 21) S G inX10 (me_11 km_0) rfl 11 (by decide) kf_X10_164 rfl dX10_readItem_109 ?_
                refine lv_topi (fun a3_112 ea3_112 => ?_)
                have hw := hw a3_112 ea3_112
                refine lv_istore_n (lv' := [(3, .int a3_112), (0, .ref (ad 0)), (1, .int r_8)]) hx hb dX10_readItem_112 rfl hl (by decide) rfl (fun ls hl => ?_)
                refine lv_aload_n hx hb dX10_readItem_113 rfl (lv_at hl 1 rfl) ?_
                refine x_Vv S hl.1 G (c_M_goOn l D q A ad h_63 _ hw) (cw_X10_176 S.2.2.2.2 ⟨Nat.le_trans (Nat.le_of_ble_eq_true rfl) hR1, Nat.le_trans (Nat.le_of_ble_eq_true rfl) hR2⟩) (me_11 km_0) rfl rfl rfl (Nat.le_of_ble_eq_true rfl) dX10_readItem_114 (fun h_114 H locs G hw => ?_)
                exact hw _ _ _ (lv_sub hl [1, 2, 0] rfl) G
              · have hw := hw.2 c_103
                exact hw _ _ _ (lv_sub hl [] rfl) G)
        refine lv_if_eq (tgt := 80) hx hb dX10_readItem_72 (by decide) (fun c_72 => ?_) (fun c_72 => ?_)
        · have hw := hw.1 c_72
          refine lv_bipush (v := 7) hx hb dX10_readItem_80 (by decide) ?_
          exact hw _ _ _ (lv_sub hl [0, 1] rfl) G
        · have hw := hw.2 c_72
          refine lv_bipush (v := 6) hx hb dX10_readItem_75 (by decide) ?_
          refine lv_goto (tgt := 82) hx hb dX10_readItem_77 (by decide) ?_
          exact hw _ _ _ (lv_sub hl [0, 1] rfl) G
      · have hw := hw.2 c_66
        refine lv_iconst (v := 0) hx hb dX10_readItem_69 (by decide) ?_
        exact RT _ _ _ _ _ _ G zb0 hw dX10_readItem_70
    · have hw := hw.2 c_53
      refine lv_iconst (v := 0) hx hb dX10_readItem_56 (by decide) ?_
      exact RT _ _ _ _ _ _ G zb0 hw dX10_readItem_57)
  refine lv_if_ne (tgt := 49) hx hb dX10_readItem_27 (by decide) (fun c_27 => ?_) (fun c_27 => ?_)
  · have hw := hw.1 c_27
    exact hw _ _ _ (lv_sub hl [2, 1, 0] rfl) G
  · have hw := hw.2 c_27
    refine lv_iload_n hx hb dX10_readItem_30 rfl (lv_at hl 0 rfl) ?_
    refine lv_if_ne (tgt := 49) hx hb dX10_readItem_31 (by decide) (fun c_31 => ?_) (fun c_31 => ?_)
    · have hw := hw.1 c_31
      exact hw _ _ _ (lv_sub hl [2, 1, 0] rfl) G
    · have hw := hw.2 c_31
      refine lv_aload_n hx hb dX10_readItem_34 rfl (lv_at hl 2 rfl) ?_
      refine lv_bipush (v := 100) hx hb dX10_readItem_35 (by decide) ?_
      refine lv_bipush (v := 105) hx hb dX10_readItem_37 (by decide) ?_
      refine lv_bipush (v := 101) hx hb dX10_readItem_39 (by decide) ?_
      refine lv_iconst (v := 0) hx hb dX10_readItem_41 (by decide) ?_
      refine lv_iconst (v := 0) hx hb dX10_readItem_42 (by decide) ?_
      refine x_VzP S hl.1 G (c_M_isWord l D q A ad 100 105 101 0 0 h _ hw) (cw_X10_182 S.2.2.2.2 ⟨Nat.le_trans (Nat.le_of_ble_eq_true rfl) hR1, Nat.le_trans (Nat.le_of_ble_eq_true rfl) hR2⟩) (me_11 km_0) rfl rfl rfl (Nat.le_of_ble_eq_true rfl) dX10_readItem_43 (fun r_43 H locs G z_43 hw => ?_)
      refine lv_if_eq (tgt := 150) hx hb dX10_readItem_46 (by decide) (fun c_46 => ?_) (fun c_46 => ?_)
      · have hw := hw.1 c_46
        refine lv_aload_n hx hb dX10_readItem_150 rfl (lv_at hl 2 rfl) ?_
        refine lv_bipush (v := 119) hx hb dX10_readItem_151 (by decide) ?_
        refine lv_bipush (v := 111) hx hb dX10_readItem_153 (by decide) ?_
        refine lv_bipush (v := 114) hx hb dX10_readItem_155 (by decide) ?_
        refine lv_bipush (v := 100) hx hb dX10_readItem_157 (by decide) ?_
        refine lv_iconst (v := 0) hx hb dX10_readItem_159 (by decide) ?_
        refine x_VzP S hl.1 G (c_M_isWord l D q A ad 119 111 114 100 0 h _ hw) (cw_X10_182 S.2.2.2.2 ⟨Nat.le_trans (Nat.le_of_ble_eq_true rfl) hR1, Nat.le_trans (Nat.le_of_ble_eq_true rfl) hR2⟩) (me_11 km_0) rfl rfl rfl (Nat.le_of_ble_eq_true rfl) dX10_readItem_160 (fun r_160 H locs G z_160 hw => ?_)
        have hw := hw (∀ (ls : Array Slot) (H : Heap) (locs : List Loc), lv_has ls 4 [(0, .ref (ad 0))] → okW D q A s (wM q ad h) H locs → W p l e R s m args below meth c H locs 0 0 Qm (F0 m 226 ls [])) (by
          intro hw ls H locs hl G
          refine lv_aload_n hx hb dX10_readItem_226 rfl (lv_at hl 0 rfl) ?_
          refine lv_bipush (v := 99) hx hb dX10_readItem_227 (by decide) ?_
          refine lv_bipush (v := 114) hx hb dX10_readItem_229 (by decide) ?_
          refine lv_bipush (v := 111) hx hb dX10_readItem_231 (by decide) ?_
          refine lv_bipush (v := 115) hx hb dX10_readItem_233 (by decide) ?_
          refine lv_bipush (v := 115) hx hb dX10_readItem_235 (by decide) ?_
          refine x_VzP S hl.1 G (c_M_isWord l D q A ad 99 114 111 115 115 h _ hw) (cw_X10_182 S.2.2.2.2 ⟨Nat.le_trans (Nat.le_of_ble_eq_true rfl) hR1, Nat.le_trans (Nat.le_of_ble_eq_true rfl) hR2⟩) (me_11 km_0) rfl rfl rfl (Nat.le_of_ble_eq_true rfl) dX10_readItem_237 (fun r_237 H locs G z_237 hw => ?_)
          have hw := hw (∀ (ls : Array Slot) (H : Heap) (locs : List Loc), lv_has ls 4 [] → okW D q A s (wM q ad h) H locs → W p l e R s m args below meth c H locs 0 0 Qm (F0 m 274 ls [])) (by
            intro hw ls H locs hl G
            refine lv_iconst (v := 0) hx hb dX10_readItem_274 (by decide) ?_
            exact RT _ _ _ _ _ _ G zb0 hw dX10_readItem_275)
          refine lv_if_eq (tgt := 274) hx hb dX10_readItem_240 (by decide) (fun c_240 => ?_) (fun c_240 => ?_)
          · have hw := hw.1 c_240
            exact hw _ _ _ (lv_sub hl [] rfl) G
          · have hw := hw.2 c_240
            refine lv_aload_n hx hb dX10_readItem_243 rfl (lv_at hl 0 rfl) ?_
            refine x_get (C := RX10) (T := TX10) (n := 21) S G inX10 (me_11 km_0) rfl 14 (by decide) kf_X10_36 rfl dX10_readItem_244 ?_
            refine lv_aload_n hx hb dX10_readItem_247 rfl (lv_at hl 0 rfl) ?_
            refine x_get (C := RX10) (T := TX10) (n := 21) S G inX10 (me_11 km_0) rfl 7 (by decide) kf_X10_152 rfl dX10_readItem_248 ?_
            obtain ⟨i_251, hw⟩ := hw
            refine x_zald (k := (gi h 0 7).toNatClampNeg) S G (me_21 km_9 lm_9) i_251 rfl rfl dX10_readItem_251 ?_
            refine lv_if_ne (tgt := 274) hx hb dX10_readItem_252 (by decide) (fun c_252 => ?_) (fun c_252 => ?_)
            · have hw := hw.1 c_252
              exact hw _ _ _ (lv_sub hl [] rfl) G
            · have hw := hw.2 c_252
              refine lv_aload_n hx hb dX10_readItem_255 rfl (lv_at hl 0 rfl) ?_
              refine x_get (C := RX10) (T := TX10) (n := 21) S G inX10 (me_11 km_0) rfl 14 (by decide) kf_X10_36 rfl dX10_readItem_256 ?_
              refine lv_aload_n hx hb dX10_readItem_259 rfl (lv_at hl 0 rfl) ?_
              refine x_get (C := RX10) (T := TX10) (n := 21) S G inX10 (me_11 km_0) rfl 7 (by decide) kf_X10_152 rfl dX10_readItem_260 ?_
              refine lv_iconst (v := 1) hx hb dX10_readItem_263 (by decide) ?_
              obtain ⟨i_264, hw⟩ := hw
              refine x_zast (k := (gi h 0 7).toNatClampNeg) S G (me_21 km_9 lm_9) i_264 rfl (ms_21 km_9 lm_9) dX10_readItem_264 (fun H locs G => ?_)
              obtain ⟨h_264, eh_264⟩ : ∃ y : Hs, y = si h 9 ((gi h 0 7).toNatClampNeg) (zn 1) := ⟨_, rfl⟩
              rw [← eh_264] at G
              have hw := hw h_264 eh_264
              refine lv_aload_n hx hb dX10_readItem_265 rfl (lv_at hl 0 rfl) ?_
              refine x_Vv S hl.1 G (c_M_goOn l D q A ad h_264 _ hw) (cw_X10_176 S.2.2.2.2 ⟨Nat.le_trans (Nat.le_of_ble_eq_true rfl) hR1, Nat.le_trans (Nat.le_of_ble_eq_true rfl) hR2⟩) (me_11 km_0) rfl rfl rfl (Nat.le_of_ble_eq_true rfl) dX10_readItem_266 (fun h_266 H locs G hw => ?_)
              refine lv_aload_n hx hb dX10_readItem_269 rfl (lv_at hl 0 rfl) ?_
              refine x_Vi S hl.1 G (c_M_stops l D q A ad h_266 _ hw) (cw_X10_197 S.2.2.2.2 ⟨Nat.le_trans (Nat.le_of_ble_eq_true rfl) hR1, Nat.le_trans (Nat.le_of_ble_eq_true rfl) hR2⟩) (me_11 km_0) rfl rfl rfl (Nat.le_of_ble_eq_true rfl) dX10_readItem_270 (fun r_270 h_270 H locs G hw => ?_)
              obtain ⟨z_270, hw⟩ := hw
              exact RT _ _ _ _ _ _ G z_270 hw dX10_readItem_273)
        refine lv_if_eq (tgt := 226) hx hb dX10_readItem_163 (by decide) (fun c_163 => ?_) (fun c_163 => ?_)
        · have hw := hw.1 c_163
          exact hw _ _ _ (lv_sub hl [2] rfl) G
        · have hw := hw.2 c_163
          refine lv_aload_n hx hb dX10_readItem_166 rfl (lv_at hl 2 rfl) ?_
          refine x_get (C := RX10) (T := TX10) (n := 21) S G inX10 (me_11 km_0) rfl 13 (by decide) kf_X10_33 rfl dX10_readItem_167 ?_
          refine lv_aload_n hx hb dX10_readItem_170 rfl (lv_at hl 2 rfl) ?_
          refine x_get (C := RX10) (T := TX10) (n := 21) S G inX10 (me_11 km_0) rfl 7 (by decide) kf_X10_152 rfl dX10_readItem_171 ?_
          obtain ⟨i_174, hw⟩ := hw
          refine x_iald (k := (gi h 0 7).toNatClampNeg) S G (me_20 km_8 lm_8) i_174 rfl rfl dX10_readItem_174 ?_
          refine lv_iconst (v := (-1)) hx hb dX10_readItem_175 (by decide) ?_
          refine lv_icmp_ne (tgt := 226) hx hb dX10_readItem_176 (by decide) (fun c_176 => ?_) (fun c_176 => ?_)
          · have hw := hw.1 c_176
            exact hw _ _ _ (lv_sub hl [2] rfl) G
          · have hw := hw.2 c_176
            refine lv_aload_n hx hb dX10_readItem_179 rfl (lv_at hl 2 rfl) ?_
            refine x_Vv S hl.1 G (c_M_goOn l D q A ad h _ hw) (cw_X10_176 S.2.2.2.2 ⟨Nat.le_trans (Nat.le_of_ble_eq_true rfl) hR1, Nat.le_trans (Nat.le_of_ble_eq_true rfl) hR2⟩) (me_11 km_0) rfl rfl rfl (Nat.le_of_ble_eq_true rfl) dX10_readItem_180 (fun h_180 H locs G hw => ?_)
            refine lv_aload_n hx hb dX10_readItem_183 rfl (lv_at hl 2 rfl) ?_
            refine x_get (C := RX10) (T := TX10) (n := 21) S G inX10 (me_11 km_0) rfl 10 (by decide) kf_X10_161 rfl dX10_readItem_184 ?_
            refine lv_iconst (v := 2) hx hb dX10_readItem_187 (by decide) ?_
            have hw := hw (∀ (ls : Array Slot) (H : Heap) (locs : List Loc), lv_has ls 4 [] → okW D q A s (wM q ad h_180) H locs → W p l e R s m args below meth c H locs 0 0 Qm (F0 m 202 ls [])) (by
              intro hw ls H locs hl G
              refine lv_iconst (v := 0) hx hb dX10_readItem_202 (by decide) ?_
              exact RT _ _ _ _ _ _ G zb0 hw dX10_readItem_203)
            refine lv_icmp_ne (tgt := 202) hx hb dX10_readItem_188 (by decide) (fun c_188 => ?_) (fun c_188 => ?_)
            · have hw := hw.1 c_188
              exact hw _ _ _ (lv_sub hl [] rfl) G
            · have hw := hw.2 c_188
              refine lv_aload_n hx hb dX10_readItem_191 rfl (lv_at hl 2 rfl) ?_
              refine lv_aload_n hx hb dX10_readItem_192 rfl (lv_at hl 2 rfl) ?_
              refine x_get (C := RX10) (T := TX10) (n := 21) S G inX10 (me_11 km_0) rfl 11 (by decide) kf_X10_164 rfl dX10_readItem_193 ?_
              refine x_VzP S hl.1 G (c_M_isPlace l D q A ad (gi h_180 0 11) h_180 _ hw) (cw_X10_194 S.2.2.2.2 ⟨Nat.le_trans (Nat.le_of_ble_eq_true rfl) hR1, Nat.le_trans (Nat.le_of_ble_eq_true rfl) hR2⟩) (me_11 km_0) rfl rfl rfl (Nat.le_of_ble_eq_true rfl) dX10_readItem_196 (fun r_196 H locs G z_196 hw => ?_)
              refine lv_if_ne (tgt := 204) hx hb dX10_readItem_199 (by decide) (fun c_199 => ?_) (fun c_199 => ?_)
              · have hw := hw.1 c_199
                refine lv_aload_n hx hb dX10_readItem_204 rfl (lv_at hl 2 rfl) ?_
                refine x_get (C := RX10) (T := TX10) (n := 21) S G inX10 (me_11 km_0) rfl 13 (by decide) kf_X10_33 rfl dX10_readItem_205 ?_
                refine lv_aload_n hx hb dX10_readItem_208 rfl (lv_at hl 2 rfl) ?_
                refine x_get (C := RX10) (T := TX10) (n := 21) S G inX10 (me_11 km_0) rfl 7 (by decide) kf_X10_152 rfl dX10_readItem_209 ?_
                refine lv_aload_n hx hb dX10_readItem_212 rfl (lv_at hl 2 rfl) ?_
                refine x_get (C := RX10) (T := TX10) (n := 21) S G inX10 (me_11 km_0) rfl 11 (by decide) kf_X10_164 rfl dX10_readItem_213 ?_
                obtain ⟨i_216, hw⟩ := hw
                refine x_iast (k := (gi h_180 0 7).toNatClampNeg) S G (me_20 km_8 lm_8) i_216 rfl (ms_20 km_8 lm_8) dX10_readItem_216 (fun H locs G => ?_)
                obtain ⟨h_216, eh_216⟩ : ∃ y : Hs, y = si h_180 8 ((gi h_180 0 7).toNatClampNeg) (gi h_180 0 11) := ⟨_, rfl⟩
                rw [← eh_216] at G
                have hw := hw h_216 eh_216
                refine lv_aload_n hx hb dX10_readItem_217 rfl (lv_at hl 2 rfl) ?_
                refine x_Vv S hl.1 G (c_M_goOn l D q A ad h_216 _ hw) (cw_X10_176 S.2.2.2.2 ⟨Nat.le_trans (Nat.le_of_ble_eq_true rfl) hR1, Nat.le_trans (Nat.le_of_ble_eq_true rfl) hR2⟩) (me_11 km_0) rfl rfl rfl (Nat.le_of_ble_eq_true rfl) dX10_readItem_218 (fun h_218 H locs G hw => ?_)
                refine lv_aload_n hx hb dX10_readItem_221 rfl (lv_at hl 2 rfl) ?_
                refine x_Vi S hl.1 G (c_M_stops l D q A ad h_218 _ hw) (cw_X10_197 S.2.2.2.2 ⟨Nat.le_trans (Nat.le_of_ble_eq_true rfl) hR1, Nat.le_trans (Nat.le_of_ble_eq_true rfl) hR2⟩) (me_11 km_0) rfl rfl rfl (Nat.le_of_ble_eq_true rfl) dX10_readItem_222 (fun r_222 h_222 H locs G hw => ?_)
                obtain ⟨z_222, hw⟩ := hw
                exact RT _ _ _ _ _ _ G z_222 hw dX10_readItem_225
              · have hw := hw.2 c_199
                exact hw _ _ _ (lv_sub hl [] rfl) G
      · have hw := hw.2 c_46
        exact hw _ _ _ (lv_sub hl [2, 1, 0] rfl) G
theorem cw_X10_203 {R : Room} {s : State} {args : Array Value} (hts : ∀ w ∈ gW, w.before args s = true) (hR : rm_M_readItem.frames + 1 ≤ R.frames ∧ 8 + (4 + 11) + rm_M_readItem.locals ≤ R.locals) : CallW R s args RX10 RX10 203 yX10_readItem cX10_readItem 4 (some .boolean) (mw yX10_readItem cX10_readItem 4 (some .boolean)) rm_M_readItem 0 0 0 := cwV9 hts km_X10_203 ki_X10_readItem ks_X10_readItem kn_X10 kk_X10_readItem rfl rfl (by decide +kernel) hR
abbrev rm_M_readsStory : Room := { frames := 6, cells := 0, slots := 0, locals := 132 }
set_option maxHeartbeats 4000000 in
set_option maxRecDepth 100000 in
theorem c_M_readsStory (l : Launch) (D : va_G) (q : Nat → ClassId) (A : Nat → Prop) (ad : Nat → Nat) (a1 : Int32) (h : Hs) (Q : Int32 → Hs → Prop) (hw : p_M_readsStory a1 h Q) : Met l yX10_readsStory (mw yX10_readsStory cX10_readsStory 3 (some .boolean)) rm_M_readsStory (va_Pc [.ref (ad 0), .int a1] (pW D q A (wM q ad h))) (va_Qi (fun r h9 => zb r ∧ Q r h9) (fun h t => pW D q A (wM q ad h) t) A) 0 0 A := by
  refine met_z (Qp := Q) (by decide) (Nat.le_of_ble_eq_true rfl) ?_
  intro p e R s m args below meth c Qm ls hR1 hR2 S RT hl G
  have hx := S.1
  have hb := S.2.1
  have hl : lv_has ls 3 [(0, .ref (ad 0)), (1, .int a1)] := hl
  unfold p_M_readsStory at hw
  refine lv_aload_n hx hb dX10_readsStory_0 rfl (lv_at hl 0 rfl) ?_
  refine lv_iload_n hx hb dX10_readsStory_1 rfl (lv_at hl 1 rfl) ?_
  refine x_put (C := RX10) (T := TX10) (n := 21) S G inX10 tyX10 tyX10_ok nmX10 (me_11 km_0) rfl 7 (by decide) kf_X10_152 rfl rfl rfl (Nat.le_of_ble_eq_true rfl) (mp_11_7 km_0) dX10_readsStory_2 (fun H locs G => ?_)
  obtain ⟨h_2, eh_2⟩ : ∃ y : Hs, y = si h 0 7 a1 := ⟨_, rfl⟩
  rw [← eh_2] at G
  have hw := hw h_2 eh_2
  refine lv_aload_n hx hb dX10_readsStory_5 rfl (lv_at hl 0 rfl) ?_
  refine lv_iconst (v := 0) hx hb dX10_readsStory_6 (by decide) ?_
  refine x_put (C := RX10) (T := TX10) (n := 21) S G inX10 tyX10 tyX10_ok nmX10 (me_11 km_0) rfl 16 (by decide) kf_X10_179 rfl rfl rfl (Nat.le_of_ble_eq_true rfl) (mp_11_16 km_0) dX10_readsStory_7 (fun H locs G => ?_)
  obtain ⟨h_7, eh_7⟩ : ∃ y : Hs, y = si h_2 0 16 0 := ⟨_, rfl⟩
  rw [← eh_7] at G
  have hw := hw h_7 eh_7
  refine lv_aload_n hx hb dX10_readsStory_10 rfl (lv_at hl 0 rfl) ?_
  refine lv_iconst (v := 0) hx hb dX10_readsStory_11 (by decide) ?_
  refine x_put (C := RX10) (T := TX10) (n := 21) S G inX10 tyX10 tyX10_ok nmX10 (me_11 km_0) rfl 17 (by decide) kf_X10_186 rfl (zb_n zb0) (zb_f zb0) (Nat.le_of_ble_eq_true rfl) (mp_11_17 km_0) dX10_readsStory_12 (fun H locs G => ?_)
  obtain ⟨h_12, eh_12⟩ : ∃ y : Hs, y = si h_7 0 17 0 := ⟨_, rfl⟩
  rw [← eh_12] at G
  have hw := hw h_12 eh_12
  refine lv_aload_n hx hb dX10_readsStory_15 rfl (lv_at hl 0 rfl) ?_
  refine x_get (C := RX10) (T := TX10) (n := 21) S G inX10 (me_11 km_0) rfl 13 (by decide) kf_X10_33 rfl dX10_readsStory_16 ?_
  refine lv_aload_n hx hb dX10_readsStory_19 rfl (lv_at hl 0 rfl) ?_
  refine x_get (C := RX10) (T := TX10) (n := 21) S G inX10 (me_11 km_0) rfl 7 (by decide) kf_X10_152 rfl dX10_readsStory_20 ?_
  refine lv_iconst (v := (-1)) hx hb dX10_readsStory_23 (by decide) ?_
  obtain ⟨i_24, hw⟩ := hw
  refine x_iast (k := (gi h_12 0 7).toNatClampNeg) S G (me_20 km_8 lm_8) i_24 rfl (ms_20 km_8 lm_8) dX10_readsStory_24 (fun H locs G => ?_)
  obtain ⟨h_24, eh_24⟩ : ∃ y : Hs, y = si h_12 8 ((gi h_12 0 7).toNatClampNeg) (-1) := ⟨_, rfl⟩
  rw [← eh_24] at G
  have hw := hw h_24 eh_24
  refine lv_aload_n hx hb dX10_readsStory_25 rfl (lv_at hl 0 rfl) ?_
  refine x_get (C := RX10) (T := TX10) (n := 21) S G inX10 (me_11 km_0) rfl 14 (by decide) kf_X10_36 rfl dX10_readsStory_26 ?_
  refine lv_aload_n hx hb dX10_readsStory_29 rfl (lv_at hl 0 rfl) ?_
  refine x_get (C := RX10) (T := TX10) (n := 21) S G inX10 (me_11 km_0) rfl 7 (by decide) kf_X10_152 rfl dX10_readsStory_30 ?_
  refine lv_iconst (v := 0) hx hb dX10_readsStory_33 (by decide) ?_
  obtain ⟨i_34, hw⟩ := hw
  refine x_zast (k := (gi h_24 0 7).toNatClampNeg) S G (me_21 km_9 lm_9) i_34 rfl (ms_21 km_9 lm_9) dX10_readsStory_34 (fun H locs G => ?_)
  obtain ⟨h_34, eh_34⟩ : ∃ y : Hs, y = si h_24 9 ((gi h_24 0 7).toNatClampNeg) (zn 0) := ⟨_, rfl⟩
  rw [← eh_34] at G
  have hw := hw h_34 eh_34
  refine lv_aload_n hx hb dX10_readsStory_35 rfl (lv_at hl 0 rfl) ?_
  refine lv_iconst (v := 0) hx hb dX10_readsStory_36 (by decide) ?_
  refine lv_iconst (v := 0) hx hb dX10_readsStory_37 (by decide) ?_
  refine x_Vv S hl.1 G (c_M_layFrom l D q A ad 0 0 h_34 _ hw) (cw_X10_200 S.2.2.2.2 ⟨Nat.le_trans (Nat.le_of_ble_eq_true rfl) hR1, Nat.le_trans (Nat.le_of_ble_eq_true rfl) hR2⟩) (me_11 km_0) rfl rfl rfl (Nat.le_of_ble_eq_true rfl) dX10_readsStory_38 (fun h_38 H locs G hw => ?_)
  refine lv_aload_n hx hb dX10_readsStory_41 rfl (lv_at hl 0 rfl) ?_
  refine lv_iconst (v := 0) hx hb dX10_readsStory_42 (by decide) ?_
  refine x_Vv S hl.1 G (c_M_look l D q A ad 0 h_38 _ hw) (cw_X10_173 S.2.2.2.2 ⟨Nat.le_trans (Nat.le_of_ble_eq_true rfl) hR1, Nat.le_trans (Nat.le_of_ble_eq_true rfl) hR2⟩) (me_11 km_0) rfl rfl rfl (Nat.le_of_ble_eq_true rfl) dX10_readsStory_43 (fun h_43 H locs G hw => ?_)
  refine lv_iconst (v := 1) hx hb dX10_readsStory_46 (by decide) ?_
  refine lv_istore_n (lv' := [(2, .int 1), (0, .ref (ad 0)), (1, .int a1)]) hx hb dX10_readsStory_47 rfl hl (by decide) rfl (fun ls hl => ?_)
  have hw := hw (fun (b2_48 : Int32) (g_48 : Hs) => ∀ (ls : Array Slot) (H : Heap) (locs : List Loc), lv_has ls 3 [(0, .ref (ad 0)), (2, .int b2_48)] → okW D q A s (wM q ad g_48) H locs → W p l e R s m args below meth c H locs 0 0 Qm (F0 m 48 ls [])) (by
    intro b2_48 g_48 hw ls H locs hl G
    refine lv_iload_n hx hb dX10_readsStory_48 rfl (lv_at hl 1 rfl) ?_
    have hw := hw (∀ (ls : Array Slot) (H : Heap) (locs : List Loc), lv_has ls 3 [(2, .int b2_48)] → okW D q A s (wM q ad g_48) H locs → W p l e R s m args below meth c H locs 0 0 Qm (F0 m 67 ls [])) (by
      intro hw ls H locs hl G
      refine lv_iload_n hx hb dX10_readsStory_67 rfl (lv_at hl 0 rfl) ?_
      obtain ⟨z_68, hw⟩ := hw
      exact RT _ _ _ _ _ _ G z_68 hw dX10_readsStory_68)
    refine lv_if_eq (tgt := 67) hx hb dX10_readsStory_49 (by decide) (fun c_49 => ?_) (fun c_49 => ?_)
    · have hw := hw.1 c_49
      exact hw _ _ _ (lv_sub hl [1] rfl) G
    · have hw := hw.2 c_49
      refine lv_aload_n hx hb dX10_readsStory_52 rfl (lv_at hl 0 rfl) ?_
      refine x_get (C := RX10) (T := TX10) (n := 21) S G inX10 (me_11 km_0) rfl 10 (by decide) kf_X10_161 rfl dX10_readsStory_53 ?_
      refine lv_if_eq (tgt := 67) hx hb dX10_readsStory_56 (by decide) (fun c_56 => ?_) (fun c_56 => ?_)
      · have hw := hw.1 c_56
        exact hw _ _ _ (lv_sub hl [1] rfl) G
      · have hw := hw.2 c_56
        refine lv_aload_n hx hb dX10_readsStory_59 rfl (lv_at hl 0 rfl) ?_
        refine x_Vi S hl.1 G (c_M_readItem l D q A ad g_48 _ hw) (cw_X10_203 S.2.2.2.2 ⟨Nat.le_trans (Nat.le_of_ble_eq_true rfl) hR1, Nat.le_trans (Nat.le_of_ble_eq_true rfl) hR2⟩) (me_11 km_0) rfl rfl rfl (Nat.le_of_ble_eq_true rfl) dX10_readsStory_60 (fun r_60 h_60 H locs G hw => ?_)
        obtain ⟨z_60, hw⟩ := hw
        refine lv_istore_n (lv' := [(2, .int r_60), (0, .ref (ad 0))]) hx hb dX10_readsStory_63 rfl hl (by decide) rfl (fun ls hl => ?_)
        refine lv_goto (tgt := 48) hx hb dX10_readsStory_64 (by decide) ?_
        exact hw _ _ _ (lv_sub hl [1, 0] rfl) G)
  exact hw _ _ _ (lv_sub hl [1, 0] rfl) G
theorem cw_X10_206 {R : Room} {s : State} {args : Array Value} (hts : ∀ w ∈ gW, w.before args s = true) (hR : rm_M_readsStory.frames + 1 ≤ R.frames ∧ 8 + (3 + 11) + rm_M_readsStory.locals ≤ R.locals) : CallW R s args RX10 RX10 206 yX10_readsStory cX10_readsStory 3 (some .boolean) (mw yX10_readsStory cX10_readsStory 3 (some .boolean)) rm_M_readsStory 0 0 1 := cwV9 hts km_X10_206 ki_X10_readsStory ks_X10_readsStory kn_X10 kk_X10_readsStory rfl rfl (by decide +kernel) hR
abbrev rm_M_fault : Room := { frames := 7, cells := 0, slots := 0, locals := 154 }
set_option maxHeartbeats 4000000 in
set_option maxRecDepth 100000 in
theorem c_M_fault (l : Launch) (D : va_G) (q : Nat → ClassId) (A : Nat → Prop) (ad : Nat → Nat) (a1 : Int32) (h : Hs) (Q : Int32 → Hs → Prop) (hw : p_M_fault a1 h Q) : Met l yX10_fault (mw yX10_fault cX10_fault 2 (some .int)) rm_M_fault (va_Pc [.ref (ad 0), .int a1] (pW D q A (wM q ad h))) (va_Qi Q (fun h t => pW D q A (wM q ad h) t) A) 0 0 A := by
  refine met_i (Qp := Q) (by decide) (Nat.le_of_ble_eq_true rfl) ?_
  intro p e R s m args below meth c Qm ls hR1 hR2 S RT hl G
  have hx := S.1
  have hb := S.2.1
  have hl : lv_has ls 2 [(0, .ref (ad 0)), (1, .int a1)] := hl
  unfold p_M_fault at hw
  refine lv_iload_n hx hb dX10_fault_0 rfl (lv_at hl 1 rfl) ?_
  refine x_SzP S hl.1 G (c_M_isFour l D q A ad a1 h _ hw) (cw_X10_129 S.2.2.2.2 ⟨Nat.le_trans (Nat.le_of_ble_eq_true rfl) hR1, Nat.le_trans (Nat.le_of_ble_eq_true rfl) hR2⟩) rfl rfl (Nat.le_of_ble_eq_true rfl) dX10_fault_1 (fun r_1 H locs G z_1 hw => ?_)
  refine lv_if_ne (tgt := 14) hx hb dX10_fault_4 (by decide) (fun c_4 => ?_) (fun c_4 => ?_)
  · have hw := hw.1 c_4
    refine lv_aload_n hx hb dX10_fault_14 rfl (lv_at hl 0 rfl) ?_
    refine lv_iload_n hx hb dX10_fault_15 rfl (lv_at hl 1 rfl) ?_
    refine x_Vi S hl.1 G (c_M_readsStory l D q A ad a1 h _ hw) (cw_X10_206 S.2.2.2.2 ⟨Nat.le_trans (Nat.le_of_ble_eq_true rfl) hR1, Nat.le_trans (Nat.le_of_ble_eq_true rfl) hR2⟩) (me_11 km_0) rfl rfl rfl (Nat.le_of_ble_eq_true rfl) dX10_fault_16 (fun r_16 h_16 H locs G hw => ?_)
    obtain ⟨z_16, hw⟩ := hw
    have hw := hw (fun (t0_30 : Int32) => ∀ (ls : Array Slot) (H : Heap) (locs : List Loc), lv_has ls 2 [] → okW D q A s (wM q ad h_16) H locs → W p l e R s m args below meth c H locs 0 0 Qm (F0 m 30 ls [.int t0_30])) (by
      intro t0_30 hw ls H locs hl G
      exact RT _ _ _ _ _ _ G hw dX10_fault_30)
    refine lv_if_eq (tgt := 26) hx hb dX10_fault_19 (by decide) (fun c_19 => ?_) (fun c_19 => ?_)
    · have hw := hw.1 c_19
      refine lv_aload_n hx hb dX10_fault_26 rfl (lv_at hl 0 rfl) ?_
      refine x_get (C := RX10) (T := TX10) (n := 21) S G inX10 (me_11 km_0) rfl 8 (by decide) kf_X10_149 rfl dX10_fault_27 ?_
      exact hw _ _ _ (lv_sub hl [] rfl) G
    · have hw := hw.2 c_19
      refine lv_iconst (v := (-1)) hx hb dX10_fault_22 (by decide) ?_
      refine lv_goto (tgt := 30) hx hb dX10_fault_23 (by decide) ?_
      exact hw _ _ _ (lv_sub hl [] rfl) G
  · have hw := hw.2 c_4
    refine lv_aload_n hx hb dX10_fault_7 rfl (lv_at hl 0 rfl) ?_
    refine lv_bipush (v := (-2)) hx hb dX10_fault_8 (by decide) ?_
    refine x_Vi S hl.1 G (c_M_bad l D q A ad (-2) h _ hw) (cw_X10_118 S.2.2.2.2 ⟨Nat.le_trans (Nat.le_of_ble_eq_true rfl) hR1, Nat.le_trans (Nat.le_of_ble_eq_true rfl) hR2⟩) (me_11 km_0) rfl rfl rfl (Nat.le_of_ble_eq_true rfl) dX10_fault_10 (fun r_10 h_10 H locs G hw => ?_)
    exact RT _ _ _ _ _ _ G hw dX10_fault_13

abbrev rm_M_readAll : Room := { frames := 7, cells := 0, slots := 0, locals := 154 }
set_option maxHeartbeats 4000000 in
set_option maxRecDepth 100000 in
theorem c_M_readAll (l : Launch) (D : va_G) (q : Nat → ClassId) (A : Nat → Prop) (ad : Nat → Nat) (h : Hs) (Q : Hs → Prop) (hw : p_M_readAll h Q) : Met l yX10_readAll (mw yX10_readAll cX10_readAll 2 none) rm_M_readAll (va_Pc [.ref (ad 0)] (pW D q A (wM q ad h))) (va_Qv Q (fun h t => pW D q A (wM q ad h) t) A) 0 0 A := by
  refine met_v (Qp := Q) (by decide) (Nat.le_of_ble_eq_true rfl) ?_
  intro p e R s m args below meth c Qm ls hR1 hR2 S RT hl G
  have hx := S.1
  have hb := S.2.1
  have hl : lv_has ls 2 [(0, .ref (ad 0))] := hl
  unfold p_M_readAll at hw
  refine lv_iconst (v := 0) hx hb dX10_readAll_0 (by decide) ?_
  refine lv_istore_n (lv' := [(1, .int 0), (0, .ref (ad 0))]) hx hb dX10_readAll_1 rfl hl (by decide) rfl (fun ls hl => ?_)
  have hw := hw (fun (b1_2 : Int32) (g_2 : Hs) => ∀ (ls : Array Slot) (H : Heap) (locs : List Loc), lv_has ls 2 [(0, .ref (ad 0)), (1, .int b1_2)] → okW D q A s (wM q ad g_2) H locs → W p l e R s m args below meth c H locs 0 0 Qm (F0 m 2 ls [])) (by
    intro b1_2 g_2 hw ls H locs hl G
    refine lv_iload_n hx hb dX10_readAll_2 rfl (lv_at hl 1 rfl) ?_
    refine lv_iconst (v := 4) hx hb dX10_readAll_3 (by decide) ?_
    refine lv_icmp_ge (tgt := 24) hx hb dX10_readAll_4 (by decide) (fun c_4 => ?_) (fun c_4 => ?_)
    · have hw := hw.1 c_4
      exact RT _ _ _ _ _ G hw dX10_readAll_24
    · have hw := hw.2 c_4
      refine lv_aload_n hx hb dX10_readAll_7 rfl (lv_at hl 0 rfl) ?_
      refine x_get (C := RX10) (T := TX10) (n := 21) S G inX10 (me_11 km_0) rfl 15 (by decide) kf_X10_39 rfl dX10_readAll_8 ?_
      refine lv_iload_n hx hb dX10_readAll_11 rfl (lv_at hl 1 rfl) ?_
      refine lv_aload_n hx hb dX10_readAll_12 rfl (lv_at hl 0 rfl) ?_
      refine lv_iload_n hx hb dX10_readAll_13 rfl (lv_at hl 1 rfl) ?_
      refine x_Vi S hl.1 G (c_M_readsStory l D q A ad b1_2 g_2 _ hw) (cw_X10_206 S.2.2.2.2 ⟨Nat.le_trans (Nat.le_of_ble_eq_true rfl) hR1, Nat.le_trans (Nat.le_of_ble_eq_true rfl) hR2⟩) (me_11 km_0) rfl rfl rfl (Nat.le_of_ble_eq_true rfl) dX10_readAll_14 (fun r_14 h_14 H locs G hw => ?_)
      obtain ⟨z_14, hw⟩ := hw
      obtain ⟨i_17, hw⟩ := hw
      refine x_zast (k := b1_2.toNatClampNeg) S G (me_21 km_10 lm_10) i_17 rfl (ms_21 km_10 lm_10) dX10_readAll_17 (fun H locs G => ?_)
      obtain ⟨h_17, eh_17⟩ : ∃ y : Hs, y = si h_14 10 b1_2.toNatClampNeg (zn r_14) := ⟨_, rfl⟩
      rw [← eh_17] at G
      have hw := hw h_17 eh_17
      obtain ⟨a1_18, ea1_18⟩ : ∃ y : Int32, y = b1_2 + 1 := ⟨_, rfl⟩
      have hw := hw a1_18 ea1_18
      refine lv_iinc (v := a1_18) (lv' := [(1, .int a1_18), (0, .ref (ad 0))]) hx hb dX10_readAll_18 hl (k := 1) rfl (by rw [ea1_18]; rfl) (by decide) rfl (fun ls hl => ?_)
      refine lv_goto (tgt := 2) hx hb dX10_readAll_21 (by decide) ?_
      exact hw _ _ _ (lv_sub hl [1, 0] rfl) G)
  exact hw _ _ _ (lv_sub hl [1, 0] rfl) G
theorem cw_X10_267 {R : Room} {s : State} {args : Array Value} (hts : ∀ w ∈ gW, w.before args s = true) (hR : rm_M_readAll.frames + 1 ≤ R.frames ∧ 8 + (2 + 11) + rm_M_readAll.locals ≤ R.locals) : CallW R s args RX10 RX10 267 yX10_readAll cX10_readAll 2 none (mw yX10_readAll cX10_readAll 2 none) rm_M_readAll 0 0 0 := cwV9 hts km_X10_267 ki_X10_readAll ks_X10_readAll kn_X10 kk_X10_readAll rfl rfl (by decide +kernel) hR
abbrev rm_M_isSigned : Room := { frames := 1, cells := 0, slots := 0, locals := 20 }
set_option maxHeartbeats 4000000 in
set_option maxRecDepth 100000 in
theorem c_M_isSigned (l : Launch) (D : va_G) (q : Nat → ClassId) (A : Nat → Prop) (ad : Nat → Nat) (a1 : Int32) (a2 : Int32) (h : Hs) (Q : Int32 → Prop) (hw : p_M_isSigned a1 a2 h Q) : Met l yX10_isSigned (mw yX10_isSigned cX10_isSigned 5 (some .boolean)) rm_M_isSigned (va_Pc [.ref (ad 0), .int a1, .int a2] (pW D q A (wM q ad h))) (va_Qi (fun r h9 => zb r ∧ h9 = h ∧ Q r) (fun h t => pW D q A (wM q ad h) t) A) 0 0 A := by
  refine met_z (Qp := (fun r h9 => h9 = h ∧ Q r)) (by decide) (Nat.le_of_ble_eq_true rfl) ?_
  intro p e R s m args below meth c Qm ls hR1 hR2 S RT hl G
  have hx := S.1
  have hb := S.2.1
  have hl : lv_has ls 5 [(0, .ref (ad 0)), (1, .int a1), (2, .int a2)] := hl
  unfold p_M_isSigned at hw
  refine lv_iconst (v := 0) hx hb dX10_isSigned_0 (by decide) ?_
  refine lv_istore_n (lv' := [(3, .int 0), (0, .ref (ad 0)), (1, .int a1), (2, .int a2)]) hx hb dX10_isSigned_1 rfl hl (by decide) rfl (fun ls hl => ?_)
  refine lv_iconst (v := 0) hx hb dX10_isSigned_2 (by decide) ?_
  refine lv_istore (lv' := [(4, .int 0), (3, .int 0), (0, .ref (ad 0)), (1, .int a1), (2, .int a2)]) hx hb dX10_isSigned_3 hl (by decide) rfl (fun ls hl => ?_)
  have hw := hw (fun (b3_5 : Int32) (b4_5 : Int32) => ∀ (ls : Array Slot) (H : Heap) (locs : List Loc), lv_has ls 5 [(0, .ref (ad 0)), (1, .int a1), (2, .int a2), (3, .int b3_5), (4, .int b4_5)] → okW D q A s (wM q ad h) H locs → W p l e R s m args below meth c H locs 0 0 Qm (F0 m 5 ls [])) (by
    intro b3_5 b4_5 hw ls H locs hl G
    refine lv_iload hx hb dX10_isSigned_5 (lv_at hl 4 rfl) ?_
    refine lv_aload_n hx hb dX10_isSigned_7 rfl (lv_at hl 0 rfl) ?_
    refine x_ViP S hl.1 G (c_M_signs l D q A ad h _ hw) (cw_X10_215 S.2.2.2.2 ⟨Nat.le_trans (Nat.le_of_ble_eq_true rfl) hR1, Nat.le_trans (Nat.le_of_ble_eq_true rfl) hR2⟩) (me_11 km_0) rfl rfl rfl (Nat.le_of_ble_eq_true rfl) dX10_isSigned_8 (fun r_8 H locs G hw => ?_)
    refine lv_icmp_ge (tgt := 66) hx hb dX10_isSigned_11 (by decide) (fun c_11 => ?_) (fun c_11 => ?_)
    · have hw := hw.1 c_11
      refine lv_iload_n hx hb dX10_isSigned_66 rfl (lv_at hl 3 rfl) ?_
      obtain ⟨z_67, hw⟩ := hw
      exact RT _ _ _ _ _ _ G z_67 ⟨rfl, hw⟩ dX10_isSigned_67
    · have hw := hw.2 c_11
      refine lv_iload_n hx hb dX10_isSigned_14 rfl (lv_at hl 3 rfl) ?_
      have hw := hw (fun (t0_59 : Int32) => ∀ (ls : Array Slot) (H : Heap) (locs : List Loc), lv_has ls 5 [(0, .ref (ad 0)), (1, .int a1), (2, .int a2), (4, .int b4_5)] → okW D q A s (wM q ad h) H locs → W p l e R s m args below meth c H locs 0 0 Qm (F0 m 59 ls [.int t0_59])) (by
        intro t0_59 hw ls H locs hl G
        refine lv_istore_n (lv' := [(3, .int t0_59), (0, .ref (ad 0)), (1, .int a1), (2, .int a2), (4, .int b4_5)]) hx hb dX10_isSigned_59 rfl hl (by decide) rfl (fun ls hl => ?_)
        obtain ⟨a4_60, ea4_60⟩ : ∃ y : Int32, y = b4_5 + 1 := ⟨_, rfl⟩
        have hw := hw a4_60 ea4_60
        refine lv_iinc (v := a4_60) (lv' := [(4, .int a4_60), (3, .int t0_59), (0, .ref (ad 0)), (1, .int a1), (2, .int a2)]) hx hb dX10_isSigned_60 hl (k := 4) rfl (by rw [ea4_60]; rfl) (by decide) rfl (fun ls hl => ?_)
        refine lv_goto (tgt := 5) hx hb dX10_isSigned_63 (by decide) ?_
        exact hw _ _ _ (lv_sub hl [2, 3, 4, 1, 0] rfl) G)
      have hw := hw (∀ (ls : Array Slot) (H : Heap) (locs : List Loc), lv_has ls 5 [(0, .ref (ad 0)), (1, .int a1), (2, .int a2), (4, .int b4_5)] → okW D q A s (wM q ad h) H locs → W p l e R s m args below meth c H locs 0 0 Qm (F0 m 54 ls [])) (by
        intro hw ls H locs hl G
        refine lv_iconst (v := 1) hx hb dX10_isSigned_54 (by decide) ?_
        refine lv_goto (tgt := 59) hx hb dX10_isSigned_55 (by decide) ?_
        exact hw _ _ _ (lv_sub hl [0, 1, 2, 3] rfl) G)
      refine lv_if_ne (tgt := 54) hx hb dX10_isSigned_15 (by decide) (fun c_15 => ?_) (fun c_15 => ?_)
      · have hw := hw.1 c_15
        exact hw _ _ _ (lv_sub hl [0, 1, 2, 4] rfl) G
      · have hw := hw.2 c_15
        refine lv_aload_n hx hb dX10_isSigned_18 rfl (lv_at hl 0 rfl) ?_
        refine x_get (C := RX10) (T := TX10) (n := 21) S G inX10 (me_11 km_0) rfl 0 (by decide) kf_X10_7 rfl dX10_isSigned_19 ?_
        refine lv_sipush (v := 518) hx hb dX10_isSigned_22 (by decide) ?_
        refine lv_iconst (v := 4) hx hb dX10_isSigned_25 (by decide) ?_
        refine lv_iload hx hb dX10_isSigned_26 (lv_at hl 4 rfl) ?_
        refine lv_imul hx hb dX10_isSigned_28 ?_
        refine lv_iadd hx hb dX10_isSigned_29 ?_
        obtain ⟨i_30, hw⟩ := hw
        refine x_iald (k := (518 + (4 * b4_5)).toNatClampNeg) S G (me_20 km_1 lm_1) i_30 rfl rfl dX10_isSigned_30 ?_
        refine lv_iload_n hx hb dX10_isSigned_31 rfl (lv_at hl 1 rfl) ?_
        have hw := hw (∀ (ls : Array Slot) (H : Heap) (locs : List Loc), lv_has ls 5 [(0, .ref (ad 0)), (1, .int a1), (2, .int a2), (4, .int b4_5)] → okW D q A s (wM q ad h) H locs → W p l e R s m args below meth c H locs 0 0 Qm (F0 m 58 ls [])) (by
          intro hw ls H locs hl G
          refine lv_iconst (v := 0) hx hb dX10_isSigned_58 (by decide) ?_
          exact hw _ _ _ (lv_sub hl [0, 1, 2, 3] rfl) G)
        refine lv_icmp_ne (tgt := 58) hx hb dX10_isSigned_32 (by decide) (fun c_32 => ?_) (fun c_32 => ?_)
        · have hw := hw.1 c_32
          exact hw _ _ _ (lv_sub hl [0, 1, 2, 4] rfl) G
        · have hw := hw.2 c_32
          refine lv_aload_n hx hb dX10_isSigned_35 rfl (lv_at hl 0 rfl) ?_
          refine x_get (C := RX10) (T := TX10) (n := 21) S G inX10 (me_11 km_0) rfl 0 (by decide) kf_X10_7 rfl dX10_isSigned_36 ?_
          refine lv_sipush (v := 518) hx hb dX10_isSigned_39 (by decide) ?_
          refine lv_iconst (v := 4) hx hb dX10_isSigned_42 (by decide) ?_
          refine lv_iload hx hb dX10_isSigned_43 (lv_at hl 4 rfl) ?_
          refine lv_imul hx hb dX10_isSigned_45 ?_
          refine lv_iadd hx hb dX10_isSigned_46 ?_
          refine lv_iconst (v := 1) hx hb dX10_isSigned_47 (by decide) ?_
          refine lv_iadd hx hb dX10_isSigned_48 ?_
          obtain ⟨i_49, hw⟩ := hw
          refine x_iald (k := ((518 + (4 * b4_5)) + 1).toNatClampNeg) S G (me_20 km_1 lm_1) i_49 rfl rfl dX10_isSigned_49 ?_
          refine lv_iload_n hx hb dX10_isSigned_50 rfl (lv_at hl 2 rfl) ?_
          refine lv_icmp_ne (tgt := 58) hx hb dX10_isSigned_51 (by decide) (fun c_51 => ?_) (fun c_51 => ?_)
          · have hw := hw.1 c_51
            exact hw _ _ _ (lv_sub hl [0, 1, 2, 4] rfl) G
          · have hw := hw.2 c_51
            exact hw _ _ _ (lv_sub hl [0, 1, 2, 4] rfl) G)
  exact hw _ _ _ (lv_sub hl [2, 3, 4, 1, 0] rfl) G
theorem cw_X10_211 {R : Room} {s : State} {args : Array Value} (hts : ∀ w ∈ gW, w.before args s = true) (hR : rm_M_isSigned.frames + 1 ≤ R.frames ∧ 8 + (5 + 11) + rm_M_isSigned.locals ≤ R.locals) : CallW R s args RX10 RX10 211 yX10_isSigned cX10_isSigned 5 (some .boolean) (mw yX10_isSigned cX10_isSigned 5 (some .boolean)) rm_M_isSigned 0 0 2 := cwV9 hts km_X10_211 ki_X10_isSigned ks_X10_isSigned kn_X10 kk_X10_isSigned rfl rfl (by decide +kernel) hR
abbrev rm_M_sign : Room := { frames := 2, cells := 0, slots := 0, locals := 46 }
set_option maxHeartbeats 4000000 in
set_option maxRecDepth 100000 in
theorem c_M_sign (l : Launch) (D : va_G) (q : Nat → ClassId) (A : Nat → Prop) (ad : Nat → Nat) (a1 : Int32) (a2 : Int32) (a3 : Int32) (a4 : Int32) (h : Hs) (Q : Int32 → Hs → Prop) (hw : p_M_sign a1 a2 a3 a4 h Q) : Met l yX10_sign (mw yX10_sign cX10_sign 6 (some .int)) rm_M_sign (va_Pc [.ref (ad 0), .int a1, .int a2, .int a3, .int a4] (pW D q A (wM q ad h))) (va_Qi Q (fun h t => pW D q A (wM q ad h) t) A) 0 0 A := by
  refine met_i (Qp := Q) (by decide) (Nat.le_of_ble_eq_true rfl) ?_
  intro p e R s m args below meth c Qm ls hR1 hR2 S RT hl G
  have hx := S.1
  have hb := S.2.1
  have hl : lv_has ls 6 [(0, .ref (ad 0)), (1, .int a1), (2, .int a2), (3, .int a3), (4, .int a4)] := hl
  unfold p_M_sign at hw
  refine lv_aload_n hx hb dX10_sign_0 rfl (lv_at hl 0 rfl) ?_
  refine lv_iload_n hx hb dX10_sign_1 rfl (lv_at hl 1 rfl) ?_
  refine x_VzP S hl.1 G (c_M_isPlace l D q A ad a1 h _ hw) (cw_X10_194 S.2.2.2.2 ⟨Nat.le_trans (Nat.le_of_ble_eq_true rfl) hR1, Nat.le_trans (Nat.le_of_ble_eq_true rfl) hR2⟩) (me_11 km_0) rfl rfl rfl (Nat.le_of_ble_eq_true rfl) dX10_sign_2 (fun r_2 H locs G z_2 hw => ?_)
  have hw := hw (∀ (ls : Array Slot) (H : Heap) (locs : List Loc), lv_has ls 6 [(0, .ref (ad 0))] → okW D q A s (wM q ad h) H locs → W p l e R s m args below meth c H locs 0 0 Qm (F0 m 40 ls [])) (by
    intro hw ls H locs hl G
    refine lv_aload_n hx hb dX10_sign_40 rfl (lv_at hl 0 rfl) ?_
    refine lv_bipush (v := (-2)) hx hb dX10_sign_41 (by decide) ?_
    refine x_Vi S hl.1 G (c_M_bad l D q A ad (-2) h _ hw) (cw_X10_118 S.2.2.2.2 ⟨Nat.le_trans (Nat.le_of_ble_eq_true rfl) hR1, Nat.le_trans (Nat.le_of_ble_eq_true rfl) hR2⟩) (me_11 km_0) rfl rfl rfl (Nat.le_of_ble_eq_true rfl) dX10_sign_43 (fun r_43 h_43 H locs G hw => ?_)
    exact RT _ _ _ _ _ _ G hw dX10_sign_46)
  refine lv_if_eq (tgt := 40) hx hb dX10_sign_5 (by decide) (fun c_5 => ?_) (fun c_5 => ?_)
  · have hw := hw.1 c_5
    exact hw _ _ _ (lv_sub hl [0] rfl) G
  · have hw := hw.2 c_5
    refine lv_iload_n hx hb dX10_sign_8 rfl (lv_at hl 2 rfl) ?_
    refine x_SzP S hl.1 G (c_M_isFour l D q A ad a2 h _ hw) (cw_X10_129 S.2.2.2.2 ⟨Nat.le_trans (Nat.le_of_ble_eq_true rfl) hR1, Nat.le_trans (Nat.le_of_ble_eq_true rfl) hR2⟩) rfl rfl (Nat.le_of_ble_eq_true rfl) dX10_sign_9 (fun r_9 H locs G z_9 hw => ?_)
    refine lv_if_eq (tgt := 40) hx hb dX10_sign_12 (by decide) (fun c_12 => ?_) (fun c_12 => ?_)
    · have hw := hw.1 c_12
      exact hw _ _ _ (lv_sub hl [0] rfl) G
    · have hw := hw.2 c_12
      refine lv_iload_n hx hb dX10_sign_15 rfl (lv_at hl 3 rfl) ?_
      refine lv_i2l hx hb dX10_sign_16 rfl ?_
      refine lv_lconst (v := 0) hx hb dX10_sign_17 (by decide) ?_
      refine lv_ldc2 (v := 9) hx hb S.2.2.2.1 (S.2.2.2.2 _ kl_X10_125) dX10_sign_18 ?_
      refine x_SzP S hl.1 G (c_M_in l D q A ad a3.toInt64 0 9 h _ hw) (cw_X10_105 S.2.2.2.2 ⟨Nat.le_trans (Nat.le_of_ble_eq_true rfl) hR1, Nat.le_trans (Nat.le_of_ble_eq_true rfl) hR2⟩) rfl rfl (Nat.le_of_ble_eq_true rfl) dX10_sign_21 (fun r_21 H locs G z_21 hw => ?_)
      refine lv_if_eq (tgt := 40) hx hb dX10_sign_24 (by decide) (fun c_24 => ?_) (fun c_24 => ?_)
      · have hw := hw.1 c_24
        exact hw _ _ _ (lv_sub hl [0] rfl) G
      · have hw := hw.2 c_24
        refine lv_iload hx hb dX10_sign_27 (lv_at hl 4 rfl) ?_
        refine lv_i2l hx hb dX10_sign_29 rfl ?_
        refine lv_lconst (v := 1) hx hb dX10_sign_30 (by decide) ?_
        refine lv_ldc2 (v := 10) hx hb S.2.2.2.1 (S.2.2.2.2 _ kl_X10_209) dX10_sign_31 ?_
        refine x_SzP S hl.1 G (c_M_in l D q A ad a4.toInt64 1 10 h _ hw) (cw_X10_105 S.2.2.2.2 ⟨Nat.le_trans (Nat.le_of_ble_eq_true rfl) hR1, Nat.le_trans (Nat.le_of_ble_eq_true rfl) hR2⟩) rfl rfl (Nat.le_of_ble_eq_true rfl) dX10_sign_34 (fun r_34 H locs G z_34 hw => ?_)
        refine lv_if_ne (tgt := 47) hx hb dX10_sign_37 (by decide) (fun c_37 => ?_) (fun c_37 => ?_)
        · have hw := hw.1 c_37
          refine lv_aload_n hx hb dX10_sign_47 rfl (lv_at hl 0 rfl) ?_
          refine lv_iload_n hx hb dX10_sign_48 rfl (lv_at hl 1 rfl) ?_
          refine lv_iload_n hx hb dX10_sign_49 rfl (lv_at hl 2 rfl) ?_
          refine x_VzP S hl.1 G (c_M_isSigned l D q A ad a1 a2 h _ hw) (cw_X10_211 S.2.2.2.2 ⟨Nat.le_trans (Nat.le_of_ble_eq_true rfl) hR1, Nat.le_trans (Nat.le_of_ble_eq_true rfl) hR2⟩) (me_11 km_0) rfl rfl rfl (Nat.le_of_ble_eq_true rfl) dX10_sign_50 (fun r_50 H locs G z_50 hw => ?_)
          refine lv_if_eq (tgt := 63) hx hb dX10_sign_53 (by decide) (fun c_53 => ?_) (fun c_53 => ?_)
          · have hw := hw.1 c_53
            refine lv_aload_n hx hb dX10_sign_63 rfl (lv_at hl 0 rfl) ?_
            refine x_ViP S hl.1 G (c_M_signs l D q A ad h _ hw) (cw_X10_215 S.2.2.2.2 ⟨Nat.le_trans (Nat.le_of_ble_eq_true rfl) hR1, Nat.le_trans (Nat.le_of_ble_eq_true rfl) hR2⟩) (me_11 km_0) rfl rfl rfl (Nat.le_of_ble_eq_true rfl) dX10_sign_64 (fun r_64 H locs G hw => ?_)
            refine lv_istore (lv' := [(5, .int r_64), (0, .ref (ad 0)), (1, .int a1), (2, .int a2), (3, .int a3), (4, .int a4)]) hx hb dX10_sign_67 hl (by decide) rfl (fun ls hl => ?_)
            refine lv_iload hx hb dX10_sign_69 (lv_at hl 0 rfl) ?_
            refine lv_bipush (v := 6) hx hb dX10_sign_71 (by decide) ?_
            refine lv_icmp_ne (tgt := 81) hx hb dX10_sign_73 (by decide) (fun c_73 => ?_) (fun c_73 => ?_)
            · have hw := hw.1 c_73
              refine lv_aload_n hx hb dX10_sign_81 rfl (lv_at hl 1 rfl) ?_
              refine x_get (C := RX10) (T := TX10) (n := 21) S G inX10 (me_11 km_0) rfl 0 (by decide) kf_X10_7 rfl dX10_sign_82 ?_
              refine lv_sipush (v := 518) hx hb dX10_sign_85 (by decide) ?_
              refine lv_iconst (v := 4) hx hb dX10_sign_88 (by decide) ?_
              refine lv_iload hx hb dX10_sign_89 (lv_at hl 0 rfl) ?_
              refine lv_imul hx hb dX10_sign_91 ?_
              refine lv_iadd hx hb dX10_sign_92 ?_
              refine lv_iload_n hx hb dX10_sign_93 rfl (lv_at hl 2 rfl) ?_
              obtain ⟨i_94, hw⟩ := hw
              refine x_iast (k := (518 + (4 * r_64)).toNatClampNeg) S G (me_20 km_1 lm_1) i_94 rfl (ms_20 km_1 lm_1) dX10_sign_94 (fun H locs G => ?_)
              obtain ⟨h_94, eh_94⟩ : ∃ y : Hs, y = si h 1 ((518 + (4 * r_64)).toNatClampNeg) a1 := ⟨_, rfl⟩
              rw [← eh_94] at G
              have hw := hw h_94 eh_94
              refine lv_aload_n hx hb dX10_sign_95 rfl (lv_at hl 1 rfl) ?_
              refine x_get (C := RX10) (T := TX10) (n := 21) S G inX10 (me_11 km_0) rfl 0 (by decide) kf_X10_7 rfl dX10_sign_96 ?_
              refine lv_sipush (v := 518) hx hb dX10_sign_99 (by decide) ?_
              refine lv_iconst (v := 4) hx hb dX10_sign_102 (by decide) ?_
              refine lv_iload hx hb dX10_sign_103 (lv_at hl 0 rfl) ?_
              refine lv_imul hx hb dX10_sign_105 ?_
              refine lv_iadd hx hb dX10_sign_106 ?_
              refine lv_iconst (v := 1) hx hb dX10_sign_107 (by decide) ?_
              refine lv_iadd hx hb dX10_sign_108 ?_
              refine lv_iload_n hx hb dX10_sign_109 rfl (lv_at hl 3 rfl) ?_
              obtain ⟨i_110, hw⟩ := hw
              refine x_iast (k := ((518 + (4 * r_64)) + 1).toNatClampNeg) S G (me_20 km_1 lm_1) i_110 rfl (ms_20 km_1 lm_1) dX10_sign_110 (fun H locs G => ?_)
              obtain ⟨h_110, eh_110⟩ : ∃ y : Hs, y = si h_94 1 (((518 + (4 * r_64)) + 1).toNatClampNeg) a2 := ⟨_, rfl⟩
              rw [← eh_110] at G
              have hw := hw h_110 eh_110
              refine lv_aload_n hx hb dX10_sign_111 rfl (lv_at hl 1 rfl) ?_
              refine x_get (C := RX10) (T := TX10) (n := 21) S G inX10 (me_11 km_0) rfl 0 (by decide) kf_X10_7 rfl dX10_sign_112 ?_
              refine lv_sipush (v := 518) hx hb dX10_sign_115 (by decide) ?_
              refine lv_iconst (v := 4) hx hb dX10_sign_118 (by decide) ?_
              refine lv_iload hx hb dX10_sign_119 (lv_at hl 0 rfl) ?_
              refine lv_imul hx hb dX10_sign_121 ?_
              refine lv_iadd hx hb dX10_sign_122 ?_
              refine lv_iconst (v := 2) hx hb dX10_sign_123 (by decide) ?_
              refine lv_iadd hx hb dX10_sign_124 ?_
              refine lv_iload_n hx hb dX10_sign_125 rfl (lv_at hl 4 rfl) ?_
              obtain ⟨i_126, hw⟩ := hw
              refine x_iast (k := ((518 + (4 * r_64)) + 2).toNatClampNeg) S G (me_20 km_1 lm_1) i_126 rfl (ms_20 km_1 lm_1) dX10_sign_126 (fun H locs G => ?_)
              obtain ⟨h_126, eh_126⟩ : ∃ y : Hs, y = si h_110 1 (((518 + (4 * r_64)) + 2).toNatClampNeg) a3 := ⟨_, rfl⟩
              rw [← eh_126] at G
              have hw := hw h_126 eh_126
              refine lv_aload_n hx hb dX10_sign_127 rfl (lv_at hl 1 rfl) ?_
              refine x_get (C := RX10) (T := TX10) (n := 21) S G inX10 (me_11 km_0) rfl 0 (by decide) kf_X10_7 rfl dX10_sign_128 ?_
              refine lv_sipush (v := 518) hx hb dX10_sign_131 (by decide) ?_
              refine lv_iconst (v := 4) hx hb dX10_sign_134 (by decide) ?_
              refine lv_iload hx hb dX10_sign_135 (lv_at hl 0 rfl) ?_
              refine lv_imul hx hb dX10_sign_137 ?_
              refine lv_iadd hx hb dX10_sign_138 ?_
              refine lv_iconst (v := 3) hx hb dX10_sign_139 (by decide) ?_
              refine lv_iadd hx hb dX10_sign_140 ?_
              refine lv_iload hx hb dX10_sign_141 (lv_at hl 5 rfl) ?_
              obtain ⟨i_143, hw⟩ := hw
              refine x_iast (k := ((518 + (4 * r_64)) + 3).toNatClampNeg) S G (me_20 km_1 lm_1) i_143 rfl (ms_20 km_1 lm_1) dX10_sign_143 (fun H locs G => ?_)
              obtain ⟨h_143, eh_143⟩ : ∃ y : Hs, y = si h_126 1 (((518 + (4 * r_64)) + 3).toNatClampNeg) a4 := ⟨_, rfl⟩
              rw [← eh_143] at G
              have hw := hw h_143 eh_143
              refine lv_aload_n hx hb dX10_sign_144 rfl (lv_at hl 1 rfl) ?_
              refine x_get (C := RX10) (T := TX10) (n := 21) S G inX10 (me_11 km_0) rfl 0 (by decide) kf_X10_7 rfl dX10_sign_145 ?_
              refine lv_sipush (v := 673) hx hb dX10_sign_148 (by decide) ?_
              refine lv_dup2_11 hx hb dX10_sign_151 rfl rfl ?_
              refine x_iald (k := 673) S G (me_20 km_1 lm_1) (vpi (by decide)) rfl rfl dX10_sign_152 ?_
              refine lv_iconst (v := 1) hx hb dX10_sign_153 (by decide) ?_
              refine lv_iadd hx hb dX10_sign_154 ?_
              refine x_iast (k := 673) S G (me_20 km_1 lm_1) (vpi (by decide)) rfl (ms_20 km_1 lm_1) dX10_sign_155 (fun H locs G => ?_)
              obtain ⟨h_155, eh_155⟩ : ∃ y : Hs, y = si h_143 1 673 ((gi h_143 1 673) + 1) := ⟨_, rfl⟩
              rw [← eh_155] at G
              have hw := hw h_155 eh_155
              refine lv_iload hx hb dX10_sign_156 (lv_at hl 0 rfl) ?_
              exact RT _ _ _ _ _ _ G hw dX10_sign_158
            · have hw := hw.2 c_73
              refine lv_aload_n hx hb dX10_sign_76 rfl (lv_at hl 1 rfl) ?_
              refine x_Vi S hl.1 G (c_M_full l D q A ad h _ hw) (cw_X10_122 S.2.2.2.2 ⟨Nat.le_trans (Nat.le_of_ble_eq_true rfl) hR1, Nat.le_trans (Nat.le_of_ble_eq_true rfl) hR2⟩) (me_11 km_0) rfl rfl rfl (Nat.le_of_ble_eq_true rfl) dX10_sign_77 (fun r_77 h_77 H locs G hw => ?_)
              exact RT _ _ _ _ _ _ G hw dX10_sign_80
          · have hw := hw.2 c_53
            refine lv_aload_n hx hb dX10_sign_56 rfl (lv_at hl 0 rfl) ?_
            refine lv_bipush (v := (-2)) hx hb dX10_sign_57 (by decide) ?_
            refine x_Vi S hl.1 G (c_M_bad l D q A ad (-2) h _ hw) (cw_X10_118 S.2.2.2.2 ⟨Nat.le_trans (Nat.le_of_ble_eq_true rfl) hR1, Nat.le_trans (Nat.le_of_ble_eq_true rfl) hR2⟩) (me_11 km_0) rfl rfl rfl (Nat.le_of_ble_eq_true rfl) dX10_sign_59 (fun r_59 h_59 H locs G hw => ?_)
            exact RT _ _ _ _ _ _ G hw dX10_sign_62
        · have hw := hw.2 c_37
          exact hw _ _ _ (lv_sub hl [0] rfl) G

abbrev rm_M_post : Room := { frames := 2, cells := 0, slots := 0, locals := 46 }
set_option maxHeartbeats 4000000 in
set_option maxRecDepth 100000 in
theorem c_M_post (l : Launch) (D : va_G) (q : Nat → ClassId) (A : Nat → Prop) (ad : Nat → Nat) (a1 : Int32) (a2 : Int32) (h : Hs) (Q : Int32 → Hs → Prop) (hw : p_M_post a1 a2 h Q) : Met l yX10_post (mw yX10_post cX10_post 3 (some .int)) rm_M_post (va_Pc [.ref (ad 0), .int a1, .int a2] (pW D q A (wM q ad h))) (va_Qi Q (fun h t => pW D q A (wM q ad h) t) A) 0 0 A := by
  refine met_i (Qp := Q) (by decide) (Nat.le_of_ble_eq_true rfl) ?_
  intro p e R s m args below meth c Qm ls hR1 hR2 S RT hl G
  have hx := S.1
  have hb := S.2.1
  have hl : lv_has ls 3 [(0, .ref (ad 0)), (1, .int a1), (2, .int a2)] := hl
  unfold p_M_post at hw
  refine lv_iload_n hx hb dX10_post_0 rfl (lv_at hl 1 rfl) ?_
  refine lv_iconst (v := (-1)) hx hb dX10_post_1 (by decide) ?_
  have hw := hw (∀ (ls : Array Slot) (H : Heap) (locs : List Loc), lv_has ls 3 [(0, .ref (ad 0)), (1, .int a1), (2, .int a2)] → okW D q A s (wM q ad h) H locs → W p l e R s m args below meth c H locs 0 0 Qm (F0 m 20 ls [])) (by
    intro hw ls H locs hl G
    refine lv_aload_n hx hb dX10_post_20 rfl (lv_at hl 0 rfl) ?_
    refine x_get (C := RX10) (T := TX10) (n := 21) S G inX10 (me_11 km_0) rfl 0 (by decide) kf_X10_7 rfl dX10_post_21 ?_
    refine lv_sipush (v := 542) hx hb dX10_post_24 (by decide) ?_
    refine lv_iconst (v := 1) hx hb dX10_post_27 (by decide) ?_
    refine x_iast (k := 542) S G (me_20 km_1 lm_1) (vpi (by decide)) rfl (ms_20 km_1 lm_1) dX10_post_28 (fun H locs G => ?_)
    obtain ⟨h_28, eh_28⟩ : ∃ y : Hs, y = si h 1 542 1 := ⟨_, rfl⟩
    rw [← eh_28] at G
    have hw := hw h_28 eh_28
    refine lv_aload_n hx hb dX10_post_29 rfl (lv_at hl 0 rfl) ?_
    refine x_get (C := RX10) (T := TX10) (n := 21) S G inX10 (me_11 km_0) rfl 0 (by decide) kf_X10_7 rfl dX10_post_30 ?_
    refine lv_sipush (v := 543) hx hb dX10_post_33 (by decide) ?_
    refine lv_iload_n hx hb dX10_post_36 rfl (lv_at hl 1 rfl) ?_
    refine x_iast (k := 543) S G (me_20 km_1 lm_1) (vpi (by decide)) rfl (ms_20 km_1 lm_1) dX10_post_37 (fun H locs G => ?_)
    obtain ⟨h_37, eh_37⟩ : ∃ y : Hs, y = si h_28 1 543 a1 := ⟨_, rfl⟩
    rw [← eh_37] at G
    have hw := hw h_37 eh_37
    refine lv_aload_n hx hb dX10_post_38 rfl (lv_at hl 0 rfl) ?_
    refine x_get (C := RX10) (T := TX10) (n := 21) S G inX10 (me_11 km_0) rfl 0 (by decide) kf_X10_7 rfl dX10_post_39 ?_
    refine lv_sipush (v := 544) hx hb dX10_post_42 (by decide) ?_
    refine lv_iload_n hx hb dX10_post_45 rfl (lv_at hl 2 rfl) ?_
    have hw := hw (fun (t2_54 : Int32) => ∀ (ls : Array Slot) (H : Heap) (locs : List Loc), lv_has ls 3 [] → okW D q A s (wM q ad h_37) H locs → W p l e R s m args below meth c H locs 0 0 Qm (F0 m 54 ls [.int t2_54, .int 544, .ref (ad 1)])) (by
      intro t2_54 hw ls H locs hl G
      refine x_iast (k := 544) S G (me_20 km_1 lm_1) (vpi (by decide)) rfl (ms_20 km_1 lm_1) dX10_post_54 (fun H locs G => ?_)
      obtain ⟨h_54, eh_54⟩ : ∃ y : Hs, y = si h_37 1 544 t2_54 := ⟨_, rfl⟩
      rw [← eh_54] at G
      have hw := hw h_54 eh_54
      refine lv_iconst (v := 1) hx hb dX10_post_55 (by decide) ?_
      exact RT _ _ _ _ _ _ G hw dX10_post_56)
    refine lv_if_eq (tgt := 53) hx hb dX10_post_46 (by decide) (fun c_46 => ?_) (fun c_46 => ?_)
    · have hw := hw.1 c_46
      refine lv_iconst (v := 0) hx hb dX10_post_53 (by decide) ?_
      exact hw _ _ _ (lv_sub hl [] rfl) G
    · have hw := hw.2 c_46
      refine lv_iconst (v := 1) hx hb dX10_post_49 (by decide) ?_
      refine lv_goto (tgt := 54) hx hb dX10_post_50 (by decide) ?_
      exact hw _ _ _ (lv_sub hl [] rfl) G)
  refine lv_icmp_eq (tgt := 20) hx hb dX10_post_2 (by decide) (fun c_2 => ?_) (fun c_2 => ?_)
  · have hw := hw.1 c_2
    exact hw _ _ _ (lv_sub hl [0, 1, 2] rfl) G
  · have hw := hw.2 c_2
    refine lv_aload_n hx hb dX10_post_5 rfl (lv_at hl 0 rfl) ?_
    refine lv_iload_n hx hb dX10_post_6 rfl (lv_at hl 1 rfl) ?_
    refine x_VzP S hl.1 G (c_M_isPlace l D q A ad a1 h _ hw) (cw_X10_194 S.2.2.2.2 ⟨Nat.le_trans (Nat.le_of_ble_eq_true rfl) hR1, Nat.le_trans (Nat.le_of_ble_eq_true rfl) hR2⟩) (me_11 km_0) rfl rfl rfl (Nat.le_of_ble_eq_true rfl) dX10_post_7 (fun r_7 H locs G z_7 hw => ?_)
    refine lv_if_ne (tgt := 20) hx hb dX10_post_10 (by decide) (fun c_10 => ?_) (fun c_10 => ?_)
    · have hw := hw.1 c_10
      exact hw _ _ _ (lv_sub hl [0, 1, 2] rfl) G
    · have hw := hw.2 c_10
      refine lv_aload_n hx hb dX10_post_13 rfl (lv_at hl 0 rfl) ?_
      refine lv_bipush (v := (-2)) hx hb dX10_post_14 (by decide) ?_
      refine x_Vi S hl.1 G (c_M_bad l D q A ad (-2) h _ hw) (cw_X10_118 S.2.2.2.2 ⟨Nat.le_trans (Nat.le_of_ble_eq_true rfl) hR1, Nat.le_trans (Nat.le_of_ble_eq_true rfl) hR2⟩) (me_11 km_0) rfl rfl rfl (Nat.le_of_ble_eq_true rfl) dX10_post_16 (fun r_16 h_16 H locs G hw => ?_)
      exact RT _ _ _ _ _ _ G hw dX10_post_19

abbrev rm_M_isWhere : Room := { frames := 2, cells := 0, slots := 0, locals := 46 }
set_option maxHeartbeats 4000000 in
set_option maxRecDepth 100000 in
theorem c_M_isWhere (l : Launch) (D : va_G) (q : Nat → ClassId) (A : Nat → Prop) (ad : Nat → Nat) (a1 : Int32) (h : Hs) (Q : Int32 → Prop) (hw : p_M_isWhere a1 h Q) : Met l yX10_isWhere (mw yX10_isWhere cX10_isWhere 2 (some .boolean)) rm_M_isWhere (va_Pc [.ref (ad 0), .int a1] (pW D q A (wM q ad h))) (va_Qi (fun r h9 => zb r ∧ h9 = h ∧ Q r) (fun h t => pW D q A (wM q ad h) t) A) 0 0 A := by
  refine met_z (Qp := (fun r h9 => h9 = h ∧ Q r)) (by decide) (Nat.le_of_ble_eq_true rfl) ?_
  intro p e R s m args below meth c Qm ls hR1 hR2 S RT hl G
  have hx := S.1
  have hb := S.2.1
  have hl : lv_has ls 2 [(0, .ref (ad 0)), (1, .int a1)] := hl
  unfold p_M_isWhere at hw
  refine lv_aload_n hx hb dX10_isWhere_0 rfl (lv_at hl 0 rfl) ?_
  refine lv_iload_n hx hb dX10_isWhere_1 rfl (lv_at hl 1 rfl) ?_
  refine x_VzP S hl.1 G (c_M_isPlace l D q A ad a1 h _ hw) (cw_X10_194 S.2.2.2.2 ⟨Nat.le_trans (Nat.le_of_ble_eq_true rfl) hR1, Nat.le_trans (Nat.le_of_ble_eq_true rfl) hR2⟩) (me_11 km_0) rfl rfl rfl (Nat.le_of_ble_eq_true rfl) dX10_isWhere_2 (fun r_2 H locs G z_2 hw => ?_)
  have hw := hw (fun (t0_25 : Int32) => ∀ (ls : Array Slot) (H : Heap) (locs : List Loc), lv_has ls 2 [] → okW D q A s (wM q ad h) H locs → W p l e R s m args below meth c H locs 0 0 Qm (F0 m 25 ls [.int t0_25])) (by
    intro t0_25 hw ls H locs hl G
    obtain ⟨z_25, hw⟩ := hw
    exact RT _ _ _ _ _ _ G z_25 ⟨rfl, hw⟩ dX10_isWhere_25)
  have hw := hw (∀ (ls : Array Slot) (H : Heap) (locs : List Loc), lv_has ls 2 [] → okW D q A s (wM q ad h) H locs → W p l e R s m args below meth c H locs 0 0 Qm (F0 m 20 ls [])) (by
    intro hw ls H locs hl G
    refine lv_iconst (v := 1) hx hb dX10_isWhere_20 (by decide) ?_
    refine lv_goto (tgt := 25) hx hb dX10_isWhere_21 (by decide) ?_
    exact hw _ _ _ (lv_sub hl [] rfl) G)
  refine lv_if_ne (tgt := 20) hx hb dX10_isWhere_5 (by decide) (fun c_5 => ?_) (fun c_5 => ?_)
  · have hw := hw.1 c_5
    exact hw _ _ _ (lv_sub hl [] rfl) G
  · have hw := hw.2 c_5
    refine lv_iload_n hx hb dX10_isWhere_8 rfl (lv_at hl 1 rfl) ?_
    refine lv_bipush (v := 6) hx hb dX10_isWhere_9 (by decide) ?_
    refine lv_icmp_eq (tgt := 20) hx hb dX10_isWhere_11 (by decide) (fun c_11 => ?_) (fun c_11 => ?_)
    · have hw := hw.1 c_11
      exact hw _ _ _ (lv_sub hl [] rfl) G
    · have hw := hw.2 c_11
      refine lv_iload_n hx hb dX10_isWhere_14 rfl (lv_at hl 1 rfl) ?_
      refine lv_bipush (v := 7) hx hb dX10_isWhere_15 (by decide) ?_
      refine lv_icmp_ne (tgt := 24) hx hb dX10_isWhere_17 (by decide) (fun c_17 => ?_) (fun c_17 => ?_)
      · have hw := hw.1 c_17
        refine lv_iconst (v := 0) hx hb dX10_isWhere_24 (by decide) ?_
        exact hw _ _ _ (lv_sub hl [] rfl) G
      · have hw := hw.2 c_17
        exact hw _ _ _ (lv_sub hl [] rfl) G
theorem cw_X10_226 {R : Room} {s : State} {args : Array Value} (hts : ∀ w ∈ gW, w.before args s = true) (hR : rm_M_isWhere.frames + 1 ≤ R.frames ∧ 8 + (2 + 11) + rm_M_isWhere.locals ≤ R.locals) : CallW R s args RX10 RX10 226 yX10_isWhere cX10_isWhere 2 (some .boolean) (mw yX10_isWhere cX10_isWhere 2 (some .boolean)) rm_M_isWhere 0 0 1 := cwV9 hts km_X10_226 ki_X10_isWhere ks_X10_isWhere kn_X10 kk_X10_isWhere rfl rfl (by decide +kernel) hR
abbrev rm_M_teller : Room := { frames := 3, cells := 0, slots := 0, locals := 67 }
set_option maxHeartbeats 4000000 in
set_option maxRecDepth 100000 in
theorem c_M_teller (l : Launch) (D : va_G) (q : Nat → ClassId) (A : Nat → Prop) (ad : Nat → Nat) (a1 : Int32) (a2 : Int32) (a3 : Int32) (a4 : Int32) (a5 : Int32) (h : Hs) (Q : Int32 → Hs → Prop) (hw : p_M_teller a1 a2 a3 a4 a5 h Q) : Met l yX10_teller (mw yX10_teller cX10_teller 7 (some .int)) rm_M_teller (va_Pc [.ref (ad 0), .int a1, .int a2, .int a3, .int a4, .int a5] (pW D q A (wM q ad h))) (va_Qi Q (fun h t => pW D q A (wM q ad h) t) A) 0 0 A := by
  refine met_i (Qp := Q) (by decide) (Nat.le_of_ble_eq_true rfl) ?_
  intro p e R s m args below meth c Qm ls hR1 hR2 S RT hl G
  have hx := S.1
  have hb := S.2.1
  have hl : lv_has ls 7 [(0, .ref (ad 0)), (1, .int a1), (2, .int a2), (3, .int a3), (4, .int a4), (5, .int a5)] := hl
  unfold p_M_teller at hw
  refine lv_iload_n hx hb dX10_teller_0 rfl (lv_at hl 1 rfl) ?_
  refine lv_i2l hx hb dX10_teller_1 rfl ?_
  refine lv_lconst (v := 0) hx hb dX10_teller_2 (by decide) ?_
  refine lv_ldc2 (v := 5) hx hb S.2.2.2.1 (S.2.2.2.2 _ kl_X10_218) dX10_teller_3 ?_
  refine x_SzP S hl.1 G (c_M_in l D q A ad a1.toInt64 0 5 h _ hw) (cw_X10_105 S.2.2.2.2 ⟨Nat.le_trans (Nat.le_of_ble_eq_true rfl) hR1, Nat.le_trans (Nat.le_of_ble_eq_true rfl) hR2⟩) rfl rfl (Nat.le_of_ble_eq_true rfl) dX10_teller_6 (fun r_6 H locs G z_6 hw => ?_)
  have hw := hw (∀ (ls : Array Slot) (H : Heap) (locs : List Loc), lv_has ls 7 [(0, .ref (ad 0))] → okW D q A s (wM q ad h) H locs → W p l e R s m args below meth c H locs 0 0 Qm (F0 m 49 ls [])) (by
    intro hw ls H locs hl G
    refine lv_aload_n hx hb dX10_teller_49 rfl (lv_at hl 0 rfl) ?_
    refine lv_bipush (v := (-2)) hx hb dX10_teller_50 (by decide) ?_
    refine x_Vi S hl.1 G (c_M_bad l D q A ad (-2) h _ hw) (cw_X10_118 S.2.2.2.2 ⟨Nat.le_trans (Nat.le_of_ble_eq_true rfl) hR1, Nat.le_trans (Nat.le_of_ble_eq_true rfl) hR2⟩) (me_11 km_0) rfl rfl rfl (Nat.le_of_ble_eq_true rfl) dX10_teller_52 (fun r_52 h_52 H locs G hw => ?_)
    exact RT _ _ _ _ _ _ G hw dX10_teller_55)
  refine lv_if_eq (tgt := 49) hx hb dX10_teller_9 (by decide) (fun c_9 => ?_) (fun c_9 => ?_)
  · have hw := hw.1 c_9
    exact hw _ _ _ (lv_sub hl [0] rfl) G
  · have hw := hw.2 c_9
    refine lv_aload_n hx hb dX10_teller_12 rfl (lv_at hl 0 rfl) ?_
    refine lv_iload_n hx hb dX10_teller_13 rfl (lv_at hl 2 rfl) ?_
    refine x_VzP S hl.1 G (c_M_isLot l D q A ad a2 h _ hw) (cw_X10_220 S.2.2.2.2 ⟨Nat.le_trans (Nat.le_of_ble_eq_true rfl) hR1, Nat.le_trans (Nat.le_of_ble_eq_true rfl) hR2⟩) (me_11 km_0) rfl rfl rfl (Nat.le_of_ble_eq_true rfl) dX10_teller_14 (fun r_14 H locs G z_14 hw => ?_)
    refine lv_if_eq (tgt := 49) hx hb dX10_teller_17 (by decide) (fun c_17 => ?_) (fun c_17 => ?_)
    · have hw := hw.1 c_17
      exact hw _ _ _ (lv_sub hl [0] rfl) G
    · have hw := hw.2 c_17
      refine lv_iload_n hx hb dX10_teller_20 rfl (lv_at hl 3 rfl) ?_
      refine x_SzP S hl.1 G (c_M_isMonth l D q A ad a3 h _ hw) (cw_X10_223 S.2.2.2.2 ⟨Nat.le_trans (Nat.le_of_ble_eq_true rfl) hR1, Nat.le_trans (Nat.le_of_ble_eq_true rfl) hR2⟩) rfl rfl (Nat.le_of_ble_eq_true rfl) dX10_teller_21 (fun r_21 H locs G z_21 hw => ?_)
      refine lv_if_eq (tgt := 49) hx hb dX10_teller_24 (by decide) (fun c_24 => ?_) (fun c_24 => ?_)
      · have hw := hw.1 c_24
        exact hw _ _ _ (lv_sub hl [0] rfl) G
      · have hw := hw.2 c_24
        refine lv_aload_n hx hb dX10_teller_27 rfl (lv_at hl 0 rfl) ?_
        refine lv_iload hx hb dX10_teller_28 (lv_at hl 4 rfl) ?_
        refine x_VzP S hl.1 G (c_M_isWhere l D q A ad a4 h _ hw) (cw_X10_226 S.2.2.2.2 ⟨Nat.le_trans (Nat.le_of_ble_eq_true rfl) hR1, Nat.le_trans (Nat.le_of_ble_eq_true rfl) hR2⟩) (me_11 km_0) rfl rfl rfl (Nat.le_of_ble_eq_true rfl) dX10_teller_30 (fun r_30 H locs G z_30 hw => ?_)
        refine lv_if_eq (tgt := 49) hx hb dX10_teller_33 (by decide) (fun c_33 => ?_) (fun c_33 => ?_)
        · have hw := hw.1 c_33
          exact hw _ _ _ (lv_sub hl [0] rfl) G
        · have hw := hw.2 c_33
          refine lv_iload hx hb dX10_teller_36 (lv_at hl 5 rfl) ?_
          refine lv_i2l hx hb dX10_teller_38 rfl ?_
          refine lv_lconst (v := 1) hx hb dX10_teller_39 (by decide) ?_
          refine lv_ldc2 (v := 9) hx hb S.2.2.2.1 (S.2.2.2.2 _ kl_X10_125) dX10_teller_40 ?_
          refine x_SzP S hl.1 G (c_M_in l D q A ad a5.toInt64 1 9 h _ hw) (cw_X10_105 S.2.2.2.2 ⟨Nat.le_trans (Nat.le_of_ble_eq_true rfl) hR1, Nat.le_trans (Nat.le_of_ble_eq_true rfl) hR2⟩) rfl rfl (Nat.le_of_ble_eq_true rfl) dX10_teller_43 (fun r_43 H locs G z_43 hw => ?_)
          refine lv_if_ne (tgt := 56) hx hb dX10_teller_46 (by decide) (fun c_46 => ?_) (fun c_46 => ?_)
          · have hw := hw.1 c_46
            refine lv_aload_n hx hb dX10_teller_56 rfl (lv_at hl 0 rfl) ?_
            refine x_ViP S hl.1 G (c_M_tellers l D q A ad h _ hw) (cw_X10_229 S.2.2.2.2 ⟨Nat.le_trans (Nat.le_of_ble_eq_true rfl) hR1, Nat.le_trans (Nat.le_of_ble_eq_true rfl) hR2⟩) (me_11 km_0) rfl rfl rfl (Nat.le_of_ble_eq_true rfl) dX10_teller_57 (fun r_57 H locs G hw => ?_)
            refine lv_istore (lv' := [(6, .int r_57), (0, .ref (ad 0)), (1, .int a1), (2, .int a2), (3, .int a3), (4, .int a4), (5, .int a5)]) hx hb dX10_teller_60 hl (by decide) rfl (fun ls hl => ?_)
            refine lv_iload hx hb dX10_teller_62 (lv_at hl 0 rfl) ?_
            refine lv_bipush (v := 6) hx hb dX10_teller_64 (by decide) ?_
            refine lv_icmp_ne (tgt := 74) hx hb dX10_teller_66 (by decide) (fun c_66 => ?_) (fun c_66 => ?_)
            · have hw := hw.1 c_66
              refine lv_aload_n hx hb dX10_teller_74 rfl (lv_at hl 1 rfl) ?_
              refine x_get (C := RX10) (T := TX10) (n := 21) S G inX10 (me_11 km_0) rfl 0 (by decide) kf_X10_7 rfl dX10_teller_75 ?_
              refine lv_sipush (v := 545) hx hb dX10_teller_78 (by decide) ?_
              refine lv_iconst (v := 5) hx hb dX10_teller_81 (by decide) ?_
              refine lv_iload hx hb dX10_teller_82 (lv_at hl 0 rfl) ?_
              refine lv_imul hx hb dX10_teller_84 ?_
              refine lv_iadd hx hb dX10_teller_85 ?_
              refine lv_iload_n hx hb dX10_teller_86 rfl (lv_at hl 2 rfl) ?_
              obtain ⟨i_87, hw⟩ := hw
              refine x_iast (k := (545 + (5 * r_57)).toNatClampNeg) S G (me_20 km_1 lm_1) i_87 rfl (ms_20 km_1 lm_1) dX10_teller_87 (fun H locs G => ?_)
              obtain ⟨h_87, eh_87⟩ : ∃ y : Hs, y = si h 1 ((545 + (5 * r_57)).toNatClampNeg) a1 := ⟨_, rfl⟩
              rw [← eh_87] at G
              have hw := hw h_87 eh_87
              refine lv_aload_n hx hb dX10_teller_88 rfl (lv_at hl 1 rfl) ?_
              refine x_get (C := RX10) (T := TX10) (n := 21) S G inX10 (me_11 km_0) rfl 0 (by decide) kf_X10_7 rfl dX10_teller_89 ?_
              refine lv_sipush (v := 545) hx hb dX10_teller_92 (by decide) ?_
              refine lv_iconst (v := 5) hx hb dX10_teller_95 (by decide) ?_
              refine lv_iload hx hb dX10_teller_96 (lv_at hl 0 rfl) ?_
              refine lv_imul hx hb dX10_teller_98 ?_
              refine lv_iadd hx hb dX10_teller_99 ?_
              refine lv_iconst (v := 1) hx hb dX10_teller_100 (by decide) ?_
              refine lv_iadd hx hb dX10_teller_101 ?_
              refine lv_iload_n hx hb dX10_teller_102 rfl (lv_at hl 3 rfl) ?_
              obtain ⟨i_103, hw⟩ := hw
              refine x_iast (k := ((545 + (5 * r_57)) + 1).toNatClampNeg) S G (me_20 km_1 lm_1) i_103 rfl (ms_20 km_1 lm_1) dX10_teller_103 (fun H locs G => ?_)
              obtain ⟨h_103, eh_103⟩ : ∃ y : Hs, y = si h_87 1 (((545 + (5 * r_57)) + 1).toNatClampNeg) a2 := ⟨_, rfl⟩
              rw [← eh_103] at G
              have hw := hw h_103 eh_103
              refine lv_aload_n hx hb dX10_teller_104 rfl (lv_at hl 1 rfl) ?_
              refine x_get (C := RX10) (T := TX10) (n := 21) S G inX10 (me_11 km_0) rfl 0 (by decide) kf_X10_7 rfl dX10_teller_105 ?_
              refine lv_sipush (v := 545) hx hb dX10_teller_108 (by decide) ?_
              refine lv_iconst (v := 5) hx hb dX10_teller_111 (by decide) ?_
              refine lv_iload hx hb dX10_teller_112 (lv_at hl 0 rfl) ?_
              refine lv_imul hx hb dX10_teller_114 ?_
              refine lv_iadd hx hb dX10_teller_115 ?_
              refine lv_iconst (v := 2) hx hb dX10_teller_116 (by decide) ?_
              refine lv_iadd hx hb dX10_teller_117 ?_
              refine lv_iload_n hx hb dX10_teller_118 rfl (lv_at hl 4 rfl) ?_
              obtain ⟨i_119, hw⟩ := hw
              refine x_iast (k := ((545 + (5 * r_57)) + 2).toNatClampNeg) S G (me_20 km_1 lm_1) i_119 rfl (ms_20 km_1 lm_1) dX10_teller_119 (fun H locs G => ?_)
              obtain ⟨h_119, eh_119⟩ : ∃ y : Hs, y = si h_103 1 (((545 + (5 * r_57)) + 2).toNatClampNeg) a3 := ⟨_, rfl⟩
              rw [← eh_119] at G
              have hw := hw h_119 eh_119
              refine lv_aload_n hx hb dX10_teller_120 rfl (lv_at hl 1 rfl) ?_
              refine x_get (C := RX10) (T := TX10) (n := 21) S G inX10 (me_11 km_0) rfl 0 (by decide) kf_X10_7 rfl dX10_teller_121 ?_
              refine lv_sipush (v := 545) hx hb dX10_teller_124 (by decide) ?_
              refine lv_iconst (v := 5) hx hb dX10_teller_127 (by decide) ?_
              refine lv_iload hx hb dX10_teller_128 (lv_at hl 0 rfl) ?_
              refine lv_imul hx hb dX10_teller_130 ?_
              refine lv_iadd hx hb dX10_teller_131 ?_
              refine lv_iconst (v := 3) hx hb dX10_teller_132 (by decide) ?_
              refine lv_iadd hx hb dX10_teller_133 ?_
              refine lv_iload hx hb dX10_teller_134 (lv_at hl 5 rfl) ?_
              obtain ⟨i_136, hw⟩ := hw
              refine x_iast (k := ((545 + (5 * r_57)) + 3).toNatClampNeg) S G (me_20 km_1 lm_1) i_136 rfl (ms_20 km_1 lm_1) dX10_teller_136 (fun H locs G => ?_)
              obtain ⟨h_136, eh_136⟩ : ∃ y : Hs, y = si h_119 1 (((545 + (5 * r_57)) + 3).toNatClampNeg) a4 := ⟨_, rfl⟩
              rw [← eh_136] at G
              have hw := hw h_136 eh_136
              refine lv_aload_n hx hb dX10_teller_137 rfl (lv_at hl 1 rfl) ?_
              refine x_get (C := RX10) (T := TX10) (n := 21) S G inX10 (me_11 km_0) rfl 0 (by decide) kf_X10_7 rfl dX10_teller_138 ?_
              refine lv_sipush (v := 545) hx hb dX10_teller_141 (by decide) ?_
              refine lv_iconst (v := 5) hx hb dX10_teller_144 (by decide) ?_
              refine lv_iload hx hb dX10_teller_145 (lv_at hl 0 rfl) ?_
              refine lv_imul hx hb dX10_teller_147 ?_
              refine lv_iadd hx hb dX10_teller_148 ?_
              refine lv_iconst (v := 4) hx hb dX10_teller_149 (by decide) ?_
              refine lv_iadd hx hb dX10_teller_150 ?_
              refine lv_iload hx hb dX10_teller_151 (lv_at hl 6 rfl) ?_
              obtain ⟨i_153, hw⟩ := hw
              refine x_iast (k := ((545 + (5 * r_57)) + 4).toNatClampNeg) S G (me_20 km_1 lm_1) i_153 rfl (ms_20 km_1 lm_1) dX10_teller_153 (fun H locs G => ?_)
              obtain ⟨h_153, eh_153⟩ : ∃ y : Hs, y = si h_136 1 (((545 + (5 * r_57)) + 4).toNatClampNeg) a5 := ⟨_, rfl⟩
              rw [← eh_153] at G
              have hw := hw h_153 eh_153
              refine lv_aload_n hx hb dX10_teller_154 rfl (lv_at hl 1 rfl) ?_
              refine x_get (C := RX10) (T := TX10) (n := 21) S G inX10 (me_11 km_0) rfl 0 (by decide) kf_X10_7 rfl dX10_teller_155 ?_
              refine lv_sipush (v := 674) hx hb dX10_teller_158 (by decide) ?_
              refine lv_dup2_11 hx hb dX10_teller_161 rfl rfl ?_
              refine x_iald (k := 674) S G (me_20 km_1 lm_1) (vpi (by decide)) rfl rfl dX10_teller_162 ?_
              refine lv_iconst (v := 1) hx hb dX10_teller_163 (by decide) ?_
              refine lv_iadd hx hb dX10_teller_164 ?_
              refine x_iast (k := 674) S G (me_20 km_1 lm_1) (vpi (by decide)) rfl (ms_20 km_1 lm_1) dX10_teller_165 (fun H locs G => ?_)
              obtain ⟨h_165, eh_165⟩ : ∃ y : Hs, y = si h_153 1 674 ((gi h_153 1 674) + 1) := ⟨_, rfl⟩
              rw [← eh_165] at G
              have hw := hw h_165 eh_165
              refine lv_iload hx hb dX10_teller_166 (lv_at hl 0 rfl) ?_
              exact RT _ _ _ _ _ _ G hw dX10_teller_168
            · have hw := hw.2 c_66
              refine lv_aload_n hx hb dX10_teller_69 rfl (lv_at hl 1 rfl) ?_
              refine x_Vi S hl.1 G (c_M_full l D q A ad h _ hw) (cw_X10_122 S.2.2.2.2 ⟨Nat.le_trans (Nat.le_of_ble_eq_true rfl) hR1, Nat.le_trans (Nat.le_of_ble_eq_true rfl) hR2⟩) (me_11 km_0) rfl rfl rfl (Nat.le_of_ble_eq_true rfl) dX10_teller_70 (fun r_70 h_70 H locs G hw => ?_)
              exact RT _ _ _ _ _ _ G hw dX10_teller_73
          · have hw := hw.2 c_46
            exact hw _ _ _ (lv_sub hl [0] rfl) G

abbrev rm_M_isHeard : Room := { frames := 0, cells := 0, slots := 0, locals := 0 }
set_option maxHeartbeats 4000000 in
set_option maxRecDepth 100000 in
theorem c_M_isHeard (l : Launch) (D : va_G) (q : Nat → ClassId) (A : Nat → Prop) (ad : Nat → Nat) (a1 : Int32) (h : Hs) (Q : Int32 → Prop) (hw : p_M_isHeard a1 h Q) : Met l yX10_isHeard (mw yX10_isHeard cX10_isHeard 4 (some .boolean)) rm_M_isHeard (va_Pc [.ref (ad 0), .int a1] (pW D q A (wM q ad h))) (va_Qi (fun r h9 => zb r ∧ h9 = h ∧ Q r) (fun h t => pW D q A (wM q ad h) t) A) 0 0 A := by
  refine met_z (Qp := (fun r h9 => h9 = h ∧ Q r)) (by decide) (Nat.le_of_ble_eq_true rfl) ?_
  intro p e R s m args below meth c Qm ls hR1 hR2 S RT hl G
  have hx := S.1
  have hb := S.2.1
  have hl : lv_has ls 4 [(0, .ref (ad 0)), (1, .int a1)] := hl
  unfold p_M_isHeard at hw
  refine lv_iconst (v := 1) hx hb dX10_isHeard_0 (by decide) ?_
  refine lv_istore_n (lv' := [(2, .int 1), (0, .ref (ad 0)), (1, .int a1)]) hx hb dX10_isHeard_1 rfl hl (by decide) rfl (fun ls hl => ?_)
  refine lv_iconst (v := 0) hx hb dX10_isHeard_2 (by decide) ?_
  refine lv_istore_n (lv' := [(3, .int 0), (2, .int 1), (0, .ref (ad 0)), (1, .int a1)]) hx hb dX10_isHeard_3 rfl hl (by decide) rfl (fun ls hl => ?_)
  have hw := hw (fun (b2_4 : Int32) (b3_4 : Int32) => ∀ (ls : Array Slot) (H : Heap) (locs : List Loc), lv_has ls 4 [(0, .ref (ad 0)), (1, .int a1), (2, .int b2_4), (3, .int b3_4)] → okW D q A s (wM q ad h) H locs → W p l e R s m args below meth c H locs 0 0 Qm (F0 m 4 ls [])) (by
    intro b2_4 b3_4 hw ls H locs hl G
    refine lv_iload_n hx hb dX10_isHeard_4 rfl (lv_at hl 3 rfl) ?_
    refine lv_iload_n hx hb dX10_isHeard_5 rfl (lv_at hl 1 rfl) ?_
    refine lv_icmp_ge (tgt := 52) hx hb dX10_isHeard_6 (by decide) (fun c_6 => ?_) (fun c_6 => ?_)
    · have hw := hw.1 c_6
      refine lv_iload_n hx hb dX10_isHeard_52 rfl (lv_at hl 2 rfl) ?_
      obtain ⟨z_53, hw⟩ := hw
      exact RT _ _ _ _ _ _ G z_53 ⟨rfl, hw⟩ dX10_isHeard_53
    · have hw := hw.2 c_6
      refine lv_iload_n hx hb dX10_isHeard_9 rfl (lv_at hl 2 rfl) ?_
      have hw := hw (fun (t0_45 : Int32) => ∀ (ls : Array Slot) (H : Heap) (locs : List Loc), lv_has ls 4 [(0, .ref (ad 0)), (1, .int a1), (3, .int b3_4)] → okW D q A s (wM q ad h) H locs → W p l e R s m args below meth c H locs 0 0 Qm (F0 m 45 ls [.int t0_45])) (by
        intro t0_45 hw ls H locs hl G
        refine lv_istore_n (lv' := [(2, .int t0_45), (0, .ref (ad 0)), (1, .int a1), (3, .int b3_4)]) hx hb dX10_isHeard_45 rfl hl (by decide) rfl (fun ls hl => ?_)
        obtain ⟨a3_46, ea3_46⟩ : ∃ y : Int32, y = b3_4 + 1 := ⟨_, rfl⟩
        have hw := hw a3_46 ea3_46
        refine lv_iinc (v := a3_46) (lv' := [(3, .int a3_46), (2, .int t0_45), (0, .ref (ad 0)), (1, .int a1)]) hx hb dX10_isHeard_46 hl (k := 3) rfl (by rw [ea3_46]; rfl) (by decide) rfl (fun ls hl => ?_)
        refine lv_goto (tgt := 4) hx hb dX10_isHeard_49 (by decide) ?_
        exact hw _ _ _ (lv_sub hl [2, 3, 1, 0] rfl) G)
      have hw := hw (∀ (ls : Array Slot) (H : Heap) (locs : List Loc), lv_has ls 4 [(0, .ref (ad 0)), (1, .int a1), (3, .int b3_4)] → okW D q A s (wM q ad h) H locs → W p l e R s m args below meth c H locs 0 0 Qm (F0 m 44 ls [])) (by
        intro hw ls H locs hl G
        refine lv_iconst (v := 0) hx hb dX10_isHeard_44 (by decide) ?_
        exact hw _ _ _ (lv_sub hl [0, 1, 2] rfl) G)
      refine lv_if_eq (tgt := 44) hx hb dX10_isHeard_10 (by decide) (fun c_10 => ?_) (fun c_10 => ?_)
      · have hw := hw.1 c_10
        exact hw _ _ _ (lv_sub hl [0, 1, 3] rfl) G
      · have hw := hw.2 c_10
        refine lv_aload_n hx hb dX10_isHeard_13 rfl (lv_at hl 0 rfl) ?_
        refine x_get (C := RX10) (T := TX10) (n := 21) S G inX10 (me_11 km_0) rfl 0 (by decide) kf_X10_7 rfl dX10_isHeard_14 ?_
        refine lv_sipush (v := 545) hx hb dX10_isHeard_17 (by decide) ?_
        refine lv_iconst (v := 5) hx hb dX10_isHeard_20 (by decide) ?_
        refine lv_iload_n hx hb dX10_isHeard_21 rfl (lv_at hl 3 rfl) ?_
        refine lv_imul hx hb dX10_isHeard_22 ?_
        refine lv_iadd hx hb dX10_isHeard_23 ?_
        obtain ⟨i_24, hw⟩ := hw
        refine x_iald (k := (545 + (5 * b3_4)).toNatClampNeg) S G (me_20 km_1 lm_1) i_24 rfl rfl dX10_isHeard_24 ?_
        refine lv_aload_n hx hb dX10_isHeard_25 rfl (lv_at hl 0 rfl) ?_
        refine x_get (C := RX10) (T := TX10) (n := 21) S G inX10 (me_11 km_0) rfl 0 (by decide) kf_X10_7 rfl dX10_isHeard_26 ?_
        refine lv_sipush (v := 545) hx hb dX10_isHeard_29 (by decide) ?_
        refine lv_iconst (v := 5) hx hb dX10_isHeard_32 (by decide) ?_
        refine lv_iload_n hx hb dX10_isHeard_33 rfl (lv_at hl 1 rfl) ?_
        refine lv_imul hx hb dX10_isHeard_34 ?_
        refine lv_iadd hx hb dX10_isHeard_35 ?_
        obtain ⟨i_36, hw⟩ := hw
        refine x_iald (k := (545 + (5 * a1)).toNatClampNeg) S G (me_20 km_1 lm_1) i_36 rfl rfl dX10_isHeard_36 ?_
        refine lv_icmp_eq (tgt := 44) hx hb dX10_isHeard_37 (by decide) (fun c_37 => ?_) (fun c_37 => ?_)
        · have hw := hw.1 c_37
          exact hw _ _ _ (lv_sub hl [0, 1, 3] rfl) G
        · have hw := hw.2 c_37
          refine lv_iconst (v := 1) hx hb dX10_isHeard_40 (by decide) ?_
          refine lv_goto (tgt := 45) hx hb dX10_isHeard_41 (by decide) ?_
          exact hw _ _ _ (lv_sub hl [0, 1, 3] rfl) G)
  exact hw _ _ _ (lv_sub hl [2, 3, 1, 0] rfl) G
theorem cw_X10_254 {R : Room} {s : State} {args : Array Value} (hts : ∀ w ∈ gW, w.before args s = true) (hR : rm_M_isHeard.frames + 1 ≤ R.frames ∧ 8 + (4 + 11) + rm_M_isHeard.locals ≤ R.locals) : CallW R s args RX10 RX10 254 yX10_isHeard cX10_isHeard 4 (some .boolean) (mw yX10_isHeard cX10_isHeard 4 (some .boolean)) rm_M_isHeard 0 0 1 := cwV9 hts km_X10_254 ki_X10_isHeard ks_X10_isHeard kn_X10 kk_X10_isHeard rfl rfl (by decide +kernel) hR
abbrev rm_M_whereOf : Room := { frames := 0, cells := 0, slots := 0, locals := 0 }
set_option maxHeartbeats 4000000 in
set_option maxRecDepth 100000 in
theorem c_M_whereOf (l : Launch) (D : va_G) (q : Nat → ClassId) (A : Nat → Prop) (ad : Nat → Nat) (a1 : Int32) (a2 : Int32) (h : Hs) (Q : Int32 → Prop) (hw : p_M_whereOf a1 a2 h Q) : Met l yX10_whereOf (mw yX10_whereOf cX10_whereOf 3 (some .int)) rm_M_whereOf (va_Pc [.ref (ad 0), .int a1, .int a2] (pW D q A (wM q ad h))) (va_Qi (fun r h9 => h9 = h ∧ Q r) (fun h t => pW D q A (wM q ad h) t) A) 0 0 A := by
  refine met_i (Qp := (fun r h9 => h9 = h ∧ Q r)) (by decide) (Nat.le_of_ble_eq_true rfl) ?_
  intro p e R s m args below meth c Qm ls hR1 hR2 S RT hl G
  have hx := S.1
  have hb := S.2.1
  have hl : lv_has ls 3 [(0, .ref (ad 0)), (1, .int a1), (2, .int a2)] := hl
  unfold p_M_whereOf at hw
  refine lv_aload_n hx hb dX10_whereOf_0 rfl (lv_at hl 0 rfl) ?_
  refine x_get (C := RX10) (T := TX10) (n := 21) S G inX10 (me_11 km_0) rfl 12 (by decide) kf_X10_30 rfl dX10_whereOf_1 ?_
  refine lv_bipush (v := 120) hx hb dX10_whereOf_4 (by decide) ?_
  refine lv_aload_n hx hb dX10_whereOf_6 rfl (lv_at hl 0 rfl) ?_
  refine x_get (C := RX10) (T := TX10) (n := 21) S G inX10 (me_11 km_0) rfl 18 (by decide) kf_X10_42 rfl dX10_whereOf_7 ?_
  refine lv_iload_n hx hb dX10_whereOf_10 rfl (lv_at hl 1 rfl) ?_
  obtain ⟨i_11, hw⟩ := hw
  refine x_iald (k := a1.toNatClampNeg) S G (me_20 km_11 lm_11) i_11 rfl rfl dX10_whereOf_11 ?_
  refine lv_imul hx hb dX10_whereOf_12 ?_
  refine lv_iload_n hx hb dX10_whereOf_13 rfl (lv_at hl 2 rfl) ?_
  refine lv_iadd hx hb dX10_whereOf_14 ?_
  obtain ⟨i_15, hw⟩ := hw
  refine x_iald (k := ((120 * (gi h 11 a1.toNatClampNeg)) + a2).toNatClampNeg) S G (me_20 km_7 lm_7) i_15 rfl rfl dX10_whereOf_15 ?_
  exact RT _ _ _ _ _ _ G ⟨rfl, hw⟩ dX10_whereOf_16
theorem cw_X10_232 {R : Room} {s : State} {args : Array Value} (hts : ∀ w ∈ gW, w.before args s = true) (hR : rm_M_whereOf.frames + 1 ≤ R.frames ∧ 8 + (3 + 11) + rm_M_whereOf.locals ≤ R.locals) : CallW R s args RX10 RX10 232 yX10_whereOf cX10_whereOf 3 (some .int) (mw yX10_whereOf cX10_whereOf 3 (some .int)) rm_M_whereOf 0 0 2 := cwV9 hts km_X10_232 ki_X10_whereOf ks_X10_whereOf kn_X10 kk_X10_whereOf rfl rfl (by decide +kernel) hR
abbrev rm_M_leftOf : Room := { frames := 1, cells := 0, slots := 0, locals := 22 }
set_option maxHeartbeats 4000000 in
set_option maxRecDepth 100000 in
theorem c_M_leftOf (l : Launch) (D : va_G) (q : Nat → ClassId) (A : Nat → Prop) (ad : Nat → Nat) (a1 : Int32) (a2 : Int32) (h : Hs) (Q : Int32 → Prop) (hw : p_M_leftOf a1 a2 h Q) : Met l yX10_leftOf (mw yX10_leftOf cX10_leftOf 6 (some .int)) rm_M_leftOf (va_Pc [.ref (ad 0), .int a1, .int a2] (pW D q A (wM q ad h))) (va_Qi (fun r h9 => h9 = h ∧ Q r) (fun h t => pW D q A (wM q ad h) t) A) 0 0 A := by
  refine met_i (Qp := (fun r h9 => h9 = h ∧ Q r)) (by decide) (Nat.le_of_ble_eq_true rfl) ?_
  intro p e R s m args below meth c Qm ls hR1 hR2 S RT hl G
  have hx := S.1
  have hb := S.2.1
  have hl : lv_has ls 6 [(0, .ref (ad 0)), (1, .int a1), (2, .int a2)] := hl
  unfold p_M_leftOf at hw
  refine lv_iconst (v := 0) hx hb dX10_leftOf_0 (by decide) ?_
  refine lv_istore_n (lv' := [(3, .int 0), (0, .ref (ad 0)), (1, .int a1), (2, .int a2)]) hx hb dX10_leftOf_1 rfl hl (by decide) rfl (fun ls hl => ?_)
  refine lv_iconst (v := 0) hx hb dX10_leftOf_2 (by decide) ?_
  refine lv_istore (lv' := [(4, .int 0), (3, .int 0), (0, .ref (ad 0)), (1, .int a1), (2, .int a2)]) hx hb dX10_leftOf_3 hl (by decide) rfl (fun ls hl => ?_)
  have hw := hw (fun (b3_5 : Int32) (b4_5 : Int32) => ∀ (ls : Array Slot) (H : Heap) (locs : List Loc), lv_has ls 6 [(0, .ref (ad 0)), (1, .int a1), (2, .int a2), (3, .int b3_5), (4, .int b4_5)] → okW D q A s (wM q ad h) H locs → W p l e R s m args below meth c H locs 0 0 Qm (F0 m 5 ls [])) (by
    intro b3_5 b4_5 hw ls H locs hl G
    refine lv_iload hx hb dX10_leftOf_5 (lv_at hl 4 rfl) ?_
    refine lv_aload_n hx hb dX10_leftOf_7 rfl (lv_at hl 0 rfl) ?_
    refine x_ViP S hl.1 G (c_M_lots l D q A ad h _ hw) (cw_X10_109 S.2.2.2.2 ⟨Nat.le_trans (Nat.le_of_ble_eq_true rfl) hR1, Nat.le_trans (Nat.le_of_ble_eq_true rfl) hR2⟩) (me_11 km_0) rfl rfl rfl (Nat.le_of_ble_eq_true rfl) dX10_leftOf_8 (fun r_8 H locs G hw => ?_)
    refine lv_icmp_ge (tgt := 65) hx hb dX10_leftOf_11 (by decide) (fun c_11 => ?_) (fun c_11 => ?_)
    · have hw := hw.1 c_11
      refine lv_iload_n hx hb dX10_leftOf_65 rfl (lv_at hl 3 rfl) ?_
      refine lv_aload_n hx hb dX10_leftOf_66 rfl (lv_at hl 0 rfl) ?_
      refine x_get (C := RX10) (T := TX10) (n := 21) S G inX10 (me_11 km_0) rfl 0 (by decide) kf_X10_7 rfl dX10_leftOf_67 ?_
      refine lv_bipush (v := 22) hx hb dX10_leftOf_70 (by decide) ?_
      refine lv_iload_n hx hb dX10_leftOf_72 rfl (lv_at hl 2 rfl) ?_
      refine lv_iadd hx hb dX10_leftOf_73 ?_
      obtain ⟨i_74, hw⟩ := hw
      refine x_iald (k := (22 + a2).toNatClampNeg) S G (me_20 km_1 lm_1) i_74 rfl rfl dX10_leftOf_74 ?_
      obtain ⟨n_75, hw⟩ := hw
      refine lv_idiv hx hb dX10_leftOf_75 n_75 ?_
      refine lv_topi (fun a4_76 ea4_76 => ?_)
      have hw := hw a4_76 ea4_76
      refine lv_istore (lv' := [(4, .int a4_76), (0, .ref (ad 0)), (1, .int a1), (2, .int a2), (3, .int b3_5)]) hx hb dX10_leftOf_76 hl (by decide) rfl (fun ls hl => ?_)
      refine lv_iload hx hb dX10_leftOf_78 (lv_at hl 0 rfl) ?_
      refine lv_bipush (v := 20) hx hb dX10_leftOf_80 (by decide) ?_
      have hw := hw (fun (t0_92 : Int32) => ∀ (ls : Array Slot) (H : Heap) (locs : List Loc), lv_has ls 6 [] → okW D q A s (wM q ad h) H locs → W p l e R s m args below meth c H locs 0 0 Qm (F0 m 92 ls [.int t0_92])) (by
        intro t0_92 hw ls H locs hl G
        exact RT _ _ _ _ _ _ G ⟨rfl, hw⟩ dX10_leftOf_92)
      refine lv_icmp_le (tgt := 90) hx hb dX10_leftOf_82 (by decide) (fun c_82 => ?_) (fun c_82 => ?_)
      · have hw := hw.1 c_82
        refine lv_iload hx hb dX10_leftOf_90 (lv_at hl 0 rfl) ?_
        exact hw _ _ _ (lv_sub hl [] rfl) G
      · have hw := hw.2 c_82
        refine lv_bipush (v := 20) hx hb dX10_leftOf_85 (by decide) ?_
        refine lv_goto (tgt := 92) hx hb dX10_leftOf_87 (by decide) ?_
        exact hw _ _ _ (lv_sub hl [] rfl) G
    · have hw := hw.2 c_11
      refine lv_iconst (v := 0) hx hb dX10_leftOf_14 (by decide) ?_
      refine lv_istore (lv' := [(5, .int 0), (0, .ref (ad 0)), (1, .int a1), (2, .int a2), (3, .int b3_5), (4, .int b4_5)]) hx hb dX10_leftOf_15 hl (by decide) rfl (fun ls hl => ?_)
      have hw := hw (fun (b3_17 : Int32) (b5_17 : Int32) => ∀ (ls : Array Slot) (H : Heap) (locs : List Loc), lv_has ls 6 [(0, .ref (ad 0)), (1, .int a1), (2, .int a2), (3, .int b3_17), (4, .int b4_5), (5, .int b5_17)] → okW D q A s (wM q ad h) H locs → W p l e R s m args below meth c H locs 0 0 Qm (F0 m 17 ls [])) (by
        intro b3_17 b5_17 hw ls H locs hl G
        refine lv_iload hx hb dX10_leftOf_17 (lv_at hl 5 rfl) ?_
        refine lv_bipush (v := 120) hx hb dX10_leftOf_19 (by decide) ?_
        refine lv_icmp_ge (tgt := 59) hx hb dX10_leftOf_21 (by decide) (fun c_21 => ?_) (fun c_21 => ?_)
        · have hw := hw.1 c_21
          obtain ⟨a4_59, ea4_59⟩ : ∃ y : Int32, y = b4_5 + 1 := ⟨_, rfl⟩
          have hw := hw a4_59 ea4_59
          refine lv_iinc (v := a4_59) (lv' := [(4, .int a4_59), (0, .ref (ad 0)), (1, .int a1), (2, .int a2), (3, .int b3_17), (5, .int b5_17)]) hx hb dX10_leftOf_59 hl (k := 4) rfl (by rw [ea4_59]; rfl) (by decide) rfl (fun ls hl => ?_)
          refine lv_goto (tgt := 5) hx hb dX10_leftOf_62 (by decide) ?_
          exact hw _ _ _ (lv_sub hl [1, 2, 3, 4, 0] rfl) G
        · have hw := hw.2 c_21
          refine lv_iload_n hx hb dX10_leftOf_24 rfl (lv_at hl 3 rfl) ?_
          refine lv_aload_n hx hb dX10_leftOf_25 rfl (lv_at hl 0 rfl) ?_
          refine lv_iload hx hb dX10_leftOf_26 (lv_at hl 4 rfl) ?_
          refine lv_iload hx hb dX10_leftOf_28 (lv_at hl 5 rfl) ?_
          refine x_ViP S hl.1 G (c_M_whereOf l D q A ad b4_5 b5_17 h _ hw) (cw_X10_232 S.2.2.2.2 ⟨Nat.le_trans (Nat.le_of_ble_eq_true rfl) hR1, Nat.le_trans (Nat.le_of_ble_eq_true rfl) hR2⟩) (me_11 km_0) rfl rfl rfl (Nat.le_of_ble_eq_true rfl) dX10_leftOf_30 (fun r_30 H locs G hw => ?_)
          refine lv_iload_n hx hb dX10_leftOf_33 rfl (lv_at hl 1 rfl) ?_
          have hw := hw (fun (t1_51 : Int32) => ∀ (ls : Array Slot) (H : Heap) (locs : List Loc), lv_has ls 6 [(0, .ref (ad 0)), (1, .int a1), (2, .int a2), (4, .int b4_5), (5, .int b5_17)] → okW D q A s (wM q ad h) H locs → W p l e R s m args below meth c H locs 0 0 Qm (F0 m 51 ls [.int t1_51, .int b3_17])) (by
            intro t1_51 hw ls H locs hl G
            refine lv_iadd hx hb dX10_leftOf_51 ?_
            refine lv_topi (fun a3_52 ea3_52 => ?_)
            have hw := hw a3_52 ea3_52
            refine lv_istore_n (lv' := [(3, .int a3_52), (0, .ref (ad 0)), (1, .int a1), (2, .int a2), (4, .int b4_5), (5, .int b5_17)]) hx hb dX10_leftOf_52 rfl hl (by decide) rfl (fun ls hl => ?_)
            obtain ⟨a5_53, ea5_53⟩ : ∃ y : Int32, y = b5_17 + 1 := ⟨_, rfl⟩
            have hw := hw a5_53 ea5_53
            refine lv_iinc (v := a5_53) (lv' := [(5, .int a5_53), (3, .int a3_52), (0, .ref (ad 0)), (1, .int a1), (2, .int a2), (4, .int b4_5)]) hx hb dX10_leftOf_53 hl (k := 5) rfl (by rw [ea5_53]; rfl) (by decide) rfl (fun ls hl => ?_)
            refine lv_goto (tgt := 17) hx hb dX10_leftOf_56 (by decide) ?_
            exact hw _ _ _ (lv_sub hl [2, 3, 4, 1, 5, 0] rfl) G)
          refine lv_icmp_ne (tgt := 50) hx hb dX10_leftOf_34 (by decide) (fun c_34 => ?_) (fun c_34 => ?_)
          · have hw := hw.1 c_34
            refine lv_iconst (v := 0) hx hb dX10_leftOf_50 (by decide) ?_
            exact hw _ _ _ (lv_sub hl [0, 1, 2, 4, 5] rfl) G
          · have hw := hw.2 c_34
            refine lv_aload_n hx hb dX10_leftOf_37 rfl (lv_at hl 0 rfl) ?_
            refine x_get (C := RX10) (T := TX10) (n := 21) S G inX10 (me_11 km_0) rfl 0 (by decide) kf_X10_7 rfl dX10_leftOf_38 ?_
            refine lv_bipush (v := 16) hx hb dX10_leftOf_41 (by decide) ?_
            refine lv_iload hx hb dX10_leftOf_43 (lv_at hl 4 rfl) ?_
            refine lv_iadd hx hb dX10_leftOf_45 ?_
            obtain ⟨i_46, hw⟩ := hw
            refine x_iald (k := (16 + b4_5).toNatClampNeg) S G (me_20 km_1 lm_1) i_46 rfl rfl dX10_leftOf_46 ?_
            refine lv_goto (tgt := 51) hx hb dX10_leftOf_47 (by decide) ?_
            exact hw _ _ _ (lv_sub hl [0, 1, 2, 4, 5] rfl) G)
      exact hw _ _ _ (lv_sub hl [1, 2, 3, 4, 5, 0] rfl) G)
  exact hw _ _ _ (lv_sub hl [2, 3, 4, 1, 0] rfl) G
theorem cw_X10_241 {R : Room} {s : State} {args : Array Value} (hts : ∀ w ∈ gW, w.before args s = true) (hR : rm_M_leftOf.frames + 1 ≤ R.frames ∧ 8 + (6 + 11) + rm_M_leftOf.locals ≤ R.locals) : CallW R s args RX10 RX10 241 yX10_leftOf cX10_leftOf 6 (some .int) (mw yX10_leftOf cX10_leftOf 6 (some .int)) rm_M_leftOf 0 0 2 := cwV9 hts km_X10_241 ki_X10_leftOf ks_X10_leftOf kn_X10 kk_X10_leftOf rfl rfl (by decide +kernel) hR
abbrev rm_M_fedOf : Room := { frames := 0, cells := 0, slots := 0, locals := 0 }
set_option maxHeartbeats 4000000 in
set_option maxRecDepth 100000 in
theorem c_M_fedOf (l : Launch) (D : va_G) (q : Nat → ClassId) (A : Nat → Prop) (ad : Nat → Nat) (a1 : Int32) (a2 : Int32) (h : Hs) (Q : Int32 → Prop) (hw : p_M_fedOf a1 a2 h Q) : Met l yX10_fedOf (mw yX10_fedOf cX10_fedOf 3 (some .int)) rm_M_fedOf (va_Pc [.ref (ad 0), .int a1, .int a2] (pW D q A (wM q ad h))) (va_Qi (fun r h9 => h9 = h ∧ Q r) (fun h t => pW D q A (wM q ad h) t) A) 0 0 A := by
  refine met_i (Qp := (fun r h9 => h9 = h ∧ Q r)) (by decide) (Nat.le_of_ble_eq_true rfl) ?_
  intro p e R s m args below meth c Qm ls hR1 hR2 S RT hl G
  have hx := S.1
  have hb := S.2.1
  have hl : lv_has ls 3 [(0, .ref (ad 0)), (1, .int a1), (2, .int a2)] := hl
  unfold p_M_fedOf at hw
  refine lv_aload_n hx hb dX10_fedOf_0 rfl (lv_at hl 0 rfl) ?_
  refine x_get (C := RX10) (T := TX10) (n := 21) S G inX10 (me_11 km_0) rfl 0 (by decide) kf_X10_7 rfl dX10_fedOf_1 ?_
  refine lv_iconst (v := 0) hx hb dX10_fedOf_4 (by decide) ?_
  refine lv_iload_n hx hb dX10_fedOf_5 rfl (lv_at hl 1 rfl) ?_
  refine lv_iadd hx hb dX10_fedOf_6 ?_
  obtain ⟨i_7, hw⟩ := hw
  refine x_iald (k := (0 + a1).toNatClampNeg) S G (me_20 km_1 lm_1) i_7 rfl rfl dX10_fedOf_7 ?_
  refine lv_aload_n hx hb dX10_fedOf_8 rfl (lv_at hl 0 rfl) ?_
  refine x_get (C := RX10) (T := TX10) (n := 21) S G inX10 (me_11 km_0) rfl 0 (by decide) kf_X10_7 rfl dX10_fedOf_9 ?_
  refine lv_bipush (v := 6) hx hb dX10_fedOf_12 (by decide) ?_
  refine lv_iload_n hx hb dX10_fedOf_14 rfl (lv_at hl 2 rfl) ?_
  refine lv_iadd hx hb dX10_fedOf_15 ?_
  obtain ⟨i_16, hw⟩ := hw
  refine x_iald (k := (6 + a2).toNatClampNeg) S G (me_20 km_1 lm_1) i_16 rfl rfl dX10_fedOf_16 ?_
  refine lv_imul hx hb dX10_fedOf_17 ?_
  refine lv_iconst (v := 5) hx hb dX10_fedOf_18 (by decide) ?_
  refine lv_idiv hx hb dX10_fedOf_19 (by decide) ?_
  exact RT _ _ _ _ _ _ G ⟨rfl, hw⟩ dX10_fedOf_20
theorem cw_X10_235 {R : Room} {s : State} {args : Array Value} (hts : ∀ w ∈ gW, w.before args s = true) (hR : rm_M_fedOf.frames + 1 ≤ R.frames ∧ 8 + (3 + 11) + rm_M_fedOf.locals ≤ R.locals) : CallW R s args RX10 RX10 235 yX10_fedOf cX10_fedOf 3 (some .int) (mw yX10_fedOf cX10_fedOf 3 (some .int)) rm_M_fedOf 0 0 2 := cwV9 hts km_X10_235 ki_X10_fedOf ks_X10_fedOf kn_X10 kk_X10_fedOf rfl rfl (by decide +kernel) hR
abbrev rm_M_isHungry : Room := { frames := 1, cells := 0, slots := 0, locals := 22 }
set_option maxHeartbeats 4000000 in
set_option maxRecDepth 100000 in
theorem c_M_isHungry (l : Launch) (D : va_G) (q : Nat → ClassId) (A : Nat → Prop) (ad : Nat → Nat) (a1 : Int32) (a2 : Int32) (h : Hs) (Q : Int32 → Prop) (hw : p_M_isHungry a1 a2 h Q) : Met l yX10_isHungry (mw yX10_isHungry cX10_isHungry 7 (some .boolean)) rm_M_isHungry (va_Pc [.ref (ad 0), .int a1, .int a2] (pW D q A (wM q ad h))) (va_Qi (fun r h9 => zb r ∧ h9 = h ∧ Q r) (fun h t => pW D q A (wM q ad h) t) A) 0 0 A := by
  refine met_z (Qp := (fun r h9 => h9 = h ∧ Q r)) (by decide) (Nat.le_of_ble_eq_true rfl) ?_
  intro p e R s m args below meth c Qm ls hR1 hR2 S RT hl G
  have hx := S.1
  have hb := S.2.1
  have hl : lv_has ls 7 [(0, .ref (ad 0)), (1, .int a1), (2, .int a2)] := hl
  unfold p_M_isHungry at hw
  refine lv_iconst (v := 0) hx hb dX10_isHungry_0 (by decide) ?_
  refine lv_istore_n (lv' := [(3, .int 0), (0, .ref (ad 0)), (1, .int a1), (2, .int a2)]) hx hb dX10_isHungry_1 rfl hl (by decide) rfl (fun ls hl => ?_)
  refine lv_bipush (v := 12) hx hb dX10_isHungry_2 (by decide) ?_
  refine lv_iload_n hx hb dX10_isHungry_4 rfl (lv_at hl 3 rfl) ?_
  refine lv_imul hx hb dX10_isHungry_5 ?_
  refine lv_topi (fun a4_6 ea4_6 => ?_)
  have hw := hw a4_6 ea4_6
  refine lv_istore (lv' := [(4, .int a4_6), (3, .int 0), (0, .ref (ad 0)), (1, .int a1), (2, .int a2)]) hx hb dX10_isHungry_6 hl (by decide) rfl (fun ls hl => ?_)
  have hw := hw (fun (b3_8 : Int32) (b4_8 : Int32) => ∀ (ls : Array Slot) (H : Heap) (locs : List Loc), lv_has ls 7 [(0, .ref (ad 0)), (1, .int a1), (2, .int a2), (3, .int b3_8), (4, .int b4_8)] → okW D q A s (wM q ad h) H locs → W p l e R s m args below meth c H locs 0 0 Qm (F0 m 8 ls [])) (by
    intro b3_8 b4_8 hw ls H locs hl G
    refine lv_iload hx hb dX10_isHungry_8 (lv_at hl 4 rfl) ?_
    refine lv_bipush (v := 12) hx hb dX10_isHungry_10 (by decide) ?_
    refine lv_iload_n hx hb dX10_isHungry_12 rfl (lv_at hl 2 rfl) ?_
    refine lv_imul hx hb dX10_isHungry_13 ?_
    refine lv_bipush (v := 12) hx hb dX10_isHungry_14 (by decide) ?_
    refine lv_iadd hx hb dX10_isHungry_16 ?_
    refine lv_icmp_ge (tgt := 99) hx hb dX10_isHungry_17 (by decide) (fun c_17 => ?_) (fun c_17 => ?_)
    · have hw := hw.1 c_17
      refine lv_iload_n hx hb dX10_isHungry_99 rfl (lv_at hl 3 rfl) ?_
      obtain ⟨z_100, hw⟩ := hw
      exact RT _ _ _ _ _ _ G z_100 ⟨rfl, hw⟩ dX10_isHungry_100
    · have hw := hw.2 c_17
      refine lv_iconst (v := 0) hx hb dX10_isHungry_20 (by decide) ?_
      refine lv_istore (lv' := [(5, .int 0), (0, .ref (ad 0)), (1, .int a1), (2, .int a2), (3, .int b3_8), (4, .int b4_8)]) hx hb dX10_isHungry_21 hl (by decide) rfl (fun ls hl => ?_)
      refine lv_iconst (v := 0) hx hb dX10_isHungry_23 (by decide) ?_
      refine lv_istore (lv' := [(6, .int 0), (5, .int 0), (0, .ref (ad 0)), (1, .int a1), (2, .int a2), (3, .int b3_8), (4, .int b4_8)]) hx hb dX10_isHungry_24 hl (by decide) rfl (fun ls hl => ?_)
      have hw := hw (fun (b5_26 : Int32) (b6_26 : Int32) => ∀ (ls : Array Slot) (H : Heap) (locs : List Loc), lv_has ls 7 [(0, .ref (ad 0)), (1, .int a1), (2, .int a2), (3, .int b3_8), (4, .int b4_8), (5, .int b5_26), (6, .int b6_26)] → okW D q A s (wM q ad h) H locs → W p l e R s m args below meth c H locs 0 0 Qm (F0 m 26 ls [])) (by
        intro b5_26 b6_26 hw ls H locs hl G
        refine lv_iload hx hb dX10_isHungry_26 (lv_at hl 6 rfl) ?_
        refine lv_aload_n hx hb dX10_isHungry_28 rfl (lv_at hl 0 rfl) ?_
        refine x_ViP S hl.1 G (c_M_lots l D q A ad h _ hw) (cw_X10_109 S.2.2.2.2 ⟨Nat.le_trans (Nat.le_of_ble_eq_true rfl) hR1, Nat.le_trans (Nat.le_of_ble_eq_true rfl) hR2⟩) (me_11 km_0) rfl rfl rfl (Nat.le_of_ble_eq_true rfl) dX10_isHungry_29 (fun r_29 H locs G hw => ?_)
        refine lv_icmp_ge (tgt := 72) hx hb dX10_isHungry_32 (by decide) (fun c_32 => ?_) (fun c_32 => ?_)
        · have hw := hw.1 c_32
          refine lv_iload_n hx hb dX10_isHungry_72 rfl (lv_at hl 3 rfl) ?_
          have hw := hw (fun (t0_92 : Int32) => ∀ (ls : Array Slot) (H : Heap) (locs : List Loc), lv_has ls 7 [(0, .ref (ad 0)), (1, .int a1), (2, .int a2), (4, .int b4_8)] → okW D q A s (wM q ad h) H locs → W p l e R s m args below meth c H locs 0 0 Qm (F0 m 92 ls [.int t0_92])) (by
            intro t0_92 hw ls H locs hl G
            refine lv_istore_n (lv' := [(3, .int t0_92), (0, .ref (ad 0)), (1, .int a1), (2, .int a2), (4, .int b4_8)]) hx hb dX10_isHungry_92 rfl hl (by decide) rfl (fun ls hl => ?_)
            obtain ⟨a4_93, ea4_93⟩ : ∃ y : Int32, y = b4_8 + 1 := ⟨_, rfl⟩
            have hw := hw a4_93 ea4_93
            refine lv_iinc (v := a4_93) (lv' := [(4, .int a4_93), (3, .int t0_92), (0, .ref (ad 0)), (1, .int a1), (2, .int a2)]) hx hb dX10_isHungry_93 hl (k := 4) rfl (by rw [ea4_93]; rfl) (by decide) rfl (fun ls hl => ?_)
            refine lv_goto (tgt := 8) hx hb dX10_isHungry_96 (by decide) ?_
            exact hw _ _ _ (lv_sub hl [2, 3, 4, 1, 0] rfl) G)
          have hw := hw (∀ (ls : Array Slot) (H : Heap) (locs : List Loc), lv_has ls 7 [(0, .ref (ad 0)), (1, .int a1), (2, .int a2), (4, .int b4_8)] → okW D q A s (wM q ad h) H locs → W p l e R s m args below meth c H locs 0 0 Qm (F0 m 87 ls [])) (by
            intro hw ls H locs hl G
            refine lv_iconst (v := 1) hx hb dX10_isHungry_87 (by decide) ?_
            refine lv_goto (tgt := 92) hx hb dX10_isHungry_88 (by decide) ?_
            exact hw _ _ _ (lv_sub hl [0, 1, 2, 3] rfl) G)
          refine lv_if_ne (tgt := 87) hx hb dX10_isHungry_73 (by decide) (fun c_73 => ?_) (fun c_73 => ?_)
          · have hw := hw.1 c_73
            exact hw _ _ _ (lv_sub hl [0, 1, 2, 4] rfl) G
          · have hw := hw.2 c_73
            refine lv_iload hx hb dX10_isHungry_76 (lv_at hl 5 rfl) ?_
            refine lv_aload_n hx hb dX10_isHungry_78 rfl (lv_at hl 0 rfl) ?_
            refine lv_iload_n hx hb dX10_isHungry_79 rfl (lv_at hl 1 rfl) ?_
            refine lv_iload_n hx hb dX10_isHungry_80 rfl (lv_at hl 2 rfl) ?_
            refine x_ViP S hl.1 G (c_M_fedOf l D q A ad a1 a2 h _ hw) (cw_X10_235 S.2.2.2.2 ⟨Nat.le_trans (Nat.le_of_ble_eq_true rfl) hR1, Nat.le_trans (Nat.le_of_ble_eq_true rfl) hR2⟩) (me_11 km_0) rfl rfl rfl (Nat.le_of_ble_eq_true rfl) dX10_isHungry_81 (fun r_81 H locs G hw => ?_)
            refine lv_icmp_le (tgt := 91) hx hb dX10_isHungry_84 (by decide) (fun c_84 => ?_) (fun c_84 => ?_)
            · have hw := hw.1 c_84
              refine lv_iconst (v := 0) hx hb dX10_isHungry_91 (by decide) ?_
              exact hw _ _ _ (lv_sub hl [0, 1, 2, 4] rfl) G
            · have hw := hw.2 c_84
              exact hw _ _ _ (lv_sub hl [0, 1, 2, 4] rfl) G
        · have hw := hw.2 c_32
          refine lv_iload hx hb dX10_isHungry_35 (lv_at hl 5 rfl) ?_
          refine lv_aload_n hx hb dX10_isHungry_37 rfl (lv_at hl 0 rfl) ?_
          refine lv_iload hx hb dX10_isHungry_38 (lv_at hl 6 rfl) ?_
          refine lv_iload hx hb dX10_isHungry_40 (lv_at hl 4 rfl) ?_
          refine x_ViP S hl.1 G (c_M_whereOf l D q A ad b6_26 b4_8 h _ hw) (cw_X10_232 S.2.2.2.2 ⟨Nat.le_trans (Nat.le_of_ble_eq_true rfl) hR1, Nat.le_trans (Nat.le_of_ble_eq_true rfl) hR2⟩) (me_11 km_0) rfl rfl rfl (Nat.le_of_ble_eq_true rfl) dX10_isHungry_42 (fun r_42 H locs G hw => ?_)
          refine lv_iload_n hx hb dX10_isHungry_45 rfl (lv_at hl 1 rfl) ?_
          have hw := hw (fun (t1_63 : Int32) => ∀ (ls : Array Slot) (H : Heap) (locs : List Loc), lv_has ls 7 [(0, .ref (ad 0)), (1, .int a1), (2, .int a2), (3, .int b3_8), (4, .int b4_8), (6, .int b6_26)] → okW D q A s (wM q ad h) H locs → W p l e R s m args below meth c H locs 0 0 Qm (F0 m 63 ls [.int t1_63, .int b5_26])) (by
            intro t1_63 hw ls H locs hl G
            refine lv_iadd hx hb dX10_isHungry_63 ?_
            refine lv_topi (fun a5_64 ea5_64 => ?_)
            have hw := hw a5_64 ea5_64
            refine lv_istore (lv' := [(5, .int a5_64), (0, .ref (ad 0)), (1, .int a1), (2, .int a2), (3, .int b3_8), (4, .int b4_8), (6, .int b6_26)]) hx hb dX10_isHungry_64 hl (by decide) rfl (fun ls hl => ?_)
            obtain ⟨a6_66, ea6_66⟩ : ∃ y : Int32, y = b6_26 + 1 := ⟨_, rfl⟩
            have hw := hw a6_66 ea6_66
            refine lv_iinc (v := a6_66) (lv' := [(6, .int a6_66), (5, .int a5_64), (0, .ref (ad 0)), (1, .int a1), (2, .int a2), (3, .int b3_8), (4, .int b4_8)]) hx hb dX10_isHungry_66 hl (k := 6) rfl (by rw [ea6_66]; rfl) (by decide) rfl (fun ls hl => ?_)
            refine lv_goto (tgt := 26) hx hb dX10_isHungry_69 (by decide) ?_
            exact hw _ _ _ (lv_sub hl [2, 3, 4, 5, 6, 1, 0] rfl) G)
          refine lv_icmp_ne (tgt := 62) hx hb dX10_isHungry_46 (by decide) (fun c_46 => ?_) (fun c_46 => ?_)
          · have hw := hw.1 c_46
            refine lv_iconst (v := 0) hx hb dX10_isHungry_62 (by decide) ?_
            exact hw _ _ _ (lv_sub hl [0, 1, 2, 3, 4, 6] rfl) G
          · have hw := hw.2 c_46
            refine lv_aload_n hx hb dX10_isHungry_49 rfl (lv_at hl 0 rfl) ?_
            refine x_get (C := RX10) (T := TX10) (n := 21) S G inX10 (me_11 km_0) rfl 0 (by decide) kf_X10_7 rfl dX10_isHungry_50 ?_
            refine lv_bipush (v := 16) hx hb dX10_isHungry_53 (by decide) ?_
            refine lv_iload hx hb dX10_isHungry_55 (lv_at hl 6 rfl) ?_
            refine lv_iadd hx hb dX10_isHungry_57 ?_
            obtain ⟨i_58, hw⟩ := hw
            refine x_iald (k := (16 + b6_26).toNatClampNeg) S G (me_20 km_1 lm_1) i_58 rfl rfl dX10_isHungry_58 ?_
            refine lv_goto (tgt := 63) hx hb dX10_isHungry_59 (by decide) ?_
            exact hw _ _ _ (lv_sub hl [0, 1, 2, 3, 4, 6] rfl) G)
      exact hw _ _ _ (lv_sub hl [2, 3, 4, 5, 6, 1, 0] rfl) G)
  exact hw _ _ _ (lv_sub hl [2, 3, 4, 1, 0] rfl) G
theorem cw_X10_238 {R : Room} {s : State} {args : Array Value} (hts : ∀ w ∈ gW, w.before args s = true) (hR : rm_M_isHungry.frames + 1 ≤ R.frames ∧ 8 + (7 + 11) + rm_M_isHungry.locals ≤ R.locals) : CallW R s args RX10 RX10 238 yX10_isHungry cX10_isHungry 7 (some .boolean) (mw yX10_isHungry cX10_isHungry 7 (some .boolean)) rm_M_isHungry 0 0 2 := cwV9 hts km_X10_238 ki_X10_isHungry ks_X10_isHungry kn_X10 kk_X10_isHungry rfl rfl (by decide +kernel) hR
abbrev rm_M_hungerOf : Room := { frames := 2, cells := 0, slots := 0, locals := 48 }
set_option maxHeartbeats 4000000 in
set_option maxRecDepth 100000 in
theorem c_M_hungerOf (l : Launch) (D : va_G) (q : Nat → ClassId) (A : Nat → Prop) (ad : Nat → Nat) (h : Hs) (Q : Int32 → Prop) (hw : p_M_hungerOf h Q) : Met l yX10_hungerOf (mw yX10_hungerOf cX10_hungerOf 4 (some .int)) rm_M_hungerOf (va_Pc [.ref (ad 0)] (pW D q A (wM q ad h))) (va_Qi (fun r h9 => h9 = h ∧ Q r) (fun h t => pW D q A (wM q ad h) t) A) 0 0 A := by
  refine met_i (Qp := (fun r h9 => h9 = h ∧ Q r)) (by decide) (Nat.le_of_ble_eq_true rfl) ?_
  intro p e R s m args below meth c Qm ls hR1 hR2 S RT hl G
  have hx := S.1
  have hb := S.2.1
  have hl : lv_has ls 4 [(0, .ref (ad 0))] := hl
  unfold p_M_hungerOf at hw
  refine lv_iconst (v := 0) hx hb dX10_hungerOf_0 (by decide) ?_
  refine lv_istore_n (lv' := [(1, .int 0), (0, .ref (ad 0))]) hx hb dX10_hungerOf_1 rfl hl (by decide) rfl (fun ls hl => ?_)
  refine lv_iconst (v := 0) hx hb dX10_hungerOf_2 (by decide) ?_
  refine lv_istore_n (lv' := [(2, .int 0), (1, .int 0), (0, .ref (ad 0))]) hx hb dX10_hungerOf_3 rfl hl (by decide) rfl (fun ls hl => ?_)
  have hw := hw (fun (b1_4 : Int32) (b2_4 : Int32) => ∀ (ls : Array Slot) (H : Heap) (locs : List Loc), lv_has ls 4 [(0, .ref (ad 0)), (1, .int b1_4), (2, .int b2_4)] → okW D q A s (wM q ad h) H locs → W p l e R s m args below meth c H locs 0 0 Qm (F0 m 4 ls [])) (by
    intro b1_4 b2_4 hw ls H locs hl G
    refine lv_iload_n hx hb dX10_hungerOf_4 rfl (lv_at hl 2 rfl) ?_
    refine lv_aload_n hx hb dX10_hungerOf_5 rfl (lv_at hl 0 rfl) ?_
    refine x_ViP S hl.1 G (c_M_places l D q A ad h _ hw) (cw_X10_101 S.2.2.2.2 ⟨Nat.le_trans (Nat.le_of_ble_eq_true rfl) hR1, Nat.le_trans (Nat.le_of_ble_eq_true rfl) hR2⟩) (me_11 km_0) rfl rfl rfl (Nat.le_of_ble_eq_true rfl) dX10_hungerOf_6 (fun r_6 H locs G hw => ?_)
    refine lv_icmp_ge (tgt := 49) hx hb dX10_hungerOf_9 (by decide) (fun c_9 => ?_) (fun c_9 => ?_)
    · have hw := hw.1 c_9
      refine lv_iload_n hx hb dX10_hungerOf_49 rfl (lv_at hl 1 rfl) ?_
      exact RT _ _ _ _ _ _ G ⟨rfl, hw⟩ dX10_hungerOf_50
    · have hw := hw.2 c_9
      refine lv_iconst (v := 0) hx hb dX10_hungerOf_12 (by decide) ?_
      refine lv_istore_n (lv' := [(3, .int 0), (0, .ref (ad 0)), (1, .int b1_4), (2, .int b2_4)]) hx hb dX10_hungerOf_13 rfl hl (by decide) rfl (fun ls hl => ?_)
      have hw := hw (fun (b1_14 : Int32) (b3_14 : Int32) => ∀ (ls : Array Slot) (H : Heap) (locs : List Loc), lv_has ls 4 [(0, .ref (ad 0)), (1, .int b1_14), (2, .int b2_4), (3, .int b3_14)] → okW D q A s (wM q ad h) H locs → W p l e R s m args below meth c H locs 0 0 Qm (F0 m 14 ls [])) (by
        intro b1_14 b3_14 hw ls H locs hl G
        refine lv_iload_n hx hb dX10_hungerOf_14 rfl (lv_at hl 3 rfl) ?_
        refine lv_bipush (v := 10) hx hb dX10_hungerOf_15 (by decide) ?_
        refine lv_icmp_ge (tgt := 43) hx hb dX10_hungerOf_17 (by decide) (fun c_17 => ?_) (fun c_17 => ?_)
        · have hw := hw.1 c_17
          obtain ⟨a2_43, ea2_43⟩ : ∃ y : Int32, y = b2_4 + 1 := ⟨_, rfl⟩
          have hw := hw a2_43 ea2_43
          refine lv_iinc (v := a2_43) (lv' := [(2, .int a2_43), (0, .ref (ad 0)), (1, .int b1_14), (3, .int b3_14)]) hx hb dX10_hungerOf_43 hl (k := 2) rfl (by rw [ea2_43]; rfl) (by decide) rfl (fun ls hl => ?_)
          refine lv_goto (tgt := 4) hx hb dX10_hungerOf_46 (by decide) ?_
          exact hw _ _ _ (lv_sub hl [1, 2, 0] rfl) G
        · have hw := hw.2 c_17
          refine lv_iload_n hx hb dX10_hungerOf_20 rfl (lv_at hl 1 rfl) ?_
          refine lv_aload_n hx hb dX10_hungerOf_21 rfl (lv_at hl 0 rfl) ?_
          refine lv_iload_n hx hb dX10_hungerOf_22 rfl (lv_at hl 2 rfl) ?_
          refine lv_iload_n hx hb dX10_hungerOf_23 rfl (lv_at hl 3 rfl) ?_
          refine x_VzP S hl.1 G (c_M_isHungry l D q A ad b2_4 b3_14 h _ hw) (cw_X10_238 S.2.2.2.2 ⟨Nat.le_trans (Nat.le_of_ble_eq_true rfl) hR1, Nat.le_trans (Nat.le_of_ble_eq_true rfl) hR2⟩) (me_11 km_0) rfl rfl rfl (Nat.le_of_ble_eq_true rfl) dX10_hungerOf_24 (fun r_24 H locs G z_24 hw => ?_)
          have hw := hw (fun (t1_35 : Int32) => ∀ (ls : Array Slot) (H : Heap) (locs : List Loc), lv_has ls 4 [(0, .ref (ad 0)), (2, .int b2_4), (3, .int b3_14)] → okW D q A s (wM q ad h) H locs → W p l e R s m args below meth c H locs 0 0 Qm (F0 m 35 ls [.int t1_35, .int b1_14])) (by
            intro t1_35 hw ls H locs hl G
            refine lv_iadd hx hb dX10_hungerOf_35 ?_
            refine lv_topi (fun a1_36 ea1_36 => ?_)
            have hw := hw a1_36 ea1_36
            refine lv_istore_n (lv' := [(1, .int a1_36), (0, .ref (ad 0)), (2, .int b2_4), (3, .int b3_14)]) hx hb dX10_hungerOf_36 rfl hl (by decide) rfl (fun ls hl => ?_)
            obtain ⟨a3_37, ea3_37⟩ : ∃ y : Int32, y = b3_14 + 1 := ⟨_, rfl⟩
            have hw := hw a3_37 ea3_37
            refine lv_iinc (v := a3_37) (lv' := [(3, .int a3_37), (1, .int a1_36), (0, .ref (ad 0)), (2, .int b2_4)]) hx hb dX10_hungerOf_37 hl (k := 3) rfl (by rw [ea3_37]; rfl) (by decide) rfl (fun ls hl => ?_)
            refine lv_goto (tgt := 14) hx hb dX10_hungerOf_40 (by decide) ?_
            exact hw _ _ _ (lv_sub hl [2, 1, 3, 0] rfl) G)
          refine lv_if_eq (tgt := 34) hx hb dX10_hungerOf_27 (by decide) (fun c_27 => ?_) (fun c_27 => ?_)
          · have hw := hw.1 c_27
            refine lv_iconst (v := 0) hx hb dX10_hungerOf_34 (by decide) ?_
            exact hw _ _ _ (lv_sub hl [0, 2, 3] rfl) G
          · have hw := hw.2 c_27
            refine lv_iconst (v := 1) hx hb dX10_hungerOf_30 (by decide) ?_
            refine lv_goto (tgt := 35) hx hb dX10_hungerOf_31 (by decide) ?_
            exact hw _ _ _ (lv_sub hl [0, 2, 3] rfl) G)
      exact hw _ _ _ (lv_sub hl [1, 2, 3, 0] rfl) G)
  exact hw _ _ _ (lv_sub hl [2, 1, 0] rfl) G
theorem cw_X10_251 {R : Room} {s : State} {args : Array Value} (hts : ∀ w ∈ gW, w.before args s = true) (hR : rm_M_hungerOf.frames + 1 ≤ R.frames ∧ 8 + (4 + 11) + rm_M_hungerOf.locals ≤ R.locals) : CallW R s args RX10 RX10 251 yX10_hungerOf cX10_hungerOf 4 (some .int) (mw yX10_hungerOf cX10_hungerOf 4 (some .int)) rm_M_hungerOf 0 0 0 := cwV9 hts km_X10_251 ki_X10_hungerOf ks_X10_hungerOf kn_X10 kk_X10_hungerOf rfl rfl (by decide +kernel) hR
abbrev rm_M_timesAll : Room := { frames := 2, cells := 0, slots := 0, locals := 49 }
set_option maxHeartbeats 4000000 in
set_option maxRecDepth 100000 in
theorem c_M_timesAll (l : Launch) (D : va_G) (q : Nat → ClassId) (A : Nat → Prop) (ad : Nat → Nat) (a1 : Int32) (a2 : Int64) (a4 : Int32) (h : Hs) (Q : Hs → Prop) (hw : p_M_timesAll a1 a2 a4 h Q) : Met l yX10_timesAll (mw yX10_timesAll cX10_timesAll 6 none) rm_M_timesAll (va_Pc [.ref (ad 0), .int a1, .long a2, .int a4] (pW D q A (wM q ad h))) (va_Qv Q (fun h t => pW D q A (wM q ad h) t) A) 0 0 A := by
  refine met_v (Qp := Q) (by decide) (Nat.le_of_ble_eq_true rfl) ?_
  intro p e R s m args below meth c Qm ls hR1 hR2 S RT hl G
  have hx := S.1
  have hb := S.2.1
  have hl : lv_has ls 6 [(0, .ref (ad 0)), (1, .int a1), (2, .long a2), (4, .int a4)] := hl
  unfold p_M_timesAll at hw
  refine lv_iconst (v := 0) hx hb dX10_timesAll_0 (by decide) ?_
  refine lv_istore (lv' := [(5, .int 0), (0, .ref (ad 0)), (1, .int a1), (2, .long a2), (4, .int a4)]) hx hb dX10_timesAll_1 hl (by decide) rfl (fun ls hl => ?_)
  have hw := hw (fun (b5_3 : Int32) (g_3 : Hs) => ∀ (ls : Array Slot) (H : Heap) (locs : List Loc), lv_has ls 6 [(0, .ref (ad 0)), (1, .int a1), (2, .long a2), (4, .int a4), (5, .int b5_3)] → okW D q A s (wM q ad g_3) H locs → W p l e R s m args below meth c H locs 0 0 Qm (F0 m 3 ls [])) (by
    intro b5_3 g_3 hw ls H locs hl G
    refine lv_iload hx hb dX10_timesAll_3 (lv_at hl 4 rfl) ?_
    refine lv_iload hx hb dX10_timesAll_5 (lv_at hl 3 rfl) ?_
    refine lv_icmp_ge (tgt := 22) hx hb dX10_timesAll_7 (by decide) (fun c_7 => ?_) (fun c_7 => ?_)
    · have hw := hw.1 c_7
      exact RT _ _ _ _ _ G hw dX10_timesAll_22
    · have hw := hw.2 c_7
      refine lv_aload_n hx hb dX10_timesAll_10 rfl (lv_at hl 0 rfl) ?_
      refine lv_iload_n hx hb dX10_timesAll_11 rfl (lv_at hl 1 rfl) ?_
      refine lv_lload_n hx hb dX10_timesAll_12 rfl (lv_at hl 2 rfl) ?_
      refine x_Vv S hl.1 G (c_M_times l D q A ad a1 a2 g_3 _ hw) (cw_X10_81 S.2.2.2.2 ⟨Nat.le_trans (Nat.le_of_ble_eq_true rfl) hR1, Nat.le_trans (Nat.le_of_ble_eq_true rfl) hR2⟩) (me_11 km_0) rfl rfl rfl (Nat.le_of_ble_eq_true rfl) dX10_timesAll_13 (fun h_13 H locs G hw => ?_)
      obtain ⟨a5_16, ea5_16⟩ : ∃ y : Int32, y = b5_3 + 1 := ⟨_, rfl⟩
      have hw := hw a5_16 ea5_16
      refine lv_iinc (v := a5_16) (lv' := [(5, .int a5_16), (0, .ref (ad 0)), (1, .int a1), (2, .long a2), (4, .int a4)]) hx hb dX10_timesAll_16 hl (k := 4) rfl (by rw [ea5_16]; rfl) (by decide) rfl (fun ls hl => ?_)
      refine lv_goto (tgt := 3) hx hb dX10_timesAll_19 (by decide) ?_
      exact hw _ _ _ (lv_sub hl [1, 2, 3, 4, 0] rfl) G)
  exact hw _ _ _ (lv_sub hl [1, 2, 3, 4, 0] rfl) G
theorem cw_X10_244 {R : Room} {s : State} {args : Array Value} (hts : ∀ w ∈ gW, w.before args s = true) (hR : rm_M_timesAll.frames + 1 ≤ R.frames ∧ 8 + (6 + 11) + rm_M_timesAll.locals ≤ R.locals) : CallW R s args RX10 RX10 244 yX10_timesAll cX10_timesAll 6 none (mw yX10_timesAll cX10_timesAll 6 none) rm_M_timesAll 0 0 3 := cwV9 hts km_X10_244 ki_X10_timesAll ks_X10_timesAll kn_X10 kk_X10_timesAll rfl rfl (by decide +kernel) hR
abbrev rm_M_findSign : Room := { frames := 3, cells := 0, slots := 0, locals := 74 }
set_option maxHeartbeats 4000000 in
set_option maxRecDepth 100000 in
theorem c_M_findSign (l : Launch) (D : va_G) (q : Nat → ClassId) (A : Nat → Prop) (ad : Nat → Nat) (a1 : Int32) (h : Hs) (Q : Hs → Prop) (hw : p_M_findSign a1 h Q) : Met l yX10_findSign (mw yX10_findSign cX10_findSign 9 none) rm_M_findSign (va_Pc [.ref (ad 0), .int a1] (pW D q A (wM q ad h))) (va_Qv Q (fun h t => pW D q A (wM q ad h) t) A) 0 0 A := by
  refine met_v (Qp := Q) (by decide) (Nat.le_of_ble_eq_true rfl) ?_
  intro p e R s m args below meth c Qm ls hR1 hR2 S RT hl G
  have hx := S.1
  have hb := S.2.1
  have hl : lv_has ls 9 [(0, .ref (ad 0)), (1, .int a1)] := hl
  unfold p_M_findSign at hw
  refine lv_aload_n hx hb dX10_findSign_0 rfl (lv_at hl 0 rfl) ?_
  refine lv_aload_n hx hb dX10_findSign_1 rfl (lv_at hl 0 rfl) ?_
  refine x_get (C := RX10) (T := TX10) (n := 21) S G inX10 (me_11 km_0) rfl 0 (by decide) kf_X10_7 rfl dX10_findSign_2 ?_
  refine lv_sipush (v := 518) hx hb dX10_findSign_5 (by decide) ?_
  refine lv_iconst (v := 4) hx hb dX10_findSign_8 (by decide) ?_
  refine lv_iload_n hx hb dX10_findSign_9 rfl (lv_at hl 1 rfl) ?_
  refine lv_imul hx hb dX10_findSign_10 ?_
  refine lv_iadd hx hb dX10_findSign_11 ?_
  obtain ⟨i_12, hw⟩ := hw
  refine x_iald (k := (518 + (4 * a1)).toNatClampNeg) S G (me_20 km_1 lm_1) i_12 rfl rfl dX10_findSign_12 ?_
  refine lv_aload_n hx hb dX10_findSign_13 rfl (lv_at hl 0 rfl) ?_
  refine x_get (C := RX10) (T := TX10) (n := 21) S G inX10 (me_11 km_0) rfl 0 (by decide) kf_X10_7 rfl dX10_findSign_14 ?_
  refine lv_sipush (v := 518) hx hb dX10_findSign_17 (by decide) ?_
  refine lv_iconst (v := 4) hx hb dX10_findSign_20 (by decide) ?_
  refine lv_iload_n hx hb dX10_findSign_21 rfl (lv_at hl 1 rfl) ?_
  refine lv_imul hx hb dX10_findSign_22 ?_
  refine lv_iadd hx hb dX10_findSign_23 ?_
  refine lv_iconst (v := 1) hx hb dX10_findSign_24 (by decide) ?_
  refine lv_iadd hx hb dX10_findSign_25 ?_
  obtain ⟨i_26, hw⟩ := hw
  refine x_iald (k := ((518 + (4 * a1)) + 1).toNatClampNeg) S G (me_20 km_1 lm_1) i_26 rfl rfl dX10_findSign_26 ?_
  refine x_ViP S hl.1 G (c_M_leftOf l D q A ad (gi h 1 ((518 + (4 * a1)).toNatClampNeg)) (gi h 1 (((518 + (4 * a1)) + 1).toNatClampNeg)) h _ hw) (cw_X10_241 S.2.2.2.2 ⟨Nat.le_trans (Nat.le_of_ble_eq_true rfl) hR1, Nat.le_trans (Nat.le_of_ble_eq_true rfl) hR2⟩) (me_11 km_0) rfl rfl rfl (Nat.le_of_ble_eq_true rfl) dX10_findSign_27 (fun r_27 H locs G hw => ?_)
  refine lv_istore_n (lv' := [(2, .int r_27), (0, .ref (ad 0)), (1, .int a1)]) hx hb dX10_findSign_30 rfl hl (by decide) rfl (fun ls hl => ?_)
  refine lv_aload_n hx hb dX10_findSign_31 rfl (lv_at hl 1 rfl) ?_
  refine x_get (C := RX10) (T := TX10) (n := 21) S G inX10 (me_11 km_0) rfl 0 (by decide) kf_X10_7 rfl dX10_findSign_32 ?_
  refine lv_sipush (v := 518) hx hb dX10_findSign_35 (by decide) ?_
  refine lv_iconst (v := 4) hx hb dX10_findSign_38 (by decide) ?_
  refine lv_iload_n hx hb dX10_findSign_39 rfl (lv_at hl 2 rfl) ?_
  refine lv_imul hx hb dX10_findSign_40 ?_
  refine lv_iadd hx hb dX10_findSign_41 ?_
  refine lv_iconst (v := 2) hx hb dX10_findSign_42 (by decide) ?_
  refine lv_iadd hx hb dX10_findSign_43 ?_
  obtain ⟨i_44, hw⟩ := hw
  refine x_iald (k := ((518 + (4 * a1)) + 2).toNatClampNeg) S G (me_20 km_1 lm_1) i_44 rfl rfl dX10_findSign_44 ?_
  refine lv_topi (fun a3_45 ea3_45 => ?_)
  have hw := hw a3_45 ea3_45
  refine lv_istore_n (lv' := [(3, .int a3_45), (2, .int r_27), (0, .ref (ad 0)), (1, .int a1)]) hx hb dX10_findSign_45 rfl hl (by decide) rfl (fun ls hl => ?_)
  refine lv_aload_n hx hb dX10_findSign_46 rfl (lv_at hl 2 rfl) ?_
  refine x_get (C := RX10) (T := TX10) (n := 21) S G inX10 (me_11 km_0) rfl 0 (by decide) kf_X10_7 rfl dX10_findSign_47 ?_
  refine lv_sipush (v := 518) hx hb dX10_findSign_50 (by decide) ?_
  refine lv_iconst (v := 4) hx hb dX10_findSign_53 (by decide) ?_
  refine lv_iload_n hx hb dX10_findSign_54 rfl (lv_at hl 3 rfl) ?_
  refine lv_imul hx hb dX10_findSign_55 ?_
  refine lv_iadd hx hb dX10_findSign_56 ?_
  refine lv_iconst (v := 3) hx hb dX10_findSign_57 (by decide) ?_
  refine lv_iadd hx hb dX10_findSign_58 ?_
  obtain ⟨i_59, hw⟩ := hw
  refine x_iald (k := ((518 + (4 * a1)) + 3).toNatClampNeg) S G (me_20 km_1 lm_1) i_59 rfl rfl dX10_findSign_59 ?_
  refine lv_topi (fun a4_60 ea4_60 => ?_)
  have hw := hw a4_60 ea4_60
  refine lv_istore (lv' := [(4, .int a4_60), (3, .int a3_45), (2, .int r_27), (0, .ref (ad 0)), (1, .int a1)]) hx hb dX10_findSign_60 hl (by decide) rfl (fun ls hl => ?_)
  refine lv_aload_n hx hb dX10_findSign_62 rfl (lv_at hl 3 rfl) ?_
  refine x_get (C := RX10) (T := TX10) (n := 21) S G inX10 (me_11 km_0) rfl 0 (by decide) kf_X10_7 rfl dX10_findSign_63 ?_
  refine lv_bipush (v := 26) hx hb dX10_findSign_66 (by decide) ?_
  refine lv_aload_n hx hb dX10_findSign_68 rfl (lv_at hl 3 rfl) ?_
  refine x_get (C := RX10) (T := TX10) (n := 21) S G inX10 (me_11 km_0) rfl 0 (by decide) kf_X10_7 rfl dX10_findSign_69 ?_
  refine lv_sipush (v := 518) hx hb dX10_findSign_72 (by decide) ?_
  refine lv_iconst (v := 4) hx hb dX10_findSign_75 (by decide) ?_
  refine lv_iload_n hx hb dX10_findSign_76 rfl (lv_at hl 4 rfl) ?_
  refine lv_imul hx hb dX10_findSign_77 ?_
  refine lv_iadd hx hb dX10_findSign_78 ?_
  refine lv_iconst (v := 1) hx hb dX10_findSign_79 (by decide) ?_
  refine lv_iadd hx hb dX10_findSign_80 ?_
  obtain ⟨i_81, hw⟩ := hw
  refine x_iald (k := ((518 + (4 * a1)) + 1).toNatClampNeg) S G (me_20 km_1 lm_1) i_81 rfl rfl dX10_findSign_81 ?_
  refine lv_iadd hx hb dX10_findSign_82 ?_
  obtain ⟨i_83, hw⟩ := hw
  refine x_iald (k := (26 + (gi h 1 (((518 + (4 * a1)) + 1).toNatClampNeg))).toNatClampNeg) S G (me_20 km_1 lm_1) i_83 rfl rfl dX10_findSign_83 ?_
  refine lv_topi (fun a5_84 ea5_84 => ?_)
  have hw := hw a5_84 ea5_84
  refine lv_istore (lv' := [(5, .int a5_84), (4, .int a4_60), (3, .int a3_45), (2, .int r_27), (0, .ref (ad 0)), (1, .int a1)]) hx hb dX10_findSign_84 hl (by decide) rfl (fun ls hl => ?_)
  refine lv_aload_n hx hb dX10_findSign_86 rfl (lv_at hl 4 rfl) ?_
  refine lv_bipush (v := 11) hx hb dX10_findSign_87 (by decide) ?_
  refine lv_lconst (v := 0) hx hb dX10_findSign_89 (by decide) ?_
  refine x_Vv S hl.1 G (c_M_set l D q A ad 11 0 h _ hw) (cw_X10_51 S.2.2.2.2 ⟨Nat.le_trans (Nat.le_of_ble_eq_true rfl) hR1, Nat.le_trans (Nat.le_of_ble_eq_true rfl) hR2⟩) (me_11 km_0) rfl rfl rfl (Nat.le_of_ble_eq_true rfl) dX10_findSign_90 (fun h_90 H locs G hw => ?_)
  refine lv_lconst (v := 1) hx hb dX10_findSign_93 (by decide) ?_
  refine lv_lstore (lv' := [(6, .long 1), (5, .int a5_84), (4, .int a4_60), (3, .int a3_45), (2, .int r_27), (0, .ref (ad 0)), (1, .int a1)]) hx hb dX10_findSign_94 hl (by decide) rfl (fun ls hl => ?_)
  refine lv_iconst (v := 0) hx hb dX10_findSign_96 (by decide) ?_
  refine lv_istore (lv' := [(8, .int 0), (6, .long 1), (5, .int a5_84), (4, .int a4_60), (3, .int a3_45), (2, .int r_27), (0, .ref (ad 0)), (1, .int a1)]) hx hb dX10_findSign_97 hl (by decide) rfl (fun ls hl => ?_)
  have hw := hw (fun (b6_99 : Int64) (b8_99 : Int32) (g_99 : Hs) => ∀ (ls : Array Slot) (H : Heap) (locs : List Loc), lv_has ls 9 [(0, .ref (ad 0)), (2, .int r_27), (3, .int a3_45), (4, .int a4_60), (5, .int a5_84), (6, .long b6_99), (8, .int b8_99)] → okW D q A s (wM q ad g_99) H locs → W p l e R s m args below meth c H locs 0 0 Qm (F0 m 99 ls [])) (by
    intro b6_99 b8_99 g_99 hw ls H locs hl G
    refine lv_iload hx hb dX10_findSign_99 (lv_at hl 6 rfl) ?_
    refine lv_iload_n hx hb dX10_findSign_101 rfl (lv_at hl 2 rfl) ?_
    have hw := hw (∀ (ls : Array Slot) (H : Heap) (locs : List Loc), lv_has ls 9 [(0, .ref (ad 0)), (2, .int r_27), (3, .int a3_45)] → okW D q A s (wM q ad g_99) H locs → W p l e R s m args below meth c H locs 0 0 Qm (F0 m 212 ls [])) (by
      intro hw ls H locs hl G
      refine lv_aload_n hx hb dX10_findSign_212 rfl (lv_at hl 0 rfl) ?_
      refine lv_bipush (v := 11) hx hb dX10_findSign_213 (by decide) ?_
      refine lv_ldc2 (v := 10) hx hb S.2.2.2.1 (S.2.2.2.2 _ kl_X10_209) dX10_findSign_215 ?_
      refine lv_bipush (v := 29) hx hb dX10_findSign_218 (by decide) ?_
      refine lv_iload_n hx hb dX10_findSign_220 rfl (lv_at hl 1 rfl) ?_
      refine lv_isub hx hb dX10_findSign_221 ?_
      refine lv_iload_n hx hb dX10_findSign_222 rfl (lv_at hl 2 rfl) ?_
      refine lv_isub hx hb dX10_findSign_223 ?_
      refine x_Vv S hl.1 G (c_M_timesAll l D q A ad 11 10 ((29 - r_27) - a3_45) g_99 _ hw) (cw_X10_244 S.2.2.2.2 ⟨Nat.le_trans (Nat.le_of_ble_eq_true rfl) hR1, Nat.le_trans (Nat.le_of_ble_eq_true rfl) hR2⟩) (me_11 km_0) rfl rfl rfl (Nat.le_of_ble_eq_true rfl) dX10_findSign_224 (fun h_224 H locs G hw => ?_)
      exact RT _ _ _ _ _ G hw dX10_findSign_227)
    refine lv_icmp_gt (tgt := 212) hx hb dX10_findSign_102 (by decide) (fun c_102 => ?_) (fun c_102 => ?_)
    · have hw := hw.1 c_102
      exact hw _ _ _ (lv_sub hl [0, 1, 2] rfl) G
    · have hw := hw.2 c_102
      refine lv_iload hx hb dX10_findSign_105 (lv_at hl 6 rfl) ?_
      refine lv_iload_n hx hb dX10_findSign_107 rfl (lv_at hl 1 rfl) ?_
      refine lv_icmp_gt (tgt := 212) hx hb dX10_findSign_108 (by decide) (fun c_108 => ?_) (fun c_108 => ?_)
      · have hw := hw.1 c_108
        exact hw _ _ _ (lv_sub hl [0, 1, 2] rfl) G
      · have hw := hw.2 c_108
        refine lv_aload_n hx hb dX10_findSign_111 rfl (lv_at hl 0 rfl) ?_
        refine lv_bipush (v := 7) hx hb dX10_findSign_112 (by decide) ?_
        refine lv_lload hx hb dX10_findSign_114 (lv_at hl 5 rfl) ?_
        refine x_Vv S hl.1 G (c_M_set l D q A ad 7 b6_99 g_99 _ hw) (cw_X10_51 S.2.2.2.2 ⟨Nat.le_trans (Nat.le_of_ble_eq_true rfl) hR1, Nat.le_trans (Nat.le_of_ble_eq_true rfl) hR2⟩) (me_11 km_0) rfl rfl rfl (Nat.le_of_ble_eq_true rfl) dX10_findSign_116 (fun h_116 H locs G hw => ?_)
        refine lv_aload_n hx hb dX10_findSign_119 rfl (lv_at hl 0 rfl) ?_
        refine lv_bipush (v := 7) hx hb dX10_findSign_120 (by decide) ?_
        refine lv_iload hx hb dX10_findSign_122 (lv_at hl 3 rfl) ?_
        refine lv_i2l hx hb dX10_findSign_124 rfl ?_
        refine lv_iload hx hb dX10_findSign_125 (lv_at hl 6 rfl) ?_
        refine x_Vv S hl.1 G (c_M_timesAll l D q A ad 7 a4_60.toInt64 b8_99 h_116 _ hw) (cw_X10_244 S.2.2.2.2 ⟨Nat.le_trans (Nat.le_of_ble_eq_true rfl) hR1, Nat.le_trans (Nat.le_of_ble_eq_true rfl) hR2⟩) (me_11 km_0) rfl rfl rfl (Nat.le_of_ble_eq_true rfl) dX10_findSign_127 (fun h_127 H locs G hw => ?_)
        refine lv_aload_n hx hb dX10_findSign_130 rfl (lv_at hl 0 rfl) ?_
        refine lv_bipush (v := 7) hx hb dX10_findSign_131 (by decide) ?_
        refine lv_bipush (v := 10) hx hb dX10_findSign_133 (by decide) ?_
        refine lv_iload hx hb dX10_findSign_135 (lv_at hl 3 rfl) ?_
        refine lv_isub hx hb dX10_findSign_137 ?_
        refine lv_i2l hx hb dX10_findSign_138 rfl ?_
        refine lv_iload_n hx hb dX10_findSign_139 rfl (lv_at hl 1 rfl) ?_
        refine lv_iload hx hb dX10_findSign_140 (lv_at hl 6 rfl) ?_
        refine lv_isub hx hb dX10_findSign_142 ?_
        refine x_Vv S hl.1 G (c_M_timesAll l D q A ad 7 ((10 - a4_60).toInt64) (r_27 - b8_99) h_127 _ hw) (cw_X10_244 S.2.2.2.2 ⟨Nat.le_trans (Nat.le_of_ble_eq_true rfl) hR1, Nat.le_trans (Nat.le_of_ble_eq_true rfl) hR2⟩) (me_11 km_0) rfl rfl rfl (Nat.le_of_ble_eq_true rfl) dX10_findSign_143 (fun h_143 H locs G hw => ?_)
        refine lv_aload_n hx hb dX10_findSign_146 rfl (lv_at hl 0 rfl) ?_
        refine lv_bipush (v := 7) hx hb dX10_findSign_147 (by decide) ?_
        refine lv_iload hx hb dX10_findSign_149 (lv_at hl 4 rfl) ?_
        refine lv_i2l hx hb dX10_findSign_151 rfl ?_
        refine lv_iload_n hx hb dX10_findSign_152 rfl (lv_at hl 2 rfl) ?_
        refine lv_iload hx hb dX10_findSign_153 (lv_at hl 6 rfl) ?_
        refine lv_isub hx hb dX10_findSign_155 ?_
        refine x_Vv S hl.1 G (c_M_timesAll l D q A ad 7 a5_84.toInt64 (a3_45 - b8_99) h_143 _ hw) (cw_X10_244 S.2.2.2.2 ⟨Nat.le_trans (Nat.le_of_ble_eq_true rfl) hR1, Nat.le_trans (Nat.le_of_ble_eq_true rfl) hR2⟩) (me_11 km_0) rfl rfl rfl (Nat.le_of_ble_eq_true rfl) dX10_findSign_156 (fun h_156 H locs G hw => ?_)
        refine lv_aload_n hx hb dX10_findSign_159 rfl (lv_at hl 0 rfl) ?_
        refine lv_bipush (v := 7) hx hb dX10_findSign_160 (by decide) ?_
        refine lv_bipush (v := 10) hx hb dX10_findSign_162 (by decide) ?_
        refine lv_iload hx hb dX10_findSign_164 (lv_at hl 4 rfl) ?_
        refine lv_isub hx hb dX10_findSign_166 ?_
        refine lv_i2l hx hb dX10_findSign_167 rfl ?_
        refine x_Vv S hl.1 G (c_M_times l D q A ad 7 ((10 - a5_84).toInt64) h_156 _ hw) (cw_X10_81 S.2.2.2.2 ⟨Nat.le_trans (Nat.le_of_ble_eq_true rfl) hR1, Nat.le_trans (Nat.le_of_ble_eq_true rfl) hR2⟩) (me_11 km_0) rfl rfl rfl (Nat.le_of_ble_eq_true rfl) dX10_findSign_168 (fun h_168 H locs G hw => ?_)
        refine lv_aload_n hx hb dX10_findSign_171 rfl (lv_at hl 0 rfl) ?_
        refine lv_bipush (v := 7) hx hb dX10_findSign_172 (by decide) ?_
        refine lv_ldc2 (v := 10) hx hb S.2.2.2.1 (S.2.2.2.2 _ kl_X10_209) dX10_findSign_174 ?_
        refine lv_iload hx hb dX10_findSign_177 (lv_at hl 6 rfl) ?_
        refine x_Vv S hl.1 G (c_M_timesAll l D q A ad 7 10 b8_99 h_168 _ hw) (cw_X10_244 S.2.2.2.2 ⟨Nat.le_trans (Nat.le_of_ble_eq_true rfl) hR1, Nat.le_trans (Nat.le_of_ble_eq_true rfl) hR2⟩) (me_11 km_0) rfl rfl rfl (Nat.le_of_ble_eq_true rfl) dX10_findSign_179 (fun h_179 H locs G hw => ?_)
        refine lv_aload_n hx hb dX10_findSign_182 rfl (lv_at hl 0 rfl) ?_
        refine lv_bipush (v := 11) hx hb dX10_findSign_183 (by decide) ?_
        refine lv_bipush (v := 7) hx hb dX10_findSign_185 (by decide) ?_
        refine x_Vv S hl.1 G (c_M_add l D q A ad 11 7 h_179 _ hw) (cw_X10_248 S.2.2.2.2 ⟨Nat.le_trans (Nat.le_of_ble_eq_true rfl) hR1, Nat.le_trans (Nat.le_of_ble_eq_true rfl) hR2⟩) (me_11 km_0) rfl rfl rfl (Nat.le_of_ble_eq_true rfl) dX10_findSign_187 (fun h_187 H locs G hw => ?_)
        refine lv_lload hx hb dX10_findSign_190 (lv_at hl 5 rfl) ?_
        refine lv_iload_n hx hb dX10_findSign_192 rfl (lv_at hl 1 rfl) ?_
        refine lv_iload hx hb dX10_findSign_193 (lv_at hl 6 rfl) ?_
        refine lv_isub hx hb dX10_findSign_195 ?_
        refine lv_i2l hx hb dX10_findSign_196 rfl ?_
        refine lv_lmul hx hb dX10_findSign_197 ?_
        refine lv_iload hx hb dX10_findSign_198 (lv_at hl 6 rfl) ?_
        refine lv_iconst (v := 1) hx hb dX10_findSign_200 (by decide) ?_
        refine lv_iadd hx hb dX10_findSign_201 ?_
        refine lv_i2l hx hb dX10_findSign_202 rfl ?_
        obtain ⟨n_203, hw⟩ := hw
        refine lv_ldiv hx hb dX10_findSign_203 n_203 ?_
        refine lv_topl (fun a6_204 ea6_204 => ?_)
        have hw := hw a6_204 ea6_204
        refine lv_lstore (lv' := [(6, .long a6_204), (0, .ref (ad 0)), (2, .int r_27), (3, .int a3_45), (4, .int a4_60), (5, .int a5_84), (8, .int b8_99)]) hx hb dX10_findSign_204 hl (by decide) rfl (fun ls hl => ?_)
        obtain ⟨a8_206, ea8_206⟩ : ∃ y : Int32, y = b8_99 + 1 := ⟨_, rfl⟩
        have hw := hw a8_206 ea8_206
        refine lv_iinc (v := a8_206) (lv' := [(8, .int a8_206), (6, .long a6_204), (0, .ref (ad 0)), (2, .int r_27), (3, .int a3_45), (4, .int a4_60), (5, .int a5_84)]) hx hb dX10_findSign_206 hl (k := 6) rfl (by rw [ea8_206]; rfl) (by decide) rfl (fun ls hl => ?_)
        refine lv_goto (tgt := 99) hx hb dX10_findSign_209 (by decide) ?_
        exact hw _ _ _ (lv_sub hl [2, 3, 4, 5, 6, 1, 0] rfl) G)
  exact hw _ _ _ (lv_sub hl [6, 5, 4, 3, 2, 1, 0] rfl) G
theorem cw_X10_260 {R : Room} {s : State} {args : Array Value} (hts : ∀ w ∈ gW, w.before args s = true) (hR : rm_M_findSign.frames + 1 ≤ R.frames ∧ 8 + (9 + 11) + rm_M_findSign.locals ≤ R.locals) : CallW R s args RX10 RX10 260 yX10_findSign cX10_findSign 9 none (mw yX10_findSign cX10_findSign 9 none) rm_M_findSign 0 0 1 := cwV9 hts km_X10_260 ki_X10_findSign ks_X10_findSign kn_X10 kk_X10_findSign rfl rfl (by decide +kernel) hR
abbrev rm_M_isSaidSo : Room := { frames := 1, cells := 0, slots := 0, locals := 22 }
set_option maxHeartbeats 4000000 in
set_option maxRecDepth 100000 in
theorem c_M_isSaidSo (l : Launch) (D : va_G) (q : Nat → ClassId) (A : Nat → Prop) (ad : Nat → Nat) (a1 : Int32) (h : Hs) (Q : Int32 → Prop) (hw : p_M_isSaidSo a1 h Q) : Met l yX10_isSaidSo (mw yX10_isSaidSo cX10_isSaidSo 2 (some .boolean)) rm_M_isSaidSo (va_Pc [.ref (ad 0), .int a1] (pW D q A (wM q ad h))) (va_Qi (fun r h9 => zb r ∧ h9 = h ∧ Q r) (fun h t => pW D q A (wM q ad h) t) A) 0 0 A := by
  refine met_z (Qp := (fun r h9 => h9 = h ∧ Q r)) (by decide) (Nat.le_of_ble_eq_true rfl) ?_
  intro p e R s m args below meth c Qm ls hR1 hR2 S RT hl G
  have hx := S.1
  have hb := S.2.1
  have hl : lv_has ls 2 [(0, .ref (ad 0)), (1, .int a1)] := hl
  unfold p_M_isSaidSo at hw
  refine lv_aload_n hx hb dX10_isSaidSo_0 rfl (lv_at hl 0 rfl) ?_
  refine lv_aload_n hx hb dX10_isSaidSo_1 rfl (lv_at hl 0 rfl) ?_
  refine x_get (C := RX10) (T := TX10) (n := 21) S G inX10 (me_11 km_0) rfl 0 (by decide) kf_X10_7 rfl dX10_isSaidSo_2 ?_
  refine lv_sipush (v := 545) hx hb dX10_isSaidSo_5 (by decide) ?_
  refine lv_iconst (v := 5) hx hb dX10_isSaidSo_8 (by decide) ?_
  refine lv_iload_n hx hb dX10_isSaidSo_9 rfl (lv_at hl 1 rfl) ?_
  refine lv_imul hx hb dX10_isSaidSo_10 ?_
  refine lv_iadd hx hb dX10_isSaidSo_11 ?_
  refine lv_iconst (v := 1) hx hb dX10_isSaidSo_12 (by decide) ?_
  refine lv_iadd hx hb dX10_isSaidSo_13 ?_
  obtain ⟨i_14, hw⟩ := hw
  refine x_iald (k := ((545 + (5 * a1)) + 1).toNatClampNeg) S G (me_20 km_1 lm_1) i_14 rfl rfl dX10_isSaidSo_14 ?_
  refine lv_aload_n hx hb dX10_isSaidSo_15 rfl (lv_at hl 0 rfl) ?_
  refine x_get (C := RX10) (T := TX10) (n := 21) S G inX10 (me_11 km_0) rfl 0 (by decide) kf_X10_7 rfl dX10_isSaidSo_16 ?_
  refine lv_sipush (v := 545) hx hb dX10_isSaidSo_19 (by decide) ?_
  refine lv_iconst (v := 5) hx hb dX10_isSaidSo_22 (by decide) ?_
  refine lv_iload_n hx hb dX10_isSaidSo_23 rfl (lv_at hl 1 rfl) ?_
  refine lv_imul hx hb dX10_isSaidSo_24 ?_
  refine lv_iadd hx hb dX10_isSaidSo_25 ?_
  refine lv_iconst (v := 2) hx hb dX10_isSaidSo_26 (by decide) ?_
  refine lv_iadd hx hb dX10_isSaidSo_27 ?_
  obtain ⟨i_28, hw⟩ := hw
  refine x_iald (k := ((545 + (5 * a1)) + 2).toNatClampNeg) S G (me_20 km_1 lm_1) i_28 rfl rfl dX10_isSaidSo_28 ?_
  refine x_ViP S hl.1 G (c_M_whereOf l D q A ad (gi h 1 (((545 + (5 * a1)) + 1).toNatClampNeg)) (gi h 1 (((545 + (5 * a1)) + 2).toNatClampNeg)) h _ hw) (cw_X10_232 S.2.2.2.2 ⟨Nat.le_trans (Nat.le_of_ble_eq_true rfl) hR1, Nat.le_trans (Nat.le_of_ble_eq_true rfl) hR2⟩) (me_11 km_0) rfl rfl rfl (Nat.le_of_ble_eq_true rfl) dX10_isSaidSo_29 (fun r_29 H locs G hw => ?_)
  refine lv_aload_n hx hb dX10_isSaidSo_32 rfl (lv_at hl 0 rfl) ?_
  refine x_get (C := RX10) (T := TX10) (n := 21) S G inX10 (me_11 km_0) rfl 0 (by decide) kf_X10_7 rfl dX10_isSaidSo_33 ?_
  refine lv_sipush (v := 545) hx hb dX10_isSaidSo_36 (by decide) ?_
  refine lv_iconst (v := 5) hx hb dX10_isSaidSo_39 (by decide) ?_
  refine lv_iload_n hx hb dX10_isSaidSo_40 rfl (lv_at hl 1 rfl) ?_
  refine lv_imul hx hb dX10_isSaidSo_41 ?_
  refine lv_iadd hx hb dX10_isSaidSo_42 ?_
  refine lv_iconst (v := 3) hx hb dX10_isSaidSo_43 (by decide) ?_
  refine lv_iadd hx hb dX10_isSaidSo_44 ?_
  obtain ⟨i_45, hw⟩ := hw
  refine x_iald (k := ((545 + (5 * a1)) + 3).toNatClampNeg) S G (me_20 km_1 lm_1) i_45 rfl rfl dX10_isSaidSo_45 ?_
  have hw := hw (fun (t0_54 : Int32) => ∀ (ls : Array Slot) (H : Heap) (locs : List Loc), lv_has ls 2 [] → okW D q A s (wM q ad h) H locs → W p l e R s m args below meth c H locs 0 0 Qm (F0 m 54 ls [.int t0_54])) (by
    intro t0_54 hw ls H locs hl G
    obtain ⟨z_54, hw⟩ := hw
    exact RT _ _ _ _ _ _ G z_54 ⟨rfl, hw⟩ dX10_isSaidSo_54)
  refine lv_icmp_ne (tgt := 53) hx hb dX10_isSaidSo_46 (by decide) (fun c_46 => ?_) (fun c_46 => ?_)
  · have hw := hw.1 c_46
    refine lv_iconst (v := 0) hx hb dX10_isSaidSo_53 (by decide) ?_
    exact hw _ _ _ (lv_sub hl [] rfl) G
  · have hw := hw.2 c_46
    refine lv_iconst (v := 1) hx hb dX10_isSaidSo_49 (by decide) ?_
    refine lv_goto (tgt := 54) hx hb dX10_isSaidSo_50 (by decide) ?_
    exact hw _ _ _ (lv_sub hl [] rfl) G
theorem cw_X10_257 {R : Room} {s : State} {args : Array Value} (hts : ∀ w ∈ gW, w.before args s = true) (hR : rm_M_isSaidSo.frames + 1 ≤ R.frames ∧ 8 + (2 + 11) + rm_M_isSaidSo.locals ≤ R.locals) : CallW R s args RX10 RX10 257 yX10_isSaidSo cX10_isSaidSo 2 (some .boolean) (mw yX10_isSaidSo cX10_isSaidSo 2 (some .boolean)) rm_M_isSaidSo 0 0 1 := cwV9 hts km_X10_257 ki_X10_isSaidSo ks_X10_isSaidSo kn_X10 kk_X10_isSaidSo rfl rfl (by decide +kernel) hR
abbrev rm_M_weigh : Room := { frames := 4, cells := 0, slots := 0, locals := 102 }
set_option maxHeartbeats 4000000 in
set_option maxRecDepth 100000 in
theorem c_M_weigh (l : Launch) (D : va_G) (q : Nat → ClassId) (A : Nat → Prop) (ad : Nat → Nat) (h : Hs) (Q : Hs → Prop) (hw : p_M_weigh h Q) : Met l yX10_weigh (mw yX10_weigh cX10_weigh 4 none) rm_M_weigh (va_Pc [.ref (ad 0)] (pW D q A (wM q ad h))) (va_Qv Q (fun h t => pW D q A (wM q ad h) t) A) 0 0 A := by
  refine met_v (Qp := Q) (by decide) (Nat.le_of_ble_eq_true rfl) ?_
  intro p e R s m args below meth c Qm ls hR1 hR2 S RT hl G
  have hx := S.1
  have hb := S.2.1
  have hl : lv_has ls 4 [(0, .ref (ad 0))] := hl
  unfold p_M_weigh at hw
  refine lv_aload_n hx hb dX10_weigh_0 rfl (lv_at hl 0 rfl) ?_
  refine lv_iconst (v := 4) hx hb dX10_weigh_1 (by decide) ?_
  refine lv_lconst (v := 1) hx hb dX10_weigh_2 (by decide) ?_
  refine x_Vv S hl.1 G (c_M_set l D q A ad 4 1 h _ hw) (cw_X10_51 S.2.2.2.2 ⟨Nat.le_trans (Nat.le_of_ble_eq_true rfl) hR1, Nat.le_trans (Nat.le_of_ble_eq_true rfl) hR2⟩) (me_11 km_0) rfl rfl rfl (Nat.le_of_ble_eq_true rfl) dX10_weigh_3 (fun h_3 H locs G hw => ?_)
  refine lv_iconst (v := 0) hx hb dX10_weigh_6 (by decide) ?_
  refine lv_istore_n (lv' := [(1, .int 0), (0, .ref (ad 0))]) hx hb dX10_weigh_7 rfl hl (by decide) rfl (fun ls hl => ?_)
  have hw := hw (fun (b1_8 : Int32) (g_8 : Hs) => ∀ (ls : Array Slot) (H : Heap) (locs : List Loc), lv_has ls 4 [(0, .ref (ad 0)), (1, .int b1_8)] → okW D q A s (wM q ad g_8) H locs → W p l e R s m args below meth c H locs 0 0 Qm (F0 m 8 ls [])) (by
    intro b1_8 g_8 hw ls H locs hl G
    refine lv_iload_n hx hb dX10_weigh_8 rfl (lv_at hl 1 rfl) ?_
    refine lv_aload_n hx hb dX10_weigh_9 rfl (lv_at hl 0 rfl) ?_
    refine x_ViP S hl.1 G (c_M_lots l D q A ad g_8 _ hw) (cw_X10_109 S.2.2.2.2 ⟨Nat.le_trans (Nat.le_of_ble_eq_true rfl) hR1, Nat.le_trans (Nat.le_of_ble_eq_true rfl) hR2⟩) (me_11 km_0) rfl rfl rfl (Nat.le_of_ble_eq_true rfl) dX10_weigh_10 (fun r_10 H locs G hw => ?_)
    refine lv_icmp_ge (tgt := 42) hx hb dX10_weigh_13 (by decide) (fun c_13 => ?_) (fun c_13 => ?_)
    · have hw := hw.1 c_13
      refine lv_aload_n hx hb dX10_weigh_42 rfl (lv_at hl 0 rfl) ?_
      refine x_ViP S hl.1 G (c_M_hungerOf l D q A ad g_8 _ hw) (cw_X10_251 S.2.2.2.2 ⟨Nat.le_trans (Nat.le_of_ble_eq_true rfl) hR1, Nat.le_trans (Nat.le_of_ble_eq_true rfl) hR2⟩) (me_11 km_0) rfl rfl rfl (Nat.le_of_ble_eq_true rfl) dX10_weigh_43 (fun r_43 H locs G hw => ?_)
      refine lv_istore_n (lv' := [(1, .int r_43), (0, .ref (ad 0))]) hx hb dX10_weigh_46 rfl hl (by decide) rfl (fun ls hl => ?_)
      refine lv_aload_n hx hb dX10_weigh_47 rfl (lv_at hl 1 rfl) ?_
      refine lv_iconst (v := 4) hx hb dX10_weigh_48 (by decide) ?_
      refine lv_aload_n hx hb dX10_weigh_49 rfl (lv_at hl 1 rfl) ?_
      refine x_get (C := RX10) (T := TX10) (n := 21) S G inX10 (me_11 km_0) rfl 0 (by decide) kf_X10_7 rfl dX10_weigh_50 ?_
      refine lv_bipush (v := 20) hx hb dX10_weigh_53 (by decide) ?_
      refine x_iald (k := 20) S G (me_20 km_1 lm_1) (vpi (by decide)) rfl rfl dX10_weigh_55 ?_
      refine lv_i2l hx hb dX10_weigh_56 rfl ?_
      refine lv_iload_n hx hb dX10_weigh_57 rfl (lv_at hl 0 rfl) ?_
      refine x_Vv S hl.1 G (c_M_timesAll l D q A ad 4 ((gi g_8 1 20).toInt64) r_43 g_8 _ hw) (cw_X10_244 S.2.2.2.2 ⟨Nat.le_trans (Nat.le_of_ble_eq_true rfl) hR1, Nat.le_trans (Nat.le_of_ble_eq_true rfl) hR2⟩) (me_11 km_0) rfl rfl rfl (Nat.le_of_ble_eq_true rfl) dX10_weigh_58 (fun h_58 H locs G hw => ?_)
      refine lv_aload_n hx hb dX10_weigh_61 rfl (lv_at hl 1 rfl) ?_
      refine lv_iconst (v := 4) hx hb dX10_weigh_62 (by decide) ?_
      refine lv_ldc2 (v := 9) hx hb S.2.2.2.1 (S.2.2.2.2 _ kl_X10_125) dX10_weigh_63 ?_
      refine lv_bipush (v := 60) hx hb dX10_weigh_66 (by decide) ?_
      refine lv_iload_n hx hb dX10_weigh_68 rfl (lv_at hl 0 rfl) ?_
      refine lv_isub hx hb dX10_weigh_69 ?_
      refine x_Vv S hl.1 G (c_M_timesAll l D q A ad 4 9 (60 - r_43) h_58 _ hw) (cw_X10_244 S.2.2.2.2 ⟨Nat.le_trans (Nat.le_of_ble_eq_true rfl) hR1, Nat.le_trans (Nat.le_of_ble_eq_true rfl) hR2⟩) (me_11 km_0) rfl rfl rfl (Nat.le_of_ble_eq_true rfl) dX10_weigh_70 (fun h_70 H locs G hw => ?_)
      refine lv_aload_n hx hb dX10_weigh_73 rfl (lv_at hl 1 rfl) ?_
      refine x_get (C := RX10) (T := TX10) (n := 21) S G inX10 (me_11 km_0) rfl 0 (by decide) kf_X10_7 rfl dX10_weigh_74 ?_
      refine lv_sipush (v := 542) hx hb dX10_weigh_77 (by decide) ?_
      refine x_iald (k := 542) S G (me_20 km_1 lm_1) (vpi (by decide)) rfl rfl dX10_weigh_80 ?_
      refine lv_iconst (v := 1) hx hb dX10_weigh_81 (by decide) ?_
      have hw := hw (fun (g_183 : Hs) => ∀ (ls : Array Slot) (H : Heap) (locs : List Loc), lv_has ls 4 [(0, .ref (ad 0))] → okW D q A s (wM q ad g_183) H locs → W p l e R s m args below meth c H locs 0 0 Qm (F0 m 183 ls [])) (by
        intro g_183 hw ls H locs hl G
        refine lv_iconst (v := 0) hx hb dX10_weigh_183 (by decide) ?_
        refine lv_istore_n (lv' := [(2, .int 0), (0, .ref (ad 0))]) hx hb dX10_weigh_184 rfl hl (by decide) rfl (fun ls hl => ?_)
        have hw := hw (fun (b2_185 : Int32) (g_185 : Hs) => ∀ (ls : Array Slot) (H : Heap) (locs : List Loc), lv_has ls 4 [(0, .ref (ad 0)), (2, .int b2_185)] → okW D q A s (wM q ad g_185) H locs → W p l e R s m args below meth c H locs 0 0 Qm (F0 m 185 ls [])) (by
          intro b2_185 g_185 hw ls H locs hl G
          refine lv_iload_n hx hb dX10_weigh_185 rfl (lv_at hl 1 rfl) ?_
          refine lv_aload_n hx hb dX10_weigh_186 rfl (lv_at hl 0 rfl) ?_
          refine x_ViP S hl.1 G (c_M_tellers l D q A ad g_185 _ hw) (cw_X10_229 S.2.2.2.2 ⟨Nat.le_trans (Nat.le_of_ble_eq_true rfl) hR1, Nat.le_trans (Nat.le_of_ble_eq_true rfl) hR2⟩) (me_11 km_0) rfl rfl rfl (Nat.le_of_ble_eq_true rfl) dX10_weigh_187 (fun r_187 H locs G hw => ?_)
          refine lv_icmp_ge (tgt := 249) hx hb dX10_weigh_190 (by decide) (fun c_190 => ?_) (fun c_190 => ?_)
          · have hw := hw.1 c_190
            refine lv_iconst (v := 0) hx hb dX10_weigh_249 (by decide) ?_
            refine lv_istore_n (lv' := [(2, .int 0), (0, .ref (ad 0))]) hx hb dX10_weigh_250 rfl hl (by decide) rfl (fun ls hl => ?_)
            have hw := hw (fun (b2_251 : Int32) (g_251 : Hs) => ∀ (ls : Array Slot) (H : Heap) (locs : List Loc), lv_has ls 4 [(0, .ref (ad 0)), (2, .int b2_251)] → okW D q A s (wM q ad g_251) H locs → W p l e R s m args below meth c H locs 0 0 Qm (F0 m 251 ls [])) (by
              intro b2_251 g_251 hw ls H locs hl G
              refine lv_iload_n hx hb dX10_weigh_251 rfl (lv_at hl 1 rfl) ?_
              refine lv_aload_n hx hb dX10_weigh_252 rfl (lv_at hl 0 rfl) ?_
              refine x_ViP S hl.1 G (c_M_signs l D q A ad g_251 _ hw) (cw_X10_215 S.2.2.2.2 ⟨Nat.le_trans (Nat.le_of_ble_eq_true rfl) hR1, Nat.le_trans (Nat.le_of_ble_eq_true rfl) hR2⟩) (me_11 km_0) rfl rfl rfl (Nat.le_of_ble_eq_true rfl) dX10_weigh_253 (fun r_253 H locs G hw => ?_)
              refine lv_icmp_ge (tgt := 284) hx hb dX10_weigh_256 (by decide) (fun c_256 => ?_) (fun c_256 => ?_)
              · have hw := hw.1 c_256
                exact RT _ _ _ _ _ G hw dX10_weigh_284
              · have hw := hw.2 c_256
                refine lv_aload_n hx hb dX10_weigh_259 rfl (lv_at hl 0 rfl) ?_
                refine lv_iload_n hx hb dX10_weigh_260 rfl (lv_at hl 1 rfl) ?_
                refine x_Vv S hl.1 G (c_M_findSign l D q A ad b2_251 g_251 _ hw) (cw_X10_260 S.2.2.2.2 ⟨Nat.le_trans (Nat.le_of_ble_eq_true rfl) hR1, Nat.le_trans (Nat.le_of_ble_eq_true rfl) hR2⟩) (me_11 km_0) rfl rfl rfl (Nat.le_of_ble_eq_true rfl) dX10_weigh_261 (fun h_261 H locs G hw => ?_)
                refine lv_aload_n hx hb dX10_weigh_264 rfl (lv_at hl 0 rfl) ?_
                refine lv_iconst (v := 2) hx hb dX10_weigh_265 (by decide) ?_
                refine lv_iconst (v := 4) hx hb dX10_weigh_266 (by decide) ?_
                refine lv_bipush (v := 11) hx hb dX10_weigh_267 (by decide) ?_
                refine x_Vv S hl.1 G (c_M_product l D q A ad 2 4 11 h_261 _ hw) (cw_X10_263 S.2.2.2.2 ⟨Nat.le_trans (Nat.le_of_ble_eq_true rfl) hR1, Nat.le_trans (Nat.le_of_ble_eq_true rfl) hR2⟩) (me_11 km_0) rfl rfl rfl (Nat.le_of_ble_eq_true rfl) dX10_weigh_269 (fun h_269 H locs G hw => ?_)
                refine lv_aload_n hx hb dX10_weigh_272 rfl (lv_at hl 0 rfl) ?_
                refine lv_iconst (v := 4) hx hb dX10_weigh_273 (by decide) ?_
                refine lv_iconst (v := 2) hx hb dX10_weigh_274 (by decide) ?_
                refine x_Vv S hl.1 G (c_M_copy l D q A ad 4 2 h_269 _ hw) (cw_X10_63 S.2.2.2.2 ⟨Nat.le_trans (Nat.le_of_ble_eq_true rfl) hR1, Nat.le_trans (Nat.le_of_ble_eq_true rfl) hR2⟩) (me_11 km_0) rfl rfl rfl (Nat.le_of_ble_eq_true rfl) dX10_weigh_275 (fun h_275 H locs G hw => ?_)
                obtain ⟨a2_278, ea2_278⟩ : ∃ y : Int32, y = b2_251 + 1 := ⟨_, rfl⟩
                have hw := hw a2_278 ea2_278
                refine lv_iinc (v := a2_278) (lv' := [(2, .int a2_278), (0, .ref (ad 0))]) hx hb dX10_weigh_278 hl (k := 1) rfl (by rw [ea2_278]; rfl) (by decide) rfl (fun ls hl => ?_)
                refine lv_goto (tgt := 251) hx hb dX10_weigh_281 (by decide) ?_
                exact hw _ _ _ (lv_sub hl [1, 0] rfl) G)
            exact hw _ _ _ (lv_sub hl [1, 0] rfl) G
          · have hw := hw.2 c_190
            refine lv_aload_n hx hb dX10_weigh_193 rfl (lv_at hl 0 rfl) ?_
            refine x_get (C := RX10) (T := TX10) (n := 21) S G inX10 (me_11 km_0) rfl 0 (by decide) kf_X10_7 rfl dX10_weigh_194 ?_
            refine lv_sipush (v := 545) hx hb dX10_weigh_197 (by decide) ?_
            refine lv_iconst (v := 5) hx hb dX10_weigh_200 (by decide) ?_
            refine lv_iload_n hx hb dX10_weigh_201 rfl (lv_at hl 1 rfl) ?_
            refine lv_imul hx hb dX10_weigh_202 ?_
            refine lv_iadd hx hb dX10_weigh_203 ?_
            refine lv_iconst (v := 4) hx hb dX10_weigh_204 (by decide) ?_
            refine lv_iadd hx hb dX10_weigh_205 ?_
            obtain ⟨i_206, hw⟩ := hw
            refine x_iald (k := ((545 + (5 * b2_185)) + 4).toNatClampNeg) S G (me_20 km_1 lm_1) i_206 rfl rfl dX10_weigh_206 ?_
            refine lv_topi (fun a3_207 ea3_207 => ?_)
            have hw := hw a3_207 ea3_207
            refine lv_istore_n (lv' := [(3, .int a3_207), (0, .ref (ad 0)), (2, .int b2_185)]) hx hb dX10_weigh_207 rfl hl (by decide) rfl (fun ls hl => ?_)
            refine lv_aload_n hx hb dX10_weigh_208 rfl (lv_at hl 1 rfl) ?_
            refine lv_iconst (v := 4) hx hb dX10_weigh_209 (by decide) ?_
            refine lv_aload_n hx hb dX10_weigh_210 rfl (lv_at hl 1 rfl) ?_
            refine lv_iload_n hx hb dX10_weigh_211 rfl (lv_at hl 2 rfl) ?_
            refine x_VzP S hl.1 G (c_M_isHeard l D q A ad b2_185 g_185 _ hw) (cw_X10_254 S.2.2.2.2 ⟨Nat.le_trans (Nat.le_of_ble_eq_true rfl) hR1, Nat.le_trans (Nat.le_of_ble_eq_true rfl) hR2⟩) (me_11 km_0) rfl rfl rfl (Nat.le_of_ble_eq_true rfl) dX10_weigh_212 (fun r_212 H locs G z_212 hw => ?_)
            have hw := hw (fun (t2_240 : Int64) => ∀ (ls : Array Slot) (H : Heap) (locs : List Loc), lv_has ls 4 [(0, .ref (ad 0)), (2, .int b2_185)] → okW D q A s (wM q ad g_185) H locs → W p l e R s m args below meth c H locs 0 0 Qm (F0 m 240 ls [.long t2_240, .int 4, .ref (ad 0)])) (by
              intro t2_240 hw ls H locs hl G
              refine x_Vv S hl.1 G (c_M_times l D q A ad 4 t2_240 g_185 _ hw) (cw_X10_81 S.2.2.2.2 ⟨Nat.le_trans (Nat.le_of_ble_eq_true rfl) hR1, Nat.le_trans (Nat.le_of_ble_eq_true rfl) hR2⟩) (me_11 km_0) rfl rfl rfl (Nat.le_of_ble_eq_true rfl) dX10_weigh_240 (fun h_240 H locs G hw => ?_)
              obtain ⟨a2_243, ea2_243⟩ : ∃ y : Int32, y = b2_185 + 1 := ⟨_, rfl⟩
              have hw := hw a2_243 ea2_243
              refine lv_iinc (v := a2_243) (lv' := [(2, .int a2_243), (0, .ref (ad 0))]) hx hb dX10_weigh_243 hl (k := 1) rfl (by rw [ea2_243]; rfl) (by decide) rfl (fun ls hl => ?_)
              refine lv_goto (tgt := 185) hx hb dX10_weigh_246 (by decide) ?_
              exact hw _ _ _ (lv_sub hl [1, 0] rfl) G)
            refine lv_if_ne (tgt := 222) hx hb dX10_weigh_215 (by decide) (fun c_215 => ?_) (fun c_215 => ?_)
            · have hw := hw.1 c_215
              refine lv_aload_n hx hb dX10_weigh_222 rfl (lv_at hl 1 rfl) ?_
              refine lv_iload_n hx hb dX10_weigh_223 rfl (lv_at hl 2 rfl) ?_
              refine x_VzP S hl.1 G (c_M_isSaidSo l D q A ad b2_185 g_185 _ hw) (cw_X10_257 S.2.2.2.2 ⟨Nat.le_trans (Nat.le_of_ble_eq_true rfl) hR1, Nat.le_trans (Nat.le_of_ble_eq_true rfl) hR2⟩) (me_11 km_0) rfl rfl rfl (Nat.le_of_ble_eq_true rfl) dX10_weigh_224 (fun r_224 H locs G z_224 hw => ?_)
              refine lv_if_eq (tgt := 235) hx hb dX10_weigh_227 (by decide) (fun c_227 => ?_) (fun c_227 => ?_)
              · have hw := hw.1 c_227
                refine lv_bipush (v := 10) hx hb dX10_weigh_235 (by decide) ?_
                refine lv_iload_n hx hb dX10_weigh_237 rfl (lv_at hl 0 rfl) ?_
                refine lv_isub hx hb dX10_weigh_238 ?_
                refine lv_i2l hx hb dX10_weigh_239 rfl ?_
                exact hw _ _ _ (lv_sub hl [1, 2] rfl) G
              · have hw := hw.2 c_227
                refine lv_iload_n hx hb dX10_weigh_230 rfl (lv_at hl 0 rfl) ?_
                refine lv_i2l hx hb dX10_weigh_231 rfl ?_
                refine lv_goto (tgt := 240) hx hb dX10_weigh_232 (by decide) ?_
                exact hw _ _ _ (lv_sub hl [1, 2] rfl) G
            · have hw := hw.2 c_215
              refine lv_lconst (v := 1) hx hb dX10_weigh_218 (by decide) ?_
              refine lv_goto (tgt := 240) hx hb dX10_weigh_219 (by decide) ?_
              exact hw _ _ _ (lv_sub hl [1, 2] rfl) G)
        exact hw _ _ _ (lv_sub hl [1, 0] rfl) G)
      refine lv_icmp_ne (tgt := 183) hx hb dX10_weigh_82 (by decide) (fun c_82 => ?_) (fun c_82 => ?_)
      · have hw := hw.1 c_82
        exact hw _ _ _ (lv_sub hl [1] rfl) G
      · have hw := hw.2 c_82
        refine lv_aload_n hx hb dX10_weigh_85 rfl (lv_at hl 1 rfl) ?_
        refine x_ViP S hl.1 G (c_M_lots l D q A ad h_70 _ hw) (cw_X10_109 S.2.2.2.2 ⟨Nat.le_trans (Nat.le_of_ble_eq_true rfl) hR1, Nat.le_trans (Nat.le_of_ble_eq_true rfl) hR2⟩) (me_11 km_0) rfl rfl rfl (Nat.le_of_ble_eq_true rfl) dX10_weigh_86 (fun r_86 H locs G hw => ?_)
        refine lv_if_le (tgt := 183) hx hb dX10_weigh_89 (by decide) (fun c_89 => ?_) (fun c_89 => ?_)
        · have hw := hw.1 c_89
          exact hw _ _ _ (lv_sub hl [1] rfl) G
        · have hw := hw.2 c_89
          refine lv_aload_n hx hb dX10_weigh_92 rfl (lv_at hl 1 rfl) ?_
          refine x_get (C := RX10) (T := TX10) (n := 21) S G inX10 (me_11 km_0) rfl 0 (by decide) kf_X10_7 rfl dX10_weigh_93 ?_
          refine lv_bipush (v := 21) hx hb dX10_weigh_96 (by decide) ?_
          refine x_iald (k := 21) S G (me_20 km_1 lm_1) (vpi (by decide)) rfl rfl dX10_weigh_98 ?_
          refine lv_topi (fun a2_99 ea2_99 => ?_)
          have hw := hw a2_99 ea2_99
          refine lv_istore_n (lv' := [(2, .int a2_99), (1, .int r_43), (0, .ref (ad 0))]) hx hb dX10_weigh_99 rfl hl (by decide) rfl (fun ls hl => ?_)
          refine lv_aload_n hx hb dX10_weigh_100 rfl (lv_at hl 2 rfl) ?_
          refine lv_iconst (v := 4) hx hb dX10_weigh_101 (by decide) ?_
          refine lv_aload_n hx hb dX10_weigh_102 rfl (lv_at hl 2 rfl) ?_
          refine x_get (C := RX10) (T := TX10) (n := 21) S G inX10 (me_11 km_0) rfl 13 (by decide) kf_X10_33 rfl dX10_weigh_103 ?_
          refine lv_aload_n hx hb dX10_weigh_106 rfl (lv_at hl 2 rfl) ?_
          refine x_get (C := RX10) (T := TX10) (n := 21) S G inX10 (me_11 km_0) rfl 18 (by decide) kf_X10_42 rfl dX10_weigh_107 ?_
          refine lv_iconst (v := 0) hx hb dX10_weigh_110 (by decide) ?_
          refine x_iald (k := 0) S G (me_20 km_11 lm_11) (vpi (by decide)) rfl rfl dX10_weigh_111 ?_
          obtain ⟨i_112, hw⟩ := hw
          refine x_iald (k := (gi h_70 11 0).toNatClampNeg) S G (me_20 km_8 lm_8) i_112 rfl rfl dX10_weigh_112 ?_
          refine lv_aload_n hx hb dX10_weigh_113 rfl (lv_at hl 2 rfl) ?_
          refine x_get (C := RX10) (T := TX10) (n := 21) S G inX10 (me_11 km_0) rfl 0 (by decide) kf_X10_7 rfl dX10_weigh_114 ?_
          refine lv_sipush (v := 543) hx hb dX10_weigh_117 (by decide) ?_
          refine x_iald (k := 543) S G (me_20 km_1 lm_1) (vpi (by decide)) rfl rfl dX10_weigh_120 ?_
          have hw := hw (fun (t2_134 : Int64) => ∀ (ls : Array Slot) (H : Heap) (locs : List Loc), lv_has ls 4 [(0, .ref (ad 0)), (2, .int a2_99)] → okW D q A s (wM q ad h_70) H locs → W p l e R s m args below meth c H locs 0 0 Qm (F0 m 134 ls [.long t2_134, .int 4, .ref (ad 0)])) (by
            intro t2_134 hw ls H locs hl G
            refine x_Vv S hl.1 G (c_M_times l D q A ad 4 t2_134 h_70 _ hw) (cw_X10_81 S.2.2.2.2 ⟨Nat.le_trans (Nat.le_of_ble_eq_true rfl) hR1, Nat.le_trans (Nat.le_of_ble_eq_true rfl) hR2⟩) (me_11 km_0) rfl rfl rfl (Nat.le_of_ble_eq_true rfl) dX10_weigh_134 (fun h_134 H locs G hw => ?_)
            refine lv_aload_n hx hb dX10_weigh_137 rfl (lv_at hl 0 rfl) ?_
            refine lv_iconst (v := 4) hx hb dX10_weigh_138 (by decide) ?_
            refine lv_aload_n hx hb dX10_weigh_139 rfl (lv_at hl 0 rfl) ?_
            refine x_get (C := RX10) (T := TX10) (n := 21) S G inX10 (me_11 km_0) rfl 14 (by decide) kf_X10_36 rfl dX10_weigh_140 ?_
            refine lv_aload_n hx hb dX10_weigh_143 rfl (lv_at hl 0 rfl) ?_
            refine x_get (C := RX10) (T := TX10) (n := 21) S G inX10 (me_11 km_0) rfl 18 (by decide) kf_X10_42 rfl dX10_weigh_144 ?_
            refine lv_iconst (v := 0) hx hb dX10_weigh_147 (by decide) ?_
            refine x_iald (k := 0) S G (me_20 km_11 lm_11) (vpi (by decide)) rfl rfl dX10_weigh_148 ?_
            obtain ⟨i_149, hw⟩ := hw
            refine x_zald (k := (gi h_134 11 0).toNatClampNeg) S G (me_21 km_9 lm_9) i_149 rfl rfl dX10_weigh_149 ?_
            refine lv_aload_n hx hb dX10_weigh_150 rfl (lv_at hl 0 rfl) ?_
            refine x_get (C := RX10) (T := TX10) (n := 21) S G inX10 (me_11 km_0) rfl 0 (by decide) kf_X10_7 rfl dX10_weigh_151 ?_
            refine lv_sipush (v := 544) hx hb dX10_weigh_154 (by decide) ?_
            refine x_iald (k := 544) S G (me_20 km_1 lm_1) (vpi (by decide)) rfl rfl dX10_weigh_157 ?_
            refine lv_iconst (v := 1) hx hb dX10_weigh_158 (by decide) ?_
            have hw := hw (fun (t3_167 : Int32) => ∀ (ls : Array Slot) (H : Heap) (locs : List Loc), lv_has ls 4 [(0, .ref (ad 0)), (2, .int a2_99)] → okW D q A s (wM q ad h_134) H locs → W p l e R s m args below meth c H locs 0 0 Qm (F0 m 167 ls [.int t3_167, .int (gi h_134 9 ((gi h_134 11 0).toNatClampNeg)), .int 4, .ref (ad 0)])) (by
              intro t3_167 hw ls H locs hl G
              have hw := hw (fun (t2_180 : Int64) => ∀ (ls : Array Slot) (H : Heap) (locs : List Loc), lv_has ls 4 [(0, .ref (ad 0))] → okW D q A s (wM q ad h_134) H locs → W p l e R s m args below meth c H locs 0 0 Qm (F0 m 180 ls [.long t2_180, .int 4, .ref (ad 0)])) (by
                intro t2_180 hw ls H locs hl G
                refine x_Vv S hl.1 G (c_M_times l D q A ad 4 t2_180 h_134 _ hw) (cw_X10_81 S.2.2.2.2 ⟨Nat.le_trans (Nat.le_of_ble_eq_true rfl) hR1, Nat.le_trans (Nat.le_of_ble_eq_true rfl) hR2⟩) (me_11 km_0) rfl rfl rfl (Nat.le_of_ble_eq_true rfl) dX10_weigh_180 (fun h_180 H locs G hw => ?_)
                exact hw _ _ _ (lv_sub hl [0] rfl) G)
              refine lv_icmp_ne (tgt := 175) hx hb dX10_weigh_167 (by decide) (fun c_167 => ?_) (fun c_167 => ?_)
              · have hw := hw.1 c_167
                refine lv_bipush (v := 10) hx hb dX10_weigh_175 (by decide) ?_
                refine lv_iload_n hx hb dX10_weigh_177 rfl (lv_at hl 1 rfl) ?_
                refine lv_isub hx hb dX10_weigh_178 ?_
                refine lv_i2l hx hb dX10_weigh_179 rfl ?_
                exact hw _ _ _ (lv_sub hl [0] rfl) G
              · have hw := hw.2 c_167
                refine lv_iload_n hx hb dX10_weigh_170 rfl (lv_at hl 1 rfl) ?_
                refine lv_i2l hx hb dX10_weigh_171 rfl ?_
                refine lv_goto (tgt := 180) hx hb dX10_weigh_172 (by decide) ?_
                exact hw _ _ _ (lv_sub hl [0] rfl) G)
            refine lv_icmp_ne (tgt := 166) hx hb dX10_weigh_159 (by decide) (fun c_159 => ?_) (fun c_159 => ?_)
            · have hw := hw.1 c_159
              refine lv_iconst (v := 0) hx hb dX10_weigh_166 (by decide) ?_
              exact hw _ _ _ (lv_sub hl [0, 1] rfl) G
            · have hw := hw.2 c_159
              refine lv_iconst (v := 1) hx hb dX10_weigh_162 (by decide) ?_
              refine lv_goto (tgt := 167) hx hb dX10_weigh_163 (by decide) ?_
              exact hw _ _ _ (lv_sub hl [0, 1] rfl) G)
          refine lv_icmp_ne (tgt := 129) hx hb dX10_weigh_121 (by decide) (fun c_121 => ?_) (fun c_121 => ?_)
          · have hw := hw.1 c_121
            refine lv_bipush (v := 10) hx hb dX10_weigh_129 (by decide) ?_
            refine lv_iload_n hx hb dX10_weigh_131 rfl (lv_at hl 0 rfl) ?_
            refine lv_isub hx hb dX10_weigh_132 ?_
            refine lv_i2l hx hb dX10_weigh_133 rfl ?_
            exact hw _ _ _ (lv_sub hl [2, 0] rfl) G
          · have hw := hw.2 c_121
            refine lv_iload_n hx hb dX10_weigh_124 rfl (lv_at hl 0 rfl) ?_
            refine lv_i2l hx hb dX10_weigh_125 rfl ?_
            refine lv_goto (tgt := 134) hx hb dX10_weigh_126 (by decide) ?_
            exact hw _ _ _ (lv_sub hl [2, 0] rfl) G
    · have hw := hw.2 c_13
      refine lv_aload_n hx hb dX10_weigh_16 rfl (lv_at hl 0 rfl) ?_
      refine lv_iconst (v := 4) hx hb dX10_weigh_17 (by decide) ?_
      refine lv_aload_n hx hb dX10_weigh_18 rfl (lv_at hl 0 rfl) ?_
      refine x_get (C := RX10) (T := TX10) (n := 21) S G inX10 (me_11 km_0) rfl 0 (by decide) kf_X10_7 rfl dX10_weigh_19 ?_
      refine lv_bipush (v := 30) hx hb dX10_weigh_22 (by decide) ?_
      refine lv_aload_n hx hb dX10_weigh_24 rfl (lv_at hl 0 rfl) ?_
      refine x_get (C := RX10) (T := TX10) (n := 21) S G inX10 (me_11 km_0) rfl 18 (by decide) kf_X10_42 rfl dX10_weigh_25 ?_
      refine lv_iload_n hx hb dX10_weigh_28 rfl (lv_at hl 1 rfl) ?_
      obtain ⟨i_29, hw⟩ := hw
      refine x_iald (k := b1_8.toNatClampNeg) S G (me_20 km_11 lm_11) i_29 rfl rfl dX10_weigh_29 ?_
      refine lv_iadd hx hb dX10_weigh_30 ?_
      obtain ⟨i_31, hw⟩ := hw
      refine x_iald (k := (30 + (gi g_8 11 b1_8.toNatClampNeg)).toNatClampNeg) S G (me_20 km_1 lm_1) i_31 rfl rfl dX10_weigh_31 ?_
      refine lv_i2l hx hb dX10_weigh_32 rfl ?_
      refine x_Vv S hl.1 G (c_M_times l D q A ad 4 ((gi g_8 1 ((30 + (gi g_8 11 b1_8.toNatClampNeg)).toNatClampNeg)).toInt64) g_8 _ hw) (cw_X10_81 S.2.2.2.2 ⟨Nat.le_trans (Nat.le_of_ble_eq_true rfl) hR1, Nat.le_trans (Nat.le_of_ble_eq_true rfl) hR2⟩) (me_11 km_0) rfl rfl rfl (Nat.le_of_ble_eq_true rfl) dX10_weigh_33 (fun h_33 H locs G hw => ?_)
      obtain ⟨a1_36, ea1_36⟩ : ∃ y : Int32, y = b1_8 + 1 := ⟨_, rfl⟩
      have hw := hw a1_36 ea1_36
      refine lv_iinc (v := a1_36) (lv' := [(1, .int a1_36), (0, .ref (ad 0))]) hx hb dX10_weigh_36 hl (k := 1) rfl (by rw [ea1_36]; rfl) (by decide) rfl (fun ls hl => ?_)
      refine lv_goto (tgt := 8) hx hb dX10_weigh_39 (by decide) ?_
      exact hw _ _ _ (lv_sub hl [1, 0] rfl) G)
  exact hw _ _ _ (lv_sub hl [1, 0] rfl) G
theorem cw_X10_276 {R : Room} {s : State} {args : Array Value} (hts : ∀ w ∈ gW, w.before args s = true) (hR : rm_M_weigh.frames + 1 ≤ R.frames ∧ 8 + (4 + 11) + rm_M_weigh.locals ≤ R.locals) : CallW R s args RX10 RX10 276 yX10_weigh cX10_weigh 4 none (mw yX10_weigh cX10_weigh 4 none) rm_M_weigh 0 0 0 := cwV9 hts km_X10_276 ki_X10_weigh ks_X10_weigh kn_X10 kk_X10_weigh rfl rfl (by decide +kernel) hR
abbrev rm_M_worlds : Room := { frames := 1, cells := 0, slots := 0, locals := 20 }
set_option maxHeartbeats 4000000 in
set_option maxRecDepth 100000 in
theorem c_M_worlds (l : Launch) (D : va_G) (q : Nat → ClassId) (A : Nat → Prop) (ad : Nat → Nat) (h : Hs) (Q : Int32 → Prop) (hw : p_M_worlds h Q) : Met l yX10_worlds (mw yX10_worlds cX10_worlds 3 (some .int)) rm_M_worlds (va_Pc [.ref (ad 0)] (pW D q A (wM q ad h))) (va_Qi (fun r h9 => h9 = h ∧ Q r) (fun h t => pW D q A (wM q ad h) t) A) 0 0 A := by
  refine met_i (Qp := (fun r h9 => h9 = h ∧ Q r)) (by decide) (Nat.le_of_ble_eq_true rfl) ?_
  intro p e R s m args below meth c Qm ls hR1 hR2 S RT hl G
  have hx := S.1
  have hb := S.2.1
  have hl : lv_has ls 3 [(0, .ref (ad 0))] := hl
  unfold p_M_worlds at hw
  refine lv_iconst (v := 1) hx hb dX10_worlds_0 (by decide) ?_
  refine lv_istore_n (lv' := [(1, .int 1), (0, .ref (ad 0))]) hx hb dX10_worlds_1 rfl hl (by decide) rfl (fun ls hl => ?_)
  refine lv_iconst (v := 0) hx hb dX10_worlds_2 (by decide) ?_
  refine lv_istore_n (lv' := [(2, .int 0), (1, .int 1), (0, .ref (ad 0))]) hx hb dX10_worlds_3 rfl hl (by decide) rfl (fun ls hl => ?_)
  have hw := hw (fun (b1_4 : Int32) (b2_4 : Int32) => ∀ (ls : Array Slot) (H : Heap) (locs : List Loc), lv_has ls 3 [(0, .ref (ad 0)), (1, .int b1_4), (2, .int b2_4)] → okW D q A s (wM q ad h) H locs → W p l e R s m args below meth c H locs 0 0 Qm (F0 m 4 ls [])) (by
    intro b1_4 b2_4 hw ls H locs hl G
    refine lv_iload_n hx hb dX10_worlds_4 rfl (lv_at hl 2 rfl) ?_
    refine lv_aload_n hx hb dX10_worlds_5 rfl (lv_at hl 0 rfl) ?_
    refine x_ViP S hl.1 G (c_M_lots l D q A ad h _ hw) (cw_X10_109 S.2.2.2.2 ⟨Nat.le_trans (Nat.le_of_ble_eq_true rfl) hR1, Nat.le_trans (Nat.le_of_ble_eq_true rfl) hR2⟩) (me_11 km_0) rfl rfl rfl (Nat.le_of_ble_eq_true rfl) dX10_worlds_6 (fun r_6 H locs G hw => ?_)
    refine lv_icmp_ge (tgt := 22) hx hb dX10_worlds_9 (by decide) (fun c_9 => ?_) (fun c_9 => ?_)
    · have hw := hw.1 c_9
      refine lv_iload_n hx hb dX10_worlds_22 rfl (lv_at hl 1 rfl) ?_
      exact RT _ _ _ _ _ _ G ⟨rfl, hw⟩ dX10_worlds_23
    · have hw := hw.2 c_9
      refine lv_iload_n hx hb dX10_worlds_12 rfl (lv_at hl 1 rfl) ?_
      refine lv_iconst (v := 4) hx hb dX10_worlds_13 (by decide) ?_
      refine lv_imul hx hb dX10_worlds_14 ?_
      refine lv_topi (fun a1_15 ea1_15 => ?_)
      have hw := hw a1_15 ea1_15
      refine lv_istore_n (lv' := [(1, .int a1_15), (0, .ref (ad 0)), (2, .int b2_4)]) hx hb dX10_worlds_15 rfl hl (by decide) rfl (fun ls hl => ?_)
      obtain ⟨a2_16, ea2_16⟩ : ∃ y : Int32, y = b2_4 + 1 := ⟨_, rfl⟩
      have hw := hw a2_16 ea2_16
      refine lv_iinc (v := a2_16) (lv' := [(2, .int a2_16), (1, .int a1_15), (0, .ref (ad 0))]) hx hb dX10_worlds_16 hl (k := 2) rfl (by rw [ea2_16]; rfl) (by decide) rfl (fun ls hl => ?_)
      refine lv_goto (tgt := 4) hx hb dX10_worlds_19 (by decide) ?_
      exact hw _ _ _ (lv_sub hl [2, 1, 0] rfl) G)
  exact hw _ _ _ (lv_sub hl [2, 1, 0] rfl) G
theorem cw_X10_270 {R : Room} {s : State} {args : Array Value} (hts : ∀ w ∈ gW, w.before args s = true) (hR : rm_M_worlds.frames + 1 ≤ R.frames ∧ 8 + (3 + 11) + rm_M_worlds.locals ≤ R.locals) : CallW R s args RX10 RX10 270 yX10_worlds cX10_worlds 3 (some .int) (mw yX10_worlds cX10_worlds 3 (some .int)) rm_M_worlds 0 0 0 := cwV9 hts km_X10_270 ki_X10_worlds ks_X10_worlds kn_X10 kk_X10_worlds rfl rfl (by decide +kernel) hR
abbrev rm_M_laysWorld : Room := { frames := 1, cells := 0, slots := 0, locals := 20 }
set_option maxHeartbeats 4000000 in
set_option maxRecDepth 100000 in
theorem c_M_laysWorld (l : Launch) (D : va_G) (q : Nat → ClassId) (A : Nat → Prop) (ad : Nat → Nat) (a1 : Int32) (h : Hs) (Q : Int32 → Hs → Prop) (hw : p_M_laysWorld a1 h Q) : Met l yX10_laysWorld (mw yX10_laysWorld cX10_laysWorld 5 (some .boolean)) rm_M_laysWorld (va_Pc [.ref (ad 0), .int a1] (pW D q A (wM q ad h))) (va_Qi (fun r h9 => zb r ∧ Q r h9) (fun h t => pW D q A (wM q ad h) t) A) 0 0 A := by
  refine met_z (Qp := Q) (by decide) (Nat.le_of_ble_eq_true rfl) ?_
  intro p e R s m args below meth c Qm ls hR1 hR2 S RT hl G
  have hx := S.1
  have hb := S.2.1
  have hl : lv_has ls 5 [(0, .ref (ad 0)), (1, .int a1)] := hl
  unfold p_M_laysWorld at hw
  refine lv_iload_n hx hb dX10_laysWorld_0 rfl (lv_at hl 1 rfl) ?_
  refine lv_istore_n (lv' := [(2, .int a1), (0, .ref (ad 0)), (1, .int a1)]) hx hb dX10_laysWorld_1 rfl hl (by decide) rfl (fun ls hl => ?_)
  refine lv_iconst (v := 1) hx hb dX10_laysWorld_2 (by decide) ?_
  refine lv_istore_n (lv' := [(3, .int 1), (2, .int a1), (0, .ref (ad 0)), (1, .int a1)]) hx hb dX10_laysWorld_3 rfl hl (by decide) rfl (fun ls hl => ?_)
  refine lv_iconst (v := 0) hx hb dX10_laysWorld_4 (by decide) ?_
  refine lv_istore (lv' := [(4, .int 0), (3, .int 1), (2, .int a1), (0, .ref (ad 0)), (1, .int a1)]) hx hb dX10_laysWorld_5 hl (by decide) rfl (fun ls hl => ?_)
  have hw := hw (fun (b2_7 : Int32) (b3_7 : Int32) (b4_7 : Int32) (g_7 : Hs) => ∀ (ls : Array Slot) (H : Heap) (locs : List Loc), lv_has ls 5 [(0, .ref (ad 0)), (2, .int b2_7), (3, .int b3_7), (4, .int b4_7)] → okW D q A s (wM q ad g_7) H locs → W p l e R s m args below meth c H locs 0 0 Qm (F0 m 7 ls [])) (by
    intro b2_7 b3_7 b4_7 g_7 hw ls H locs hl G
    refine lv_iload hx hb dX10_laysWorld_7 (lv_at hl 3 rfl) ?_
    refine lv_aload_n hx hb dX10_laysWorld_9 rfl (lv_at hl 0 rfl) ?_
    refine x_ViP S hl.1 G (c_M_lots l D q A ad g_7 _ hw) (cw_X10_109 S.2.2.2.2 ⟨Nat.le_trans (Nat.le_of_ble_eq_true rfl) hR1, Nat.le_trans (Nat.le_of_ble_eq_true rfl) hR2⟩) (me_11 km_0) rfl rfl rfl (Nat.le_of_ble_eq_true rfl) dX10_laysWorld_10 (fun r_10 H locs G hw => ?_)
    refine lv_icmp_ge (tgt := 61) hx hb dX10_laysWorld_13 (by decide) (fun c_13 => ?_) (fun c_13 => ?_)
    · have hw := hw.1 c_13
      refine lv_iload_n hx hb dX10_laysWorld_61 rfl (lv_at hl 2 rfl) ?_
      obtain ⟨z_62, hw⟩ := hw
      exact RT _ _ _ _ _ _ G z_62 hw dX10_laysWorld_62
    · have hw := hw.2 c_13
      refine lv_aload_n hx hb dX10_laysWorld_16 rfl (lv_at hl 0 rfl) ?_
      refine x_get (C := RX10) (T := TX10) (n := 21) S G inX10 (me_11 km_0) rfl 18 (by decide) kf_X10_42 rfl dX10_laysWorld_17 ?_
      refine lv_iload hx hb dX10_laysWorld_20 (lv_at hl 3 rfl) ?_
      refine lv_iload_n hx hb dX10_laysWorld_22 rfl (lv_at hl 1 rfl) ?_
      refine lv_iconst (v := 4) hx hb dX10_laysWorld_23 (by decide) ?_
      refine lv_irem hx hb dX10_laysWorld_24 (by decide) ?_
      obtain ⟨i_25, hw⟩ := hw
      refine x_iast (k := b4_7.toNatClampNeg) S G (me_20 km_11 lm_11) i_25 rfl (ms_20 km_11 lm_11) dX10_laysWorld_25 (fun H locs G => ?_)
      obtain ⟨h_25, eh_25⟩ : ∃ y : Hs, y = si g_7 11 b4_7.toNatClampNeg (b2_7 - b2_7 / 4 * 4) := ⟨_, rfl⟩
      rw [← eh_25] at G
      have hw := hw h_25 eh_25
      refine lv_iload_n hx hb dX10_laysWorld_26 rfl (lv_at hl 1 rfl) ?_
      refine lv_iconst (v := 4) hx hb dX10_laysWorld_27 (by decide) ?_
      refine lv_idiv hx hb dX10_laysWorld_28 (by decide) ?_
      refine lv_topi (fun a2_29 ea2_29 => ?_)
      have hw := hw a2_29 ea2_29
      refine lv_istore_n (lv' := [(2, .int a2_29), (0, .ref (ad 0)), (3, .int b3_7), (4, .int b4_7)]) hx hb dX10_laysWorld_29 rfl hl (by decide) rfl (fun ls hl => ?_)
      refine lv_iload_n hx hb dX10_laysWorld_30 rfl (lv_at hl 2 rfl) ?_
      have hw := hw (fun (t0_54 : Int32) => ∀ (ls : Array Slot) (H : Heap) (locs : List Loc), lv_has ls 5 [(0, .ref (ad 0)), (2, .int a2_29), (4, .int b4_7)] → okW D q A s (wM q ad h_25) H locs → W p l e R s m args below meth c H locs 0 0 Qm (F0 m 54 ls [.int t0_54])) (by
        intro t0_54 hw ls H locs hl G
        refine lv_istore_n (lv' := [(3, .int t0_54), (0, .ref (ad 0)), (2, .int a2_29), (4, .int b4_7)]) hx hb dX10_laysWorld_54 rfl hl (by decide) rfl (fun ls hl => ?_)
        obtain ⟨a4_55, ea4_55⟩ : ∃ y : Int32, y = b4_7 + 1 := ⟨_, rfl⟩
        have hw := hw a4_55 ea4_55
        refine lv_iinc (v := a4_55) (lv' := [(4, .int a4_55), (3, .int t0_54), (0, .ref (ad 0)), (2, .int a2_29)]) hx hb dX10_laysWorld_55 hl (k := 3) rfl (by rw [ea4_55]; rfl) (by decide) rfl (fun ls hl => ?_)
        refine lv_goto (tgt := 7) hx hb dX10_laysWorld_58 (by decide) ?_
        exact hw _ _ _ (lv_sub hl [2, 3, 1, 0] rfl) G)
      have hw := hw (∀ (ls : Array Slot) (H : Heap) (locs : List Loc), lv_has ls 5 [(0, .ref (ad 0)), (2, .int a2_29), (4, .int b4_7)] → okW D q A s (wM q ad h_25) H locs → W p l e R s m args below meth c H locs 0 0 Qm (F0 m 53 ls [])) (by
        intro hw ls H locs hl G
        refine lv_iconst (v := 0) hx hb dX10_laysWorld_53 (by decide) ?_
        exact hw _ _ _ (lv_sub hl [0, 1, 2] rfl) G)
      refine lv_if_eq (tgt := 53) hx hb dX10_laysWorld_31 (by decide) (fun c_31 => ?_) (fun c_31 => ?_)
      · have hw := hw.1 c_31
        exact hw _ _ _ (lv_sub hl [1, 0, 3] rfl) G
      · have hw := hw.2 c_31
        refine lv_aload_n hx hb dX10_laysWorld_34 rfl (lv_at hl 1 rfl) ?_
        refine x_get (C := RX10) (T := TX10) (n := 21) S G inX10 (me_11 km_0) rfl 15 (by decide) kf_X10_39 rfl dX10_laysWorld_35 ?_
        refine lv_aload_n hx hb dX10_laysWorld_38 rfl (lv_at hl 1 rfl) ?_
        refine x_get (C := RX10) (T := TX10) (n := 21) S G inX10 (me_11 km_0) rfl 18 (by decide) kf_X10_42 rfl dX10_laysWorld_39 ?_
        refine lv_iload hx hb dX10_laysWorld_42 (lv_at hl 3 rfl) ?_
        obtain ⟨i_44, hw⟩ := hw
        refine x_iald (k := b4_7.toNatClampNeg) S G (me_20 km_11 lm_11) i_44 rfl rfl dX10_laysWorld_44 ?_
        obtain ⟨i_45, hw⟩ := hw
        refine x_zald (k := (gi h_25 11 b4_7.toNatClampNeg).toNatClampNeg) S G (me_21 km_10 lm_10) i_45 rfl rfl dX10_laysWorld_45 ?_
        refine lv_if_eq (tgt := 53) hx hb dX10_laysWorld_46 (by decide) (fun c_46 => ?_) (fun c_46 => ?_)
        · have hw := hw.1 c_46
          exact hw _ _ _ (lv_sub hl [1, 0, 3] rfl) G
        · have hw := hw.2 c_46
          refine lv_iconst (v := 1) hx hb dX10_laysWorld_49 (by decide) ?_
          refine lv_goto (tgt := 54) hx hb dX10_laysWorld_50 (by decide) ?_
          exact hw _ _ _ (lv_sub hl [1, 0, 3] rfl) G)
  exact hw _ _ _ (lv_sub hl [3, 2, 1, 0] rfl) G
theorem cw_X10_273 {R : Room} {s : State} {args : Array Value} (hts : ∀ w ∈ gW, w.before args s = true) (hR : rm_M_laysWorld.frames + 1 ≤ R.frames ∧ 8 + (5 + 11) + rm_M_laysWorld.locals ≤ R.locals) : CallW R s args RX10 RX10 273 yX10_laysWorld cX10_laysWorld 5 (some .boolean) (mw yX10_laysWorld cX10_laysWorld 5 (some .boolean)) rm_M_laysWorld 0 0 1 := cwV9 hts km_X10_273 ki_X10_laysWorld ks_X10_laysWorld kn_X10 kk_X10_laysWorld rfl rfl (by decide +kernel) hR
abbrev rm_M_holds : Room := { frames := 2, cells := 0, slots := 0, locals := 43 }
set_option maxHeartbeats 4000000 in
set_option maxRecDepth 100000 in
theorem c_M_holds (l : Launch) (D : va_G) (q : Nat → ClassId) (A : Nat → Prop) (ad : Nat → Nat) (a1 : Int32) (a2 : Int32) (a3 : Int32) (a4 : Int32) (h : Hs) (Q : Int32 → Prop) (hw : p_M_holds a1 a2 a3 a4 h Q) : Met l yX10_holds (mw yX10_holds cX10_holds 7 (some .boolean)) rm_M_holds (va_Pc [.ref (ad 0), .int a1, .int a2, .int a3, .int a4] (pW D q A (wM q ad h))) (va_Qi (fun r h9 => zb r ∧ h9 = h ∧ Q r) (fun h t => pW D q A (wM q ad h) t) A) 0 0 A := by
  refine met_z (Qp := (fun r h9 => h9 = h ∧ Q r)) (by decide) (Nat.le_of_ble_eq_true rfl) ?_
  intro p e R s m args below meth c Qm ls hR1 hR2 S RT hl G
  have hx := S.1
  have hb := S.2.1
  have hl : lv_has ls 7 [(0, .ref (ad 0)), (1, .int a1), (2, .int a2), (3, .int a3), (4, .int a4)] := hl
  unfold p_M_holds at hw
  refine lv_iload_n hx hb dX10_holds_0 rfl (lv_at hl 1 rfl) ?_
  refine lv_if_ne (tgt := 20) hx hb dX10_holds_1 (by decide) (fun c_1 => ?_) (fun c_1 => ?_)
  · have hw := hw.1 c_1
    refine lv_iload_n hx hb dX10_holds_20 rfl (lv_at hl 1 rfl) ?_
    refine lv_iconst (v := 2) hx hb dX10_holds_21 (by decide) ?_
    refine lv_icmp_ne (tgt := 42) hx hb dX10_holds_22 (by decide) (fun c_22 => ?_) (fun c_22 => ?_)
    · have hw := hw.1 c_22
      refine lv_iload_n hx hb dX10_holds_42 rfl (lv_at hl 1 rfl) ?_
      refine lv_iconst (v := 3) hx hb dX10_holds_43 (by decide) ?_
      refine lv_icmp_ne (tgt := 53) hx hb dX10_holds_44 (by decide) (fun c_44 => ?_) (fun c_44 => ?_)
      · have hw := hw.1 c_44
        refine lv_aload_n hx hb dX10_holds_53 rfl (lv_at hl 0 rfl) ?_
        refine x_get (C := RX10) (T := TX10) (n := 21) S G inX10 (me_11 km_0) rfl 15 (by decide) kf_X10_39 rfl dX10_holds_54 ?_
        refine lv_iload_n hx hb dX10_holds_57 rfl (lv_at hl 2 rfl) ?_
        obtain ⟨i_58, hw⟩ := hw
        refine x_zald (k := a2.toNatClampNeg) S G (me_21 km_10 lm_10) i_58 rfl rfl dX10_holds_58 ?_
        refine lv_topi (fun a5_59 ea5_59 => ?_)
        have hw := hw a5_59 ea5_59
        refine lv_istore (lv' := [(5, .int a5_59), (0, .ref (ad 0)), (1, .int a1), (2, .int a2), (3, .int a3), (4, .int a4)]) hx hb dX10_holds_59 hl (by decide) rfl (fun ls hl => ?_)
        refine lv_iconst (v := 0) hx hb dX10_holds_61 (by decide) ?_
        refine lv_istore (lv' := [(6, .int 0), (5, .int a5_59), (0, .ref (ad 0)), (1, .int a1), (2, .int a2), (3, .int a3), (4, .int a4)]) hx hb dX10_holds_62 hl (by decide) rfl (fun ls hl => ?_)
        have hw := hw (fun (b5_64 : Int32) (b6_64 : Int32) => ∀ (ls : Array Slot) (H : Heap) (locs : List Loc), lv_has ls 7 [(0, .ref (ad 0)), (2, .int a2), (5, .int b5_64), (6, .int b6_64)] → okW D q A s (wM q ad h) H locs → W p l e R s m args below meth c H locs 0 0 Qm (F0 m 64 ls [])) (by
          intro b5_64 b6_64 hw ls H locs hl G
          refine lv_iload hx hb dX10_holds_64 (lv_at hl 3 rfl) ?_
          refine lv_aload_n hx hb dX10_holds_66 rfl (lv_at hl 0 rfl) ?_
          refine x_ViP S hl.1 G (c_M_lots l D q A ad h _ hw) (cw_X10_109 S.2.2.2.2 ⟨Nat.le_trans (Nat.le_of_ble_eq_true rfl) hR1, Nat.le_trans (Nat.le_of_ble_eq_true rfl) hR2⟩) (me_11 km_0) rfl rfl rfl (Nat.le_of_ble_eq_true rfl) dX10_holds_67 (fun r_67 H locs G hw => ?_)
          refine lv_icmp_ge (tgt := 102) hx hb dX10_holds_70 (by decide) (fun c_70 => ?_) (fun c_70 => ?_)
          · have hw := hw.1 c_70
            refine lv_iload hx hb dX10_holds_102 (lv_at hl 2 rfl) ?_
            obtain ⟨z_104, hw⟩ := hw
            exact RT _ _ _ _ _ _ G z_104 ⟨rfl, hw⟩ dX10_holds_104
          · have hw := hw.2 c_70
            refine lv_iload hx hb dX10_holds_73 (lv_at hl 2 rfl) ?_
            have hw := hw (fun (t0_94 : Int32) => ∀ (ls : Array Slot) (H : Heap) (locs : List Loc), lv_has ls 7 [(0, .ref (ad 0)), (2, .int a2), (6, .int b6_64)] → okW D q A s (wM q ad h) H locs → W p l e R s m args below meth c H locs 0 0 Qm (F0 m 94 ls [.int t0_94])) (by
              intro t0_94 hw ls H locs hl G
              refine lv_istore (lv' := [(5, .int t0_94), (0, .ref (ad 0)), (2, .int a2), (6, .int b6_64)]) hx hb dX10_holds_94 hl (by decide) rfl (fun ls hl => ?_)
              obtain ⟨a6_96, ea6_96⟩ : ∃ y : Int32, y = b6_64 + 1 := ⟨_, rfl⟩
              have hw := hw a6_96 ea6_96
              refine lv_iinc (v := a6_96) (lv' := [(6, .int a6_96), (5, .int t0_94), (0, .ref (ad 0)), (2, .int a2)]) hx hb dX10_holds_96 hl (k := 3) rfl (by rw [ea6_96]; rfl) (by decide) rfl (fun ls hl => ?_)
              refine lv_goto (tgt := 64) hx hb dX10_holds_99 (by decide) ?_
              exact hw _ _ _ (lv_sub hl [2, 3, 1, 0] rfl) G)
            have hw := hw (∀ (ls : Array Slot) (H : Heap) (locs : List Loc), lv_has ls 7 [(0, .ref (ad 0)), (2, .int a2), (6, .int b6_64)] → okW D q A s (wM q ad h) H locs → W p l e R s m args below meth c H locs 0 0 Qm (F0 m 93 ls [])) (by
              intro hw ls H locs hl G
              refine lv_iconst (v := 0) hx hb dX10_holds_93 (by decide) ?_
              exact hw _ _ _ (lv_sub hl [0, 1, 2] rfl) G)
            refine lv_if_eq (tgt := 93) hx hb dX10_holds_75 (by decide) (fun c_75 => ?_) (fun c_75 => ?_)
            · have hw := hw.1 c_75
              exact hw _ _ _ (lv_sub hl [0, 1, 3] rfl) G
            · have hw := hw.2 c_75
              refine lv_aload_n hx hb dX10_holds_78 rfl (lv_at hl 0 rfl) ?_
              refine x_get (C := RX10) (T := TX10) (n := 21) S G inX10 (me_11 km_0) rfl 18 (by decide) kf_X10_42 rfl dX10_holds_79 ?_
              refine lv_iload hx hb dX10_holds_82 (lv_at hl 3 rfl) ?_
              obtain ⟨i_84, hw⟩ := hw
              refine x_iald (k := b6_64.toNatClampNeg) S G (me_20 km_11 lm_11) i_84 rfl rfl dX10_holds_84 ?_
              refine lv_iload_n hx hb dX10_holds_85 rfl (lv_at hl 1 rfl) ?_
              refine lv_icmp_ne (tgt := 93) hx hb dX10_holds_86 (by decide) (fun c_86 => ?_) (fun c_86 => ?_)
              · have hw := hw.1 c_86
                exact hw _ _ _ (lv_sub hl [0, 1, 3] rfl) G
              · have hw := hw.2 c_86
                refine lv_iconst (v := 1) hx hb dX10_holds_89 (by decide) ?_
                refine lv_goto (tgt := 94) hx hb dX10_holds_90 (by decide) ?_
                exact hw _ _ _ (lv_sub hl [0, 1, 3] rfl) G)
        exact hw _ _ _ (lv_sub hl [2, 4, 1, 0] rfl) G
      · have hw := hw.2 c_44
        refine lv_aload_n hx hb dX10_holds_47 rfl (lv_at hl 0 rfl) ?_
        refine lv_iload_n hx hb dX10_holds_48 rfl (lv_at hl 2 rfl) ?_
        refine x_VzP S hl.1 G (c_M_isSaidSo l D q A ad a2 h _ hw) (cw_X10_257 S.2.2.2.2 ⟨Nat.le_trans (Nat.le_of_ble_eq_true rfl) hR1, Nat.le_trans (Nat.le_of_ble_eq_true rfl) hR2⟩) (me_11 km_0) rfl rfl rfl (Nat.le_of_ble_eq_true rfl) dX10_holds_49 (fun r_49 H locs G z_49 hw => ?_)
        exact RT _ _ _ _ _ _ G z_49 ⟨rfl, hw⟩ dX10_holds_52
    · have hw := hw.2 c_22
      refine lv_aload_n hx hb dX10_holds_25 rfl (lv_at hl 0 rfl) ?_
      refine lv_iload_n hx hb dX10_holds_26 rfl (lv_at hl 2 rfl) ?_
      refine lv_iload_n hx hb dX10_holds_27 rfl (lv_at hl 3 rfl) ?_
      refine x_ViP S hl.1 G (c_M_whereOf l D q A ad a2 a3 h _ hw) (cw_X10_232 S.2.2.2.2 ⟨Nat.le_trans (Nat.le_of_ble_eq_true rfl) hR1, Nat.le_trans (Nat.le_of_ble_eq_true rfl) hR2⟩) (me_11 km_0) rfl rfl rfl (Nat.le_of_ble_eq_true rfl) dX10_holds_28 (fun r_28 H locs G hw => ?_)
      refine lv_iload hx hb dX10_holds_31 (lv_at hl 4 rfl) ?_
      have hw := hw (fun (t0_41 : Int32) => ∀ (ls : Array Slot) (H : Heap) (locs : List Loc), lv_has ls 7 [] → okW D q A s (wM q ad h) H locs → W p l e R s m args below meth c H locs 0 0 Qm (F0 m 41 ls [.int t0_41])) (by
        intro t0_41 hw ls H locs hl G
        obtain ⟨z_41, hw⟩ := hw
        exact RT _ _ _ _ _ _ G z_41 ⟨rfl, hw⟩ dX10_holds_41)
      refine lv_icmp_ne (tgt := 40) hx hb dX10_holds_33 (by decide) (fun c_33 => ?_) (fun c_33 => ?_)
      · have hw := hw.1 c_33
        refine lv_iconst (v := 0) hx hb dX10_holds_40 (by decide) ?_
        exact hw _ _ _ (lv_sub hl [] rfl) G
      · have hw := hw.2 c_33
        refine lv_iconst (v := 1) hx hb dX10_holds_36 (by decide) ?_
        refine lv_goto (tgt := 41) hx hb dX10_holds_37 (by decide) ?_
        exact hw _ _ _ (lv_sub hl [] rfl) G
  · have hw := hw.2 c_1
    refine lv_aload_n hx hb dX10_holds_4 rfl (lv_at hl 0 rfl) ?_
    refine x_get (C := RX10) (T := TX10) (n := 21) S G inX10 (me_11 km_0) rfl 18 (by decide) kf_X10_42 rfl dX10_holds_5 ?_
    refine lv_iload_n hx hb dX10_holds_8 rfl (lv_at hl 2 rfl) ?_
    obtain ⟨i_9, hw⟩ := hw
    refine x_iald (k := a2.toNatClampNeg) S G (me_20 km_11 lm_11) i_9 rfl rfl dX10_holds_9 ?_
    refine lv_iload_n hx hb dX10_holds_10 rfl (lv_at hl 3 rfl) ?_
    have hw := hw (fun (t0_19 : Int32) => ∀ (ls : Array Slot) (H : Heap) (locs : List Loc), lv_has ls 7 [] → okW D q A s (wM q ad h) H locs → W p l e R s m args below meth c H locs 0 0 Qm (F0 m 19 ls [.int t0_19])) (by
      intro t0_19 hw ls H locs hl G
      obtain ⟨z_19, hw⟩ := hw
      exact RT _ _ _ _ _ _ G z_19 ⟨rfl, hw⟩ dX10_holds_19)
    refine lv_icmp_ne (tgt := 18) hx hb dX10_holds_11 (by decide) (fun c_11 => ?_) (fun c_11 => ?_)
    · have hw := hw.1 c_11
      refine lv_iconst (v := 0) hx hb dX10_holds_18 (by decide) ?_
      exact hw _ _ _ (lv_sub hl [] rfl) G
    · have hw := hw.2 c_11
      refine lv_iconst (v := 1) hx hb dX10_holds_14 (by decide) ?_
      refine lv_goto (tgt := 19) hx hb dX10_holds_15 (by decide) ?_
      exact hw _ _ _ (lv_sub hl [] rfl) G
theorem cw_X10_279 {R : Room} {s : State} {args : Array Value} (hts : ∀ w ∈ gW, w.before args s = true) (hR : rm_M_holds.frames + 1 ≤ R.frames ∧ 8 + (7 + 11) + rm_M_holds.locals ≤ R.locals) : CallW R s args RX10 RX10 279 yX10_holds cX10_holds 7 (some .boolean) (mw yX10_holds cX10_holds 7 (some .boolean)) rm_M_holds 0 0 4 := cwV9 hts km_X10_279 ki_X10_holds ks_X10_holds kn_X10 kk_X10_holds rfl rfl (by decide +kernel) hR
abbrev rm_M_sumsUp : Room := { frames := 8, cells := 0, slots := 0, locals := 175 }
set_option maxHeartbeats 4000000 in
set_option maxRecDepth 100000 in
theorem c_M_sumsUp (l : Launch) (D : va_G) (q : Nat → ClassId) (A : Nat → Prop) (ad : Nat → Nat) (a1 : Int32) (a2 : Int32) (a3 : Int32) (a4 : Int32) (h : Hs) (Q : Int32 → Hs → Prop) (hw : p_M_sumsUp a1 a2 a3 a4 h Q) : Met l yX10_sumsUp (mw yX10_sumsUp cX10_sumsUp 6 (some .boolean)) rm_M_sumsUp (va_Pc [.ref (ad 0), .int a1, .int a2, .int a3, .int a4] (pW D q A (wM q ad h))) (va_Qi (fun r h9 => zb r ∧ Q r h9) (fun h t => pW D q A (wM q ad h) t) A) 0 0 A := by
  refine met_z (Qp := Q) (by decide) (Nat.le_of_ble_eq_true rfl) ?_
  intro p e R s m args below meth c Qm ls hR1 hR2 S RT hl G
  have hx := S.1
  have hb := S.2.1
  have hl : lv_has ls 6 [(0, .ref (ad 0)), (1, .int a1), (2, .int a2), (3, .int a3), (4, .int a4)] := hl
  unfold p_M_sumsUp at hw
  refine lv_aload_n hx hb dX10_sumsUp_0 rfl (lv_at hl 0 rfl) ?_
  refine x_Vv S hl.1 G (c_M_readAll l D q A ad h _ hw) (cw_X10_267 S.2.2.2.2 ⟨Nat.le_trans (Nat.le_of_ble_eq_true rfl) hR1, Nat.le_trans (Nat.le_of_ble_eq_true rfl) hR2⟩) (me_11 km_0) rfl rfl rfl (Nat.le_of_ble_eq_true rfl) dX10_sumsUp_1 (fun h_1 H locs G hw => ?_)
  refine lv_aload_n hx hb dX10_sumsUp_4 rfl (lv_at hl 0 rfl) ?_
  refine lv_iconst (v := 5) hx hb dX10_sumsUp_5 (by decide) ?_
  refine lv_lconst (v := 0) hx hb dX10_sumsUp_6 (by decide) ?_
  refine x_Vv S hl.1 G (c_M_set l D q A ad 5 0 h_1 _ hw) (cw_X10_51 S.2.2.2.2 ⟨Nat.le_trans (Nat.le_of_ble_eq_true rfl) hR1, Nat.le_trans (Nat.le_of_ble_eq_true rfl) hR2⟩) (me_11 km_0) rfl rfl rfl (Nat.le_of_ble_eq_true rfl) dX10_sumsUp_7 (fun h_7 H locs G hw => ?_)
  refine lv_aload_n hx hb dX10_sumsUp_10 rfl (lv_at hl 0 rfl) ?_
  refine lv_bipush (v := 6) hx hb dX10_sumsUp_11 (by decide) ?_
  refine lv_lconst (v := 0) hx hb dX10_sumsUp_13 (by decide) ?_
  refine x_Vv S hl.1 G (c_M_set l D q A ad 6 0 h_7 _ hw) (cw_X10_51 S.2.2.2.2 ⟨Nat.le_trans (Nat.le_of_ble_eq_true rfl) hR1, Nat.le_trans (Nat.le_of_ble_eq_true rfl) hR2⟩) (me_11 km_0) rfl rfl rfl (Nat.le_of_ble_eq_true rfl) dX10_sumsUp_14 (fun h_14 H locs G hw => ?_)
  refine lv_iconst (v := 0) hx hb dX10_sumsUp_17 (by decide) ?_
  refine lv_istore (lv' := [(5, .int 0), (0, .ref (ad 0)), (1, .int a1), (2, .int a2), (3, .int a3), (4, .int a4)]) hx hb dX10_sumsUp_18 hl (by decide) rfl (fun ls hl => ?_)
  have hw := hw (fun (b5_20 : Int32) (g_20 : Hs) => ∀ (ls : Array Slot) (H : Heap) (locs : List Loc), lv_has ls 6 [(0, .ref (ad 0)), (1, .int a1), (2, .int a2), (3, .int a3), (4, .int a4), (5, .int b5_20)] → okW D q A s (wM q ad g_20) H locs → W p l e R s m args below meth c H locs 0 0 Qm (F0 m 20 ls [])) (by
    intro b5_20 g_20 hw ls H locs hl G
    refine lv_iload hx hb dX10_sumsUp_20 (lv_at hl 5 rfl) ?_
    refine lv_aload_n hx hb dX10_sumsUp_22 rfl (lv_at hl 0 rfl) ?_
    refine x_ViP S hl.1 G (c_M_worlds l D q A ad g_20 _ hw) (cw_X10_270 S.2.2.2.2 ⟨Nat.le_trans (Nat.le_of_ble_eq_true rfl) hR1, Nat.le_trans (Nat.le_of_ble_eq_true rfl) hR2⟩) (me_11 km_0) rfl rfl rfl (Nat.le_of_ble_eq_true rfl) dX10_sumsUp_23 (fun r_23 H locs G hw => ?_)
    have hw := hw (∀ (ls : Array Slot) (H : Heap) (locs : List Loc), lv_has ls 6 [(0, .ref (ad 0))] → okW D q A s (wM q ad g_20) H locs → W p l e R s m args below meth c H locs 0 0 Qm (F0 m 80 ls [])) (by
      intro hw ls H locs hl G
      refine lv_aload_n hx hb dX10_sumsUp_80 rfl (lv_at hl 0 rfl) ?_
      refine x_get (C := RX10) (T := TX10) (n := 21) S G inX10 (me_11 km_0) rfl 5 (by decide) kf_X10_27 rfl dX10_sumsUp_81 ?_
      refine lv_iconst (v := 5) hx hb dX10_sumsUp_84 (by decide) ?_
      refine x_iald (k := 5) S G (me_20 km_6 lm_6) (vpi (by decide)) rfl rfl dX10_sumsUp_85 ?_
      have hw := hw (fun (t0_94 : Int32) => ∀ (ls : Array Slot) (H : Heap) (locs : List Loc), lv_has ls 6 [] → okW D q A s (wM q ad g_20) H locs → W p l e R s m args below meth c H locs 0 0 Qm (F0 m 94 ls [.int t0_94])) (by
        intro t0_94 hw ls H locs hl G
        obtain ⟨z_94, hw⟩ := hw
        exact RT _ _ _ _ _ _ G z_94 hw dX10_sumsUp_94)
      refine lv_if_le (tgt := 93) hx hb dX10_sumsUp_86 (by decide) (fun c_86 => ?_) (fun c_86 => ?_)
      · have hw := hw.1 c_86
        refine lv_iconst (v := 0) hx hb dX10_sumsUp_93 (by decide) ?_
        exact hw _ _ _ (lv_sub hl [] rfl) G
      · have hw := hw.2 c_86
        refine lv_iconst (v := 1) hx hb dX10_sumsUp_89 (by decide) ?_
        refine lv_goto (tgt := 94) hx hb dX10_sumsUp_90 (by decide) ?_
        exact hw _ _ _ (lv_sub hl [] rfl) G)
    refine lv_icmp_ge (tgt := 80) hx hb dX10_sumsUp_26 (by decide) (fun c_26 => ?_) (fun c_26 => ?_)
    · have hw := hw.1 c_26
      exact hw _ _ _ (lv_sub hl [0] rfl) G
    · have hw := hw.2 c_26
      refine lv_aload_n hx hb dX10_sumsUp_29 rfl (lv_at hl 0 rfl) ?_
      refine x_ViP S hl.1 G (c_M_places l D q A ad g_20 _ hw) (cw_X10_101 S.2.2.2.2 ⟨Nat.le_trans (Nat.le_of_ble_eq_true rfl) hR1, Nat.le_trans (Nat.le_of_ble_eq_true rfl) hR2⟩) (me_11 km_0) rfl rfl rfl (Nat.le_of_ble_eq_true rfl) dX10_sumsUp_30 (fun r_30 H locs G hw => ?_)
      refine lv_if_le (tgt := 80) hx hb dX10_sumsUp_33 (by decide) (fun c_33 => ?_) (fun c_33 => ?_)
      · have hw := hw.1 c_33
        exact hw _ _ _ (lv_sub hl [0] rfl) G
      · have hw := hw.2 c_33
        refine lv_aload_n hx hb dX10_sumsUp_36 rfl (lv_at hl 0 rfl) ?_
        refine lv_iload hx hb dX10_sumsUp_37 (lv_at hl 5 rfl) ?_
        refine x_Vi S hl.1 G (c_M_laysWorld l D q A ad b5_20 g_20 _ hw) (cw_X10_273 S.2.2.2.2 ⟨Nat.le_trans (Nat.le_of_ble_eq_true rfl) hR1, Nat.le_trans (Nat.le_of_ble_eq_true rfl) hR2⟩) (me_11 km_0) rfl rfl rfl (Nat.le_of_ble_eq_true rfl) dX10_sumsUp_39 (fun r_39 h_39 H locs G hw => ?_)
        obtain ⟨z_39, hw⟩ := hw
        have hw := hw (fun (g_74 : Hs) => ∀ (ls : Array Slot) (H : Heap) (locs : List Loc), lv_has ls 6 [(0, .ref (ad 0)), (1, .int a1), (2, .int a2), (3, .int a3), (4, .int a4), (5, .int b5_20)] → okW D q A s (wM q ad g_74) H locs → W p l e R s m args below meth c H locs 0 0 Qm (F0 m 74 ls [])) (by
          intro g_74 hw ls H locs hl G
          obtain ⟨a5_74, ea5_74⟩ : ∃ y : Int32, y = b5_20 + 1 := ⟨_, rfl⟩
          have hw := hw a5_74 ea5_74
          refine lv_iinc (v := a5_74) (lv' := [(5, .int a5_74), (0, .ref (ad 0)), (1, .int a1), (2, .int a2), (3, .int a3), (4, .int a4)]) hx hb dX10_sumsUp_74 hl (k := 5) rfl (by rw [ea5_74]; rfl) (by decide) rfl (fun ls hl => ?_)
          refine lv_goto (tgt := 20) hx hb dX10_sumsUp_77 (by decide) ?_
          exact hw _ _ _ (lv_sub hl [1, 2, 3, 4, 5, 0] rfl) G)
        refine lv_if_eq (tgt := 74) hx hb dX10_sumsUp_42 (by decide) (fun c_42 => ?_) (fun c_42 => ?_)
        · have hw := hw.1 c_42
          exact hw _ _ _ (lv_sub hl [0, 1, 2, 3, 4, 5] rfl) G
        · have hw := hw.2 c_42
          refine lv_aload_n hx hb dX10_sumsUp_45 rfl (lv_at hl 0 rfl) ?_
          refine x_Vv S hl.1 G (c_M_weigh l D q A ad h_39 _ hw) (cw_X10_276 S.2.2.2.2 ⟨Nat.le_trans (Nat.le_of_ble_eq_true rfl) hR1, Nat.le_trans (Nat.le_of_ble_eq_true rfl) hR2⟩) (me_11 km_0) rfl rfl rfl (Nat.le_of_ble_eq_true rfl) dX10_sumsUp_46 (fun h_46 H locs G hw => ?_)
          refine lv_aload_n hx hb dX10_sumsUp_49 rfl (lv_at hl 0 rfl) ?_
          refine lv_iconst (v := 5) hx hb dX10_sumsUp_50 (by decide) ?_
          refine lv_iconst (v := 4) hx hb dX10_sumsUp_51 (by decide) ?_
          refine x_Vv S hl.1 G (c_M_add l D q A ad 5 4 h_46 _ hw) (cw_X10_248 S.2.2.2.2 ⟨Nat.le_trans (Nat.le_of_ble_eq_true rfl) hR1, Nat.le_trans (Nat.le_of_ble_eq_true rfl) hR2⟩) (me_11 km_0) rfl rfl rfl (Nat.le_of_ble_eq_true rfl) dX10_sumsUp_52 (fun h_52 H locs G hw => ?_)
          refine lv_aload_n hx hb dX10_sumsUp_55 rfl (lv_at hl 0 rfl) ?_
          refine lv_iload_n hx hb dX10_sumsUp_56 rfl (lv_at hl 1 rfl) ?_
          refine lv_iload_n hx hb dX10_sumsUp_57 rfl (lv_at hl 2 rfl) ?_
          refine lv_iload_n hx hb dX10_sumsUp_58 rfl (lv_at hl 3 rfl) ?_
          refine lv_iload hx hb dX10_sumsUp_59 (lv_at hl 4 rfl) ?_
          refine x_VzP S hl.1 G (c_M_holds l D q A ad a1 a2 a3 a4 h_52 _ hw) (cw_X10_279 S.2.2.2.2 ⟨Nat.le_trans (Nat.le_of_ble_eq_true rfl) hR1, Nat.le_trans (Nat.le_of_ble_eq_true rfl) hR2⟩) (me_11 km_0) rfl rfl rfl (Nat.le_of_ble_eq_true rfl) dX10_sumsUp_61 (fun r_61 H locs G z_61 hw => ?_)
          refine lv_if_eq (tgt := 74) hx hb dX10_sumsUp_64 (by decide) (fun c_64 => ?_) (fun c_64 => ?_)
          · have hw := hw.1 c_64
            exact hw _ _ _ (lv_sub hl [0, 1, 2, 3, 4, 5] rfl) G
          · have hw := hw.2 c_64
            refine lv_aload_n hx hb dX10_sumsUp_67 rfl (lv_at hl 0 rfl) ?_
            refine lv_bipush (v := 6) hx hb dX10_sumsUp_68 (by decide) ?_
            refine lv_iconst (v := 4) hx hb dX10_sumsUp_70 (by decide) ?_
            refine x_Vv S hl.1 G (c_M_add l D q A ad 6 4 h_52 _ hw) (cw_X10_248 S.2.2.2.2 ⟨Nat.le_trans (Nat.le_of_ble_eq_true rfl) hR1, Nat.le_trans (Nat.le_of_ble_eq_true rfl) hR2⟩) (me_11 km_0) rfl rfl rfl (Nat.le_of_ble_eq_true rfl) dX10_sumsUp_71 (fun h_71 H locs G hw => ?_)
            exact hw _ _ _ (lv_sub hl [0, 1, 2, 3, 4, 5] rfl) G)
  exact hw _ _ _ (lv_sub hl [1, 2, 3, 4, 5, 0] rfl) G
theorem cw_X10_283 {R : Room} {s : State} {args : Array Value} (hts : ∀ w ∈ gW, w.before args s = true) (hR : rm_M_sumsUp.frames + 1 ≤ R.frames ∧ 8 + (6 + 11) + rm_M_sumsUp.locals ≤ R.locals) : CallW R s args RX10 RX10 283 yX10_sumsUp cX10_sumsUp 6 (some .boolean) (mw yX10_sumsUp cX10_sumsUp 6 (some .boolean)) rm_M_sumsUp 0 0 4 := cwV9 hts km_X10_283 ki_X10_sumsUp ks_X10_sumsUp kn_X10 kk_X10_sumsUp rfl rfl (by decide +kernel) hR
abbrev rm_M_tellsShare : Room := { frames := 9, cells := 0, slots := 0, locals := 200 }
set_option maxHeartbeats 4000000 in
set_option maxRecDepth 100000 in
theorem c_M_tellsShare (l : Launch) (D : va_G) (q : Nat → ClassId) (A : Nat → Prop) (ad : Nat → Nat) (a1 : Int32) (a2 : Int32) (a3 : Int32) (a4 : Int32) (h : Hs) (Q : Int32 → Hs → Prop) (hw : p_M_tellsShare a1 a2 a3 a4 h Q) : Met l yX10_tellsShare (mw yX10_tellsShare cX10_tellsShare 5 (some .int)) rm_M_tellsShare (va_Pc [.ref (ad 0), .int a1, .int a2, .int a3, .int a4] (pW D q A (wM q ad h))) (va_Qi Q (fun h t => pW D q A (wM q ad h) t) A) 0 0 A := by
  refine met_i (Qp := Q) (by decide) (Nat.le_of_ble_eq_true rfl) ?_
  intro p e R s m args below meth c Qm ls hR1 hR2 S RT hl G
  have hx := S.1
  have hb := S.2.1
  have hl : lv_has ls 5 [(0, .ref (ad 0)), (1, .int a1), (2, .int a2), (3, .int a3), (4, .int a4)] := hl
  unfold p_M_tellsShare at hw
  refine lv_aload_n hx hb dX10_tellsShare_0 rfl (lv_at hl 0 rfl) ?_
  refine lv_iload_n hx hb dX10_tellsShare_1 rfl (lv_at hl 1 rfl) ?_
  refine lv_iload_n hx hb dX10_tellsShare_2 rfl (lv_at hl 2 rfl) ?_
  refine lv_iload_n hx hb dX10_tellsShare_3 rfl (lv_at hl 3 rfl) ?_
  refine lv_iload hx hb dX10_tellsShare_4 (lv_at hl 4 rfl) ?_
  refine x_Vi S hl.1 G (c_M_sumsUp l D q A ad a1 a2 a3 a4 h _ hw) (cw_X10_283 S.2.2.2.2 ⟨Nat.le_trans (Nat.le_of_ble_eq_true rfl) hR1, Nat.le_trans (Nat.le_of_ble_eq_true rfl) hR2⟩) (me_11 km_0) rfl rfl rfl (Nat.le_of_ble_eq_true rfl) dX10_tellsShare_6 (fun r_6 h_6 H locs G hw => ?_)
  obtain ⟨z_6, hw⟩ := hw
  refine lv_if_ne (tgt := 17) hx hb dX10_tellsShare_9 (by decide) (fun c_9 => ?_) (fun c_9 => ?_)
  · have hw := hw.1 c_9
    refine lv_aload_n hx hb dX10_tellsShare_17 rfl (lv_at hl 0 rfl) ?_
    refine lv_bipush (v := 6) hx hb dX10_tellsShare_18 (by decide) ?_
    refine lv_iconst (v := 5) hx hb dX10_tellsShare_20 (by decide) ?_
    refine lv_iconst (v := 0) hx hb dX10_tellsShare_21 (by decide) ?_
    refine x_Vv S hl.1 G (c_M_tell l D q A ad 6 5 0 h_6 _ hw) (cw_X10_97 S.2.2.2.2 ⟨Nat.le_trans (Nat.le_of_ble_eq_true rfl) hR1, Nat.le_trans (Nat.le_of_ble_eq_true rfl) hR2⟩) (me_11 km_0) rfl rfl rfl (Nat.le_of_ble_eq_true rfl) dX10_tellsShare_22 (fun h_22 H locs G hw => ?_)
    refine lv_iconst (v := 1) hx hb dX10_tellsShare_25 (by decide) ?_
    exact RT _ _ _ _ _ _ G hw dX10_tellsShare_26
  · have hw := hw.2 c_9
    refine lv_aload_n hx hb dX10_tellsShare_12 rfl (lv_at hl 0 rfl) ?_
    refine x_Vi S hl.1 G (c_M_no l D q A ad h_6 _ hw) (cw_X10_286 S.2.2.2.2 ⟨Nat.le_trans (Nat.le_of_ble_eq_true rfl) hR1, Nat.le_trans (Nat.le_of_ble_eq_true rfl) hR2⟩) (me_11 km_0) rfl rfl rfl (Nat.le_of_ble_eq_true rfl) dX10_tellsShare_13 (fun r_13 h_13 H locs G hw => ?_)
    exact RT _ _ _ _ _ _ G hw dX10_tellsShare_16
theorem cw_X10_292 {R : Room} {s : State} {args : Array Value} (hts : ∀ w ∈ gW, w.before args s = true) (hR : rm_M_tellsShare.frames + 1 ≤ R.frames ∧ 8 + (5 + 11) + rm_M_tellsShare.locals ≤ R.locals) : CallW R s args RX10 RX10 292 yX10_tellsShare cX10_tellsShare 5 (some .int) (mw yX10_tellsShare cX10_tellsShare 5 (some .int)) rm_M_tellsShare 0 0 4 := cwV9 hts km_X10_292 ki_X10_tellsShare ks_X10_tellsShare kn_X10 kk_X10_tellsShare rfl rfl (by decide +kernel) hR
abbrev rm_M_laysOne : Room := { frames := 8, cells := 0, slots := 0, locals := 175 }
set_option maxHeartbeats 4000000 in
set_option maxRecDepth 100000 in
theorem c_M_laysOne (l : Launch) (D : va_G) (q : Nat → ClassId) (A : Nat → Prop) (ad : Nat → Nat) (a1 : Int32) (h : Hs) (Q : Int32 → Hs → Prop) (hw : p_M_laysOne a1 h Q) : Met l yX10_laysOne (mw yX10_laysOne cX10_laysOne 3 (some .boolean)) rm_M_laysOne (va_Pc [.ref (ad 0), .int a1] (pW D q A (wM q ad h))) (va_Qi (fun r h9 => zb r ∧ Q r h9) (fun h t => pW D q A (wM q ad h) t) A) 0 0 A := by
  refine met_z (Qp := Q) (by decide) (Nat.le_of_ble_eq_true rfl) ?_
  intro p e R s m args below meth c Qm ls hR1 hR2 S RT hl G
  have hx := S.1
  have hb := S.2.1
  have hl : lv_has ls 3 [(0, .ref (ad 0)), (1, .int a1)] := hl
  unfold p_M_laysOne at hw
  refine lv_aload_n hx hb dX10_laysOne_0 rfl (lv_at hl 0 rfl) ?_
  refine x_Vv S hl.1 G (c_M_readAll l D q A ad h _ hw) (cw_X10_267 S.2.2.2.2 ⟨Nat.le_trans (Nat.le_of_ble_eq_true rfl) hR1, Nat.le_trans (Nat.le_of_ble_eq_true rfl) hR2⟩) (me_11 km_0) rfl rfl rfl (Nat.le_of_ble_eq_true rfl) dX10_laysOne_1 (fun h_1 H locs G hw => ?_)
  refine lv_iconst (v := 0) hx hb dX10_laysOne_4 (by decide) ?_
  refine lv_istore_n (lv' := [(2, .int 0), (0, .ref (ad 0)), (1, .int a1)]) hx hb dX10_laysOne_5 rfl hl (by decide) rfl (fun ls hl => ?_)
  have hw := hw (fun (b2_6 : Int32) (g_6 : Hs) => ∀ (ls : Array Slot) (H : Heap) (locs : List Loc), lv_has ls 3 [(0, .ref (ad 0)), (1, .int a1), (2, .int b2_6)] → okW D q A s (wM q ad g_6) H locs → W p l e R s m args below meth c H locs 0 0 Qm (F0 m 6 ls [])) (by
    intro b2_6 g_6 hw ls H locs hl G
    refine lv_iload_n hx hb dX10_laysOne_6 rfl (lv_at hl 2 rfl) ?_
    refine lv_iconst (v := 4) hx hb dX10_laysOne_7 (by decide) ?_
    refine lv_icmp_ge (tgt := 24) hx hb dX10_laysOne_8 (by decide) (fun c_8 => ?_) (fun c_8 => ?_)
    · have hw := hw.1 c_8
      refine lv_aload_n hx hb dX10_laysOne_24 rfl (lv_at hl 0 rfl) ?_
      refine x_get (C := RX10) (T := TX10) (n := 21) S G inX10 (me_11 km_0) rfl 15 (by decide) kf_X10_39 rfl dX10_laysOne_25 ?_
      refine lv_iload_n hx hb dX10_laysOne_28 rfl (lv_at hl 1 rfl) ?_
      obtain ⟨i_29, hw⟩ := hw
      refine x_zald (k := a1.toNatClampNeg) S G (me_21 km_10 lm_10) i_29 rfl rfl dX10_laysOne_29 ?_
      have hw := hw (fun (t0_45 : Int32) => ∀ (ls : Array Slot) (H : Heap) (locs : List Loc), lv_has ls 3 [] → okW D q A s (wM q ad g_6) H locs → W p l e R s m args below meth c H locs 0 0 Qm (F0 m 45 ls [.int t0_45])) (by
        intro t0_45 hw ls H locs hl G
        obtain ⟨z_45, hw⟩ := hw
        exact RT _ _ _ _ _ _ G z_45 hw dX10_laysOne_45)
      have hw := hw (∀ (ls : Array Slot) (H : Heap) (locs : List Loc), lv_has ls 3 [] → okW D q A s (wM q ad g_6) H locs → W p l e R s m args below meth c H locs 0 0 Qm (F0 m 44 ls [])) (by
        intro hw ls H locs hl G
        refine lv_iconst (v := 0) hx hb dX10_laysOne_44 (by decide) ?_
        exact hw _ _ _ (lv_sub hl [] rfl) G)
      refine lv_if_eq (tgt := 44) hx hb dX10_laysOne_30 (by decide) (fun c_30 => ?_) (fun c_30 => ?_)
      · have hw := hw.1 c_30
        exact hw _ _ _ (lv_sub hl [] rfl) G
      · have hw := hw.2 c_30
        refine lv_aload_n hx hb dX10_laysOne_33 rfl (lv_at hl 0 rfl) ?_
        refine x_ViP S hl.1 G (c_M_places l D q A ad g_6 _ hw) (cw_X10_101 S.2.2.2.2 ⟨Nat.le_trans (Nat.le_of_ble_eq_true rfl) hR1, Nat.le_trans (Nat.le_of_ble_eq_true rfl) hR2⟩) (me_11 km_0) rfl rfl rfl (Nat.le_of_ble_eq_true rfl) dX10_laysOne_34 (fun r_34 H locs G hw => ?_)
        refine lv_if_le (tgt := 44) hx hb dX10_laysOne_37 (by decide) (fun c_37 => ?_) (fun c_37 => ?_)
        · have hw := hw.1 c_37
          exact hw _ _ _ (lv_sub hl [] rfl) G
        · have hw := hw.2 c_37
          refine lv_iconst (v := 1) hx hb dX10_laysOne_40 (by decide) ?_
          refine lv_goto (tgt := 45) hx hb dX10_laysOne_41 (by decide) ?_
          exact hw _ _ _ (lv_sub hl [] rfl) G
    · have hw := hw.2 c_8
      refine lv_aload_n hx hb dX10_laysOne_11 rfl (lv_at hl 0 rfl) ?_
      refine x_get (C := RX10) (T := TX10) (n := 21) S G inX10 (me_11 km_0) rfl 18 (by decide) kf_X10_42 rfl dX10_laysOne_12 ?_
      refine lv_iload_n hx hb dX10_laysOne_15 rfl (lv_at hl 2 rfl) ?_
      refine lv_iload_n hx hb dX10_laysOne_16 rfl (lv_at hl 1 rfl) ?_
      obtain ⟨i_17, hw⟩ := hw
      refine x_iast (k := b2_6.toNatClampNeg) S G (me_20 km_11 lm_11) i_17 rfl (ms_20 km_11 lm_11) dX10_laysOne_17 (fun H locs G => ?_)
      obtain ⟨h_17, eh_17⟩ : ∃ y : Hs, y = si g_6 11 b2_6.toNatClampNeg a1 := ⟨_, rfl⟩
      rw [← eh_17] at G
      have hw := hw h_17 eh_17
      obtain ⟨a2_18, ea2_18⟩ : ∃ y : Int32, y = b2_6 + 1 := ⟨_, rfl⟩
      have hw := hw a2_18 ea2_18
      refine lv_iinc (v := a2_18) (lv' := [(2, .int a2_18), (0, .ref (ad 0)), (1, .int a1)]) hx hb dX10_laysOne_18 hl (k := 2) rfl (by rw [ea2_18]; rfl) (by decide) rfl (fun ls hl => ?_)
      refine lv_goto (tgt := 6) hx hb dX10_laysOne_21 (by decide) ?_
      exact hw _ _ _ (lv_sub hl [1, 2, 0] rfl) G)
  exact hw _ _ _ (lv_sub hl [1, 2, 0] rfl) G
theorem cw_X10_289 {R : Room} {s : State} {args : Array Value} (hts : ∀ w ∈ gW, w.before args s = true) (hR : rm_M_laysOne.frames + 1 ≤ R.frames ∧ 8 + (3 + 11) + rm_M_laysOne.locals ≤ R.locals) : CallW R s args RX10 RX10 289 yX10_laysOne cX10_laysOne 3 (some .boolean) (mw yX10_laysOne cX10_laysOne 3 (some .boolean)) rm_M_laysOne 0 0 1 := cwV9 hts km_X10_289 ki_X10_laysOne ks_X10_laysOne kn_X10 kk_X10_laysOne rfl rfl (by decide +kernel) hR
abbrev rm_M_at : Room := { frames := 9, cells := 0, slots := 0, locals := 197 }
set_option maxHeartbeats 4000000 in
set_option maxRecDepth 100000 in
theorem c_M_at (l : Launch) (D : va_G) (q : Nat → ClassId) (A : Nat → Prop) (ad : Nat → Nat) (a1 : Int32) (a2 : Int32) (h : Hs) (Q : Int32 → Hs → Prop) (hw : p_M_at a1 a2 h Q) : Met l yX10_at (mw yX10_at cX10_at 3 (some .int)) rm_M_at (va_Pc [.ref (ad 0), .int a1, .int a2] (pW D q A (wM q ad h))) (va_Qi Q (fun h t => pW D q A (wM q ad h) t) A) 0 0 A := by
  refine met_i (Qp := Q) (by decide) (Nat.le_of_ble_eq_true rfl) ?_
  intro p e R s m args below meth c Qm ls hR1 hR2 S RT hl G
  have hx := S.1
  have hb := S.2.1
  have hl : lv_has ls 3 [(0, .ref (ad 0)), (1, .int a1), (2, .int a2)] := hl
  unfold p_M_at at hw
  refine lv_iload_n hx hb dX10_at_0 rfl (lv_at hl 1 rfl) ?_
  refine x_SzP S hl.1 G (c_M_isFour l D q A ad a1 h _ hw) (cw_X10_129 S.2.2.2.2 ⟨Nat.le_trans (Nat.le_of_ble_eq_true rfl) hR1, Nat.le_trans (Nat.le_of_ble_eq_true rfl) hR2⟩) rfl rfl (Nat.le_of_ble_eq_true rfl) dX10_at_1 (fun r_1 H locs G z_1 hw => ?_)
  have hw := hw (∀ (ls : Array Slot) (H : Heap) (locs : List Loc), lv_has ls 3 [(0, .ref (ad 0))] → okW D q A s (wM q ad h) H locs → W p l e R s m args below meth c H locs 0 0 Qm (F0 m 14 ls [])) (by
    intro hw ls H locs hl G
    refine lv_aload_n hx hb dX10_at_14 rfl (lv_at hl 0 rfl) ?_
    refine lv_bipush (v := (-2)) hx hb dX10_at_15 (by decide) ?_
    refine x_Vi S hl.1 G (c_M_bad l D q A ad (-2) h _ hw) (cw_X10_118 S.2.2.2.2 ⟨Nat.le_trans (Nat.le_of_ble_eq_true rfl) hR1, Nat.le_trans (Nat.le_of_ble_eq_true rfl) hR2⟩) (me_11 km_0) rfl rfl rfl (Nat.le_of_ble_eq_true rfl) dX10_at_17 (fun r_17 h_17 H locs G hw => ?_)
    exact RT _ _ _ _ _ _ G hw dX10_at_20)
  refine lv_if_eq (tgt := 14) hx hb dX10_at_4 (by decide) (fun c_4 => ?_) (fun c_4 => ?_)
  · have hw := hw.1 c_4
    exact hw _ _ _ (lv_sub hl [0] rfl) G
  · have hw := hw.2 c_4
    refine lv_iload_n hx hb dX10_at_7 rfl (lv_at hl 2 rfl) ?_
    refine x_SzP S hl.1 G (c_M_isMonth l D q A ad a2 h _ hw) (cw_X10_223 S.2.2.2.2 ⟨Nat.le_trans (Nat.le_of_ble_eq_true rfl) hR1, Nat.le_trans (Nat.le_of_ble_eq_true rfl) hR2⟩) rfl rfl (Nat.le_of_ble_eq_true rfl) dX10_at_8 (fun r_8 H locs G z_8 hw => ?_)
    refine lv_if_ne (tgt := 21) hx hb dX10_at_11 (by decide) (fun c_11 => ?_) (fun c_11 => ?_)
    · have hw := hw.1 c_11
      refine lv_aload_n hx hb dX10_at_21 rfl (lv_at hl 0 rfl) ?_
      refine lv_iload_n hx hb dX10_at_22 rfl (lv_at hl 1 rfl) ?_
      refine x_Vi S hl.1 G (c_M_laysOne l D q A ad a1 h _ hw) (cw_X10_289 S.2.2.2.2 ⟨Nat.le_trans (Nat.le_of_ble_eq_true rfl) hR1, Nat.le_trans (Nat.le_of_ble_eq_true rfl) hR2⟩) (me_11 km_0) rfl rfl rfl (Nat.le_of_ble_eq_true rfl) dX10_at_23 (fun r_23 h_23 H locs G hw => ?_)
      obtain ⟨z_23, hw⟩ := hw
      have hw := hw (fun (t0_47 : Int32) (g_47 : Hs) => ∀ (ls : Array Slot) (H : Heap) (locs : List Loc), lv_has ls 3 [] → okW D q A s (wM q ad g_47) H locs → W p l e R s m args below meth c H locs 0 0 Qm (F0 m 47 ls [.int t0_47])) (by
        intro t0_47 g_47 hw ls H locs hl G
        exact RT _ _ _ _ _ _ G hw dX10_at_47)
      refine lv_if_eq (tgt := 43) hx hb dX10_at_26 (by decide) (fun c_26 => ?_) (fun c_26 => ?_)
      · have hw := hw.1 c_26
        refine lv_aload_n hx hb dX10_at_43 rfl (lv_at hl 0 rfl) ?_
        refine x_Vi S hl.1 G (c_M_no l D q A ad h_23 _ hw) (cw_X10_286 S.2.2.2.2 ⟨Nat.le_trans (Nat.le_of_ble_eq_true rfl) hR1, Nat.le_trans (Nat.le_of_ble_eq_true rfl) hR2⟩) (me_11 km_0) rfl rfl rfl (Nat.le_of_ble_eq_true rfl) dX10_at_44 (fun r_44 h_44 H locs G hw => ?_)
        exact hw _ _ _ (lv_sub hl [] rfl) G
      · have hw := hw.2 c_26
        refine lv_aload_n hx hb dX10_at_29 rfl (lv_at hl 0 rfl) ?_
        refine x_get (C := RX10) (T := TX10) (n := 21) S G inX10 (me_11 km_0) rfl 12 (by decide) kf_X10_30 rfl dX10_at_30 ?_
        refine lv_bipush (v := 120) hx hb dX10_at_33 (by decide) ?_
        refine lv_iload_n hx hb dX10_at_35 rfl (lv_at hl 1 rfl) ?_
        refine lv_imul hx hb dX10_at_36 ?_
        refine lv_iload_n hx hb dX10_at_37 rfl (lv_at hl 2 rfl) ?_
        refine lv_iadd hx hb dX10_at_38 ?_
        obtain ⟨i_39, hw⟩ := hw
        refine x_iald (k := ((120 * a1) + a2).toNatClampNeg) S G (me_20 km_7 lm_7) i_39 rfl rfl dX10_at_39 ?_
        refine lv_goto (tgt := 47) hx hb dX10_at_40 (by decide) ?_
        exact hw _ _ _ (lv_sub hl [] rfl) G
    · have hw := hw.2 c_11
      exact hw _ _ _ (lv_sub hl [0] rfl) G

abbrev rm_M_must : Room := { frames := 9, cells := 0, slots := 0, locals := 197 }
set_option maxHeartbeats 4000000 in
set_option maxRecDepth 100000 in
theorem c_M_must (l : Launch) (D : va_G) (q : Nat → ClassId) (A : Nat → Prop) (ad : Nat → Nat) (a1 : Int32) (a2 : Int32) (a3 : Int32) (h : Hs) (Q : Int32 → Hs → Prop) (hw : p_M_must a1 a2 a3 h Q) : Met l yX10_must (mw yX10_must cX10_must 4 (some .int)) rm_M_must (va_Pc [.ref (ad 0), .int a1, .int a2, .int a3] (pW D q A (wM q ad h))) (va_Qi Q (fun h t => pW D q A (wM q ad h) t) A) 0 0 A := by
  refine met_i (Qp := Q) (by decide) (Nat.le_of_ble_eq_true rfl) ?_
  intro p e R s m args below meth c Qm ls hR1 hR2 S RT hl G
  have hx := S.1
  have hb := S.2.1
  have hl : lv_has ls 4 [(0, .ref (ad 0)), (1, .int a1), (2, .int a2), (3, .int a3)] := hl
  unfold p_M_must at hw
  refine lv_iload_n hx hb dX10_must_0 rfl (lv_at hl 1 rfl) ?_
  refine x_SzP S hl.1 G (c_M_isFour l D q A ad a1 h _ hw) (cw_X10_129 S.2.2.2.2 ⟨Nat.le_trans (Nat.le_of_ble_eq_true rfl) hR1, Nat.le_trans (Nat.le_of_ble_eq_true rfl) hR2⟩) rfl rfl (Nat.le_of_ble_eq_true rfl) dX10_must_1 (fun r_1 H locs G z_1 hw => ?_)
  have hw := hw (∀ (ls : Array Slot) (H : Heap) (locs : List Loc), lv_has ls 4 [(0, .ref (ad 0))] → okW D q A s (wM q ad h) H locs → W p l e R s m args below meth c H locs 0 0 Qm (F0 m 22 ls [])) (by
    intro hw ls H locs hl G
    refine lv_aload_n hx hb dX10_must_22 rfl (lv_at hl 0 rfl) ?_
    refine lv_bipush (v := (-2)) hx hb dX10_must_23 (by decide) ?_
    refine x_Vi S hl.1 G (c_M_bad l D q A ad (-2) h _ hw) (cw_X10_118 S.2.2.2.2 ⟨Nat.le_trans (Nat.le_of_ble_eq_true rfl) hR1, Nat.le_trans (Nat.le_of_ble_eq_true rfl) hR2⟩) (me_11 km_0) rfl rfl rfl (Nat.le_of_ble_eq_true rfl) dX10_must_25 (fun r_25 h_25 H locs G hw => ?_)
    exact RT _ _ _ _ _ _ G hw dX10_must_28)
  refine lv_if_eq (tgt := 22) hx hb dX10_must_4 (by decide) (fun c_4 => ?_) (fun c_4 => ?_)
  · have hw := hw.1 c_4
    exact hw _ _ _ (lv_sub hl [0] rfl) G
  · have hw := hw.2 c_4
    refine lv_aload_n hx hb dX10_must_7 rfl (lv_at hl 0 rfl) ?_
    refine lv_iload_n hx hb dX10_must_8 rfl (lv_at hl 2 rfl) ?_
    refine x_VzP S hl.1 G (c_M_isPlace l D q A ad a2 h _ hw) (cw_X10_194 S.2.2.2.2 ⟨Nat.le_trans (Nat.le_of_ble_eq_true rfl) hR1, Nat.le_trans (Nat.le_of_ble_eq_true rfl) hR2⟩) (me_11 km_0) rfl rfl rfl (Nat.le_of_ble_eq_true rfl) dX10_must_9 (fun r_9 H locs G z_9 hw => ?_)
    refine lv_if_eq (tgt := 22) hx hb dX10_must_12 (by decide) (fun c_12 => ?_) (fun c_12 => ?_)
    · have hw := hw.1 c_12
      exact hw _ _ _ (lv_sub hl [0] rfl) G
    · have hw := hw.2 c_12
      refine lv_iload_n hx hb dX10_must_15 rfl (lv_at hl 3 rfl) ?_
      refine x_SzP S hl.1 G (c_M_isFour l D q A ad a3 h _ hw) (cw_X10_129 S.2.2.2.2 ⟨Nat.le_trans (Nat.le_of_ble_eq_true rfl) hR1, Nat.le_trans (Nat.le_of_ble_eq_true rfl) hR2⟩) rfl rfl (Nat.le_of_ble_eq_true rfl) dX10_must_16 (fun r_16 H locs G z_16 hw => ?_)
      refine lv_if_ne (tgt := 29) hx hb dX10_must_19 (by decide) (fun c_19 => ?_) (fun c_19 => ?_)
      · have hw := hw.1 c_19
        refine lv_aload_n hx hb dX10_must_29 rfl (lv_at hl 0 rfl) ?_
        refine lv_iload_n hx hb dX10_must_30 rfl (lv_at hl 1 rfl) ?_
        refine x_Vi S hl.1 G (c_M_laysOne l D q A ad a1 h _ hw) (cw_X10_289 S.2.2.2.2 ⟨Nat.le_trans (Nat.le_of_ble_eq_true rfl) hR1, Nat.le_trans (Nat.le_of_ble_eq_true rfl) hR2⟩) (me_11 km_0) rfl rfl rfl (Nat.le_of_ble_eq_true rfl) dX10_must_31 (fun r_31 h_31 H locs G hw => ?_)
        obtain ⟨z_31, hw⟩ := hw
        have hw := hw (fun (t0_50 : Int32) (g_50 : Hs) => ∀ (ls : Array Slot) (H : Heap) (locs : List Loc), lv_has ls 4 [] → okW D q A s (wM q ad g_50) H locs → W p l e R s m args below meth c H locs 0 0 Qm (F0 m 50 ls [.int t0_50])) (by
          intro t0_50 g_50 hw ls H locs hl G
          exact RT _ _ _ _ _ _ G hw dX10_must_50)
        refine lv_if_eq (tgt := 46) hx hb dX10_must_34 (by decide) (fun c_34 => ?_) (fun c_34 => ?_)
        · have hw := hw.1 c_34
          refine lv_aload_n hx hb dX10_must_46 rfl (lv_at hl 0 rfl) ?_
          refine x_Vi S hl.1 G (c_M_no l D q A ad h_31 _ hw) (cw_X10_286 S.2.2.2.2 ⟨Nat.le_trans (Nat.le_of_ble_eq_true rfl) hR1, Nat.le_trans (Nat.le_of_ble_eq_true rfl) hR2⟩) (me_11 km_0) rfl rfl rfl (Nat.le_of_ble_eq_true rfl) dX10_must_47 (fun r_47 h_47 H locs G hw => ?_)
          exact hw _ _ _ (lv_sub hl [] rfl) G
        · have hw := hw.2 c_34
          refine lv_aload_n hx hb dX10_must_37 rfl (lv_at hl 0 rfl) ?_
          refine lv_iload_n hx hb dX10_must_38 rfl (lv_at hl 2 rfl) ?_
          refine lv_iload_n hx hb dX10_must_39 rfl (lv_at hl 3 rfl) ?_
          refine x_ViP S hl.1 G (c_M_leftOf l D q A ad a2 a3 h_31 _ hw) (cw_X10_241 S.2.2.2.2 ⟨Nat.le_trans (Nat.le_of_ble_eq_true rfl) hR1, Nat.le_trans (Nat.le_of_ble_eq_true rfl) hR2⟩) (me_11 km_0) rfl rfl rfl (Nat.le_of_ble_eq_true rfl) dX10_must_40 (fun r_40 H locs G hw => ?_)
          refine lv_goto (tgt := 50) hx hb dX10_must_43 (by decide) ?_
          exact hw _ _ _ (lv_sub hl [] rfl) G
      · have hw := hw.2 c_19
        exact hw _ _ _ (lv_sub hl [0] rfl) G

abbrev rm_M_hunger : Room := { frames := 9, cells := 0, slots := 0, locals := 197 }
set_option maxHeartbeats 4000000 in
set_option maxRecDepth 100000 in
theorem c_M_hunger (l : Launch) (D : va_G) (q : Nat → ClassId) (A : Nat → Prop) (ad : Nat → Nat) (a1 : Int32) (h : Hs) (Q : Int32 → Hs → Prop) (hw : p_M_hunger a1 h Q) : Met l yX10_hunger (mw yX10_hunger cX10_hunger 2 (some .int)) rm_M_hunger (va_Pc [.ref (ad 0), .int a1] (pW D q A (wM q ad h))) (va_Qi Q (fun h t => pW D q A (wM q ad h) t) A) 0 0 A := by
  refine met_i (Qp := Q) (by decide) (Nat.le_of_ble_eq_true rfl) ?_
  intro p e R s m args below meth c Qm ls hR1 hR2 S RT hl G
  have hx := S.1
  have hb := S.2.1
  have hl : lv_has ls 2 [(0, .ref (ad 0)), (1, .int a1)] := hl
  unfold p_M_hunger at hw
  refine lv_iload_n hx hb dX10_hunger_0 rfl (lv_at hl 1 rfl) ?_
  refine x_SzP S hl.1 G (c_M_isFour l D q A ad a1 h _ hw) (cw_X10_129 S.2.2.2.2 ⟨Nat.le_trans (Nat.le_of_ble_eq_true rfl) hR1, Nat.le_trans (Nat.le_of_ble_eq_true rfl) hR2⟩) rfl rfl (Nat.le_of_ble_eq_true rfl) dX10_hunger_1 (fun r_1 H locs G z_1 hw => ?_)
  refine lv_if_ne (tgt := 14) hx hb dX10_hunger_4 (by decide) (fun c_4 => ?_) (fun c_4 => ?_)
  · have hw := hw.1 c_4
    refine lv_aload_n hx hb dX10_hunger_14 rfl (lv_at hl 0 rfl) ?_
    refine lv_iload_n hx hb dX10_hunger_15 rfl (lv_at hl 1 rfl) ?_
    refine x_Vi S hl.1 G (c_M_laysOne l D q A ad a1 h _ hw) (cw_X10_289 S.2.2.2.2 ⟨Nat.le_trans (Nat.le_of_ble_eq_true rfl) hR1, Nat.le_trans (Nat.le_of_ble_eq_true rfl) hR2⟩) (me_11 km_0) rfl rfl rfl (Nat.le_of_ble_eq_true rfl) dX10_hunger_16 (fun r_16 h_16 H locs G hw => ?_)
    obtain ⟨z_16, hw⟩ := hw
    have hw := hw (fun (t0_33 : Int32) (g_33 : Hs) => ∀ (ls : Array Slot) (H : Heap) (locs : List Loc), lv_has ls 2 [] → okW D q A s (wM q ad g_33) H locs → W p l e R s m args below meth c H locs 0 0 Qm (F0 m 33 ls [.int t0_33])) (by
      intro t0_33 g_33 hw ls H locs hl G
      exact RT _ _ _ _ _ _ G hw dX10_hunger_33)
    refine lv_if_eq (tgt := 29) hx hb dX10_hunger_19 (by decide) (fun c_19 => ?_) (fun c_19 => ?_)
    · have hw := hw.1 c_19
      refine lv_aload_n hx hb dX10_hunger_29 rfl (lv_at hl 0 rfl) ?_
      refine x_Vi S hl.1 G (c_M_no l D q A ad h_16 _ hw) (cw_X10_286 S.2.2.2.2 ⟨Nat.le_trans (Nat.le_of_ble_eq_true rfl) hR1, Nat.le_trans (Nat.le_of_ble_eq_true rfl) hR2⟩) (me_11 km_0) rfl rfl rfl (Nat.le_of_ble_eq_true rfl) dX10_hunger_30 (fun r_30 h_30 H locs G hw => ?_)
      exact hw _ _ _ (lv_sub hl [] rfl) G
    · have hw := hw.2 c_19
      refine lv_aload_n hx hb dX10_hunger_22 rfl (lv_at hl 0 rfl) ?_
      refine x_ViP S hl.1 G (c_M_hungerOf l D q A ad h_16 _ hw) (cw_X10_251 S.2.2.2.2 ⟨Nat.le_trans (Nat.le_of_ble_eq_true rfl) hR1, Nat.le_trans (Nat.le_of_ble_eq_true rfl) hR2⟩) (me_11 km_0) rfl rfl rfl (Nat.le_of_ble_eq_true rfl) dX10_hunger_23 (fun r_23 H locs G hw => ?_)
      refine lv_goto (tgt := 33) hx hb dX10_hunger_26 (by decide) ?_
      exact hw _ _ _ (lv_sub hl [] rfl) G
  · have hw := hw.2 c_4
    refine lv_aload_n hx hb dX10_hunger_7 rfl (lv_at hl 0 rfl) ?_
    refine lv_bipush (v := (-2)) hx hb dX10_hunger_8 (by decide) ?_
    refine x_Vi S hl.1 G (c_M_bad l D q A ad (-2) h _ hw) (cw_X10_118 S.2.2.2.2 ⟨Nat.le_trans (Nat.le_of_ble_eq_true rfl) hR1, Nat.le_trans (Nat.le_of_ble_eq_true rfl) hR2⟩) (me_11 km_0) rfl rfl rfl (Nat.le_of_ble_eq_true rfl) dX10_hunger_10 (fun r_10 h_10 H locs G hw => ?_)
    exact RT _ _ _ _ _ _ G hw dX10_hunger_13

abbrev rm_M_odds : Room := { frames := 10, cells := 0, slots := 0, locals := 224 }
set_option maxHeartbeats 4000000 in
set_option maxRecDepth 100000 in
theorem c_M_odds (l : Launch) (D : va_G) (q : Nat → ClassId) (A : Nat → Prop) (ad : Nat → Nat) (a1 : Int32) (a2 : Int32) (h : Hs) (Q : Int32 → Hs → Prop) (hw : p_M_odds a1 a2 h Q) : Met l yX10_odds (mw yX10_odds cX10_odds 3 (some .int)) rm_M_odds (va_Pc [.ref (ad 0), .int a1, .int a2] (pW D q A (wM q ad h))) (va_Qi Q (fun h t => pW D q A (wM q ad h) t) A) 0 0 A := by
  refine met_i (Qp := Q) (by decide) (Nat.le_of_ble_eq_true rfl) ?_
  intro p e R s m args below meth c Qm ls hR1 hR2 S RT hl G
  have hx := S.1
  have hb := S.2.1
  have hl : lv_has ls 3 [(0, .ref (ad 0)), (1, .int a1), (2, .int a2)] := hl
  unfold p_M_odds at hw
  refine lv_aload_n hx hb dX10_odds_0 rfl (lv_at hl 0 rfl) ?_
  refine lv_iload_n hx hb dX10_odds_1 rfl (lv_at hl 1 rfl) ?_
  refine x_VzP S hl.1 G (c_M_isLot l D q A ad a1 h _ hw) (cw_X10_220 S.2.2.2.2 ⟨Nat.le_trans (Nat.le_of_ble_eq_true rfl) hR1, Nat.le_trans (Nat.le_of_ble_eq_true rfl) hR2⟩) (me_11 km_0) rfl rfl rfl (Nat.le_of_ble_eq_true rfl) dX10_odds_2 (fun r_2 H locs G z_2 hw => ?_)
  have hw := hw (fun (t0_32 : Int32) (g_32 : Hs) => ∀ (ls : Array Slot) (H : Heap) (locs : List Loc), lv_has ls 3 [] → okW D q A s (wM q ad g_32) H locs → W p l e R s m args below meth c H locs 0 0 Qm (F0 m 32 ls [.int t0_32])) (by
    intro t0_32 g_32 hw ls H locs hl G
    exact RT _ _ _ _ _ _ G hw dX10_odds_32)
  have hw := hw (∀ (ls : Array Slot) (H : Heap) (locs : List Loc), lv_has ls 3 [(0, .ref (ad 0))] → okW D q A s (wM q ad h) H locs → W p l e R s m args below meth c H locs 0 0 Qm (F0 m 26 ls [])) (by
    intro hw ls H locs hl G
    refine lv_aload_n hx hb dX10_odds_26 rfl (lv_at hl 0 rfl) ?_
    refine lv_bipush (v := (-2)) hx hb dX10_odds_27 (by decide) ?_
    refine x_Vi S hl.1 G (c_M_bad l D q A ad (-2) h _ hw) (cw_X10_118 S.2.2.2.2 ⟨Nat.le_trans (Nat.le_of_ble_eq_true rfl) hR1, Nat.le_trans (Nat.le_of_ble_eq_true rfl) hR2⟩) (me_11 km_0) rfl rfl rfl (Nat.le_of_ble_eq_true rfl) dX10_odds_29 (fun r_29 h_29 H locs G hw => ?_)
    exact hw _ _ _ (lv_sub hl [] rfl) G)
  refine lv_if_eq (tgt := 26) hx hb dX10_odds_5 (by decide) (fun c_5 => ?_) (fun c_5 => ?_)
  · have hw := hw.1 c_5
    exact hw _ _ _ (lv_sub hl [0] rfl) G
  · have hw := hw.2 c_5
    refine lv_iload_n hx hb dX10_odds_8 rfl (lv_at hl 2 rfl) ?_
    refine x_SzP S hl.1 G (c_M_isFour l D q A ad a2 h _ hw) (cw_X10_129 S.2.2.2.2 ⟨Nat.le_trans (Nat.le_of_ble_eq_true rfl) hR1, Nat.le_trans (Nat.le_of_ble_eq_true rfl) hR2⟩) rfl rfl (Nat.le_of_ble_eq_true rfl) dX10_odds_9 (fun r_9 H locs G z_9 hw => ?_)
    refine lv_if_eq (tgt := 26) hx hb dX10_odds_12 (by decide) (fun c_12 => ?_) (fun c_12 => ?_)
    · have hw := hw.1 c_12
      exact hw _ _ _ (lv_sub hl [0] rfl) G
    · have hw := hw.2 c_12
      refine lv_aload_n hx hb dX10_odds_15 rfl (lv_at hl 0 rfl) ?_
      refine lv_iconst (v := 0) hx hb dX10_odds_16 (by decide) ?_
      refine lv_iload_n hx hb dX10_odds_17 rfl (lv_at hl 1 rfl) ?_
      refine lv_iload_n hx hb dX10_odds_18 rfl (lv_at hl 2 rfl) ?_
      refine lv_iconst (v := 0) hx hb dX10_odds_19 (by decide) ?_
      refine x_Vi S hl.1 G (c_M_tellsShare l D q A ad 0 a1 a2 0 h _ hw) (cw_X10_292 S.2.2.2.2 ⟨Nat.le_trans (Nat.le_of_ble_eq_true rfl) hR1, Nat.le_trans (Nat.le_of_ble_eq_true rfl) hR2⟩) (me_11 km_0) rfl rfl rfl (Nat.le_of_ble_eq_true rfl) dX10_odds_20 (fun r_20 h_20 H locs G hw => ?_)
      refine lv_goto (tgt := 32) hx hb dX10_odds_23 (by decide) ?_
      exact hw _ _ _ (lv_sub hl [] rfl) G

abbrev rm_M_all : Room := { frames := 10, cells := 0, slots := 0, locals := 224 }
set_option maxHeartbeats 4000000 in
set_option maxRecDepth 100000 in
theorem c_M_all (l : Launch) (D : va_G) (q : Nat → ClassId) (A : Nat → Prop) (ad : Nat → Nat) (a1 : Int32) (h : Hs) (Q : Int32 → Hs → Prop) (hw : p_M_all a1 h Q) : Met l yX10_all (mw yX10_all cX10_all 2 (some .int)) rm_M_all (va_Pc [.ref (ad 0), .int a1] (pW D q A (wM q ad h))) (va_Qi Q (fun h t => pW D q A (wM q ad h) t) A) 0 0 A := by
  refine met_i (Qp := Q) (by decide) (Nat.le_of_ble_eq_true rfl) ?_
  intro p e R s m args below meth c Qm ls hR1 hR2 S RT hl G
  have hx := S.1
  have hb := S.2.1
  have hl : lv_has ls 2 [(0, .ref (ad 0)), (1, .int a1)] := hl
  unfold p_M_all at hw
  refine lv_iload_n hx hb dX10_all_0 rfl (lv_at hl 1 rfl) ?_
  refine x_SzP S hl.1 G (c_M_isFour l D q A ad a1 h _ hw) (cw_X10_129 S.2.2.2.2 ⟨Nat.le_trans (Nat.le_of_ble_eq_true rfl) hR1, Nat.le_trans (Nat.le_of_ble_eq_true rfl) hR2⟩) rfl rfl (Nat.le_of_ble_eq_true rfl) dX10_all_1 (fun r_1 H locs G z_1 hw => ?_)
  have hw := hw (fun (t0_24 : Int32) (g_24 : Hs) => ∀ (ls : Array Slot) (H : Heap) (locs : List Loc), lv_has ls 2 [] → okW D q A s (wM q ad g_24) H locs → W p l e R s m args below meth c H locs 0 0 Qm (F0 m 24 ls [.int t0_24])) (by
    intro t0_24 g_24 hw ls H locs hl G
    exact RT _ _ _ _ _ _ G hw dX10_all_24)
  refine lv_if_eq (tgt := 18) hx hb dX10_all_4 (by decide) (fun c_4 => ?_) (fun c_4 => ?_)
  · have hw := hw.1 c_4
    refine lv_aload_n hx hb dX10_all_18 rfl (lv_at hl 0 rfl) ?_
    refine lv_bipush (v := (-2)) hx hb dX10_all_19 (by decide) ?_
    refine x_Vi S hl.1 G (c_M_bad l D q A ad (-2) h _ hw) (cw_X10_118 S.2.2.2.2 ⟨Nat.le_trans (Nat.le_of_ble_eq_true rfl) hR1, Nat.le_trans (Nat.le_of_ble_eq_true rfl) hR2⟩) (me_11 km_0) rfl rfl rfl (Nat.le_of_ble_eq_true rfl) dX10_all_21 (fun r_21 h_21 H locs G hw => ?_)
    exact hw _ _ _ (lv_sub hl [] rfl) G
  · have hw := hw.2 c_4
    refine lv_aload_n hx hb dX10_all_7 rfl (lv_at hl 0 rfl) ?_
    refine lv_iconst (v := 1) hx hb dX10_all_8 (by decide) ?_
    refine lv_iload_n hx hb dX10_all_9 rfl (lv_at hl 1 rfl) ?_
    refine lv_iconst (v := 0) hx hb dX10_all_10 (by decide) ?_
    refine lv_iconst (v := 0) hx hb dX10_all_11 (by decide) ?_
    refine x_Vi S hl.1 G (c_M_tellsShare l D q A ad 1 a1 0 0 h _ hw) (cw_X10_292 S.2.2.2.2 ⟨Nat.le_trans (Nat.le_of_ble_eq_true rfl) hR1, Nat.le_trans (Nat.le_of_ble_eq_true rfl) hR2⟩) (me_11 km_0) rfl rfl rfl (Nat.le_of_ble_eq_true rfl) dX10_all_12 (fun r_12 h_12 H locs G hw => ?_)
    refine lv_goto (tgt := 24) hx hb dX10_all_15 (by decide) ?_
    exact hw _ _ _ (lv_sub hl [] rfl) G

abbrev rm_M_where : Room := { frames := 10, cells := 0, slots := 0, locals := 224 }
set_option maxHeartbeats 4000000 in
set_option maxRecDepth 100000 in
theorem c_M_where (l : Launch) (D : va_G) (q : Nat → ClassId) (A : Nat → Prop) (ad : Nat → Nat) (a1 : Int32) (a2 : Int32) (a3 : Int32) (h : Hs) (Q : Int32 → Hs → Prop) (hw : p_M_where a1 a2 a3 h Q) : Met l yX10_where (mw yX10_where cX10_where 4 (some .int)) rm_M_where (va_Pc [.ref (ad 0), .int a1, .int a2, .int a3] (pW D q A (wM q ad h))) (va_Qi Q (fun h t => pW D q A (wM q ad h) t) A) 0 0 A := by
  refine met_i (Qp := Q) (by decide) (Nat.le_of_ble_eq_true rfl) ?_
  intro p e R s m args below meth c Qm ls hR1 hR2 S RT hl G
  have hx := S.1
  have hb := S.2.1
  have hl : lv_has ls 4 [(0, .ref (ad 0)), (1, .int a1), (2, .int a2), (3, .int a3)] := hl
  unfold p_M_where at hw
  refine lv_aload_n hx hb dX10_where_0 rfl (lv_at hl 0 rfl) ?_
  refine lv_iload_n hx hb dX10_where_1 rfl (lv_at hl 1 rfl) ?_
  refine x_VzP S hl.1 G (c_M_isLot l D q A ad a1 h _ hw) (cw_X10_220 S.2.2.2.2 ⟨Nat.le_trans (Nat.le_of_ble_eq_true rfl) hR1, Nat.le_trans (Nat.le_of_ble_eq_true rfl) hR2⟩) (me_11 km_0) rfl rfl rfl (Nat.le_of_ble_eq_true rfl) dX10_where_2 (fun r_2 H locs G z_2 hw => ?_)
  have hw := hw (fun (t0_40 : Int32) (g_40 : Hs) => ∀ (ls : Array Slot) (H : Heap) (locs : List Loc), lv_has ls 4 [] → okW D q A s (wM q ad g_40) H locs → W p l e R s m args below meth c H locs 0 0 Qm (F0 m 40 ls [.int t0_40])) (by
    intro t0_40 g_40 hw ls H locs hl G
    exact RT _ _ _ _ _ _ G hw dX10_where_40)
  have hw := hw (∀ (ls : Array Slot) (H : Heap) (locs : List Loc), lv_has ls 4 [(0, .ref (ad 0))] → okW D q A s (wM q ad h) H locs → W p l e R s m args below meth c H locs 0 0 Qm (F0 m 34 ls [])) (by
    intro hw ls H locs hl G
    refine lv_aload_n hx hb dX10_where_34 rfl (lv_at hl 0 rfl) ?_
    refine lv_bipush (v := (-2)) hx hb dX10_where_35 (by decide) ?_
    refine x_Vi S hl.1 G (c_M_bad l D q A ad (-2) h _ hw) (cw_X10_118 S.2.2.2.2 ⟨Nat.le_trans (Nat.le_of_ble_eq_true rfl) hR1, Nat.le_trans (Nat.le_of_ble_eq_true rfl) hR2⟩) (me_11 km_0) rfl rfl rfl (Nat.le_of_ble_eq_true rfl) dX10_where_37 (fun r_37 h_37 H locs G hw => ?_)
    exact hw _ _ _ (lv_sub hl [] rfl) G)
  refine lv_if_eq (tgt := 34) hx hb dX10_where_5 (by decide) (fun c_5 => ?_) (fun c_5 => ?_)
  · have hw := hw.1 c_5
    exact hw _ _ _ (lv_sub hl [0] rfl) G
  · have hw := hw.2 c_5
    refine lv_iload_n hx hb dX10_where_8 rfl (lv_at hl 2 rfl) ?_
    refine x_SzP S hl.1 G (c_M_isMonth l D q A ad a2 h _ hw) (cw_X10_223 S.2.2.2.2 ⟨Nat.le_trans (Nat.le_of_ble_eq_true rfl) hR1, Nat.le_trans (Nat.le_of_ble_eq_true rfl) hR2⟩) rfl rfl (Nat.le_of_ble_eq_true rfl) dX10_where_9 (fun r_9 H locs G z_9 hw => ?_)
    refine lv_if_eq (tgt := 34) hx hb dX10_where_12 (by decide) (fun c_12 => ?_) (fun c_12 => ?_)
    · have hw := hw.1 c_12
      exact hw _ _ _ (lv_sub hl [0] rfl) G
    · have hw := hw.2 c_12
      refine lv_aload_n hx hb dX10_where_15 rfl (lv_at hl 0 rfl) ?_
      refine lv_iload_n hx hb dX10_where_16 rfl (lv_at hl 3 rfl) ?_
      refine x_VzP S hl.1 G (c_M_isWhere l D q A ad a3 h _ hw) (cw_X10_226 S.2.2.2.2 ⟨Nat.le_trans (Nat.le_of_ble_eq_true rfl) hR1, Nat.le_trans (Nat.le_of_ble_eq_true rfl) hR2⟩) (me_11 km_0) rfl rfl rfl (Nat.le_of_ble_eq_true rfl) dX10_where_17 (fun r_17 H locs G z_17 hw => ?_)
      refine lv_if_eq (tgt := 34) hx hb dX10_where_20 (by decide) (fun c_20 => ?_) (fun c_20 => ?_)
      · have hw := hw.1 c_20
        exact hw _ _ _ (lv_sub hl [0] rfl) G
      · have hw := hw.2 c_20
        refine lv_aload_n hx hb dX10_where_23 rfl (lv_at hl 0 rfl) ?_
        refine lv_iconst (v := 2) hx hb dX10_where_24 (by decide) ?_
        refine lv_iload_n hx hb dX10_where_25 rfl (lv_at hl 1 rfl) ?_
        refine lv_iload_n hx hb dX10_where_26 rfl (lv_at hl 2 rfl) ?_
        refine lv_iload_n hx hb dX10_where_27 rfl (lv_at hl 3 rfl) ?_
        refine x_Vi S hl.1 G (c_M_tellsShare l D q A ad 2 a1 a2 a3 h _ hw) (cw_X10_292 S.2.2.2.2 ⟨Nat.le_trans (Nat.le_of_ble_eq_true rfl) hR1, Nat.le_trans (Nat.le_of_ble_eq_true rfl) hR2⟩) (me_11 km_0) rfl rfl rfl (Nat.le_of_ble_eq_true rfl) dX10_where_28 (fun r_28 h_28 H locs G hw => ?_)
        refine lv_goto (tgt := 40) hx hb dX10_where_31 (by decide) ?_
        exact hw _ _ _ (lv_sub hl [] rfl) G

abbrev rm_M_so : Room := { frames := 10, cells := 0, slots := 0, locals := 224 }
set_option maxHeartbeats 4000000 in
set_option maxRecDepth 100000 in
theorem c_M_so (l : Launch) (D : va_G) (q : Nat → ClassId) (A : Nat → Prop) (ad : Nat → Nat) (a1 : Int32) (h : Hs) (Q : Int32 → Hs → Prop) (hw : p_M_so a1 h Q) : Met l yX10_so (mw yX10_so cX10_so 2 (some .int)) rm_M_so (va_Pc [.ref (ad 0), .int a1] (pW D q A (wM q ad h))) (va_Qi Q (fun h t => pW D q A (wM q ad h) t) A) 0 0 A := by
  refine met_i (Qp := Q) (by decide) (Nat.le_of_ble_eq_true rfl) ?_
  intro p e R s m args below meth c Qm ls hR1 hR2 S RT hl G
  have hx := S.1
  have hb := S.2.1
  have hl : lv_has ls 2 [(0, .ref (ad 0)), (1, .int a1)] := hl
  unfold p_M_so at hw
  refine lv_iload_n hx hb dX10_so_0 rfl (lv_at hl 1 rfl) ?_
  refine lv_i2l hx hb dX10_so_1 rfl ?_
  refine lv_lconst (v := 0) hx hb dX10_so_2 (by decide) ?_
  refine lv_aload_n hx hb dX10_so_3 rfl (lv_at hl 0 rfl) ?_
  refine x_ViP S hl.1 G (c_M_tellers l D q A ad h _ hw) (cw_X10_229 S.2.2.2.2 ⟨Nat.le_trans (Nat.le_of_ble_eq_true rfl) hR1, Nat.le_trans (Nat.le_of_ble_eq_true rfl) hR2⟩) (me_11 km_0) rfl rfl rfl (Nat.le_of_ble_eq_true rfl) dX10_so_4 (fun r_4 H locs G hw => ?_)
  refine lv_iconst (v := 1) hx hb dX10_so_7 (by decide) ?_
  refine lv_isub hx hb dX10_so_8 ?_
  refine lv_i2l hx hb dX10_so_9 rfl ?_
  refine x_SzP S hl.1 G (c_M_in l D q A ad a1.toInt64 0 ((r_4 - 1).toInt64) h _ hw) (cw_X10_105 S.2.2.2.2 ⟨Nat.le_trans (Nat.le_of_ble_eq_true rfl) hR1, Nat.le_trans (Nat.le_of_ble_eq_true rfl) hR2⟩) rfl rfl (Nat.le_of_ble_eq_true rfl) dX10_so_10 (fun r_10 H locs G z_10 hw => ?_)
  have hw := hw (fun (t0_33 : Int32) (g_33 : Hs) => ∀ (ls : Array Slot) (H : Heap) (locs : List Loc), lv_has ls 2 [] → okW D q A s (wM q ad g_33) H locs → W p l e R s m args below meth c H locs 0 0 Qm (F0 m 33 ls [.int t0_33])) (by
    intro t0_33 g_33 hw ls H locs hl G
    exact RT _ _ _ _ _ _ G hw dX10_so_33)
  refine lv_if_eq (tgt := 27) hx hb dX10_so_13 (by decide) (fun c_13 => ?_) (fun c_13 => ?_)
  · have hw := hw.1 c_13
    refine lv_aload_n hx hb dX10_so_27 rfl (lv_at hl 0 rfl) ?_
    refine lv_bipush (v := (-2)) hx hb dX10_so_28 (by decide) ?_
    refine x_Vi S hl.1 G (c_M_bad l D q A ad (-2) h _ hw) (cw_X10_118 S.2.2.2.2 ⟨Nat.le_trans (Nat.le_of_ble_eq_true rfl) hR1, Nat.le_trans (Nat.le_of_ble_eq_true rfl) hR2⟩) (me_11 km_0) rfl rfl rfl (Nat.le_of_ble_eq_true rfl) dX10_so_30 (fun r_30 h_30 H locs G hw => ?_)
    exact hw _ _ _ (lv_sub hl [] rfl) G
  · have hw := hw.2 c_13
    refine lv_aload_n hx hb dX10_so_16 rfl (lv_at hl 0 rfl) ?_
    refine lv_iconst (v := 3) hx hb dX10_so_17 (by decide) ?_
    refine lv_iload_n hx hb dX10_so_18 rfl (lv_at hl 1 rfl) ?_
    refine lv_iconst (v := 0) hx hb dX10_so_19 (by decide) ?_
    refine lv_iconst (v := 0) hx hb dX10_so_20 (by decide) ?_
    refine x_Vi S hl.1 G (c_M_tellsShare l D q A ad 3 a1 0 0 h _ hw) (cw_X10_292 S.2.2.2.2 ⟨Nat.le_trans (Nat.le_of_ble_eq_true rfl) hR1, Nat.le_trans (Nat.le_of_ble_eq_true rfl) hR2⟩) (me_11 km_0) rfl rfl rfl (Nat.le_of_ble_eq_true rfl) dX10_so_21 (fun r_21 h_21 H locs G hw => ?_)
    refine lv_goto (tgt := 33) hx hb dX10_so_24 (by decide) ?_
    exact hw _ _ _ (lv_sub hl [] rfl) G

abbrev rm_M_lost : Room := { frames := 9, cells := 0, slots := 0, locals := 200 }
set_option maxHeartbeats 4000000 in
set_option maxRecDepth 100000 in
theorem c_M_lost (l : Launch) (D : va_G) (q : Nat → ClassId) (A : Nat → Prop) (ad : Nat → Nat) (a1 : Int32) (h : Hs) (Q : Int32 → Hs → Prop) (hw : p_M_lost a1 h Q) : Met l yX10_lost (mw yX10_lost cX10_lost 2 (some .int)) rm_M_lost (va_Pc [.ref (ad 0), .int a1] (pW D q A (wM q ad h))) (va_Qi Q (fun h t => pW D q A (wM q ad h) t) A) 0 0 A := by
  refine met_i (Qp := Q) (by decide) (Nat.le_of_ble_eq_true rfl) ?_
  intro p e R s m args below meth c Qm ls hR1 hR2 S RT hl G
  have hx := S.1
  have hb := S.2.1
  have hl : lv_has ls 2 [(0, .ref (ad 0)), (1, .int a1)] := hl
  unfold p_M_lost at hw
  refine lv_aload_n hx hb dX10_lost_0 rfl (lv_at hl 0 rfl) ?_
  refine lv_iload_n hx hb dX10_lost_1 rfl (lv_at hl 1 rfl) ?_
  refine x_VzP S hl.1 G (c_M_isLot l D q A ad a1 h _ hw) (cw_X10_220 S.2.2.2.2 ⟨Nat.le_trans (Nat.le_of_ble_eq_true rfl) hR1, Nat.le_trans (Nat.le_of_ble_eq_true rfl) hR2⟩) (me_11 km_0) rfl rfl rfl (Nat.le_of_ble_eq_true rfl) dX10_lost_2 (fun r_2 H locs G z_2 hw => ?_)
  refine lv_if_ne (tgt := 15) hx hb dX10_lost_5 (by decide) (fun c_5 => ?_) (fun c_5 => ?_)
  · have hw := hw.1 c_5
    refine lv_aload_n hx hb dX10_lost_15 rfl (lv_at hl 0 rfl) ?_
    refine lv_iconst (v := 2) hx hb dX10_lost_16 (by decide) ?_
    refine lv_iload_n hx hb dX10_lost_17 rfl (lv_at hl 1 rfl) ?_
    refine lv_bipush (v := 119) hx hb dX10_lost_18 (by decide) ?_
    refine lv_bipush (v := 7) hx hb dX10_lost_20 (by decide) ?_
    refine x_Vi S hl.1 G (c_M_sumsUp l D q A ad 2 a1 119 7 h _ hw) (cw_X10_283 S.2.2.2.2 ⟨Nat.le_trans (Nat.le_of_ble_eq_true rfl) hR1, Nat.le_trans (Nat.le_of_ble_eq_true rfl) hR2⟩) (me_11 km_0) rfl rfl rfl (Nat.le_of_ble_eq_true rfl) dX10_lost_22 (fun r_22 h_22 H locs G hw => ?_)
    obtain ⟨z_22, hw⟩ := hw
    refine lv_if_ne (tgt := 33) hx hb dX10_lost_25 (by decide) (fun c_25 => ?_) (fun c_25 => ?_)
    · have hw := hw.1 c_25
      refine lv_aload_n hx hb dX10_lost_33 rfl (lv_at hl 0 rfl) ?_
      refine x_get (C := RX10) (T := TX10) (n := 21) S G inX10 (me_11 km_0) rfl 5 (by decide) kf_X10_27 rfl dX10_lost_34 ?_
      refine lv_bipush (v := 6) hx hb dX10_lost_37 (by decide) ?_
      refine x_iald (k := 6) S G (me_20 km_6 lm_6) (vpi (by decide)) rfl rfl dX10_lost_39 ?_
      have hw := hw (fun (t0_62 : Int32) => ∀ (ls : Array Slot) (H : Heap) (locs : List Loc), lv_has ls 2 [] → okW D q A s (wM q ad h_22) H locs → W p l e R s m args below meth c H locs 0 0 Qm (F0 m 62 ls [.int t0_62])) (by
        intro t0_62 hw ls H locs hl G
        exact RT _ _ _ _ _ _ G hw dX10_lost_62)
      refine lv_if_ne (tgt := 47) hx hb dX10_lost_40 (by decide) (fun c_40 => ?_) (fun c_40 => ?_)
      · have hw := hw.1 c_40
        refine lv_aload_n hx hb dX10_lost_47 rfl (lv_at hl 0 rfl) ?_
        refine lv_bipush (v := 6) hx hb dX10_lost_48 (by decide) ?_
        refine lv_iconst (v := 5) hx hb dX10_lost_50 (by decide) ?_
        refine x_ViP S hl.1 G (c_M_compare l D q A ad 6 5 h_22 _ hw) (cw_X10_74 S.2.2.2.2 ⟨Nat.le_trans (Nat.le_of_ble_eq_true rfl) hR1, Nat.le_trans (Nat.le_of_ble_eq_true rfl) hR2⟩) (me_11 km_0) rfl rfl rfl (Nat.le_of_ble_eq_true rfl) dX10_lost_51 (fun r_51 H locs G hw => ?_)
        refine lv_if_ne (tgt := 61) hx hb dX10_lost_54 (by decide) (fun c_54 => ?_) (fun c_54 => ?_)
        · have hw := hw.1 c_54
          refine lv_iconst (v := 2) hx hb dX10_lost_61 (by decide) ?_
          exact hw _ _ _ (lv_sub hl [] rfl) G
        · have hw := hw.2 c_54
          refine lv_iconst (v := 1) hx hb dX10_lost_57 (by decide) ?_
          refine lv_goto (tgt := 62) hx hb dX10_lost_58 (by decide) ?_
          exact hw _ _ _ (lv_sub hl [] rfl) G
      · have hw := hw.2 c_40
        refine lv_iconst (v := 0) hx hb dX10_lost_43 (by decide) ?_
        refine lv_goto (tgt := 62) hx hb dX10_lost_44 (by decide) ?_
        exact hw _ _ _ (lv_sub hl [] rfl) G
    · have hw := hw.2 c_25
      refine lv_aload_n hx hb dX10_lost_28 rfl (lv_at hl 0 rfl) ?_
      refine x_Vi S hl.1 G (c_M_no l D q A ad h_22 _ hw) (cw_X10_286 S.2.2.2.2 ⟨Nat.le_trans (Nat.le_of_ble_eq_true rfl) hR1, Nat.le_trans (Nat.le_of_ble_eq_true rfl) hR2⟩) (me_11 km_0) rfl rfl rfl (Nat.le_of_ble_eq_true rfl) dX10_lost_29 (fun r_29 h_29 H locs G hw => ?_)
      exact RT _ _ _ _ _ _ G hw dX10_lost_32
  · have hw := hw.2 c_5
    refine lv_aload_n hx hb dX10_lost_8 rfl (lv_at hl 0 rfl) ?_
    refine lv_bipush (v := (-2)) hx hb dX10_lost_9 (by decide) ?_
    refine x_Vi S hl.1 G (c_M_bad l D q A ad (-2) h _ hw) (cw_X10_118 S.2.2.2.2 ⟨Nat.le_trans (Nat.le_of_ble_eq_true rfl) hR1, Nat.le_trans (Nat.le_of_ble_eq_true rfl) hR2⟩) (me_11 km_0) rfl rfl rfl (Nat.le_of_ble_eq_true rfl) dX10_lost_11 (fun r_11 h_11 H locs G hw => ?_)
    exact RT _ _ _ _ _ _ G hw dX10_lost_14

abbrev rm_M_differs : Room := { frames := 2, cells := 0, slots := 0, locals := 47 }
set_option maxHeartbeats 4000000 in
set_option maxRecDepth 100000 in
theorem c_M_differs (l : Launch) (D : va_G) (q : Nat → ClassId) (A : Nat → Prop) (ad : Nat → Nat) (a1 : Int32) (a2 : Int32) (h : Hs) (Q : Int32 → Hs → Prop) (hw : p_M_differs a1 a2 h Q) : Met l yX10_differs (mw yX10_differs cX10_differs 7 (some .int)) rm_M_differs (va_Pc [.ref (ad 0), .int a1, .int a2] (pW D q A (wM q ad h))) (va_Qi Q (fun h t => pW D q A (wM q ad h) t) A) 0 0 A := by
  refine met_i (Qp := Q) (by decide) (Nat.le_of_ble_eq_true rfl) ?_
  intro p e R s m args below meth c Qm ls hR1 hR2 S RT hl G
  have hx := S.1
  have hb := S.2.1
  have hl : lv_has ls 7 [(0, .ref (ad 0)), (1, .int a1), (2, .int a2)] := hl
  unfold p_M_differs at hw
  refine lv_bipush (v := 21) hx hb dX10_differs_0 (by decide) ?_
  refine lv_istore_n (lv' := [(3, .int 21), (0, .ref (ad 0)), (1, .int a1), (2, .int a2)]) hx hb dX10_differs_2 rfl hl (by decide) rfl (fun ls hl => ?_)
  refine lv_iconst (v := 0) hx hb dX10_differs_3 (by decide) ?_
  refine lv_istore (lv' := [(4, .int 0), (3, .int 21), (0, .ref (ad 0)), (1, .int a1), (2, .int a2)]) hx hb dX10_differs_4 hl (by decide) rfl (fun ls hl => ?_)
  refine lv_iconst (v := 0) hx hb dX10_differs_6 (by decide) ?_
  refine lv_istore (lv' := [(5, .int 0), (4, .int 0), (3, .int 21), (0, .ref (ad 0)), (1, .int a1), (2, .int a2)]) hx hb dX10_differs_7 hl (by decide) rfl (fun ls hl => ?_)
  have hw := hw (fun (b3_9 : Int32) (b4_9 : Int32) (b5_9 : Int32) (g_9 : Hs) => ∀ (ls : Array Slot) (H : Heap) (locs : List Loc), lv_has ls 7 [(0, .ref (ad 0)), (1, .int a1), (2, .int a2), (3, .int b3_9), (4, .int b4_9), (5, .int b5_9)] → okW D q A s (wM q ad g_9) H locs → W p l e R s m args below meth c H locs 0 0 Qm (F0 m 9 ls [])) (by
    intro b3_9 b4_9 b5_9 g_9 hw ls H locs hl G
    refine lv_iload hx hb dX10_differs_9 (lv_at hl 5 rfl) ?_
    refine lv_iconst (v := 4) hx hb dX10_differs_11 (by decide) ?_
    refine lv_icmp_ge (tgt := 92) hx hb dX10_differs_12 (by decide) (fun c_12 => ?_) (fun c_12 => ?_)
    · have hw := hw.1 c_12
      refine lv_iload hx hb dX10_differs_92 (lv_at hl 4 rfl) ?_
      refine lv_iload_n hx hb dX10_differs_94 rfl (lv_at hl 3 rfl) ?_
      have hw := hw (fun (t0_106 : Int32) => ∀ (ls : Array Slot) (H : Heap) (locs : List Loc), lv_has ls 7 [] → okW D q A s (wM q ad g_9) H locs → W p l e R s m args below meth c H locs 0 0 Qm (F0 m 106 ls [.int t0_106])) (by
        intro t0_106 hw ls H locs hl G
        exact RT _ _ _ _ _ _ G hw dX10_differs_106)
      refine lv_icmp_le (tgt := 105) hx hb dX10_differs_95 (by decide) (fun c_95 => ?_) (fun c_95 => ?_)
      · have hw := hw.1 c_95
        refine lv_iconst (v := 0) hx hb dX10_differs_105 (by decide) ?_
        exact hw _ _ _ (lv_sub hl [] rfl) G
      · have hw := hw.2 c_95
        refine lv_iload hx hb dX10_differs_98 (lv_at hl 4 rfl) ?_
        refine lv_iload_n hx hb dX10_differs_100 rfl (lv_at hl 3 rfl) ?_
        refine lv_isub hx hb dX10_differs_101 ?_
        refine lv_goto (tgt := 106) hx hb dX10_differs_102 (by decide) ?_
        exact hw _ _ _ (lv_sub hl [] rfl) G
    · have hw := hw.2 c_12
      refine lv_aload_n hx hb dX10_differs_15 rfl (lv_at hl 0 rfl) ?_
      refine x_get (C := RX10) (T := TX10) (n := 21) S G inX10 (me_11 km_0) rfl 19 (by decide) kf_X10_45 rfl dX10_differs_16 ?_
      refine lv_iload hx hb dX10_differs_19 (lv_at hl 5 rfl) ?_
      obtain ⟨i_21, hw⟩ := hw
      refine x_zald (k := b5_9.toNatClampNeg) S G (me_21 km_12 lm_12) i_21 rfl rfl dX10_differs_21 ?_
      have hw := hw (fun (b3_86 : Int32) (b4_86 : Int32) (g_86 : Hs) => ∀ (ls : Array Slot) (H : Heap) (locs : List Loc), lv_has ls 7 [(0, .ref (ad 0)), (1, .int a1), (2, .int a2), (3, .int b3_86), (4, .int b4_86), (5, .int b5_9)] → okW D q A s (wM q ad g_86) H locs → W p l e R s m args below meth c H locs 0 0 Qm (F0 m 86 ls [])) (by
        intro b3_86 b4_86 g_86 hw ls H locs hl G
        obtain ⟨a5_86, ea5_86⟩ : ∃ y : Int32, y = b5_9 + 1 := ⟨_, rfl⟩
        have hw := hw a5_86 ea5_86
        refine lv_iinc (v := a5_86) (lv' := [(5, .int a5_86), (0, .ref (ad 0)), (1, .int a1), (2, .int a2), (3, .int b3_86), (4, .int b4_86)]) hx hb dX10_differs_86 hl (k := 5) rfl (by rw [ea5_86]; rfl) (by decide) rfl (fun ls hl => ?_)
        refine lv_goto (tgt := 9) hx hb dX10_differs_89 (by decide) ?_
        exact hw _ _ _ (lv_sub hl [1, 2, 3, 4, 5, 0] rfl) G)
      refine lv_if_eq (tgt := 86) hx hb dX10_differs_22 (by decide) (fun c_22 => ?_) (fun c_22 => ?_)
      · have hw := hw.1 c_22
        exact hw _ _ _ (lv_sub hl [0, 1, 2, 3, 4, 5] rfl) G
      · have hw := hw.2 c_22
        refine lv_iconst (v := 0) hx hb dX10_differs_25 (by decide) ?_
        refine lv_istore (lv' := [(6, .int 0), (0, .ref (ad 0)), (1, .int a1), (2, .int a2), (3, .int b3_9), (4, .int b4_9), (5, .int b5_9)]) hx hb dX10_differs_26 hl (by decide) rfl (fun ls hl => ?_)
        have hw := hw (fun (b6_28 : Int32) (g_28 : Hs) => ∀ (ls : Array Slot) (H : Heap) (locs : List Loc), lv_has ls 7 [(0, .ref (ad 0)), (1, .int a1), (2, .int a2), (3, .int b3_9), (4, .int b4_9), (5, .int b5_9), (6, .int b6_28)] → okW D q A s (wM q ad g_28) H locs → W p l e R s m args below meth c H locs 0 0 Qm (F0 m 28 ls [])) (by
          intro b6_28 g_28 hw ls H locs hl G
          refine lv_iload hx hb dX10_differs_28 (lv_at hl 6 rfl) ?_
          refine lv_iconst (v := 4) hx hb dX10_differs_30 (by decide) ?_
          refine lv_icmp_ge (tgt := 49) hx hb dX10_differs_31 (by decide) (fun c_31 => ?_) (fun c_31 => ?_)
          · have hw := hw.1 c_31
            refine lv_aload_n hx hb dX10_differs_49 rfl (lv_at hl 0 rfl) ?_
            refine lv_iload_n hx hb dX10_differs_50 rfl (lv_at hl 1 rfl) ?_
            refine lv_iload_n hx hb dX10_differs_51 rfl (lv_at hl 2 rfl) ?_
            refine x_ViP S hl.1 G (c_M_leftOf l D q A ad a1 a2 g_28 _ hw) (cw_X10_241 S.2.2.2.2 ⟨Nat.le_trans (Nat.le_of_ble_eq_true rfl) hR1, Nat.le_trans (Nat.le_of_ble_eq_true rfl) hR2⟩) (me_11 km_0) rfl rfl rfl (Nat.le_of_ble_eq_true rfl) dX10_differs_52 (fun r_52 H locs G hw => ?_)
            refine lv_istore (lv' := [(6, .int r_52), (0, .ref (ad 0)), (1, .int a1), (2, .int a2), (3, .int b3_9), (4, .int b4_9), (5, .int b5_9)]) hx hb dX10_differs_55 hl (by decide) rfl (fun ls hl => ?_)
            refine lv_iload hx hb dX10_differs_57 (lv_at hl 0 rfl) ?_
            refine lv_iload_n hx hb dX10_differs_59 rfl (lv_at hl 4 rfl) ?_
            have hw := hw (fun (t0_69 : Int32) => ∀ (ls : Array Slot) (H : Heap) (locs : List Loc), lv_has ls 7 [(0, .ref (ad 0)), (1, .int a1), (2, .int a2), (4, .int b4_9), (5, .int b5_9), (6, .int r_52)] → okW D q A s (wM q ad g_28) H locs → W p l e R s m args below meth c H locs 0 0 Qm (F0 m 69 ls [.int t0_69])) (by
              intro t0_69 hw ls H locs hl G
              refine lv_istore_n (lv' := [(3, .int t0_69), (0, .ref (ad 0)), (1, .int a1), (2, .int a2), (4, .int b4_9), (5, .int b5_9), (6, .int r_52)]) hx hb dX10_differs_69 rfl hl (by decide) rfl (fun ls hl => ?_)
              refine lv_iload hx hb dX10_differs_70 (lv_at hl 6 rfl) ?_
              refine lv_iload hx hb dX10_differs_72 (lv_at hl 4 rfl) ?_
              have hw := hw (fun (t0_84 : Int32) => ∀ (ls : Array Slot) (H : Heap) (locs : List Loc), lv_has ls 7 [(0, .ref (ad 0)), (1, .int a1), (2, .int a2), (3, .int t0_69), (5, .int b5_9)] → okW D q A s (wM q ad g_28) H locs → W p l e R s m args below meth c H locs 0 0 Qm (F0 m 84 ls [.int t0_84])) (by
                intro t0_84 hw ls H locs hl G
                refine lv_istore (lv' := [(4, .int t0_84), (0, .ref (ad 0)), (1, .int a1), (2, .int a2), (3, .int t0_69), (5, .int b5_9)]) hx hb dX10_differs_84 hl (by decide) rfl (fun ls hl => ?_)
                exact hw _ _ _ (lv_sub hl [1, 2, 3, 4, 0, 5] rfl) G)
              refine lv_icmp_le (tgt := 82) hx hb dX10_differs_74 (by decide) (fun c_74 => ?_) (fun c_74 => ?_)
              · have hw := hw.1 c_74
                refine lv_iload hx hb dX10_differs_82 (lv_at hl 4 rfl) ?_
                exact hw _ _ _ (lv_sub hl [1, 2, 3, 0, 5] rfl) G
              · have hw := hw.2 c_74
                refine lv_iload hx hb dX10_differs_77 (lv_at hl 6 rfl) ?_
                refine lv_goto (tgt := 84) hx hb dX10_differs_79 (by decide) ?_
                exact hw _ _ _ (lv_sub hl [1, 2, 3, 0, 5] rfl) G)
            refine lv_icmp_ge (tgt := 68) hx hb dX10_differs_60 (by decide) (fun c_60 => ?_) (fun c_60 => ?_)
            · have hw := hw.1 c_60
              refine lv_iload_n hx hb dX10_differs_68 rfl (lv_at hl 4 rfl) ?_
              exact hw _ _ _ (lv_sub hl [1, 2, 3, 5, 6, 0] rfl) G
            · have hw := hw.2 c_60
              refine lv_iload hx hb dX10_differs_63 (lv_at hl 0 rfl) ?_
              refine lv_goto (tgt := 69) hx hb dX10_differs_65 (by decide) ?_
              exact hw _ _ _ (lv_sub hl [1, 2, 3, 5, 6, 0] rfl) G
          · have hw := hw.2 c_31
            refine lv_aload_n hx hb dX10_differs_34 rfl (lv_at hl 0 rfl) ?_
            refine x_get (C := RX10) (T := TX10) (n := 21) S G inX10 (me_11 km_0) rfl 18 (by decide) kf_X10_42 rfl dX10_differs_35 ?_
            refine lv_iload hx hb dX10_differs_38 (lv_at hl 6 rfl) ?_
            refine lv_iload hx hb dX10_differs_40 (lv_at hl 5 rfl) ?_
            obtain ⟨i_42, hw⟩ := hw
            refine x_iast (k := b6_28.toNatClampNeg) S G (me_20 km_11 lm_11) i_42 rfl (ms_20 km_11 lm_11) dX10_differs_42 (fun H locs G => ?_)
            obtain ⟨h_42, eh_42⟩ : ∃ y : Hs, y = si g_28 11 b6_28.toNatClampNeg b5_9 := ⟨_, rfl⟩
            rw [← eh_42] at G
            have hw := hw h_42 eh_42
            obtain ⟨a6_43, ea6_43⟩ : ∃ y : Int32, y = b6_28 + 1 := ⟨_, rfl⟩
            have hw := hw a6_43 ea6_43
            refine lv_iinc (v := a6_43) (lv' := [(6, .int a6_43), (0, .ref (ad 0)), (1, .int a1), (2, .int a2), (3, .int b3_9), (4, .int b4_9), (5, .int b5_9)]) hx hb dX10_differs_43 hl (k := 6) rfl (by rw [ea6_43]; rfl) (by decide) rfl (fun ls hl => ?_)
            refine lv_goto (tgt := 28) hx hb dX10_differs_46 (by decide) ?_
            exact hw _ _ _ (lv_sub hl [1, 2, 3, 4, 5, 6, 0] rfl) G)
        exact hw _ _ _ (lv_sub hl [1, 2, 3, 4, 5, 6, 0] rfl) G)
  exact hw _ _ _ (lv_sub hl [3, 4, 5, 2, 1, 0] rfl) G
theorem cw_X10_296 {R : Room} {s : State} {args : Array Value} (hts : ∀ w ∈ gW, w.before args s = true) (hR : rm_M_differs.frames + 1 ≤ R.frames ∧ 8 + (7 + 11) + rm_M_differs.locals ≤ R.locals) : CallW R s args RX10 RX10 296 yX10_differs cX10_differs 7 (some .int) (mw yX10_differs cX10_differs 7 (some .int)) rm_M_differs 0 0 2 := cwV9 hts km_X10_296 ki_X10_differs ks_X10_differs kn_X10 kk_X10_differs rfl rfl (by decide +kernel) hR
abbrev rm_M_next : Room := { frames := 9, cells := 0, slots := 0, locals := 200 }
set_option maxHeartbeats 4000000 in
set_option maxRecDepth 100000 in
theorem c_M_next (l : Launch) (D : va_G) (q : Nat → ClassId) (A : Nat → Prop) (ad : Nat → Nat) (h : Hs) (Q : Int32 → Hs → Prop) (hw : p_M_next h Q) : Met l yX10_next (mw yX10_next cX10_next 6 (some .int)) rm_M_next (va_Pc [.ref (ad 0)] (pW D q A (wM q ad h))) (va_Qi Q (fun h t => pW D q A (wM q ad h) t) A) 0 0 A := by
  refine met_i (Qp := Q) (by decide) (Nat.le_of_ble_eq_true rfl) ?_
  intro p e R s m args below meth c Qm ls hR1 hR2 S RT hl G
  have hx := S.1
  have hb := S.2.1
  have hl : lv_has ls 6 [(0, .ref (ad 0))] := hl
  unfold p_M_next at hw
  refine lv_iconst (v := 0) hx hb dX10_next_0 (by decide) ?_
  refine lv_istore_n (lv' := [(1, .int 0), (0, .ref (ad 0))]) hx hb dX10_next_1 rfl hl (by decide) rfl (fun ls hl => ?_)
  have hw := hw (fun (b1_2 : Int32) (g_2 : Hs) => ∀ (ls : Array Slot) (H : Heap) (locs : List Loc), lv_has ls 6 [(0, .ref (ad 0)), (1, .int b1_2)] → okW D q A s (wM q ad g_2) H locs → W p l e R s m args below meth c H locs 0 0 Qm (F0 m 2 ls [])) (by
    intro b1_2 g_2 hw ls H locs hl G
    refine lv_iload_n hx hb dX10_next_2 rfl (lv_at hl 1 rfl) ?_
    refine lv_iconst (v := 4) hx hb dX10_next_3 (by decide) ?_
    refine lv_icmp_ge (tgt := 50) hx hb dX10_next_4 (by decide) (fun c_4 => ?_) (fun c_4 => ?_)
    · have hw := hw.1 c_4
      refine lv_iconst (v := (-1)) hx hb dX10_next_50 (by decide) ?_
      refine lv_istore_n (lv' := [(1, .int (-1)), (0, .ref (ad 0))]) hx hb dX10_next_51 rfl hl (by decide) rfl (fun ls hl => ?_)
      refine lv_iconst (v := 0) hx hb dX10_next_52 (by decide) ?_
      refine lv_istore_n (lv' := [(2, .int 0), (1, .int (-1)), (0, .ref (ad 0))]) hx hb dX10_next_53 rfl hl (by decide) rfl (fun ls hl => ?_)
      refine lv_iconst (v := 0) hx hb dX10_next_54 (by decide) ?_
      refine lv_istore_n (lv' := [(3, .int 0), (2, .int 0), (1, .int (-1)), (0, .ref (ad 0))]) hx hb dX10_next_55 rfl hl (by decide) rfl (fun ls hl => ?_)
      have hw := hw (fun (b1_56 : Int32) (b2_56 : Int32) (b3_56 : Int32) (g_56 : Hs) => ∀ (ls : Array Slot) (H : Heap) (locs : List Loc), lv_has ls 6 [(0, .ref (ad 0)), (1, .int b1_56), (2, .int b2_56), (3, .int b3_56)] → okW D q A s (wM q ad g_56) H locs → W p l e R s m args below meth c H locs 0 0 Qm (F0 m 56 ls [])) (by
        intro b1_56 b2_56 b3_56 g_56 hw ls H locs hl G
        refine lv_iload_n hx hb dX10_next_56 rfl (lv_at hl 3 rfl) ?_
        refine lv_aload_n hx hb dX10_next_57 rfl (lv_at hl 0 rfl) ?_
        refine x_ViP S hl.1 G (c_M_places l D q A ad g_56 _ hw) (cw_X10_101 S.2.2.2.2 ⟨Nat.le_trans (Nat.le_of_ble_eq_true rfl) hR1, Nat.le_trans (Nat.le_of_ble_eq_true rfl) hR2⟩) (me_11 km_0) rfl rfl rfl (Nat.le_of_ble_eq_true rfl) dX10_next_58 (fun r_58 H locs G hw => ?_)
        refine lv_icmp_ge (tgt := 135) hx hb dX10_next_61 (by decide) (fun c_61 => ?_) (fun c_61 => ?_)
        · have hw := hw.1 c_61
          refine lv_iload_n hx hb dX10_next_135 rfl (lv_at hl 1 rfl) ?_
          exact RT _ _ _ _ _ _ G hw dX10_next_136
        · have hw := hw.2 c_61
          refine lv_iconst (v := 0) hx hb dX10_next_64 (by decide) ?_
          refine lv_istore (lv' := [(4, .int 0), (0, .ref (ad 0)), (1, .int b1_56), (2, .int b2_56), (3, .int b3_56)]) hx hb dX10_next_65 hl (by decide) rfl (fun ls hl => ?_)
          have hw := hw (fun (b1_67 : Int32) (b2_67 : Int32) (b4_67 : Int32) (g_67 : Hs) => ∀ (ls : Array Slot) (H : Heap) (locs : List Loc), lv_has ls 6 [(0, .ref (ad 0)), (1, .int b1_67), (2, .int b2_67), (3, .int b3_56), (4, .int b4_67)] → okW D q A s (wM q ad g_67) H locs → W p l e R s m args below meth c H locs 0 0 Qm (F0 m 67 ls [])) (by
            intro b1_67 b2_67 b4_67 g_67 hw ls H locs hl G
            refine lv_iload hx hb dX10_next_67 (lv_at hl 4 rfl) ?_
            refine lv_iconst (v := 4) hx hb dX10_next_69 (by decide) ?_
            refine lv_icmp_ge (tgt := 129) hx hb dX10_next_70 (by decide) (fun c_70 => ?_) (fun c_70 => ?_)
            · have hw := hw.1 c_70
              obtain ⟨a3_129, ea3_129⟩ : ∃ y : Int32, y = b3_56 + 1 := ⟨_, rfl⟩
              have hw := hw a3_129 ea3_129
              refine lv_iinc (v := a3_129) (lv' := [(3, .int a3_129), (0, .ref (ad 0)), (1, .int b1_67), (2, .int b2_67), (4, .int b4_67)]) hx hb dX10_next_129 hl (k := 3) rfl (by rw [ea3_129]; rfl) (by decide) rfl (fun ls hl => ?_)
              refine lv_goto (tgt := 56) hx hb dX10_next_132 (by decide) ?_
              exact hw _ _ _ (lv_sub hl [1, 2, 3, 0] rfl) G
            · have hw := hw.2 c_70
              refine lv_aload_n hx hb dX10_next_73 rfl (lv_at hl 0 rfl) ?_
              refine lv_iload_n hx hb dX10_next_74 rfl (lv_at hl 3 rfl) ?_
              refine lv_iload hx hb dX10_next_75 (lv_at hl 4 rfl) ?_
              refine x_VzP S hl.1 G (c_M_isSigned l D q A ad b3_56 b4_67 g_67 _ hw) (cw_X10_211 S.2.2.2.2 ⟨Nat.le_trans (Nat.le_of_ble_eq_true rfl) hR1, Nat.le_trans (Nat.le_of_ble_eq_true rfl) hR2⟩) (me_11 km_0) rfl rfl rfl (Nat.le_of_ble_eq_true rfl) dX10_next_77 (fun r_77 H locs G z_77 hw => ?_)
              have hw := hw (fun (b1_123 : Int32) (b2_123 : Int32) (g_123 : Hs) => ∀ (ls : Array Slot) (H : Heap) (locs : List Loc), lv_has ls 6 [(0, .ref (ad 0)), (1, .int b1_123), (2, .int b2_123), (3, .int b3_56), (4, .int b4_67)] → okW D q A s (wM q ad g_123) H locs → W p l e R s m args below meth c H locs 0 0 Qm (F0 m 123 ls [])) (by
                intro b1_123 b2_123 g_123 hw ls H locs hl G
                obtain ⟨a4_123, ea4_123⟩ : ∃ y : Int32, y = b4_67 + 1 := ⟨_, rfl⟩
                have hw := hw a4_123 ea4_123
                refine lv_iinc (v := a4_123) (lv' := [(4, .int a4_123), (0, .ref (ad 0)), (1, .int b1_123), (2, .int b2_123), (3, .int b3_56)]) hx hb dX10_next_123 hl (k := 4) rfl (by rw [ea4_123]; rfl) (by decide) rfl (fun ls hl => ?_)
                refine lv_goto (tgt := 67) hx hb dX10_next_126 (by decide) ?_
                exact hw _ _ _ (lv_sub hl [1, 2, 3, 4, 0] rfl) G)
              refine lv_if_ne (tgt := 123) hx hb dX10_next_80 (by decide) (fun c_80 => ?_) (fun c_80 => ?_)
              · have hw := hw.1 c_80
                exact hw _ _ _ (lv_sub hl [0, 1, 2, 3, 4] rfl) G
              · have hw := hw.2 c_80
                refine lv_aload_n hx hb dX10_next_83 rfl (lv_at hl 0 rfl) ?_
                refine lv_iload_n hx hb dX10_next_84 rfl (lv_at hl 3 rfl) ?_
                refine lv_iload hx hb dX10_next_85 (lv_at hl 4 rfl) ?_
                refine x_Vi S hl.1 G (c_M_differs l D q A ad b3_56 b4_67 g_67 _ hw) (cw_X10_296 S.2.2.2.2 ⟨Nat.le_trans (Nat.le_of_ble_eq_true rfl) hR1, Nat.le_trans (Nat.le_of_ble_eq_true rfl) hR2⟩) (me_11 km_0) rfl rfl rfl (Nat.le_of_ble_eq_true rfl) dX10_next_87 (fun r_87 h_87 H locs G hw => ?_)
                refine lv_istore (lv' := [(5, .int r_87), (0, .ref (ad 0)), (1, .int b1_67), (2, .int b2_67), (3, .int b3_56), (4, .int b4_67)]) hx hb dX10_next_90 hl (by decide) rfl (fun ls hl => ?_)
                refine lv_iload hx hb dX10_next_92 (lv_at hl 0 rfl) ?_
                refine lv_iload_n hx hb dX10_next_94 rfl (lv_at hl 3 rfl) ?_
                have hw := hw (fun (t0_109 : Int32) => ∀ (ls : Array Slot) (H : Heap) (locs : List Loc), lv_has ls 6 [(0, .ref (ad 0)), (2, .int b2_67), (3, .int b3_56), (4, .int b4_67), (5, .int r_87)] → okW D q A s (wM q ad h_87) H locs → W p l e R s m args below meth c H locs 0 0 Qm (F0 m 109 ls [.int t0_109])) (by
                  intro t0_109 hw ls H locs hl G
                  refine lv_istore_n (lv' := [(1, .int t0_109), (0, .ref (ad 0)), (2, .int b2_67), (3, .int b3_56), (4, .int b4_67), (5, .int r_87)]) hx hb dX10_next_109 rfl hl (by decide) rfl (fun ls hl => ?_)
                  refine lv_iload hx hb dX10_next_110 (lv_at hl 5 rfl) ?_
                  refine lv_iload_n hx hb dX10_next_112 rfl (lv_at hl 2 rfl) ?_
                  have hw := hw (fun (t0_122 : Int32) => ∀ (ls : Array Slot) (H : Heap) (locs : List Loc), lv_has ls 6 [(0, .ref (ad 0)), (1, .int t0_109), (3, .int b3_56), (4, .int b4_67)] → okW D q A s (wM q ad h_87) H locs → W p l e R s m args below meth c H locs 0 0 Qm (F0 m 122 ls [.int t0_122])) (by
                    intro t0_122 hw ls H locs hl G
                    refine lv_istore_n (lv' := [(2, .int t0_122), (0, .ref (ad 0)), (1, .int t0_109), (3, .int b3_56), (4, .int b4_67)]) hx hb dX10_next_122 rfl hl (by decide) rfl (fun ls hl => ?_)
                    exact hw _ _ _ (lv_sub hl [1, 2, 0, 3, 4] rfl) G)
                  refine lv_icmp_le (tgt := 121) hx hb dX10_next_113 (by decide) (fun c_113 => ?_) (fun c_113 => ?_)
                  · have hw := hw.1 c_113
                    refine lv_iload_n hx hb dX10_next_121 rfl (lv_at hl 2 rfl) ?_
                    exact hw _ _ _ (lv_sub hl [1, 0, 3, 4] rfl) G
                  · have hw := hw.2 c_113
                    refine lv_iload hx hb dX10_next_116 (lv_at hl 5 rfl) ?_
                    refine lv_goto (tgt := 122) hx hb dX10_next_118 (by decide) ?_
                    exact hw _ _ _ (lv_sub hl [1, 0, 3, 4] rfl) G)
                refine lv_icmp_le (tgt := 108) hx hb dX10_next_95 (by decide) (fun c_95 => ?_) (fun c_95 => ?_)
                · have hw := hw.1 c_95
                  refine lv_iload_n hx hb dX10_next_108 rfl (lv_at hl 2 rfl) ?_
                  exact hw _ _ _ (lv_sub hl [1, 3, 4, 5, 0] rfl) G
                · have hw := hw.2 c_95
                  refine lv_bipush (v := 10) hx hb dX10_next_98 (by decide) ?_
                  refine lv_iload_n hx hb dX10_next_100 rfl (lv_at hl 4 rfl) ?_
                  refine lv_imul hx hb dX10_next_101 ?_
                  refine lv_iload hx hb dX10_next_102 (lv_at hl 5 rfl) ?_
                  refine lv_iadd hx hb dX10_next_104 ?_
                  refine lv_goto (tgt := 109) hx hb dX10_next_105 (by decide) ?_
                  exact hw _ _ _ (lv_sub hl [1, 3, 4, 5, 0] rfl) G)
          exact hw _ _ _ (lv_sub hl [1, 2, 3, 4, 0] rfl) G)
      exact hw _ _ _ (lv_sub hl [3, 2, 1, 0] rfl) G
    · have hw := hw.2 c_4
      refine lv_aload_n hx hb dX10_next_7 rfl (lv_at hl 0 rfl) ?_
      refine lv_iconst (v := 1) hx hb dX10_next_8 (by decide) ?_
      refine lv_iload_n hx hb dX10_next_9 rfl (lv_at hl 1 rfl) ?_
      refine lv_iconst (v := 0) hx hb dX10_next_10 (by decide) ?_
      refine lv_iconst (v := 0) hx hb dX10_next_11 (by decide) ?_
      refine x_Vi S hl.1 G (c_M_sumsUp l D q A ad 1 b1_2 0 0 g_2 _ hw) (cw_X10_283 S.2.2.2.2 ⟨Nat.le_trans (Nat.le_of_ble_eq_true rfl) hR1, Nat.le_trans (Nat.le_of_ble_eq_true rfl) hR2⟩) (me_11 km_0) rfl rfl rfl (Nat.le_of_ble_eq_true rfl) dX10_next_12 (fun r_12 h_12 H locs G hw => ?_)
      obtain ⟨z_12, hw⟩ := hw
      refine lv_if_ne (tgt := 23) hx hb dX10_next_15 (by decide) (fun c_15 => ?_) (fun c_15 => ?_)
      · have hw := hw.1 c_15
        refine lv_aload_n hx hb dX10_next_23 rfl (lv_at hl 0 rfl) ?_
        refine x_get (C := RX10) (T := TX10) (n := 21) S G inX10 (me_11 km_0) rfl 19 (by decide) kf_X10_45 rfl dX10_next_24 ?_
        refine lv_iload_n hx hb dX10_next_27 rfl (lv_at hl 1 rfl) ?_
        refine lv_aload_n hx hb dX10_next_28 rfl (lv_at hl 0 rfl) ?_
        refine x_get (C := RX10) (T := TX10) (n := 21) S G inX10 (me_11 km_0) rfl 5 (by decide) kf_X10_27 rfl dX10_next_29 ?_
        refine lv_bipush (v := 6) hx hb dX10_next_32 (by decide) ?_
        refine x_iald (k := 6) S G (me_20 km_6 lm_6) (vpi (by decide)) rfl rfl dX10_next_34 ?_
        have hw := hw (fun (t2_43 : Int32) => ∀ (ls : Array Slot) (H : Heap) (locs : List Loc), lv_has ls 6 [(0, .ref (ad 0)), (1, .int b1_2)] → okW D q A s (wM q ad h_12) H locs → W p l e R s m args below meth c H locs 0 0 Qm (F0 m 43 ls [.int t2_43, .int b1_2, .ref (ad 12)])) (by
          intro t2_43 hw ls H locs hl G
          obtain ⟨i_43, hw⟩ := hw
          refine x_zast (k := b1_2.toNatClampNeg) S G (me_21 km_12 lm_12) i_43 rfl (ms_21 km_12 lm_12) dX10_next_43 (fun H locs G => ?_)
          obtain ⟨h_43, eh_43⟩ : ∃ y : Hs, y = si h_12 12 b1_2.toNatClampNeg (zn t2_43) := ⟨_, rfl⟩
          rw [← eh_43] at G
          have hw := hw h_43 eh_43
          obtain ⟨a1_44, ea1_44⟩ : ∃ y : Int32, y = b1_2 + 1 := ⟨_, rfl⟩
          have hw := hw a1_44 ea1_44
          refine lv_iinc (v := a1_44) (lv' := [(1, .int a1_44), (0, .ref (ad 0))]) hx hb dX10_next_44 hl (k := 1) rfl (by rw [ea1_44]; rfl) (by decide) rfl (fun ls hl => ?_)
          refine lv_goto (tgt := 2) hx hb dX10_next_47 (by decide) ?_
          exact hw _ _ _ (lv_sub hl [1, 0] rfl) G)
        refine lv_if_le (tgt := 42) hx hb dX10_next_35 (by decide) (fun c_35 => ?_) (fun c_35 => ?_)
        · have hw := hw.1 c_35
          refine lv_iconst (v := 0) hx hb dX10_next_42 (by decide) ?_
          exact hw _ _ _ (lv_sub hl [0, 1] rfl) G
        · have hw := hw.2 c_35
          refine lv_iconst (v := 1) hx hb dX10_next_38 (by decide) ?_
          refine lv_goto (tgt := 43) hx hb dX10_next_39 (by decide) ?_
          exact hw _ _ _ (lv_sub hl [0, 1] rfl) G
      · have hw := hw.2 c_15
        refine lv_aload_n hx hb dX10_next_18 rfl (lv_at hl 0 rfl) ?_
        refine x_Vi S hl.1 G (c_M_no l D q A ad h_12 _ hw) (cw_X10_286 S.2.2.2.2 ⟨Nat.le_trans (Nat.le_of_ble_eq_true rfl) hR1, Nat.le_trans (Nat.le_of_ble_eq_true rfl) hR2⟩) (me_11 km_0) rfl rfl rfl (Nat.le_of_ble_eq_true rfl) dX10_next_19 (fun r_19 h_19 H locs G hw => ?_)
        exact RT _ _ _ _ _ _ G hw dX10_next_22)
  exact hw _ _ _ (lv_sub hl [1, 0] rfl) G

abbrev rm_M_isYear : Room := { frames := 1, cells := 0, slots := 0, locals := 25 }
set_option maxHeartbeats 4000000 in
set_option maxRecDepth 100000 in
theorem c_M_isYear (l : Launch) (D : va_G) (q : Nat → ClassId) (A : Nat → Prop) (ad : Nat → Nat) (a0 : Int32) (h : Hs) (Q : Int32 → Prop) (hw : p_M_isYear a0 h Q) : Met l yX10_isYear (mw yX10_isYear cX10_isYear 1 (some .boolean)) rm_M_isYear (va_Pc [.int a0] (pW D q A (wM q ad h))) (va_Qi (fun r h9 => zb r ∧ h9 = h ∧ Q r) (fun h t => pW D q A (wM q ad h) t) A) 0 0 A := by
  refine met_z (Qp := (fun r h9 => h9 = h ∧ Q r)) (by decide) (Nat.le_of_ble_eq_true rfl) ?_
  intro p e R s m args below meth c Qm ls hR1 hR2 S RT hl G
  have hx := S.1
  have hb := S.2.1
  have hl : lv_has ls 1 [(0, .int a0)] := hl
  unfold p_M_isYear at hw
  refine lv_iload_n hx hb dX10_isYear_0 rfl (lv_at hl 0 rfl) ?_
  refine lv_i2l hx hb dX10_isYear_1 rfl ?_
  refine lv_lconst (v := 0) hx hb dX10_isYear_2 (by decide) ?_
  refine lv_ldc2 (v := 9) hx hb S.2.2.2.1 (S.2.2.2.2 _ kl_X10_125) dX10_isYear_3 ?_
  refine x_SzP S hl.1 G (c_M_in l D q A ad a0.toInt64 0 9 h _ hw) (cw_X10_105 S.2.2.2.2 ⟨Nat.le_trans (Nat.le_of_ble_eq_true rfl) hR1, Nat.le_trans (Nat.le_of_ble_eq_true rfl) hR2⟩) rfl rfl (Nat.le_of_ble_eq_true rfl) dX10_isYear_6 (fun r_6 H locs G z_6 hw => ?_)
  exact RT _ _ _ _ _ _ G z_6 ⟨rfl, hw⟩ dX10_isYear_9
theorem cw_X10_299 {R : Room} {s : State} {args : Array Value} (hts : ∀ w ∈ gW, w.before args s = true) (hR : rm_M_isYear.frames + 1 ≤ R.frames ∧ 8 + (1 + 11) + rm_M_isYear.locals ≤ R.locals) : CallB R s args RX10 299 yX10_isYear cX10_isYear 1 (some .boolean) (mw yX10_isYear cX10_isYear 1 (some .boolean)) rm_M_isYear 0 0 1 ∧ (Cond.static yX10_isYear).before args s = true := cwS9 hts km_X10_299 kt_X10_isYear kn_X10 kk_X10_isYear rfl rfl (by decide +kernel) hR
abbrev rm_M_fed : Room := { frames := 2, cells := 0, slots := 0, locals := 46 }
set_option maxHeartbeats 4000000 in
set_option maxRecDepth 100000 in
theorem c_M_fed (l : Launch) (D : va_G) (q : Nat → ClassId) (A : Nat → Prop) (ad : Nat → Nat) (a1 : Int32) (a2 : Int32) (h : Hs) (Q : Int32 → Hs → Prop) (hw : p_M_fed a1 a2 h Q) : Met l yX10_fed (mw yX10_fed cX10_fed 3 (some .int)) rm_M_fed (va_Pc [.ref (ad 0), .int a1, .int a2] (pW D q A (wM q ad h))) (va_Qi Q (fun h t => pW D q A (wM q ad h) t) A) 0 0 A := by
  refine met_i (Qp := Q) (by decide) (Nat.le_of_ble_eq_true rfl) ?_
  intro p e R s m args below meth c Qm ls hR1 hR2 S RT hl G
  have hx := S.1
  have hb := S.2.1
  have hl : lv_has ls 3 [(0, .ref (ad 0)), (1, .int a1), (2, .int a2)] := hl
  unfold p_M_fed at hw
  refine lv_aload_n hx hb dX10_fed_0 rfl (lv_at hl 0 rfl) ?_
  refine lv_iload_n hx hb dX10_fed_1 rfl (lv_at hl 1 rfl) ?_
  refine x_VzP S hl.1 G (c_M_isPlace l D q A ad a1 h _ hw) (cw_X10_194 S.2.2.2.2 ⟨Nat.le_trans (Nat.le_of_ble_eq_true rfl) hR1, Nat.le_trans (Nat.le_of_ble_eq_true rfl) hR2⟩) (me_11 km_0) rfl rfl rfl (Nat.le_of_ble_eq_true rfl) dX10_fed_2 (fun r_2 H locs G z_2 hw => ?_)
  have hw := hw (fun (t0_30 : Int32) (g_30 : Hs) => ∀ (ls : Array Slot) (H : Heap) (locs : List Loc), lv_has ls 3 [] → okW D q A s (wM q ad g_30) H locs → W p l e R s m args below meth c H locs 0 0 Qm (F0 m 30 ls [.int t0_30])) (by
    intro t0_30 g_30 hw ls H locs hl G
    exact RT _ _ _ _ _ _ G hw dX10_fed_30)
  have hw := hw (∀ (ls : Array Slot) (H : Heap) (locs : List Loc), lv_has ls 3 [(0, .ref (ad 0))] → okW D q A s (wM q ad h) H locs → W p l e R s m args below meth c H locs 0 0 Qm (F0 m 24 ls [])) (by
    intro hw ls H locs hl G
    refine lv_aload_n hx hb dX10_fed_24 rfl (lv_at hl 0 rfl) ?_
    refine lv_bipush (v := (-2)) hx hb dX10_fed_25 (by decide) ?_
    refine x_Vi S hl.1 G (c_M_bad l D q A ad (-2) h _ hw) (cw_X10_118 S.2.2.2.2 ⟨Nat.le_trans (Nat.le_of_ble_eq_true rfl) hR1, Nat.le_trans (Nat.le_of_ble_eq_true rfl) hR2⟩) (me_11 km_0) rfl rfl rfl (Nat.le_of_ble_eq_true rfl) dX10_fed_27 (fun r_27 h_27 H locs G hw => ?_)
    exact hw _ _ _ (lv_sub hl [] rfl) G)
  refine lv_if_eq (tgt := 24) hx hb dX10_fed_5 (by decide) (fun c_5 => ?_) (fun c_5 => ?_)
  · have hw := hw.1 c_5
    exact hw _ _ _ (lv_sub hl [0] rfl) G
  · have hw := hw.2 c_5
    refine lv_iload_n hx hb dX10_fed_8 rfl (lv_at hl 2 rfl) ?_
    refine x_SzP S hl.1 G (c_M_isYear l D q A ad a2 h _ hw) (cw_X10_299 S.2.2.2.2 ⟨Nat.le_trans (Nat.le_of_ble_eq_true rfl) hR1, Nat.le_trans (Nat.le_of_ble_eq_true rfl) hR2⟩) rfl rfl (Nat.le_of_ble_eq_true rfl) dX10_fed_9 (fun r_9 H locs G z_9 hw => ?_)
    refine lv_if_eq (tgt := 24) hx hb dX10_fed_12 (by decide) (fun c_12 => ?_) (fun c_12 => ?_)
    · have hw := hw.1 c_12
      exact hw _ _ _ (lv_sub hl [0] rfl) G
    · have hw := hw.2 c_12
      refine lv_aload_n hx hb dX10_fed_15 rfl (lv_at hl 0 rfl) ?_
      refine lv_iload_n hx hb dX10_fed_16 rfl (lv_at hl 1 rfl) ?_
      refine lv_iload_n hx hb dX10_fed_17 rfl (lv_at hl 2 rfl) ?_
      refine x_ViP S hl.1 G (c_M_fedOf l D q A ad a1 a2 h _ hw) (cw_X10_235 S.2.2.2.2 ⟨Nat.le_trans (Nat.le_of_ble_eq_true rfl) hR1, Nat.le_trans (Nat.le_of_ble_eq_true rfl) hR2⟩) (me_11 km_0) rfl rfl rfl (Nat.le_of_ble_eq_true rfl) dX10_fed_18 (fun r_18 H locs G hw => ?_)
      refine lv_goto (tgt := 30) hx hb dX10_fed_21 (by decide) ?_
      exact hw _ _ _ (lv_sub hl [] rfl) G

abbrev rm_M_dry : Room := { frames := 2, cells := 0, slots := 0, locals := 46 }
set_option maxHeartbeats 4000000 in
set_option maxRecDepth 100000 in
theorem c_M_dry (l : Launch) (D : va_G) (q : Nat → ClassId) (A : Nat → Prop) (ad : Nat → Nat) (a1 : Int32) (a2 : Int32) (a3 : Int32) (h : Hs) (Q : Int32 → Hs → Prop) (hw : p_M_dry a1 a2 a3 h Q) : Met l yX10_dry (mw yX10_dry cX10_dry 8 (some .int)) rm_M_dry (va_Pc [.ref (ad 0), .int a1, .int a2, .int a3] (pW D q A (wM q ad h))) (va_Qi Q (fun h t => pW D q A (wM q ad h) t) A) 0 0 A := by
  refine met_i (Qp := Q) (by decide) (Nat.le_of_ble_eq_true rfl) ?_
  intro p e R s m args below meth c Qm ls hR1 hR2 S RT hl G
  have hx := S.1
  have hb := S.2.1
  have hl : lv_has ls 8 [(0, .ref (ad 0)), (1, .int a1), (2, .int a2), (3, .int a3)] := hl
  unfold p_M_dry at hw
  refine lv_aload_n hx hb dX10_dry_0 rfl (lv_at hl 0 rfl) ?_
  refine lv_iload_n hx hb dX10_dry_1 rfl (lv_at hl 1 rfl) ?_
  refine x_VzP S hl.1 G (c_M_isPlace l D q A ad a1 h _ hw) (cw_X10_194 S.2.2.2.2 ⟨Nat.le_trans (Nat.le_of_ble_eq_true rfl) hR1, Nat.le_trans (Nat.le_of_ble_eq_true rfl) hR2⟩) (me_11 km_0) rfl rfl rfl (Nat.le_of_ble_eq_true rfl) dX10_dry_2 (fun r_2 H locs G z_2 hw => ?_)
  have hw := hw (∀ (ls : Array Slot) (H : Heap) (locs : List Loc), lv_has ls 8 [(0, .ref (ad 0))] → okW D q A s (wM q ad h) H locs → W p l e R s m args below meth c H locs 0 0 Qm (F0 m 30 ls [])) (by
    intro hw ls H locs hl G
    refine lv_aload_n hx hb dX10_dry_30 rfl (lv_at hl 0 rfl) ?_
    refine lv_bipush (v := (-10)) hx hb dX10_dry_31 (by decide) ?_
    refine x_Vi S hl.1 G (c_M_bad l D q A ad (-10) h _ hw) (cw_X10_118 S.2.2.2.2 ⟨Nat.le_trans (Nat.le_of_ble_eq_true rfl) hR1, Nat.le_trans (Nat.le_of_ble_eq_true rfl) hR2⟩) (me_11 km_0) rfl rfl rfl (Nat.le_of_ble_eq_true rfl) dX10_dry_33 (fun r_33 h_33 H locs G hw => ?_)
    exact RT _ _ _ _ _ _ G hw dX10_dry_36)
  refine lv_if_eq (tgt := 30) hx hb dX10_dry_5 (by decide) (fun c_5 => ?_) (fun c_5 => ?_)
  · have hw := hw.1 c_5
    exact hw _ _ _ (lv_sub hl [0] rfl) G
  · have hw := hw.2 c_5
    refine lv_iload_n hx hb dX10_dry_8 rfl (lv_at hl 2 rfl) ?_
    refine lv_i2l hx hb dX10_dry_9 rfl ?_
    refine lv_lconst (v := 0) hx hb dX10_dry_10 (by decide) ?_
    refine lv_ldc2 (v := 999) hx hb S.2.2.2.1 (S.2.2.2.2 _ kl_X10_132) dX10_dry_11 ?_
    refine x_SzP S hl.1 G (c_M_in l D q A ad a2.toInt64 0 999 h _ hw) (cw_X10_105 S.2.2.2.2 ⟨Nat.le_trans (Nat.le_of_ble_eq_true rfl) hR1, Nat.le_trans (Nat.le_of_ble_eq_true rfl) hR2⟩) rfl rfl (Nat.le_of_ble_eq_true rfl) dX10_dry_14 (fun r_14 H locs G z_14 hw => ?_)
    refine lv_if_eq (tgt := 30) hx hb dX10_dry_17 (by decide) (fun c_17 => ?_) (fun c_17 => ?_)
    · have hw := hw.1 c_17
      exact hw _ _ _ (lv_sub hl [0] rfl) G
    · have hw := hw.2 c_17
      refine lv_iload_n hx hb dX10_dry_20 rfl (lv_at hl 3 rfl) ?_
      refine lv_i2l hx hb dX10_dry_21 rfl ?_
      refine lv_lconst (v := 0) hx hb dX10_dry_22 (by decide) ?_
      refine lv_lconst (v := 1) hx hb dX10_dry_23 (by decide) ?_
      refine x_SzP S hl.1 G (c_M_in l D q A ad a3.toInt64 0 1 h _ hw) (cw_X10_105 S.2.2.2.2 ⟨Nat.le_trans (Nat.le_of_ble_eq_true rfl) hR1, Nat.le_trans (Nat.le_of_ble_eq_true rfl) hR2⟩) rfl rfl (Nat.le_of_ble_eq_true rfl) dX10_dry_24 (fun r_24 H locs G z_24 hw => ?_)
      refine lv_if_ne (tgt := 37) hx hb dX10_dry_27 (by decide) (fun c_27 => ?_) (fun c_27 => ?_)
      · have hw := hw.1 c_27
        refine lv_iconst (v := (-1)) hx hb dX10_dry_37 (by decide) ?_
        refine lv_istore (lv' := [(4, .int (-1)), (0, .ref (ad 0)), (1, .int a1), (2, .int a2), (3, .int a3)]) hx hb dX10_dry_38 hl (by decide) rfl (fun ls hl => ?_)
        refine lv_iconst (v := 0) hx hb dX10_dry_40 (by decide) ?_
        refine lv_istore (lv' := [(5, .int 0), (4, .int (-1)), (0, .ref (ad 0)), (1, .int a1), (2, .int a2), (3, .int a3)]) hx hb dX10_dry_41 hl (by decide) rfl (fun ls hl => ?_)
        refine lv_iconst (v := 0) hx hb dX10_dry_43 (by decide) ?_
        refine lv_istore (lv' := [(6, .int 0), (5, .int 0), (4, .int (-1)), (0, .ref (ad 0)), (1, .int a1), (2, .int a2), (3, .int a3)]) hx hb dX10_dry_44 hl (by decide) rfl (fun ls hl => ?_)
        refine lv_iconst (v := 0) hx hb dX10_dry_46 (by decide) ?_
        refine lv_istore (lv' := [(7, .int 0), (6, .int 0), (5, .int 0), (4, .int (-1)), (0, .ref (ad 0)), (1, .int a1), (2, .int a2), (3, .int a3)]) hx hb dX10_dry_47 hl (by decide) rfl (fun ls hl => ?_)
        have hw := hw (fun (b4_49 : Int32) (b5_49 : Int32) (b6_49 : Int32) (b7_49 : Int32) => ∀ (ls : Array Slot) (H : Heap) (locs : List Loc), lv_has ls 8 [(0, .ref (ad 0)), (1, .int a1), (2, .int a2), (3, .int a3), (4, .int b4_49), (5, .int b5_49), (6, .int b6_49), (7, .int b7_49)] → okW D q A s (wM q ad h) H locs → W p l e R s m args below meth c H locs 0 0 Qm (F0 m 49 ls [])) (by
          intro b4_49 b5_49 b6_49 b7_49 hw ls H locs hl G
          refine lv_iload hx hb dX10_dry_49 (lv_at hl 7 rfl) ?_
          refine lv_bipush (v := 10) hx hb dX10_dry_51 (by decide) ?_
          refine lv_icmp_ge (tgt := 120) hx hb dX10_dry_53 (by decide) (fun c_53 => ?_) (fun c_53 => ?_)
          · have hw := hw.1 c_53
            refine lv_iload_n hx hb dX10_dry_120 rfl (lv_at hl 3 rfl) ?_
            have hw := hw (fun (t0_131 : Int32) => ∀ (ls : Array Slot) (H : Heap) (locs : List Loc), lv_has ls 8 [] → okW D q A s (wM q ad h) H locs → W p l e R s m args below meth c H locs 0 0 Qm (F0 m 131 ls [.int t0_131])) (by
              intro t0_131 hw ls H locs hl G
              exact RT _ _ _ _ _ _ G hw dX10_dry_131)
            refine lv_if_ne (tgt := 129) hx hb dX10_dry_121 (by decide) (fun c_121 => ?_) (fun c_121 => ?_)
            · have hw := hw.1 c_121
              refine lv_iload hx hb dX10_dry_129 (lv_at hl 5 rfl) ?_
              exact hw _ _ _ (lv_sub hl [] rfl) G
            · have hw := hw.2 c_121
              refine lv_iload hx hb dX10_dry_124 (lv_at hl 4 rfl) ?_
              refine lv_goto (tgt := 131) hx hb dX10_dry_126 (by decide) ?_
              exact hw _ _ _ (lv_sub hl [] rfl) G
          · have hw := hw.2 c_53
            refine lv_aload_n hx hb dX10_dry_56 rfl (lv_at hl 0 rfl) ?_
            refine lv_iload_n hx hb dX10_dry_57 rfl (lv_at hl 1 rfl) ?_
            refine lv_iload hx hb dX10_dry_58 (lv_at hl 7 rfl) ?_
            refine x_ViP S hl.1 G (c_M_fedOf l D q A ad a1 b7_49 h _ hw) (cw_X10_235 S.2.2.2.2 ⟨Nat.le_trans (Nat.le_of_ble_eq_true rfl) hR1, Nat.le_trans (Nat.le_of_ble_eq_true rfl) hR2⟩) (me_11 km_0) rfl rfl rfl (Nat.le_of_ble_eq_true rfl) dX10_dry_60 (fun r_60 H locs G hw => ?_)
            refine lv_iload_n hx hb dX10_dry_63 rfl (lv_at hl 2 rfl) ?_
            have hw := hw (fun (t0_75 : Int32) => ∀ (ls : Array Slot) (H : Heap) (locs : List Loc), lv_has ls 8 [(0, .ref (ad 0)), (1, .int a1), (2, .int a2), (3, .int a3), (4, .int b4_49), (5, .int b5_49), (7, .int b7_49)] → okW D q A s (wM q ad h) H locs → W p l e R s m args below meth c H locs 0 0 Qm (F0 m 75 ls [.int t0_75])) (by
              intro t0_75 hw ls H locs hl G
              refine lv_istore (lv' := [(6, .int t0_75), (0, .ref (ad 0)), (1, .int a1), (2, .int a2), (3, .int a3), (4, .int b4_49), (5, .int b5_49), (7, .int b7_49)]) hx hb dX10_dry_75 hl (by decide) rfl (fun ls hl => ?_)
              refine lv_iload hx hb dX10_dry_77 (lv_at hl 0 rfl) ?_
              refine lv_iload hx hb dX10_dry_79 (lv_at hl 6 rfl) ?_
              have hw := hw (fun (t0_96 : Int32) => ∀ (ls : Array Slot) (H : Heap) (locs : List Loc), lv_has ls 8 [(0, .ref (ad 0)), (1, .int a1), (2, .int a2), (3, .int a3), (5, .int b5_49), (6, .int t0_75), (7, .int b7_49)] → okW D q A s (wM q ad h) H locs → W p l e R s m args below meth c H locs 0 0 Qm (F0 m 96 ls [.int t0_96])) (by
                intro t0_96 hw ls H locs hl G
                refine lv_istore (lv' := [(4, .int t0_96), (0, .ref (ad 0)), (1, .int a1), (2, .int a2), (3, .int a3), (5, .int b5_49), (6, .int t0_75), (7, .int b7_49)]) hx hb dX10_dry_96 hl (by decide) rfl (fun ls hl => ?_)
                refine lv_iload hx hb dX10_dry_98 (lv_at hl 6 rfl) ?_
                refine lv_iload hx hb dX10_dry_100 (lv_at hl 5 rfl) ?_
                have hw := hw (fun (t0_112 : Int32) => ∀ (ls : Array Slot) (H : Heap) (locs : List Loc), lv_has ls 8 [(0, .ref (ad 0)), (1, .int a1), (2, .int a2), (3, .int a3), (4, .int t0_96), (6, .int t0_75), (7, .int b7_49)] → okW D q A s (wM q ad h) H locs → W p l e R s m args below meth c H locs 0 0 Qm (F0 m 112 ls [.int t0_112])) (by
                  intro t0_112 hw ls H locs hl G
                  refine lv_istore (lv' := [(5, .int t0_112), (0, .ref (ad 0)), (1, .int a1), (2, .int a2), (3, .int a3), (4, .int t0_96), (6, .int t0_75), (7, .int b7_49)]) hx hb dX10_dry_112 hl (by decide) rfl (fun ls hl => ?_)
                  obtain ⟨a7_114, ea7_114⟩ : ∃ y : Int32, y = b7_49 + 1 := ⟨_, rfl⟩
                  have hw := hw a7_114 ea7_114
                  refine lv_iinc (v := a7_114) (lv' := [(7, .int a7_114), (5, .int t0_112), (0, .ref (ad 0)), (1, .int a1), (2, .int a2), (3, .int a3), (4, .int t0_96), (6, .int t0_75)]) hx hb dX10_dry_114 hl (k := 7) rfl (by rw [ea7_114]; rfl) (by decide) rfl (fun ls hl => ?_)
                  refine lv_goto (tgt := 49) hx hb dX10_dry_117 (by decide) ?_
                  exact hw _ _ _ (lv_sub hl [2, 3, 4, 5, 6, 1, 7, 0] rfl) G)
                refine lv_icmp_le (tgt := 110) hx hb dX10_dry_102 (by decide) (fun c_102 => ?_) (fun c_102 => ?_)
                · have hw := hw.1 c_102
                  refine lv_iload hx hb dX10_dry_110 (lv_at hl 5 rfl) ?_
                  exact hw _ _ _ (lv_sub hl [1, 2, 3, 4, 0, 6, 7] rfl) G
                · have hw := hw.2 c_102
                  refine lv_iload hx hb dX10_dry_105 (lv_at hl 6 rfl) ?_
                  refine lv_goto (tgt := 112) hx hb dX10_dry_107 (by decide) ?_
                  exact hw _ _ _ (lv_sub hl [1, 2, 3, 4, 0, 6, 7] rfl) G)
              refine lv_icmp_le (tgt := 94) hx hb dX10_dry_81 (by decide) (fun c_81 => ?_) (fun c_81 => ?_)
              · have hw := hw.1 c_81
                refine lv_iload hx hb dX10_dry_94 (lv_at hl 5 rfl) ?_
                exact hw _ _ _ (lv_sub hl [1, 2, 3, 4, 6, 0, 7] rfl) G
              · have hw := hw.2 c_81
                refine lv_iload hx hb dX10_dry_84 (lv_at hl 7 rfl) ?_
                refine lv_iload hx hb dX10_dry_86 (lv_at hl 0 rfl) ?_
                refine lv_isub hx hb dX10_dry_88 ?_
                refine lv_iconst (v := 1) hx hb dX10_dry_89 (by decide) ?_
                refine lv_iadd hx hb dX10_dry_90 ?_
                refine lv_goto (tgt := 96) hx hb dX10_dry_91 (by decide) ?_
                exact hw _ _ _ (lv_sub hl [1, 2, 3, 4, 6, 0, 7] rfl) G)
            refine lv_icmp_ge (tgt := 74) hx hb dX10_dry_64 (by decide) (fun c_64 => ?_) (fun c_64 => ?_)
            · have hw := hw.1 c_64
              refine lv_iconst (v := 0) hx hb dX10_dry_74 (by decide) ?_
              exact hw _ _ _ (lv_sub hl [0, 1, 2, 3, 4, 5, 7] rfl) G
            · have hw := hw.2 c_64
              refine lv_iload hx hb dX10_dry_67 (lv_at hl 6 rfl) ?_
              refine lv_iconst (v := 1) hx hb dX10_dry_69 (by decide) ?_
              refine lv_iadd hx hb dX10_dry_70 ?_
              refine lv_goto (tgt := 75) hx hb dX10_dry_71 (by decide) ?_
              exact hw _ _ _ (lv_sub hl [0, 1, 2, 3, 4, 5, 7] rfl) G)
        exact hw _ _ _ (lv_sub hl [4, 5, 6, 7, 3, 2, 1, 0] rfl) G
      · have hw := hw.2 c_27
        exact hw _ _ _ (lv_sub hl [0] rfl) G

abbrev rm_M_many : Room := { frames := 2, cells := 0, slots := 0, locals := 45 }
set_option maxHeartbeats 4000000 in
set_option maxRecDepth 100000 in
theorem c_M_many (l : Launch) (D : va_G) (q : Nat → ClassId) (A : Nat → Prop) (ad : Nat → Nat) (a1 : Int32) (a2 : Int32) (a3 : Int32) (a4 : Int32) (h : Hs) (Q : Int32 → Hs → Prop) (hw : p_M_many a1 a2 a3 a4 h Q) : Met l yX10_many (mw yX10_many cX10_many 8 (some .int)) rm_M_many (va_Pc [.ref (ad 0), .int a1, .int a2, .int a3, .int a4] (pW D q A (wM q ad h))) (va_Qi Q (fun h t => pW D q A (wM q ad h) t) A) 0 0 A := by
  refine met_i (Qp := Q) (by decide) (Nat.le_of_ble_eq_true rfl) ?_
  intro p e R s m args below meth c Qm ls hR1 hR2 S RT hl G
  have hx := S.1
  have hb := S.2.1
  have hl : lv_has ls 8 [(0, .ref (ad 0)), (1, .int a1), (2, .int a2), (3, .int a3), (4, .int a4)] := hl
  unfold p_M_many at hw
  refine lv_iload_n hx hb dX10_many_0 rfl (lv_at hl 1 rfl) ?_
  refine x_SzP S hl.1 G (c_M_isFour l D q A ad a1 h _ hw) (cw_X10_129 S.2.2.2.2 ⟨Nat.le_trans (Nat.le_of_ble_eq_true rfl) hR1, Nat.le_trans (Nat.le_of_ble_eq_true rfl) hR2⟩) rfl rfl (Nat.le_of_ble_eq_true rfl) dX10_many_1 (fun r_1 H locs G z_1 hw => ?_)
  have hw := hw (∀ (ls : Array Slot) (H : Heap) (locs : List Loc), lv_has ls 8 [(0, .ref (ad 0))] → okW D q A s (wM q ad h) H locs → W p l e R s m args below meth c H locs 0 0 Qm (F0 m 42 ls [])) (by
    intro hw ls H locs hl G
    refine lv_aload_n hx hb dX10_many_42 rfl (lv_at hl 0 rfl) ?_
    refine lv_bipush (v := (-10)) hx hb dX10_many_43 (by decide) ?_
    refine x_Vi S hl.1 G (c_M_bad l D q A ad (-10) h _ hw) (cw_X10_118 S.2.2.2.2 ⟨Nat.le_trans (Nat.le_of_ble_eq_true rfl) hR1, Nat.le_trans (Nat.le_of_ble_eq_true rfl) hR2⟩) (me_11 km_0) rfl rfl rfl (Nat.le_of_ble_eq_true rfl) dX10_many_45 (fun r_45 h_45 H locs G hw => ?_)
    exact RT _ _ _ _ _ _ G hw dX10_many_48)
  refine lv_if_eq (tgt := 42) hx hb dX10_many_4 (by decide) (fun c_4 => ?_) (fun c_4 => ?_)
  · have hw := hw.1 c_4
    exact hw _ _ _ (lv_sub hl [0] rfl) G
  · have hw := hw.2 c_4
    refine lv_iload_n hx hb dX10_many_7 rfl (lv_at hl 2 rfl) ?_
    refine lv_i2l hx hb dX10_many_8 rfl ?_
    refine lv_lconst (v := 0) hx hb dX10_many_9 (by decide) ?_
    refine lv_ldc2 (v := 20) hx hb S.2.2.2.1 (S.2.2.2.2 _ kl_X10_302) dX10_many_10 ?_
    refine x_SzP S hl.1 G (c_M_in l D q A ad a2.toInt64 0 20 h _ hw) (cw_X10_105 S.2.2.2.2 ⟨Nat.le_trans (Nat.le_of_ble_eq_true rfl) hR1, Nat.le_trans (Nat.le_of_ble_eq_true rfl) hR2⟩) rfl rfl (Nat.le_of_ble_eq_true rfl) dX10_many_13 (fun r_13 H locs G z_13 hw => ?_)
    refine lv_if_eq (tgt := 42) hx hb dX10_many_16 (by decide) (fun c_16 => ?_) (fun c_16 => ?_)
    · have hw := hw.1 c_16
      exact hw _ _ _ (lv_sub hl [0] rfl) G
    · have hw := hw.2 c_16
      refine lv_iload_n hx hb dX10_many_19 rfl (lv_at hl 3 rfl) ?_
      refine lv_i2l hx hb dX10_many_20 rfl ?_
      refine lv_lconst (v := 1) hx hb dX10_many_21 (by decide) ?_
      refine lv_ldc2 (v := 120) hx hb S.2.2.2.1 (S.2.2.2.2 _ kl_X10_304) dX10_many_22 ?_
      refine x_SzP S hl.1 G (c_M_in l D q A ad a3.toInt64 1 120 h _ hw) (cw_X10_105 S.2.2.2.2 ⟨Nat.le_trans (Nat.le_of_ble_eq_true rfl) hR1, Nat.le_trans (Nat.le_of_ble_eq_true rfl) hR2⟩) rfl rfl (Nat.le_of_ble_eq_true rfl) dX10_many_25 (fun r_25 H locs G z_25 hw => ?_)
      refine lv_if_eq (tgt := 42) hx hb dX10_many_28 (by decide) (fun c_28 => ?_) (fun c_28 => ?_)
      · have hw := hw.1 c_28
        exact hw _ _ _ (lv_sub hl [0] rfl) G
      · have hw := hw.2 c_28
        refine lv_iload hx hb dX10_many_31 (lv_at hl 4 rfl) ?_
        refine lv_i2l hx hb dX10_many_33 rfl ?_
        refine lv_lconst (v := 0) hx hb dX10_many_34 (by decide) ?_
        refine lv_lconst (v := 1) hx hb dX10_many_35 (by decide) ?_
        refine x_SzP S hl.1 G (c_M_in l D q A ad a4.toInt64 0 1 h _ hw) (cw_X10_105 S.2.2.2.2 ⟨Nat.le_trans (Nat.le_of_ble_eq_true rfl) hR1, Nat.le_trans (Nat.le_of_ble_eq_true rfl) hR2⟩) rfl rfl (Nat.le_of_ble_eq_true rfl) dX10_many_36 (fun r_36 H locs G z_36 hw => ?_)
        refine lv_if_ne (tgt := 49) hx hb dX10_many_39 (by decide) (fun c_39 => ?_) (fun c_39 => ?_)
        · have hw := hw.1 c_39
          refine lv_iconst (v := (-1)) hx hb dX10_many_49 (by decide) ?_
          refine lv_istore (lv' := [(5, .int (-1)), (0, .ref (ad 0)), (1, .int a1), (2, .int a2), (3, .int a3), (4, .int a4)]) hx hb dX10_many_50 hl (by decide) rfl (fun ls hl => ?_)
          refine lv_iconst (v := 0) hx hb dX10_many_52 (by decide) ?_
          refine lv_istore (lv' := [(6, .int 0), (5, .int (-1)), (0, .ref (ad 0)), (1, .int a1), (2, .int a2), (3, .int a3), (4, .int a4)]) hx hb dX10_many_53 hl (by decide) rfl (fun ls hl => ?_)
          have hw := hw (fun (b5_55 : Int32) (b6_55 : Int32) => ∀ (ls : Array Slot) (H : Heap) (locs : List Loc), lv_has ls 8 [(0, .ref (ad 0)), (1, .int a1), (2, .int a2), (3, .int a3), (4, .int a4), (5, .int b5_55), (6, .int b6_55)] → okW D q A s (wM q ad h) H locs → W p l e R s m args below meth c H locs 0 0 Qm (F0 m 55 ls [])) (by
            intro b5_55 b6_55 hw ls H locs hl G
            refine lv_iload hx hb dX10_many_55 (lv_at hl 6 rfl) ?_
            refine lv_sipush (v := 999) hx hb dX10_many_57 (by decide) ?_
            refine lv_icmp_gt (tgt := 120) hx hb dX10_many_60 (by decide) (fun c_60 => ?_) (fun c_60 => ?_)
            · have hw := hw.1 c_60
              refine lv_iload hx hb dX10_many_120 (lv_at hl 5 rfl) ?_
              exact RT _ _ _ _ _ _ G hw dX10_many_122
            · have hw := hw.2 c_60
              refine lv_iload hx hb dX10_many_63 (lv_at hl 6 rfl) ?_
              refine lv_iload_n hx hb dX10_many_65 rfl (lv_at hl 3 rfl) ?_
              refine lv_imul hx hb dX10_many_66 ?_
              refine lv_aload_n hx hb dX10_many_67 rfl (lv_at hl 0 rfl) ?_
              refine x_get (C := RX10) (T := TX10) (n := 21) S G inX10 (me_11 km_0) rfl 0 (by decide) kf_X10_7 rfl dX10_many_68 ?_
              refine lv_bipush (v := 22) hx hb dX10_many_71 (by decide) ?_
              refine lv_iload_n hx hb dX10_many_73 rfl (lv_at hl 1 rfl) ?_
              refine lv_iadd hx hb dX10_many_74 ?_
              obtain ⟨i_75, hw⟩ := hw
              refine x_iald (k := (22 + a1).toNatClampNeg) S G (me_20 km_1 lm_1) i_75 rfl rfl dX10_many_75 ?_
              obtain ⟨n_76, hw⟩ := hw
              refine lv_idiv hx hb dX10_many_76 n_76 ?_
              refine lv_iload_n hx hb dX10_many_77 rfl (lv_at hl 2 rfl) ?_
              have hw := hw (fun (t0_86 : Int32) => ∀ (ls : Array Slot) (H : Heap) (locs : List Loc), lv_has ls 8 [(0, .ref (ad 0)), (1, .int a1), (2, .int a2), (3, .int a3), (4, .int a4), (5, .int b5_55), (6, .int b6_55)] → okW D q A s (wM q ad h) H locs → W p l e R s m args below meth c H locs 0 0 Qm (F0 m 86 ls [.int t0_86])) (by
                intro t0_86 hw ls H locs hl G
                refine lv_istore (lv' := [(7, .int t0_86), (0, .ref (ad 0)), (1, .int a1), (2, .int a2), (3, .int a3), (4, .int a4), (5, .int b5_55), (6, .int b6_55)]) hx hb dX10_many_86 hl (by decide) rfl (fun ls hl => ?_)
                refine lv_iload hx hb dX10_many_88 (lv_at hl 0 rfl) ?_
                have hw := hw (fun (t0_112 : Int32) => ∀ (ls : Array Slot) (H : Heap) (locs : List Loc), lv_has ls 8 [(0, .ref (ad 0)), (1, .int a1), (2, .int a2), (3, .int a3), (4, .int a4), (6, .int b6_55)] → okW D q A s (wM q ad h) H locs → W p l e R s m args below meth c H locs 0 0 Qm (F0 m 112 ls [.int t0_112])) (by
                  intro t0_112 hw ls H locs hl G
                  refine lv_istore (lv' := [(5, .int t0_112), (0, .ref (ad 0)), (1, .int a1), (2, .int a2), (3, .int a3), (4, .int a4), (6, .int b6_55)]) hx hb dX10_many_112 hl (by decide) rfl (fun ls hl => ?_)
                  obtain ⟨a6_114, ea6_114⟩ : ∃ y : Int32, y = b6_55 + 1 := ⟨_, rfl⟩
                  have hw := hw a6_114 ea6_114
                  refine lv_iinc (v := a6_114) (lv' := [(6, .int a6_114), (5, .int t0_112), (0, .ref (ad 0)), (1, .int a1), (2, .int a2), (3, .int a3), (4, .int a4)]) hx hb dX10_many_114 hl (k := 6) rfl (by rw [ea6_114]; rfl) (by decide) rfl (fun ls hl => ?_)
                  refine lv_goto (tgt := 55) hx hb dX10_many_117 (by decide) ?_
                  exact hw _ _ _ (lv_sub hl [2, 3, 4, 5, 6, 1, 0] rfl) G)
                have hw := hw (∀ (ls : Array Slot) (H : Heap) (locs : List Loc), lv_has ls 8 [(0, .ref (ad 0)), (1, .int a1), (2, .int a2), (3, .int a3), (4, .int a4), (5, .int b5_55), (6, .int b6_55)] → okW D q A s (wM q ad h) H locs → W p l e R s m args below meth c H locs 0 0 Qm (F0 m 110 ls [])) (by
                  intro hw ls H locs hl G
                  refine lv_iload hx hb dX10_many_110 (lv_at hl 5 rfl) ?_
                  exact hw _ _ _ (lv_sub hl [0, 1, 2, 3, 4, 6] rfl) G)
                refine lv_if_eq (tgt := 110) hx hb dX10_many_90 (by decide) (fun c_90 => ?_) (fun c_90 => ?_)
                · have hw := hw.1 c_90
                  exact hw _ _ _ (lv_sub hl [1, 2, 3, 4, 5, 6, 7] rfl) G
                · have hw := hw.2 c_90
                  refine lv_iload hx hb dX10_many_93 (lv_at hl 5 rfl) ?_
                  refine lv_iconst (v := 1) hx hb dX10_many_95 (by decide) ?_
                  have hw := hw (∀ (ls : Array Slot) (H : Heap) (locs : List Loc), lv_has ls 8 [(0, .ref (ad 0)), (1, .int a1), (2, .int a2), (3, .int a3), (4, .int a4), (6, .int b6_55)] → okW D q A s (wM q ad h) H locs → W p l e R s m args below meth c H locs 0 0 Qm (F0 m 105 ls [])) (by
                    intro hw ls H locs hl G
                    refine lv_iload hx hb dX10_many_105 (lv_at hl 5 rfl) ?_
                    refine lv_goto (tgt := 112) hx hb dX10_many_107 (by decide) ?_
                    exact hw _ _ _ (lv_sub hl [0, 1, 2, 3, 4, 5] rfl) G)
                  refine lv_icmp_eq (tgt := 105) hx hb dX10_many_96 (by decide) (fun c_96 => ?_) (fun c_96 => ?_)
                  · have hw := hw.1 c_96
                    exact hw _ _ _ (lv_sub hl [1, 2, 3, 4, 5, 7] rfl) G
                  · have hw := hw.2 c_96
                    refine lv_iload hx hb dX10_many_99 (lv_at hl 6 rfl) ?_
                    refine lv_iconst (v := (-1)) hx hb dX10_many_101 (by decide) ?_
                    refine lv_icmp_ne (tgt := 110) hx hb dX10_many_102 (by decide) (fun c_102 => ?_) (fun c_102 => ?_)
                    · have hw := hw.1 c_102
                      exact hw _ _ _ (lv_sub hl [1, 2, 3, 4, 5, 6, 7] rfl) G
                    · have hw := hw.2 c_102
                      exact hw _ _ _ (lv_sub hl [1, 2, 3, 4, 5, 7] rfl) G)
              refine lv_icmp_ne (tgt := 85) hx hb dX10_many_78 (by decide) (fun c_78 => ?_) (fun c_78 => ?_)
              · have hw := hw.1 c_78
                refine lv_iconst (v := 0) hx hb dX10_many_85 (by decide) ?_
                exact hw _ _ _ (lv_sub hl [0, 1, 2, 3, 4, 5, 6] rfl) G
              · have hw := hw.2 c_78
                refine lv_iconst (v := 1) hx hb dX10_many_81 (by decide) ?_
                refine lv_goto (tgt := 86) hx hb dX10_many_82 (by decide) ?_
                exact hw _ _ _ (lv_sub hl [0, 1, 2, 3, 4, 5, 6] rfl) G)
          exact hw _ _ _ (lv_sub hl [2, 3, 4, 5, 6, 1, 0] rfl) G
        · have hw := hw.2 c_39
          exact hw _ _ _ (lv_sub hl [0] rfl) G

abbrev rm_M_power : Room := { frames := 0, cells := 0, slots := 0, locals := 0 }
set_option maxHeartbeats 4000000 in
set_option maxRecDepth 100000 in
theorem c_M_power (l : Launch) (D : va_G) (q : Nat → ClassId) (A : Nat → Prop) (ad : Nat → Nat) (a0 : Int64) (a2 : Int32) (h : Hs) (Q : Int64 → Prop) (hw : p_M_power a0 a2 h Q) : Met l yX10_power (mw yX10_power cX10_power 6 (some .long)) rm_M_power (va_Pc [.long a0, .int a2] (pW D q A (wM q ad h))) (va_Ql (fun r h9 => h9 = h ∧ Q r) (fun h t => pW D q A (wM q ad h) t) A) 0 0 A := by
  refine met_l (Qp := (fun r h9 => h9 = h ∧ Q r)) (by decide) (Nat.le_of_ble_eq_true rfl) ?_
  intro p e R s m args below meth c Qm ls hR1 hR2 S RT hl G
  have hx := S.1
  have hb := S.2.1
  have hl : lv_has ls 6 [(0, .long a0), (2, .int a2)] := hl
  unfold p_M_power at hw
  refine lv_lconst (v := 1) hx hb dX10_power_0 (by decide) ?_
  refine lv_lstore_n (lv' := [(3, .long 1), (0, .long a0), (2, .int a2)]) hx hb dX10_power_1 rfl hl (by decide) rfl (fun ls hl => ?_)
  refine lv_iconst (v := 0) hx hb dX10_power_2 (by decide) ?_
  refine lv_istore (lv' := [(5, .int 0), (3, .long 1), (0, .long a0), (2, .int a2)]) hx hb dX10_power_3 hl (by decide) rfl (fun ls hl => ?_)
  have hw := hw (fun (b3_5 : Int64) (b5_5 : Int32) => ∀ (ls : Array Slot) (H : Heap) (locs : List Loc), lv_has ls 6 [(0, .long a0), (2, .int a2), (3, .long b3_5), (5, .int b5_5)] → okW D q A s (wM q ad h) H locs → W p l e R s m args below meth c H locs 0 0 Qm (F0 m 5 ls [])) (by
    intro b3_5 b5_5 hw ls H locs hl G
    refine lv_iload hx hb dX10_power_5 (lv_at hl 3 rfl) ?_
    refine lv_iload_n hx hb dX10_power_7 rfl (lv_at hl 1 rfl) ?_
    refine lv_icmp_ge (tgt := 21) hx hb dX10_power_8 (by decide) (fun c_8 => ?_) (fun c_8 => ?_)
    · have hw := hw.1 c_8
      refine lv_lload_n hx hb dX10_power_21 rfl (lv_at hl 2 rfl) ?_
      exact RT _ _ _ _ _ _ G ⟨rfl, hw⟩ dX10_power_22
    · have hw := hw.2 c_8
      refine lv_lload_n hx hb dX10_power_11 rfl (lv_at hl 2 rfl) ?_
      refine lv_lload_n hx hb dX10_power_12 rfl (lv_at hl 0 rfl) ?_
      refine lv_lmul hx hb dX10_power_13 ?_
      refine lv_topl (fun a3_14 ea3_14 => ?_)
      have hw := hw a3_14 ea3_14
      refine lv_lstore_n (lv' := [(3, .long a3_14), (0, .long a0), (2, .int a2), (5, .int b5_5)]) hx hb dX10_power_14 rfl hl (by decide) rfl (fun ls hl => ?_)
      obtain ⟨a5_15, ea5_15⟩ : ∃ y : Int32, y = b5_5 + 1 := ⟨_, rfl⟩
      have hw := hw a5_15 ea5_15
      refine lv_iinc (v := a5_15) (lv' := [(5, .int a5_15), (3, .long a3_14), (0, .long a0), (2, .int a2)]) hx hb dX10_power_15 hl (k := 3) rfl (by rw [ea5_15]; rfl) (by decide) rfl (fun ls hl => ?_)
      refine lv_goto (tgt := 5) hx hb dX10_power_18 (by decide) ?_
      exact hw _ _ _ (lv_sub hl [2, 3, 1, 0] rfl) G)
  exact hw _ _ _ (lv_sub hl [2, 3, 1, 0] rfl) G
theorem cw_X10_308 {R : Room} {s : State} {args : Array Value} (hts : ∀ w ∈ gW, w.before args s = true) (hR : rm_M_power.frames + 1 ≤ R.frames ∧ 8 + (6 + 11) + rm_M_power.locals ≤ R.locals) : CallB R s args RX10 308 yX10_power cX10_power 6 (some .long) (mw yX10_power cX10_power 6 (some .long)) rm_M_power 0 0 2 ∧ (Cond.static yX10_power).before args s = true := cwS9 hts km_X10_308 kt_X10_power kn_X10 kk_X10_power rfl rfl (by decide +kernel) hR
abbrev rm_M_stone : Room := { frames := 5, cells := 0, slots := 0, locals := 122 }
set_option maxHeartbeats 4000000 in
set_option maxRecDepth 100000 in
theorem c_M_stone (l : Launch) (D : va_G) (q : Nat → ClassId) (A : Nat → Prop) (ad : Nat → Nat) (a1 : Int32) (a2 : Int32) (a3 : Int32) (a4 : Int32) (a5 : Int32) (h : Hs) (Q : Int32 → Hs → Prop) (hw : p_M_stone a1 a2 a3 a4 a5 h Q) : Met l yX10_stone (mw yX10_stone cX10_stone 10 (some .int)) rm_M_stone (va_Pc [.ref (ad 0), .int a1, .int a2, .int a3, .int a4, .int a5] (pW D q A (wM q ad h))) (va_Qi Q (fun h t => pW D q A (wM q ad h) t) A) 0 0 A := by
  refine met_i (Qp := Q) (by decide) (Nat.le_of_ble_eq_true rfl) ?_
  intro p e R s m args below meth c Qm ls hR1 hR2 S RT hl G
  have hx := S.1
  have hb := S.2.1
  have hl : lv_has ls 10 [(0, .ref (ad 0)), (1, .int a1), (2, .int a2), (3, .int a3), (4, .int a4), (5, .int a5)] := hl
  unfold p_M_stone at hw
  refine lv_iload_n hx hb dX10_stone_0 rfl (lv_at hl 1 rfl) ?_
  refine lv_i2l hx hb dX10_stone_1 rfl ?_
  refine lv_lconst (v := 0) hx hb dX10_stone_2 (by decide) ?_
  refine lv_ldc2 (v := 10) hx hb S.2.2.2.1 (S.2.2.2.2 _ kl_X10_209) dX10_stone_3 ?_
  refine x_SzP S hl.1 G (c_M_in l D q A ad a1.toInt64 0 10 h _ hw) (cw_X10_105 S.2.2.2.2 ⟨Nat.le_trans (Nat.le_of_ble_eq_true rfl) hR1, Nat.le_trans (Nat.le_of_ble_eq_true rfl) hR2⟩) rfl rfl (Nat.le_of_ble_eq_true rfl) dX10_stone_6 (fun r_6 H locs G z_6 hw => ?_)
  have hw := hw (∀ (ls : Array Slot) (H : Heap) (locs : List Loc), lv_has ls 10 [(0, .ref (ad 0))] → okW D q A s (wM q ad h) H locs → W p l e R s m args below meth c H locs 0 0 Qm (F0 m 61 ls [])) (by
    intro hw ls H locs hl G
    refine lv_aload_n hx hb dX10_stone_61 rfl (lv_at hl 0 rfl) ?_
    refine lv_bipush (v := (-2)) hx hb dX10_stone_62 (by decide) ?_
    refine x_Vi S hl.1 G (c_M_bad l D q A ad (-2) h _ hw) (cw_X10_118 S.2.2.2.2 ⟨Nat.le_trans (Nat.le_of_ble_eq_true rfl) hR1, Nat.le_trans (Nat.le_of_ble_eq_true rfl) hR2⟩) (me_11 km_0) rfl rfl rfl (Nat.le_of_ble_eq_true rfl) dX10_stone_64 (fun r_64 h_64 H locs G hw => ?_)
    exact RT _ _ _ _ _ _ G hw dX10_stone_67)
  refine lv_if_eq (tgt := 61) hx hb dX10_stone_9 (by decide) (fun c_9 => ?_) (fun c_9 => ?_)
  · have hw := hw.1 c_9
    exact hw _ _ _ (lv_sub hl [0] rfl) G
  · have hw := hw.2 c_9
    refine lv_iload_n hx hb dX10_stone_12 rfl (lv_at hl 2 rfl) ?_
    refine lv_i2l hx hb dX10_stone_13 rfl ?_
    refine lv_lconst (v := 1) hx hb dX10_stone_14 (by decide) ?_
    refine lv_ldc2 (v := 12) hx hb S.2.2.2.1 (S.2.2.2.2 _ kl_X10_306) dX10_stone_15 ?_
    refine x_SzP S hl.1 G (c_M_in l D q A ad a2.toInt64 1 12 h _ hw) (cw_X10_105 S.2.2.2.2 ⟨Nat.le_trans (Nat.le_of_ble_eq_true rfl) hR1, Nat.le_trans (Nat.le_of_ble_eq_true rfl) hR2⟩) rfl rfl (Nat.le_of_ble_eq_true rfl) dX10_stone_18 (fun r_18 H locs G z_18 hw => ?_)
    refine lv_if_eq (tgt := 61) hx hb dX10_stone_21 (by decide) (fun c_21 => ?_) (fun c_21 => ?_)
    · have hw := hw.1 c_21
      exact hw _ _ _ (lv_sub hl [0] rfl) G
    · have hw := hw.2 c_21
      refine lv_iload_n hx hb dX10_stone_24 rfl (lv_at hl 3 rfl) ?_
      refine lv_i2l hx hb dX10_stone_25 rfl ?_
      refine lv_lconst (v := 0) hx hb dX10_stone_26 (by decide) ?_
      refine lv_iload_n hx hb dX10_stone_27 rfl (lv_at hl 2 rfl) ?_
      refine lv_i2l hx hb dX10_stone_28 rfl ?_
      refine x_SzP S hl.1 G (c_M_in l D q A ad a3.toInt64 0 a2.toInt64 h _ hw) (cw_X10_105 S.2.2.2.2 ⟨Nat.le_trans (Nat.le_of_ble_eq_true rfl) hR1, Nat.le_trans (Nat.le_of_ble_eq_true rfl) hR2⟩) rfl rfl (Nat.le_of_ble_eq_true rfl) dX10_stone_29 (fun r_29 H locs G z_29 hw => ?_)
      refine lv_if_eq (tgt := 61) hx hb dX10_stone_32 (by decide) (fun c_32 => ?_) (fun c_32 => ?_)
      · have hw := hw.1 c_32
        exact hw _ _ _ (lv_sub hl [0] rfl) G
      · have hw := hw.2 c_32
        refine lv_iload hx hb dX10_stone_35 (lv_at hl 4 rfl) ?_
        refine lv_i2l hx hb dX10_stone_37 rfl ?_
        refine lv_lconst (v := 1) hx hb dX10_stone_38 (by decide) ?_
        refine lv_ldc2 (v := 9) hx hb S.2.2.2.1 (S.2.2.2.2 _ kl_X10_125) dX10_stone_39 ?_
        refine x_SzP S hl.1 G (c_M_in l D q A ad a4.toInt64 1 9 h _ hw) (cw_X10_105 S.2.2.2.2 ⟨Nat.le_trans (Nat.le_of_ble_eq_true rfl) hR1, Nat.le_trans (Nat.le_of_ble_eq_true rfl) hR2⟩) rfl rfl (Nat.le_of_ble_eq_true rfl) dX10_stone_42 (fun r_42 H locs G z_42 hw => ?_)
        refine lv_if_eq (tgt := 61) hx hb dX10_stone_45 (by decide) (fun c_45 => ?_) (fun c_45 => ?_)
        · have hw := hw.1 c_45
          exact hw _ _ _ (lv_sub hl [0] rfl) G
        · have hw := hw.2 c_45
          refine lv_iload hx hb dX10_stone_48 (lv_at hl 5 rfl) ?_
          refine lv_i2l hx hb dX10_stone_50 rfl ?_
          refine lv_lconst (v := 1) hx hb dX10_stone_51 (by decide) ?_
          refine lv_ldc2 (v := 9) hx hb S.2.2.2.1 (S.2.2.2.2 _ kl_X10_125) dX10_stone_52 ?_
          refine x_SzP S hl.1 G (c_M_in l D q A ad a5.toInt64 1 9 h _ hw) (cw_X10_105 S.2.2.2.2 ⟨Nat.le_trans (Nat.le_of_ble_eq_true rfl) hR1, Nat.le_trans (Nat.le_of_ble_eq_true rfl) hR2⟩) rfl rfl (Nat.le_of_ble_eq_true rfl) dX10_stone_55 (fun r_55 H locs G z_55 hw => ?_)
          refine lv_if_ne (tgt := 68) hx hb dX10_stone_58 (by decide) (fun c_58 => ?_) (fun c_58 => ?_)
          · have hw := hw.1 c_58
            refine lv_iload_n hx hb dX10_stone_68 rfl (lv_at hl 1 rfl) ?_
            refine lv_i2l hx hb dX10_stone_69 rfl ?_
            refine lv_iload hx hb dX10_stone_70 (lv_at hl 5 rfl) ?_
            refine lv_i2l hx hb dX10_stone_72 rfl ?_
            refine lv_iload_n hx hb dX10_stone_73 rfl (lv_at hl 3 rfl) ?_
            refine x_SlP S hl.1 G (c_M_power l D q A ad a5.toInt64 a3 h _ hw) (cw_X10_308 S.2.2.2.2 ⟨Nat.le_trans (Nat.le_of_ble_eq_true rfl) hR1, Nat.le_trans (Nat.le_of_ble_eq_true rfl) hR2⟩) rfl rfl (Nat.le_of_ble_eq_true rfl) dX10_stone_74 (fun r_74 H locs G hw => ?_)
            refine lv_lmul hx hb dX10_stone_77 ?_
            refine lv_ldc2 (v := 10) hx hb S.2.2.2.1 (S.2.2.2.2 _ kl_X10_209) dX10_stone_78 ?_
            refine lv_iload hx hb dX10_stone_81 (lv_at hl 5 rfl) ?_
            refine lv_i2l hx hb dX10_stone_83 rfl ?_
            refine lv_lsub hx hb dX10_stone_84 ?_
            refine lv_iload_n hx hb dX10_stone_85 rfl (lv_at hl 2 rfl) ?_
            refine lv_iload_n hx hb dX10_stone_86 rfl (lv_at hl 3 rfl) ?_
            refine lv_isub hx hb dX10_stone_87 ?_
            refine x_SlP S hl.1 G (c_M_power l D q A ad (10 - a5.toInt64) (a2 - a3) h _ hw) (cw_X10_308 S.2.2.2.2 ⟨Nat.le_trans (Nat.le_of_ble_eq_true rfl) hR1, Nat.le_trans (Nat.le_of_ble_eq_true rfl) hR2⟩) rfl rfl (Nat.le_of_ble_eq_true rfl) dX10_stone_88 (fun r_88 H locs G hw => ?_)
            refine lv_lmul hx hb dX10_stone_91 ?_
            refine lv_topl (fun a6_92 ea6_92 => ?_)
            have hw := hw a6_92 ea6_92
            refine lv_lstore (lv' := [(6, .long a6_92), (0, .ref (ad 0)), (1, .int a1), (2, .int a2), (3, .int a3), (4, .int a4), (5, .int a5)]) hx hb dX10_stone_92 hl (by decide) rfl (fun ls hl => ?_)
            refine lv_bipush (v := 10) hx hb dX10_stone_94 (by decide) ?_
            refine lv_iload_n hx hb dX10_stone_96 rfl (lv_at hl 2 rfl) ?_
            refine lv_isub hx hb dX10_stone_97 ?_
            refine lv_i2l hx hb dX10_stone_98 rfl ?_
            refine lv_iload hx hb dX10_stone_99 (lv_at hl 5 rfl) ?_
            refine lv_i2l hx hb dX10_stone_101 rfl ?_
            refine lv_iload_n hx hb dX10_stone_102 rfl (lv_at hl 4 rfl) ?_
            refine x_SlP S hl.1 G (c_M_power l D q A ad a4.toInt64 a3 h _ hw) (cw_X10_308 S.2.2.2.2 ⟨Nat.le_trans (Nat.le_of_ble_eq_true rfl) hR1, Nat.le_trans (Nat.le_of_ble_eq_true rfl) hR2⟩) rfl rfl (Nat.le_of_ble_eq_true rfl) dX10_stone_103 (fun r_103 H locs G hw => ?_)
            refine lv_lmul hx hb dX10_stone_106 ?_
            refine lv_ldc2 (v := 10) hx hb S.2.2.2.1 (S.2.2.2.2 _ kl_X10_209) dX10_stone_107 ?_
            refine lv_iload hx hb dX10_stone_110 (lv_at hl 5 rfl) ?_
            refine lv_i2l hx hb dX10_stone_112 rfl ?_
            refine lv_lsub hx hb dX10_stone_113 ?_
            refine lv_iload_n hx hb dX10_stone_114 rfl (lv_at hl 3 rfl) ?_
            refine lv_iload_n hx hb dX10_stone_115 rfl (lv_at hl 4 rfl) ?_
            refine lv_isub hx hb dX10_stone_116 ?_
            refine x_SlP S hl.1 G (c_M_power l D q A ad (10 - a4.toInt64) (a2 - a3) h _ hw) (cw_X10_308 S.2.2.2.2 ⟨Nat.le_trans (Nat.le_of_ble_eq_true rfl) hR1, Nat.le_trans (Nat.le_of_ble_eq_true rfl) hR2⟩) rfl rfl (Nat.le_of_ble_eq_true rfl) dX10_stone_117 (fun r_117 H locs G hw => ?_)
            refine lv_lmul hx hb dX10_stone_120 ?_
            refine lv_topl (fun a8_121 ea8_121 => ?_)
            have hw := hw a8_121 ea8_121
            refine lv_lstore (lv' := [(8, .long a8_121), (6, .long a6_92), (0, .ref (ad 0)), (1, .int a1), (2, .int a2), (3, .int a3), (4, .int a4), (5, .int a5)]) hx hb dX10_stone_121 hl (by decide) rfl (fun ls hl => ?_)
            refine lv_aload_n hx hb dX10_stone_123 rfl (lv_at hl 2 rfl) ?_
            refine lv_lload hx hb dX10_stone_124 (lv_at hl 1 rfl) ?_
            refine lv_lload hx hb dX10_stone_126 (lv_at hl 1 rfl) ?_
            refine lv_lload hx hb dX10_stone_128 (lv_at hl 0 rfl) ?_
            refine lv_ladd hx hb dX10_stone_130 ?_
            refine x_Vi S hl.1 G (c_M_tells l D q A ad a6_92 (a6_92 + a8_121) h _ hw) (cw_X10_312 S.2.2.2.2 ⟨Nat.le_trans (Nat.le_of_ble_eq_true rfl) hR1, Nat.le_trans (Nat.le_of_ble_eq_true rfl) hR2⟩) (me_11 km_0) rfl rfl rfl (Nat.le_of_ble_eq_true rfl) dX10_stone_131 (fun r_131 h_131 H locs G hw => ?_)
            exact RT _ _ _ _ _ _ G hw dX10_stone_134
          · have hw := hw.2 c_58
            exact hw _ _ _ (lv_sub hl [0] rfl) G

abbrev rm_M_days : Room := { frames := 2, cells := 0, slots := 0, locals := 46 }
set_option maxHeartbeats 4000000 in
set_option maxRecDepth 100000 in
theorem c_M_days (l : Launch) (D : va_G) (q : Nat → ClassId) (A : Nat → Prop) (ad : Nat → Nat) (a1 : Int32) (a2 : Int32) (a3 : Int32) (h : Hs) (Q : Int32 → Hs → Prop) (hw : p_M_days a1 a2 a3 h Q) : Met l yX10_days (mw yX10_days cX10_days 5 (some .int)) rm_M_days (va_Pc [.ref (ad 0), .int a1, .int a2, .int a3] (pW D q A (wM q ad h))) (va_Qi Q (fun h t => pW D q A (wM q ad h) t) A) 0 0 A := by
  refine met_i (Qp := Q) (by decide) (Nat.le_of_ble_eq_true rfl) ?_
  intro p e R s m args below meth c Qm ls hR1 hR2 S RT hl G
  have hx := S.1
  have hb := S.2.1
  have hl : lv_has ls 5 [(0, .ref (ad 0)), (1, .int a1), (2, .int a2), (3, .int a3)] := hl
  unfold p_M_days at hw
  refine lv_aload_n hx hb dX10_days_0 rfl (lv_at hl 0 rfl) ?_
  refine lv_iload_n hx hb dX10_days_1 rfl (lv_at hl 1 rfl) ?_
  refine x_VzP S hl.1 G (c_M_isPlace l D q A ad a1 h _ hw) (cw_X10_194 S.2.2.2.2 ⟨Nat.le_trans (Nat.le_of_ble_eq_true rfl) hR1, Nat.le_trans (Nat.le_of_ble_eq_true rfl) hR2⟩) (me_11 km_0) rfl rfl rfl (Nat.le_of_ble_eq_true rfl) dX10_days_2 (fun r_2 H locs G z_2 hw => ?_)
  have hw := hw (∀ (ls : Array Slot) (H : Heap) (locs : List Loc), lv_has ls 5 [(0, .ref (ad 0))] → okW D q A s (wM q ad h) H locs → W p l e R s m args below meth c H locs 0 0 Qm (F0 m 33 ls [])) (by
    intro hw ls H locs hl G
    refine lv_aload_n hx hb dX10_days_33 rfl (lv_at hl 0 rfl) ?_
    refine lv_bipush (v := (-2)) hx hb dX10_days_34 (by decide) ?_
    refine x_Vi S hl.1 G (c_M_bad l D q A ad (-2) h _ hw) (cw_X10_118 S.2.2.2.2 ⟨Nat.le_trans (Nat.le_of_ble_eq_true rfl) hR1, Nat.le_trans (Nat.le_of_ble_eq_true rfl) hR2⟩) (me_11 km_0) rfl rfl rfl (Nat.le_of_ble_eq_true rfl) dX10_days_36 (fun r_36 h_36 H locs G hw => ?_)
    exact RT _ _ _ _ _ _ G hw dX10_days_39)
  refine lv_if_eq (tgt := 33) hx hb dX10_days_5 (by decide) (fun c_5 => ?_) (fun c_5 => ?_)
  · have hw := hw.1 c_5
    exact hw _ _ _ (lv_sub hl [0] rfl) G
  · have hw := hw.2 c_5
    refine lv_aload_n hx hb dX10_days_8 rfl (lv_at hl 0 rfl) ?_
    refine lv_iload_n hx hb dX10_days_9 rfl (lv_at hl 2 rfl) ?_
    refine x_VzP S hl.1 G (c_M_isPlace l D q A ad a2 h _ hw) (cw_X10_194 S.2.2.2.2 ⟨Nat.le_trans (Nat.le_of_ble_eq_true rfl) hR1, Nat.le_trans (Nat.le_of_ble_eq_true rfl) hR2⟩) (me_11 km_0) rfl rfl rfl (Nat.le_of_ble_eq_true rfl) dX10_days_10 (fun r_10 H locs G z_10 hw => ?_)
    refine lv_if_eq (tgt := 33) hx hb dX10_days_13 (by decide) (fun c_13 => ?_) (fun c_13 => ?_)
    · have hw := hw.1 c_13
      exact hw _ _ _ (lv_sub hl [0] rfl) G
    · have hw := hw.2 c_13
      refine lv_iload_n hx hb dX10_days_16 rfl (lv_at hl 1 rfl) ?_
      refine lv_iload_n hx hb dX10_days_17 rfl (lv_at hl 2 rfl) ?_
      refine lv_icmp_eq (tgt := 33) hx hb dX10_days_18 (by decide) (fun c_18 => ?_) (fun c_18 => ?_)
      · have hw := hw.1 c_18
        exact hw _ _ _ (lv_sub hl [0] rfl) G
      · have hw := hw.2 c_18
        refine lv_iload_n hx hb dX10_days_21 rfl (lv_at hl 3 rfl) ?_
        refine lv_i2l hx hb dX10_days_22 rfl ?_
        refine lv_lconst (v := 0) hx hb dX10_days_23 (by decide) ?_
        refine lv_ldc2 (v := 20) hx hb S.2.2.2.1 (S.2.2.2.2 _ kl_X10_302) dX10_days_24 ?_
        refine x_SzP S hl.1 G (c_M_in l D q A ad a3.toInt64 0 20 h _ hw) (cw_X10_105 S.2.2.2.2 ⟨Nat.le_trans (Nat.le_of_ble_eq_true rfl) hR1, Nat.le_trans (Nat.le_of_ble_eq_true rfl) hR2⟩) rfl rfl (Nat.le_of_ble_eq_true rfl) dX10_days_27 (fun r_27 H locs G z_27 hw => ?_)
        refine lv_if_ne (tgt := 40) hx hb dX10_days_30 (by decide) (fun c_30 => ?_) (fun c_30 => ?_)
        · have hw := hw.1 c_30
          refine lv_aload_n hx hb dX10_days_40 rfl (lv_at hl 0 rfl) ?_
          refine x_get (C := RX10) (T := TX10) (n := 21) S G inX10 (me_11 km_0) rfl 0 (by decide) kf_X10_7 rfl dX10_days_41 ?_
          refine lv_sipush (v := 575) hx hb dX10_days_44 (by decide) ?_
          refine lv_bipush (v := 6) hx hb dX10_days_47 (by decide) ?_
          refine lv_iload_n hx hb dX10_days_49 rfl (lv_at hl 1 rfl) ?_
          refine lv_imul hx hb dX10_days_50 ?_
          refine lv_iadd hx hb dX10_days_51 ?_
          refine lv_iload_n hx hb dX10_days_52 rfl (lv_at hl 2 rfl) ?_
          refine lv_iadd hx hb dX10_days_53 ?_
          obtain ⟨i_54, hw⟩ := hw
          refine x_iald (k := ((575 + (6 * a1)) + a2).toNatClampNeg) S G (me_20 km_1 lm_1) i_54 rfl rfl dX10_days_54 ?_
          refine lv_topi (fun a4_55 ea4_55 => ?_)
          have hw := hw a4_55 ea4_55
          refine lv_istore (lv' := [(4, .int a4_55), (0, .ref (ad 0)), (1, .int a1), (2, .int a2), (3, .int a3)]) hx hb dX10_days_55 hl (by decide) rfl (fun ls hl => ?_)
          refine lv_aload_n hx hb dX10_days_57 rfl (lv_at hl 1 rfl) ?_
          refine x_get (C := RX10) (T := TX10) (n := 21) S G inX10 (me_11 km_0) rfl 0 (by decide) kf_X10_7 rfl dX10_days_58 ?_
          refine lv_sipush (v := 575) hx hb dX10_days_61 (by decide) ?_
          refine lv_bipush (v := 6) hx hb dX10_days_64 (by decide) ?_
          refine lv_iload_n hx hb dX10_days_66 rfl (lv_at hl 2 rfl) ?_
          refine lv_imul hx hb dX10_days_67 ?_
          refine lv_iadd hx hb dX10_days_68 ?_
          refine lv_iload_n hx hb dX10_days_69 rfl (lv_at hl 3 rfl) ?_
          refine lv_iadd hx hb dX10_days_70 ?_
          refine lv_iload_n hx hb dX10_days_71 rfl (lv_at hl 4 rfl) ?_
          obtain ⟨i_72, hw⟩ := hw
          refine x_iast (k := ((575 + (6 * a1)) + a2).toNatClampNeg) S G (me_20 km_1 lm_1) i_72 rfl (ms_20 km_1 lm_1) dX10_days_72 (fun H locs G => ?_)
          obtain ⟨h_72, eh_72⟩ : ∃ y : Hs, y = si h 1 (((575 + (6 * a1)) + a2).toNatClampNeg) a3 := ⟨_, rfl⟩
          rw [← eh_72] at G
          have hw := hw h_72 eh_72
          refine lv_aload_n hx hb dX10_days_73 rfl (lv_at hl 1 rfl) ?_
          refine x_get (C := RX10) (T := TX10) (n := 21) S G inX10 (me_11 km_0) rfl 0 (by decide) kf_X10_7 rfl dX10_days_74 ?_
          refine lv_sipush (v := 575) hx hb dX10_days_77 (by decide) ?_
          refine lv_bipush (v := 6) hx hb dX10_days_80 (by decide) ?_
          refine lv_iload_n hx hb dX10_days_82 rfl (lv_at hl 3 rfl) ?_
          refine lv_imul hx hb dX10_days_83 ?_
          refine lv_iadd hx hb dX10_days_84 ?_
          refine lv_iload_n hx hb dX10_days_85 rfl (lv_at hl 2 rfl) ?_
          refine lv_iadd hx hb dX10_days_86 ?_
          refine lv_iload_n hx hb dX10_days_87 rfl (lv_at hl 4 rfl) ?_
          obtain ⟨i_88, hw⟩ := hw
          refine x_iast (k := ((575 + (6 * a2)) + a1).toNatClampNeg) S G (me_20 km_1 lm_1) i_88 rfl (ms_20 km_1 lm_1) dX10_days_88 (fun H locs G => ?_)
          obtain ⟨h_88, eh_88⟩ : ∃ y : Hs, y = si h_72 1 (((575 + (6 * a2)) + a1).toNatClampNeg) a3 := ⟨_, rfl⟩
          rw [← eh_88] at G
          have hw := hw h_88 eh_88
          refine lv_iload hx hb dX10_days_89 (lv_at hl 0 rfl) ?_
          exact RT _ _ _ _ _ _ G hw dX10_days_91
        · have hw := hw.2 c_30
          exact hw _ _ _ (lv_sub hl [0] rfl) G

abbrev rm_M_isDay : Room := { frames := 1, cells := 0, slots := 0, locals := 25 }
set_option maxHeartbeats 4000000 in
set_option maxRecDepth 100000 in
theorem c_M_isDay (l : Launch) (D : va_G) (q : Nat → ClassId) (A : Nat → Prop) (ad : Nat → Nat) (a0 : Int32) (h : Hs) (Q : Int32 → Prop) (hw : p_M_isDay a0 h Q) : Met l yX10_isDay (mw yX10_isDay cX10_isDay 1 (some .boolean)) rm_M_isDay (va_Pc [.int a0] (pW D q A (wM q ad h))) (va_Qi (fun r h9 => zb r ∧ h9 = h ∧ Q r) (fun h t => pW D q A (wM q ad h) t) A) 0 0 A := by
  refine met_z (Qp := (fun r h9 => h9 = h ∧ Q r)) (by decide) (Nat.le_of_ble_eq_true rfl) ?_
  intro p e R s m args below meth c Qm ls hR1 hR2 S RT hl G
  have hx := S.1
  have hb := S.2.1
  have hl : lv_has ls 1 [(0, .int a0)] := hl
  unfold p_M_isDay at hw
  refine lv_iload_n hx hb dX10_isDay_0 rfl (lv_at hl 0 rfl) ?_
  refine lv_i2l hx hb dX10_isDay_1 rfl ?_
  refine lv_lconst (v := 0) hx hb dX10_isDay_2 (by decide) ?_
  refine lv_ldc2 (v := 59) hx hb S.2.2.2.1 (S.2.2.2.2 _ kl_X10_316) dX10_isDay_3 ?_
  refine x_SzP S hl.1 G (c_M_in l D q A ad a0.toInt64 0 59 h _ hw) (cw_X10_105 S.2.2.2.2 ⟨Nat.le_trans (Nat.le_of_ble_eq_true rfl) hR1, Nat.le_trans (Nat.le_of_ble_eq_true rfl) hR2⟩) rfl rfl (Nat.le_of_ble_eq_true rfl) dX10_isDay_6 (fun r_6 H locs G z_6 hw => ?_)
  exact RT _ _ _ _ _ _ G z_6 ⟨rfl, hw⟩ dX10_isDay_9
theorem cw_X10_318 {R : Room} {s : State} {args : Array Value} (hts : ∀ w ∈ gW, w.before args s = true) (hR : rm_M_isDay.frames + 1 ≤ R.frames ∧ 8 + (1 + 11) + rm_M_isDay.locals ≤ R.locals) : CallB R s args RX10 318 yX10_isDay cX10_isDay 1 (some .boolean) (mw yX10_isDay cX10_isDay 1 (some .boolean)) rm_M_isDay 0 0 1 ∧ (Cond.static yX10_isDay).before args s = true := cwS9 hts km_X10_318 kt_X10_isDay kn_X10 kk_X10_isDay rfl rfl (by decide +kernel) hR
abbrev rm_M_storm : Room := { frames := 2, cells := 0, slots := 0, locals := 45 }
set_option maxHeartbeats 4000000 in
set_option maxRecDepth 100000 in
theorem c_M_storm (l : Launch) (D : va_G) (q : Nat → ClassId) (A : Nat → Prop) (ad : Nat → Nat) (a1 : Int32) (a2 : Int32) (h : Hs) (Q : Int32 → Hs → Prop) (hw : p_M_storm a1 a2 h Q) : Met l yX10_storm (mw yX10_storm cX10_storm 3 (some .int)) rm_M_storm (va_Pc [.ref (ad 0), .int a1, .int a2] (pW D q A (wM q ad h))) (va_Qi Q (fun h t => pW D q A (wM q ad h) t) A) 0 0 A := by
  refine met_i (Qp := Q) (by decide) (Nat.le_of_ble_eq_true rfl) ?_
  intro p e R s m args below meth c Qm ls hR1 hR2 S RT hl G
  have hx := S.1
  have hb := S.2.1
  have hl : lv_has ls 3 [(0, .ref (ad 0)), (1, .int a1), (2, .int a2)] := hl
  unfold p_M_storm at hw
  refine lv_iload_n hx hb dX10_storm_0 rfl (lv_at hl 1 rfl) ?_
  refine x_SzP S hl.1 G (c_M_isDay l D q A ad a1 h _ hw) (cw_X10_318 S.2.2.2.2 ⟨Nat.le_trans (Nat.le_of_ble_eq_true rfl) hR1, Nat.le_trans (Nat.le_of_ble_eq_true rfl) hR2⟩) rfl rfl (Nat.le_of_ble_eq_true rfl) dX10_storm_1 (fun r_1 H locs G z_1 hw => ?_)
  refine lv_if_ne (tgt := 14) hx hb dX10_storm_4 (by decide) (fun c_4 => ?_) (fun c_4 => ?_)
  · have hw := hw.1 c_4
    refine lv_aload_n hx hb dX10_storm_14 rfl (lv_at hl 0 rfl) ?_
    refine x_get (C := RX10) (T := TX10) (n := 21) S G inX10 (me_11 km_0) rfl 0 (by decide) kf_X10_7 rfl dX10_storm_15 ?_
    refine lv_sipush (v := 611) hx hb dX10_storm_18 (by decide) ?_
    refine lv_iload_n hx hb dX10_storm_21 rfl (lv_at hl 1 rfl) ?_
    refine lv_iadd hx hb dX10_storm_22 ?_
    obtain ⟨i_23, hw⟩ := hw
    refine x_iald (k := (611 + a1).toNatClampNeg) S G (me_20 km_1 lm_1) i_23 rfl rfl dX10_storm_23 ?_
    refine lv_iload_n hx hb dX10_storm_24 rfl (lv_at hl 2 rfl) ?_
    have hw := hw (fun (t1_33 : Int32) => ∀ (ls : Array Slot) (H : Heap) (locs : List Loc), lv_has ls 3 [(0, .ref (ad 0)), (1, .int a1), (2, .int a2)] → okW D q A s (wM q ad h) H locs → W p l e R s m args below meth c H locs 0 0 Qm (F0 m 33 ls [.int t1_33, .int (gi h 1 ((611 + a1).toNatClampNeg))])) (by
      intro t1_33 hw ls H locs hl G
      refine lv_icmp_ne (tgt := 41) hx hb dX10_storm_33 (by decide) (fun c_33 => ?_) (fun c_33 => ?_)
      · have hw := hw.1 c_33
        refine lv_aload_n hx hb dX10_storm_41 rfl (lv_at hl 0 rfl) ?_
        refine x_get (C := RX10) (T := TX10) (n := 21) S G inX10 (me_11 km_0) rfl 0 (by decide) kf_X10_7 rfl dX10_storm_42 ?_
        refine lv_sipush (v := 611) hx hb dX10_storm_45 (by decide) ?_
        refine lv_iload_n hx hb dX10_storm_48 rfl (lv_at hl 1 rfl) ?_
        refine lv_iadd hx hb dX10_storm_49 ?_
        refine lv_iload_n hx hb dX10_storm_50 rfl (lv_at hl 2 rfl) ?_
        have hw := hw (fun (t2_59 : Int32) => ∀ (ls : Array Slot) (H : Heap) (locs : List Loc), lv_has ls 3 [] → okW D q A s (wM q ad h) H locs → W p l e R s m args below meth c H locs 0 0 Qm (F0 m 59 ls [.int t2_59, .int (611 + a1), .ref (ad 1)])) (by
          intro t2_59 hw ls H locs hl G
          obtain ⟨i_59, hw⟩ := hw
          refine x_iast (k := (611 + a1).toNatClampNeg) S G (me_20 km_1 lm_1) i_59 rfl (ms_20 km_1 lm_1) dX10_storm_59 (fun H locs G => ?_)
          obtain ⟨h_59, eh_59⟩ : ∃ y : Hs, y = si h 1 ((611 + a1).toNatClampNeg) t2_59 := ⟨_, rfl⟩
          rw [← eh_59] at G
          have hw := hw h_59 eh_59
          refine lv_iconst (v := 1) hx hb dX10_storm_60 (by decide) ?_
          exact RT _ _ _ _ _ _ G hw dX10_storm_61)
        refine lv_if_eq (tgt := 58) hx hb dX10_storm_51 (by decide) (fun c_51 => ?_) (fun c_51 => ?_)
        · have hw := hw.1 c_51
          refine lv_iconst (v := 0) hx hb dX10_storm_58 (by decide) ?_
          exact hw _ _ _ (lv_sub hl [] rfl) G
        · have hw := hw.2 c_51
          refine lv_iconst (v := 1) hx hb dX10_storm_54 (by decide) ?_
          refine lv_goto (tgt := 59) hx hb dX10_storm_55 (by decide) ?_
          exact hw _ _ _ (lv_sub hl [] rfl) G
      · have hw := hw.2 c_33
        refine lv_aload_n hx hb dX10_storm_36 rfl (lv_at hl 0 rfl) ?_
        refine x_Vi S hl.1 G (c_M_no l D q A ad h _ hw) (cw_X10_286 S.2.2.2.2 ⟨Nat.le_trans (Nat.le_of_ble_eq_true rfl) hR1, Nat.le_trans (Nat.le_of_ble_eq_true rfl) hR2⟩) (me_11 km_0) rfl rfl rfl (Nat.le_of_ble_eq_true rfl) dX10_storm_37 (fun r_37 h_37 H locs G hw => ?_)
        exact RT _ _ _ _ _ _ G hw dX10_storm_40)
    refine lv_if_eq (tgt := 32) hx hb dX10_storm_25 (by decide) (fun c_25 => ?_) (fun c_25 => ?_)
    · have hw := hw.1 c_25
      refine lv_iconst (v := 0) hx hb dX10_storm_32 (by decide) ?_
      exact hw _ _ _ (lv_sub hl [0, 1, 2] rfl) G
    · have hw := hw.2 c_25
      refine lv_iconst (v := 1) hx hb dX10_storm_28 (by decide) ?_
      refine lv_goto (tgt := 33) hx hb dX10_storm_29 (by decide) ?_
      exact hw _ _ _ (lv_sub hl [0, 1, 2] rfl) G
  · have hw := hw.2 c_4
    refine lv_aload_n hx hb dX10_storm_7 rfl (lv_at hl 0 rfl) ?_
    refine lv_bipush (v := (-2)) hx hb dX10_storm_8 (by decide) ?_
    refine x_Vi S hl.1 G (c_M_bad l D q A ad (-2) h _ hw) (cw_X10_118 S.2.2.2.2 ⟨Nat.le_trans (Nat.le_of_ble_eq_true rfl) hR1, Nat.le_trans (Nat.le_of_ble_eq_true rfl) hR2⟩) (me_11 km_0) rfl rfl rfl (Nat.le_of_ble_eq_true rfl) dX10_storm_10 (fun r_10 h_10 H locs G hw => ?_)
    exact RT _ _ _ _ _ _ G hw dX10_storm_13

abbrev rm_M_dayBehind : Room := { frames := 0, cells := 0, slots := 0, locals := 0 }
set_option maxHeartbeats 4000000 in
set_option maxRecDepth 100000 in
theorem c_M_dayBehind (l : Launch) (D : va_G) (q : Nat → ClassId) (A : Nat → Prop) (ad : Nat → Nat) (a1 : Int32) (a2 : Int32) (h : Hs) (Q : Int32 → Prop) (hw : p_M_dayBehind a1 a2 h Q) : Met l yX10_dayBehind (mw yX10_dayBehind cX10_dayBehind 5 (some .int)) rm_M_dayBehind (va_Pc [.ref (ad 0), .int a1, .int a2] (pW D q A (wM q ad h))) (va_Qi (fun r h9 => h9 = h ∧ Q r) (fun h t => pW D q A (wM q ad h) t) A) 0 0 A := by
  refine met_i (Qp := (fun r h9 => h9 = h ∧ Q r)) (by decide) (Nat.le_of_ble_eq_true rfl) ?_
  intro p e R s m args below meth c Qm ls hR1 hR2 S RT hl G
  have hx := S.1
  have hb := S.2.1
  have hl : lv_has ls 5 [(0, .ref (ad 0)), (1, .int a1), (2, .int a2)] := hl
  unfold p_M_dayBehind at hw
  refine lv_iload_n hx hb dX10_dayBehind_0 rfl (lv_at hl 1 rfl) ?_
  refine lv_istore_n (lv' := [(3, .int a1), (0, .ref (ad 0)), (1, .int a1), (2, .int a2)]) hx hb dX10_dayBehind_1 rfl hl (by decide) rfl (fun ls hl => ?_)
  refine lv_iload_n hx hb dX10_dayBehind_2 rfl (lv_at hl 3 rfl) ?_
  refine lv_istore (lv' := [(4, .int a2), (3, .int a1), (0, .ref (ad 0)), (1, .int a1), (2, .int a2)]) hx hb dX10_dayBehind_3 hl (by decide) rfl (fun ls hl => ?_)
  have hw := hw (fun (b3_5 : Int32) (b4_5 : Int32) => ∀ (ls : Array Slot) (H : Heap) (locs : List Loc), lv_has ls 5 [(0, .ref (ad 0)), (3, .int b3_5), (4, .int b4_5)] → okW D q A s (wM q ad h) H locs → W p l e R s m args below meth c H locs 0 0 Qm (F0 m 5 ls [])) (by
    intro b3_5 b4_5 hw ls H locs hl G
    refine lv_iload hx hb dX10_dayBehind_5 (lv_at hl 2 rfl) ?_
    refine lv_if_le (tgt := 45) hx hb dX10_dayBehind_7 (by decide) (fun c_7 => ?_) (fun c_7 => ?_)
    · have hw := hw.1 c_7
      refine lv_iload_n hx hb dX10_dayBehind_45 rfl (lv_at hl 1 rfl) ?_
      exact RT _ _ _ _ _ _ G ⟨rfl, hw⟩ dX10_dayBehind_46
    · have hw := hw.2 c_7
      refine lv_iload hx hb dX10_dayBehind_10 (lv_at hl 2 rfl) ?_
      refine lv_iload_n hx hb dX10_dayBehind_12 rfl (lv_at hl 1 rfl) ?_
      refine lv_bipush (v := 59) hx hb dX10_dayBehind_13 (by decide) ?_
      have hw := hw (fun (t1_36 : Int32) => ∀ (ls : Array Slot) (H : Heap) (locs : List Loc), lv_has ls 5 [(0, .ref (ad 0)), (3, .int b3_5)] → okW D q A s (wM q ad h) H locs → W p l e R s m args below meth c H locs 0 0 Qm (F0 m 36 ls [.int t1_36, .int b4_5])) (by
        intro t1_36 hw ls H locs hl G
        refine lv_isub hx hb dX10_dayBehind_36 ?_
        refine lv_topi (fun a4_37 ea4_37 => ?_)
        have hw := hw a4_37 ea4_37
        refine lv_istore (lv' := [(4, .int a4_37), (0, .ref (ad 0)), (3, .int b3_5)]) hx hb dX10_dayBehind_37 hl (by decide) rfl (fun ls hl => ?_)
        obtain ⟨a3_39, ea3_39⟩ : ∃ y : Int32, y = b3_5 + 1 := ⟨_, rfl⟩
        have hw := hw a3_39 ea3_39
        refine lv_iinc (v := a3_39) (lv' := [(3, .int a3_39), (4, .int a4_37), (0, .ref (ad 0))]) hx hb dX10_dayBehind_39 hl (k := 2) rfl (by rw [ea3_39]; rfl) (by decide) rfl (fun ls hl => ?_)
        refine lv_goto (tgt := 5) hx hb dX10_dayBehind_42 (by decide) ?_
        exact hw _ _ _ (lv_sub hl [2, 0, 1] rfl) G)
      have hw := hw (∀ (ls : Array Slot) (H : Heap) (locs : List Loc), lv_has ls 5 [(0, .ref (ad 0)), (3, .int b3_5)] → okW D q A s (wM q ad h) H locs → W p l e R s m args below meth c H locs 0 0 Qm (F0 m 31 ls [.int b4_5])) (by
        intro hw ls H locs hl G
        refine lv_iconst (v := 1) hx hb dX10_dayBehind_31 (by decide) ?_
        refine lv_goto (tgt := 36) hx hb dX10_dayBehind_32 (by decide) ?_
        exact hw _ _ _ (lv_sub hl [0, 1] rfl) G)
      refine lv_icmp_gt (tgt := 31) hx hb dX10_dayBehind_15 (by decide) (fun c_15 => ?_) (fun c_15 => ?_)
      · have hw := hw.1 c_15
        exact hw _ _ _ (lv_sub hl [0, 1] rfl) G
      · have hw := hw.2 c_15
        refine lv_aload_n hx hb dX10_dayBehind_18 rfl (lv_at hl 0 rfl) ?_
        refine x_get (C := RX10) (T := TX10) (n := 21) S G inX10 (me_11 km_0) rfl 0 (by decide) kf_X10_7 rfl dX10_dayBehind_19 ?_
        refine lv_sipush (v := 611) hx hb dX10_dayBehind_22 (by decide) ?_
        refine lv_iload_n hx hb dX10_dayBehind_25 rfl (lv_at hl 1 rfl) ?_
        refine lv_iadd hx hb dX10_dayBehind_26 ?_
        obtain ⟨i_27, hw⟩ := hw
        refine x_iald (k := (611 + b3_5).toNatClampNeg) S G (me_20 km_1 lm_1) i_27 rfl rfl dX10_dayBehind_27 ?_
        refine lv_if_ne (tgt := 35) hx hb dX10_dayBehind_28 (by decide) (fun c_28 => ?_) (fun c_28 => ?_)
        · have hw := hw.1 c_28
          refine lv_iconst (v := 0) hx hb dX10_dayBehind_35 (by decide) ?_
          exact hw _ _ _ (lv_sub hl [0, 1] rfl) G
        · have hw := hw.2 c_28
          exact hw _ _ _ (lv_sub hl [0, 1] rfl) G)
  exact hw _ _ _ (lv_sub hl [2, 1, 0] rfl) G
theorem cw_X10_321 {R : Room} {s : State} {args : Array Value} (hts : ∀ w ∈ gW, w.before args s = true) (hR : rm_M_dayBehind.frames + 1 ≤ R.frames ∧ 8 + (5 + 11) + rm_M_dayBehind.locals ≤ R.locals) : CallW R s args RX10 RX10 321 yX10_dayBehind cX10_dayBehind 5 (some .int) (mw yX10_dayBehind cX10_dayBehind 5 (some .int)) rm_M_dayBehind 0 0 2 := cwV9 hts km_X10_321 ki_X10_dayBehind ks_X10_dayBehind kn_X10 kk_X10_dayBehind rfl rfl (by decide +kernel) hR
abbrev rm_M_sailsTo : Room := { frames := 1, cells := 0, slots := 0, locals := 24 }
set_option maxHeartbeats 4000000 in
set_option maxRecDepth 100000 in
theorem c_M_sailsTo (l : Launch) (D : va_G) (q : Nat → ClassId) (A : Nat → Prop) (ad : Nat → Nat) (a1 : Int32) (a2 : Int32) (a3 : Int32) (h : Hs) (Q : Int32 → Hs → Prop) (hw : p_M_sailsTo a1 a2 a3 h Q) : Met l yX10_sailsTo (mw yX10_sailsTo cX10_sailsTo 9 (some .int)) rm_M_sailsTo (va_Pc [.ref (ad 0), .int a1, .int a2, .int a3] (pW D q A (wM q ad h))) (va_Qi Q (fun h t => pW D q A (wM q ad h) t) A) 0 0 A := by
  refine met_i (Qp := Q) (by decide) (Nat.le_of_ble_eq_true rfl) ?_
  intro p e R s m args below meth c Qm ls hR1 hR2 S RT hl G
  have hx := S.1
  have hb := S.2.1
  have hl : lv_has ls 9 [(0, .ref (ad 0)), (1, .int a1), (2, .int a2), (3, .int a3)] := hl
  unfold p_M_sailsTo at hw
  refine lv_iconst (v := 0) hx hb dX10_sailsTo_0 (by decide) ?_
  refine lv_istore (lv' := [(4, .int 0), (0, .ref (ad 0)), (1, .int a1), (2, .int a2), (3, .int a3)]) hx hb dX10_sailsTo_1 hl (by decide) rfl (fun ls hl => ?_)
  have hw := hw (fun (b4_3 : Int32) (g_3 : Hs) => ∀ (ls : Array Slot) (H : Heap) (locs : List Loc), lv_has ls 9 [(0, .ref (ad 0)), (1, .int a1), (2, .int a2), (3, .int a3), (4, .int b4_3)] → okW D q A s (wM q ad g_3) H locs → W p l e R s m args below meth c H locs 0 0 Qm (F0 m 3 ls [])) (by
    intro b4_3 g_3 hw ls H locs hl G
    refine lv_iload hx hb dX10_sailsTo_3 (lv_at hl 4 rfl) ?_
    refine lv_bipush (v := 6) hx hb dX10_sailsTo_5 (by decide) ?_
    refine lv_icmp_ge (tgt := 34) hx hb dX10_sailsTo_7 (by decide) (fun c_7 => ?_) (fun c_7 => ?_)
    · have hw := hw.1 c_7
      refine lv_iconst (v := 0) hx hb dX10_sailsTo_34 (by decide) ?_
      refine lv_istore (lv' := [(4, .int 0), (0, .ref (ad 0)), (1, .int a1), (2, .int a2), (3, .int a3)]) hx hb dX10_sailsTo_35 hl (by decide) rfl (fun ls hl => ?_)
      have hw := hw (fun (b4_37 : Int32) (g_37 : Hs) => ∀ (ls : Array Slot) (H : Heap) (locs : List Loc), lv_has ls 9 [(0, .ref (ad 0)), (2, .int a2), (4, .int b4_37)] → okW D q A s (wM q ad g_37) H locs → W p l e R s m args below meth c H locs 0 0 Qm (F0 m 37 ls [])) (by
        intro b4_37 g_37 hw ls H locs hl G
        refine lv_iload hx hb dX10_sailsTo_37 (lv_at hl 2 rfl) ?_
        refine lv_bipush (v := 6) hx hb dX10_sailsTo_39 (by decide) ?_
        refine lv_icmp_ge (tgt := 188) hx hb dX10_sailsTo_41 (by decide) (fun c_41 => ?_) (fun c_41 => ?_)
        · have hw := hw.1 c_41
          refine lv_aload_n hx hb dX10_sailsTo_188 rfl (lv_at hl 0 rfl) ?_
          refine x_get (C := RX10) (T := TX10) (n := 21) S G inX10 (me_11 km_0) rfl 20 (by decide) kf_X10_48 rfl dX10_sailsTo_189 ?_
          refine lv_iload_n hx hb dX10_sailsTo_192 rfl (lv_at hl 1 rfl) ?_
          obtain ⟨i_193, hw⟩ := hw
          refine x_iald (k := a2.toNatClampNeg) S G (me_20 km_13 lm_13) i_193 rfl rfl dX10_sailsTo_193 ?_
          exact RT _ _ _ _ _ _ G hw dX10_sailsTo_194
        · have hw := hw.2 c_41
          refine lv_iconst (v := 0) hx hb dX10_sailsTo_44 (by decide) ?_
          refine lv_istore (lv' := [(5, .int 0), (0, .ref (ad 0)), (2, .int a2), (4, .int b4_37)]) hx hb dX10_sailsTo_45 hl (by decide) rfl (fun ls hl => ?_)
          have hw := hw (fun (b5_47 : Int32) (g_47 : Hs) => ∀ (ls : Array Slot) (H : Heap) (locs : List Loc), lv_has ls 9 [(0, .ref (ad 0)), (2, .int a2), (4, .int b4_37), (5, .int b5_47)] → okW D q A s (wM q ad g_47) H locs → W p l e R s m args below meth c H locs 0 0 Qm (F0 m 47 ls [])) (by
            intro b5_47 g_47 hw ls H locs hl G
            refine lv_iload hx hb dX10_sailsTo_47 (lv_at hl 3 rfl) ?_
            refine lv_aload_n hx hb dX10_sailsTo_49 rfl (lv_at hl 0 rfl) ?_
            refine x_ViP S hl.1 G (c_M_places l D q A ad g_47 _ hw) (cw_X10_101 S.2.2.2.2 ⟨Nat.le_trans (Nat.le_of_ble_eq_true rfl) hR1, Nat.le_trans (Nat.le_of_ble_eq_true rfl) hR2⟩) (me_11 km_0) rfl rfl rfl (Nat.le_of_ble_eq_true rfl) dX10_sailsTo_50 (fun r_50 H locs G hw => ?_)
            refine lv_icmp_ge (tgt := 182) hx hb dX10_sailsTo_53 (by decide) (fun c_53 => ?_) (fun c_53 => ?_)
            · have hw := hw.1 c_53
              obtain ⟨a4_182, ea4_182⟩ : ∃ y : Int32, y = b4_37 + 1 := ⟨_, rfl⟩
              have hw := hw a4_182 ea4_182
              refine lv_iinc (v := a4_182) (lv' := [(4, .int a4_182), (0, .ref (ad 0)), (2, .int a2), (5, .int b5_47)]) hx hb dX10_sailsTo_182 hl (k := 2) rfl (by rw [ea4_182]; rfl) (by decide) rfl (fun ls hl => ?_)
              refine lv_goto (tgt := 37) hx hb dX10_sailsTo_185 (by decide) ?_
              exact hw _ _ _ (lv_sub hl [1, 2, 0] rfl) G
            · have hw := hw.2 c_53
              refine lv_iconst (v := 0) hx hb dX10_sailsTo_56 (by decide) ?_
              refine lv_istore (lv' := [(6, .int 0), (0, .ref (ad 0)), (2, .int a2), (4, .int b4_37), (5, .int b5_47)]) hx hb dX10_sailsTo_57 hl (by decide) rfl (fun ls hl => ?_)
              have hw := hw (fun (b6_59 : Int32) (g_59 : Hs) => ∀ (ls : Array Slot) (H : Heap) (locs : List Loc), lv_has ls 9 [(0, .ref (ad 0)), (2, .int a2), (4, .int b4_37), (5, .int b5_47), (6, .int b6_59)] → okW D q A s (wM q ad g_59) H locs → W p l e R s m args below meth c H locs 0 0 Qm (F0 m 59 ls [])) (by
                intro b6_59 g_59 hw ls H locs hl G
                refine lv_iload hx hb dX10_sailsTo_59 (lv_at hl 4 rfl) ?_
                refine lv_aload_n hx hb dX10_sailsTo_61 rfl (lv_at hl 0 rfl) ?_
                refine x_ViP S hl.1 G (c_M_places l D q A ad g_59 _ hw) (cw_X10_101 S.2.2.2.2 ⟨Nat.le_trans (Nat.le_of_ble_eq_true rfl) hR1, Nat.le_trans (Nat.le_of_ble_eq_true rfl) hR2⟩) (me_11 km_0) rfl rfl rfl (Nat.le_of_ble_eq_true rfl) dX10_sailsTo_62 (fun r_62 H locs G hw => ?_)
                have hw := hw (∀ (ls : Array Slot) (H : Heap) (locs : List Loc), lv_has ls 9 [(0, .ref (ad 0)), (2, .int a2), (4, .int b4_37), (5, .int b5_47)] → okW D q A s (wM q ad g_59) H locs → W p l e R s m args below meth c H locs 0 0 Qm (F0 m 176 ls [])) (by
                  intro hw ls H locs hl G
                  obtain ⟨a5_176, ea5_176⟩ : ∃ y : Int32, y = b5_47 + 1 := ⟨_, rfl⟩
                  have hw := hw a5_176 ea5_176
                  refine lv_iinc (v := a5_176) (lv' := [(5, .int a5_176), (0, .ref (ad 0)), (2, .int a2), (4, .int b4_37)]) hx hb dX10_sailsTo_176 hl (k := 3) rfl (by rw [ea5_176]; rfl) (by decide) rfl (fun ls hl => ?_)
                  refine lv_goto (tgt := 47) hx hb dX10_sailsTo_179 (by decide) ?_
                  exact hw _ _ _ (lv_sub hl [1, 2, 3, 0] rfl) G)
                refine lv_icmp_ge (tgt := 176) hx hb dX10_sailsTo_65 (by decide) (fun c_65 => ?_) (fun c_65 => ?_)
                · have hw := hw.1 c_65
                  exact hw _ _ _ (lv_sub hl [0, 1, 2, 3] rfl) G
                · have hw := hw.2 c_65
                  refine lv_aload_n hx hb dX10_sailsTo_68 rfl (lv_at hl 0 rfl) ?_
                  refine x_get (C := RX10) (T := TX10) (n := 21) S G inX10 (me_11 km_0) rfl 20 (by decide) kf_X10_48 rfl dX10_sailsTo_69 ?_
                  refine lv_iload hx hb dX10_sailsTo_72 (lv_at hl 3 rfl) ?_
                  obtain ⟨i_74, hw⟩ := hw
                  refine x_iald (k := b5_47.toNatClampNeg) S G (me_20 km_13 lm_13) i_74 rfl rfl dX10_sailsTo_74 ?_
                  refine lv_iconst (v := (-1)) hx hb dX10_sailsTo_75 (by decide) ?_
                  refine lv_icmp_eq (tgt := 176) hx hb dX10_sailsTo_76 (by decide) (fun c_76 => ?_) (fun c_76 => ?_)
                  · have hw := hw.1 c_76
                    exact hw _ _ _ (lv_sub hl [0, 1, 2, 3] rfl) G
                  · have hw := hw.2 c_76
                    refine lv_aload_n hx hb dX10_sailsTo_79 rfl (lv_at hl 0 rfl) ?_
                    refine x_get (C := RX10) (T := TX10) (n := 21) S G inX10 (me_11 km_0) rfl 0 (by decide) kf_X10_7 rfl dX10_sailsTo_80 ?_
                    refine lv_sipush (v := 575) hx hb dX10_sailsTo_83 (by decide) ?_
                    refine lv_bipush (v := 6) hx hb dX10_sailsTo_86 (by decide) ?_
                    refine lv_iload hx hb dX10_sailsTo_88 (lv_at hl 3 rfl) ?_
                    refine lv_imul hx hb dX10_sailsTo_90 ?_
                    refine lv_iadd hx hb dX10_sailsTo_91 ?_
                    refine lv_iload hx hb dX10_sailsTo_92 (lv_at hl 4 rfl) ?_
                    refine lv_iadd hx hb dX10_sailsTo_94 ?_
                    obtain ⟨i_95, hw⟩ := hw
                    refine x_iald (k := ((575 + (6 * b5_47)) + b6_59).toNatClampNeg) S G (me_20 km_1 lm_1) i_95 rfl rfl dX10_sailsTo_95 ?_
                    refine lv_topi (fun a7_96 ea7_96 => ?_)
                    have hw := hw a7_96 ea7_96
                    refine lv_istore (lv' := [(7, .int a7_96), (0, .ref (ad 0)), (2, .int a2), (4, .int b4_37), (5, .int b5_47), (6, .int b6_59)]) hx hb dX10_sailsTo_96 hl (by decide) rfl (fun ls hl => ?_)
                    refine lv_iload hx hb dX10_sailsTo_98 (lv_at hl 0 rfl) ?_
                    have hw := hw (fun (t0_120 : Int32) => ∀ (ls : Array Slot) (H : Heap) (locs : List Loc), lv_has ls 9 [(0, .ref (ad 0)), (2, .int a2), (4, .int b4_37), (5, .int b5_47), (6, .int b6_59)] → okW D q A s (wM q ad g_59) H locs → W p l e R s m args below meth c H locs 0 0 Qm (F0 m 120 ls [.int t0_120])) (by
                      intro t0_120 hw ls H locs hl G
                      refine lv_istore (lv' := [(8, .int t0_120), (0, .ref (ad 0)), (2, .int a2), (4, .int b4_37), (5, .int b5_47), (6, .int b6_59)]) hx hb dX10_sailsTo_120 hl (by decide) rfl (fun ls hl => ?_)
                      refine lv_aload_n hx hb dX10_sailsTo_122 rfl (lv_at hl 1 rfl) ?_
                      refine x_get (C := RX10) (T := TX10) (n := 21) S G inX10 (me_11 km_0) rfl 20 (by decide) kf_X10_48 rfl dX10_sailsTo_123 ?_
                      refine lv_iload hx hb dX10_sailsTo_126 (lv_at hl 5 rfl) ?_
                      refine lv_iload hx hb dX10_sailsTo_128 (lv_at hl 0 rfl) ?_
                      refine lv_iconst (v := (-1)) hx hb dX10_sailsTo_130 (by decide) ?_
                      have hw := hw (fun (t2_169 : Int32) => ∀ (ls : Array Slot) (H : Heap) (locs : List Loc), lv_has ls 9 [(0, .ref (ad 0)), (2, .int a2), (4, .int b4_37), (5, .int b5_47), (6, .int b6_59)] → okW D q A s (wM q ad g_59) H locs → W p l e R s m args below meth c H locs 0 0 Qm (F0 m 169 ls [.int t2_169, .int b6_59, .ref (ad 13)])) (by
                        intro t2_169 hw ls H locs hl G
                        obtain ⟨i_169, hw⟩ := hw
                        refine x_iast (k := b6_59.toNatClampNeg) S G (me_20 km_13 lm_13) i_169 rfl (ms_20 km_13 lm_13) dX10_sailsTo_169 (fun H locs G => ?_)
                        obtain ⟨h_169, eh_169⟩ : ∃ y : Hs, y = si g_59 13 b6_59.toNatClampNeg t2_169 := ⟨_, rfl⟩
                        rw [← eh_169] at G
                        have hw := hw h_169 eh_169
                        obtain ⟨a6_170, ea6_170⟩ : ∃ y : Int32, y = b6_59 + 1 := ⟨_, rfl⟩
                        have hw := hw a6_170 ea6_170
                        refine lv_iinc (v := a6_170) (lv' := [(6, .int a6_170), (0, .ref (ad 0)), (2, .int a2), (4, .int b4_37), (5, .int b5_47)]) hx hb dX10_sailsTo_170 hl (k := 4) rfl (by rw [ea6_170]; rfl) (by decide) rfl (fun ls hl => ?_)
                        refine lv_goto (tgt := 59) hx hb dX10_sailsTo_173 (by decide) ?_
                        exact hw _ _ _ (lv_sub hl [1, 2, 3, 4, 0] rfl) G)
                      have hw := hw (∀ (ls : Array Slot) (H : Heap) (locs : List Loc), lv_has ls 9 [(0, .ref (ad 0)), (2, .int a2), (4, .int b4_37), (5, .int b5_47), (6, .int b6_59)] → okW D q A s (wM q ad g_59) H locs → W p l e R s m args below meth c H locs 0 0 Qm (F0 m 162 ls [.int b6_59, .ref (ad 13)])) (by
                        intro hw ls H locs hl G
                        refine lv_aload_n hx hb dX10_sailsTo_162 rfl (lv_at hl 0 rfl) ?_
                        refine x_get (C := RX10) (T := TX10) (n := 21) S G inX10 (me_11 km_0) rfl 20 (by decide) kf_X10_48 rfl dX10_sailsTo_163 ?_
                        refine lv_iload hx hb dX10_sailsTo_166 (lv_at hl 4 rfl) ?_
                        obtain ⟨i_168, hw⟩ := hw
                        refine x_iald (k := b6_59.toNatClampNeg) S G (me_20 km_13 lm_13) i_168 rfl rfl dX10_sailsTo_168 ?_
                        exact hw _ _ _ (lv_sub hl [0, 1, 2, 3, 4] rfl) G)
                      refine lv_icmp_eq (tgt := 162) hx hb dX10_sailsTo_131 (by decide) (fun c_131 => ?_) (fun c_131 => ?_)
                      · have hw := hw.1 c_131
                        exact hw _ _ _ (lv_sub hl [1, 2, 3, 4, 5] rfl) G
                      · have hw := hw.2 c_131
                        refine lv_aload_n hx hb dX10_sailsTo_134 rfl (lv_at hl 1 rfl) ?_
                        refine x_get (C := RX10) (T := TX10) (n := 21) S G inX10 (me_11 km_0) rfl 20 (by decide) kf_X10_48 rfl dX10_sailsTo_135 ?_
                        refine lv_iload hx hb dX10_sailsTo_138 (lv_at hl 5 rfl) ?_
                        obtain ⟨i_140, hw⟩ := hw
                        refine x_iald (k := b6_59.toNatClampNeg) S G (me_20 km_13 lm_13) i_140 rfl rfl dX10_sailsTo_140 ?_
                        refine lv_iconst (v := (-1)) hx hb dX10_sailsTo_141 (by decide) ?_
                        have hw := hw (∀ (ls : Array Slot) (H : Heap) (locs : List Loc), lv_has ls 9 [(0, .ref (ad 0)), (2, .int a2), (4, .int b4_37), (5, .int b5_47), (6, .int b6_59), (8, .int t0_120)] → okW D q A s (wM q ad g_59) H locs → W p l e R s m args below meth c H locs 0 0 Qm (F0 m 157 ls [.int b6_59, .ref (ad 13)])) (by
                          intro hw ls H locs hl G
                          refine lv_iload hx hb dX10_sailsTo_157 (lv_at hl 5 rfl) ?_
                          refine lv_goto (tgt := 169) hx hb dX10_sailsTo_159 (by decide) ?_
                          exact hw _ _ _ (lv_sub hl [0, 1, 2, 3, 4] rfl) G)
                        refine lv_icmp_eq (tgt := 157) hx hb dX10_sailsTo_142 (by decide) (fun c_142 => ?_) (fun c_142 => ?_)
                        · have hw := hw.1 c_142
                          exact hw _ _ _ (lv_sub hl [1, 2, 3, 4, 5, 0] rfl) G
                        · have hw := hw.2 c_142
                          refine lv_iload hx hb dX10_sailsTo_145 (lv_at hl 0 rfl) ?_
                          refine lv_aload_n hx hb dX10_sailsTo_147 rfl (lv_at hl 1 rfl) ?_
                          refine x_get (C := RX10) (T := TX10) (n := 21) S G inX10 (me_11 km_0) rfl 20 (by decide) kf_X10_48 rfl dX10_sailsTo_148 ?_
                          refine lv_iload hx hb dX10_sailsTo_151 (lv_at hl 5 rfl) ?_
                          obtain ⟨i_153, hw⟩ := hw
                          refine x_iald (k := b6_59.toNatClampNeg) S G (me_20 km_13 lm_13) i_153 rfl rfl dX10_sailsTo_153 ?_
                          refine lv_icmp_ge (tgt := 162) hx hb dX10_sailsTo_154 (by decide) (fun c_154 => ?_) (fun c_154 => ?_)
                          · have hw := hw.1 c_154
                            exact hw _ _ _ (lv_sub hl [1, 2, 3, 4, 5] rfl) G
                          · have hw := hw.2 c_154
                            exact hw _ _ _ (lv_sub hl [1, 2, 3, 4, 5, 0] rfl) G)
                    refine lv_if_ne (tgt := 107) hx hb dX10_sailsTo_100 (by decide) (fun c_100 => ?_) (fun c_100 => ?_)
                    · have hw := hw.1 c_100
                      refine lv_aload_n hx hb dX10_sailsTo_107 rfl (lv_at hl 1 rfl) ?_
                      refine lv_aload_n hx hb dX10_sailsTo_108 rfl (lv_at hl 1 rfl) ?_
                      refine x_get (C := RX10) (T := TX10) (n := 21) S G inX10 (me_11 km_0) rfl 20 (by decide) kf_X10_48 rfl dX10_sailsTo_109 ?_
                      refine lv_iload hx hb dX10_sailsTo_112 (lv_at hl 4 rfl) ?_
                      obtain ⟨i_114, hw⟩ := hw
                      refine x_iald (k := b5_47.toNatClampNeg) S G (me_20 km_13 lm_13) i_114 rfl rfl dX10_sailsTo_114 ?_
                      refine lv_iload hx hb dX10_sailsTo_115 (lv_at hl 0 rfl) ?_
                      refine x_ViP S hl.1 G (c_M_dayBehind l D q A ad (gi g_59 13 b5_47.toNatClampNeg) a7_96 g_59 _ hw) (cw_X10_321 S.2.2.2.2 ⟨Nat.le_trans (Nat.le_of_ble_eq_true rfl) hR1, Nat.le_trans (Nat.le_of_ble_eq_true rfl) hR2⟩) (me_11 km_0) rfl rfl rfl (Nat.le_of_ble_eq_true rfl) dX10_sailsTo_117 (fun r_117 H locs G hw => ?_)
                      exact hw _ _ _ (lv_sub hl [1, 2, 3, 4, 5] rfl) G
                    · have hw := hw.2 c_100
                      refine lv_iconst (v := (-1)) hx hb dX10_sailsTo_103 (by decide) ?_
                      refine lv_goto (tgt := 120) hx hb dX10_sailsTo_104 (by decide) ?_
                      exact hw _ _ _ (lv_sub hl [1, 2, 3, 4, 5] rfl) G)
              exact hw _ _ _ (lv_sub hl [1, 2, 3, 4, 0] rfl) G)
          exact hw _ _ _ (lv_sub hl [1, 2, 3, 0] rfl) G)
      exact hw _ _ _ (lv_sub hl [1, 3, 0] rfl) G
    · have hw := hw.2 c_7
      refine lv_aload_n hx hb dX10_sailsTo_10 rfl (lv_at hl 0 rfl) ?_
      refine x_get (C := RX10) (T := TX10) (n := 21) S G inX10 (me_11 km_0) rfl 20 (by decide) kf_X10_48 rfl dX10_sailsTo_11 ?_
      refine lv_iload hx hb dX10_sailsTo_14 (lv_at hl 4 rfl) ?_
      refine lv_iload hx hb dX10_sailsTo_16 (lv_at hl 4 rfl) ?_
      refine lv_iload_n hx hb dX10_sailsTo_18 rfl (lv_at hl 1 rfl) ?_
      have hw := hw (fun (t2_27 : Int32) => ∀ (ls : Array Slot) (H : Heap) (locs : List Loc), lv_has ls 9 [(0, .ref (ad 0)), (1, .int a1), (2, .int a2), (3, .int a3), (4, .int b4_3)] → okW D q A s (wM q ad g_3) H locs → W p l e R s m args below meth c H locs 0 0 Qm (F0 m 27 ls [.int t2_27, .int b4_3, .ref (ad 13)])) (by
        intro t2_27 hw ls H locs hl G
        obtain ⟨i_27, hw⟩ := hw
        refine x_iast (k := b4_3.toNatClampNeg) S G (me_20 km_13 lm_13) i_27 rfl (ms_20 km_13 lm_13) dX10_sailsTo_27 (fun H locs G => ?_)
        obtain ⟨h_27, eh_27⟩ : ∃ y : Hs, y = si g_3 13 b4_3.toNatClampNeg t2_27 := ⟨_, rfl⟩
        rw [← eh_27] at G
        have hw := hw h_27 eh_27
        obtain ⟨a4_28, ea4_28⟩ : ∃ y : Int32, y = b4_3 + 1 := ⟨_, rfl⟩
        have hw := hw a4_28 ea4_28
        refine lv_iinc (v := a4_28) (lv' := [(4, .int a4_28), (0, .ref (ad 0)), (1, .int a1), (2, .int a2), (3, .int a3)]) hx hb dX10_sailsTo_28 hl (k := 4) rfl (by rw [ea4_28]; rfl) (by decide) rfl (fun ls hl => ?_)
        refine lv_goto (tgt := 3) hx hb dX10_sailsTo_31 (by decide) ?_
        exact hw _ _ _ (lv_sub hl [1, 2, 3, 4, 0] rfl) G)
      refine lv_icmp_ne (tgt := 26) hx hb dX10_sailsTo_19 (by decide) (fun c_19 => ?_) (fun c_19 => ?_)
      · have hw := hw.1 c_19
        refine lv_iconst (v := (-1)) hx hb dX10_sailsTo_26 (by decide) ?_
        exact hw _ _ _ (lv_sub hl [0, 1, 2, 3, 4] rfl) G
      · have hw := hw.2 c_19
        refine lv_iload_n hx hb dX10_sailsTo_22 rfl (lv_at hl 3 rfl) ?_
        refine lv_goto (tgt := 27) hx hb dX10_sailsTo_23 (by decide) ?_
        exact hw _ _ _ (lv_sub hl [0, 1, 2, 3, 4] rfl) G)
  exact hw _ _ _ (lv_sub hl [1, 2, 3, 4, 0] rfl) G
theorem cw_X10_324 {R : Room} {s : State} {args : Array Value} (hts : ∀ w ∈ gW, w.before args s = true) (hR : rm_M_sailsTo.frames + 1 ≤ R.frames ∧ 8 + (9 + 11) + rm_M_sailsTo.locals ≤ R.locals) : CallW R s args RX10 RX10 324 yX10_sailsTo cX10_sailsTo 9 (some .int) (mw yX10_sailsTo cX10_sailsTo 9 (some .int)) rm_M_sailsTo 0 0 3 := cwV9 hts km_X10_324 ki_X10_sailsTo ks_X10_sailsTo kn_X10 kk_X10_sailsTo rfl rfl (by decide +kernel) hR
abbrev rm_M_sails : Room := { frames := 2, cells := 0, slots := 0, locals := 52 }
set_option maxHeartbeats 4000000 in
set_option maxRecDepth 100000 in
theorem c_M_sails (l : Launch) (D : va_G) (q : Nat → ClassId) (A : Nat → Prop) (ad : Nat → Nat) (a1 : Int32) (a2 : Int32) (a3 : Int32) (h : Hs) (Q : Int32 → Hs → Prop) (hw : p_M_sails a1 a2 a3 h Q) : Met l yX10_sails (mw yX10_sails cX10_sails 4 (some .int)) rm_M_sails (va_Pc [.ref (ad 0), .int a1, .int a2, .int a3] (pW D q A (wM q ad h))) (va_Qi Q (fun h t => pW D q A (wM q ad h) t) A) 0 0 A := by
  refine met_i (Qp := Q) (by decide) (Nat.le_of_ble_eq_true rfl) ?_
  intro p e R s m args below meth c Qm ls hR1 hR2 S RT hl G
  have hx := S.1
  have hb := S.2.1
  have hl : lv_has ls 4 [(0, .ref (ad 0)), (1, .int a1), (2, .int a2), (3, .int a3)] := hl
  unfold p_M_sails at hw
  refine lv_aload_n hx hb dX10_sails_0 rfl (lv_at hl 0 rfl) ?_
  refine lv_iload_n hx hb dX10_sails_1 rfl (lv_at hl 1 rfl) ?_
  refine x_VzP S hl.1 G (c_M_isPlace l D q A ad a1 h _ hw) (cw_X10_194 S.2.2.2.2 ⟨Nat.le_trans (Nat.le_of_ble_eq_true rfl) hR1, Nat.le_trans (Nat.le_of_ble_eq_true rfl) hR2⟩) (me_11 km_0) rfl rfl rfl (Nat.le_of_ble_eq_true rfl) dX10_sails_2 (fun r_2 H locs G z_2 hw => ?_)
  have hw := hw (fun (t0_39 : Int32) (g_39 : Hs) => ∀ (ls : Array Slot) (H : Heap) (locs : List Loc), lv_has ls 4 [] → okW D q A s (wM q ad g_39) H locs → W p l e R s m args below meth c H locs 0 0 Qm (F0 m 39 ls [.int t0_39])) (by
    intro t0_39 g_39 hw ls H locs hl G
    exact RT _ _ _ _ _ _ G hw dX10_sails_39)
  have hw := hw (∀ (ls : Array Slot) (H : Heap) (locs : List Loc), lv_has ls 4 [(0, .ref (ad 0))] → okW D q A s (wM q ad h) H locs → W p l e R s m args below meth c H locs 0 0 Qm (F0 m 33 ls [])) (by
    intro hw ls H locs hl G
    refine lv_aload_n hx hb dX10_sails_33 rfl (lv_at hl 0 rfl) ?_
    refine lv_bipush (v := (-10)) hx hb dX10_sails_34 (by decide) ?_
    refine x_Vi S hl.1 G (c_M_bad l D q A ad (-10) h _ hw) (cw_X10_118 S.2.2.2.2 ⟨Nat.le_trans (Nat.le_of_ble_eq_true rfl) hR1, Nat.le_trans (Nat.le_of_ble_eq_true rfl) hR2⟩) (me_11 km_0) rfl rfl rfl (Nat.le_of_ble_eq_true rfl) dX10_sails_36 (fun r_36 h_36 H locs G hw => ?_)
    exact hw _ _ _ (lv_sub hl [] rfl) G)
  refine lv_if_eq (tgt := 33) hx hb dX10_sails_5 (by decide) (fun c_5 => ?_) (fun c_5 => ?_)
  · have hw := hw.1 c_5
    exact hw _ _ _ (lv_sub hl [0] rfl) G
  · have hw := hw.2 c_5
    refine lv_aload_n hx hb dX10_sails_8 rfl (lv_at hl 0 rfl) ?_
    refine lv_iload_n hx hb dX10_sails_9 rfl (lv_at hl 2 rfl) ?_
    refine x_VzP S hl.1 G (c_M_isPlace l D q A ad a2 h _ hw) (cw_X10_194 S.2.2.2.2 ⟨Nat.le_trans (Nat.le_of_ble_eq_true rfl) hR1, Nat.le_trans (Nat.le_of_ble_eq_true rfl) hR2⟩) (me_11 km_0) rfl rfl rfl (Nat.le_of_ble_eq_true rfl) dX10_sails_10 (fun r_10 H locs G z_10 hw => ?_)
    refine lv_if_eq (tgt := 33) hx hb dX10_sails_13 (by decide) (fun c_13 => ?_) (fun c_13 => ?_)
    · have hw := hw.1 c_13
      exact hw _ _ _ (lv_sub hl [0] rfl) G
    · have hw := hw.2 c_13
      refine lv_iload_n hx hb dX10_sails_16 rfl (lv_at hl 3 rfl) ?_
      refine x_SzP S hl.1 G (c_M_isDay l D q A ad a3 h _ hw) (cw_X10_318 S.2.2.2.2 ⟨Nat.le_trans (Nat.le_of_ble_eq_true rfl) hR1, Nat.le_trans (Nat.le_of_ble_eq_true rfl) hR2⟩) rfl rfl (Nat.le_of_ble_eq_true rfl) dX10_sails_17 (fun r_17 H locs G z_17 hw => ?_)
      refine lv_if_eq (tgt := 33) hx hb dX10_sails_20 (by decide) (fun c_20 => ?_) (fun c_20 => ?_)
      · have hw := hw.1 c_20
        exact hw _ _ _ (lv_sub hl [0] rfl) G
      · have hw := hw.2 c_20
        refine lv_aload_n hx hb dX10_sails_23 rfl (lv_at hl 0 rfl) ?_
        refine lv_iload_n hx hb dX10_sails_24 rfl (lv_at hl 1 rfl) ?_
        refine lv_iload_n hx hb dX10_sails_25 rfl (lv_at hl 2 rfl) ?_
        refine lv_iload_n hx hb dX10_sails_26 rfl (lv_at hl 3 rfl) ?_
        refine x_Vi S hl.1 G (c_M_sailsTo l D q A ad a1 a2 a3 h _ hw) (cw_X10_324 S.2.2.2.2 ⟨Nat.le_trans (Nat.le_of_ble_eq_true rfl) hR1, Nat.le_trans (Nat.le_of_ble_eq_true rfl) hR2⟩) (me_11 km_0) rfl rfl rfl (Nat.le_of_ble_eq_true rfl) dX10_sails_27 (fun r_27 h_27 H locs G hw => ?_)
        refine lv_goto (tgt := 39) hx hb dX10_sails_30 (by decide) ?_
        exact hw _ _ _ (lv_sub hl [] rfl) G

abbrev rm_M_back : Room := { frames := 2, cells := 0, slots := 0, locals := 52 }
set_option maxHeartbeats 4000000 in
set_option maxRecDepth 100000 in
theorem c_M_back (l : Launch) (D : va_G) (q : Nat → ClassId) (A : Nat → Prop) (ad : Nat → Nat) (a1 : Int32) (a2 : Int32) (a3 : Int32) (a4 : Int32) (a5 : Int32) (h : Hs) (Q : Int32 → Hs → Prop) (hw : p_M_back a1 a2 a3 a4 a5 h Q) : Met l yX10_back (mw yX10_back cX10_back 7 (some .int)) rm_M_back (va_Pc [.ref (ad 0), .int a1, .int a2, .int a3, .int a4, .int a5] (pW D q A (wM q ad h))) (va_Qi Q (fun h t => pW D q A (wM q ad h) t) A) 0 0 A := by
  refine met_i (Qp := Q) (by decide) (Nat.le_of_ble_eq_true rfl) ?_
  intro p e R s m args below meth c Qm ls hR1 hR2 S RT hl G
  have hx := S.1
  have hb := S.2.1
  have hl : lv_has ls 7 [(0, .ref (ad 0)), (1, .int a1), (2, .int a2), (3, .int a3), (4, .int a4), (5, .int a5)] := hl
  unfold p_M_back at hw
  refine lv_aload_n hx hb dX10_back_0 rfl (lv_at hl 0 rfl) ?_
  refine lv_iload_n hx hb dX10_back_1 rfl (lv_at hl 1 rfl) ?_
  refine x_VzP S hl.1 G (c_M_isPlace l D q A ad a1 h _ hw) (cw_X10_194 S.2.2.2.2 ⟨Nat.le_trans (Nat.le_of_ble_eq_true rfl) hR1, Nat.le_trans (Nat.le_of_ble_eq_true rfl) hR2⟩) (me_11 km_0) rfl rfl rfl (Nat.le_of_ble_eq_true rfl) dX10_back_2 (fun r_2 H locs G z_2 hw => ?_)
  have hw := hw (∀ (ls : Array Slot) (H : Heap) (locs : List Loc), lv_has ls 7 [(0, .ref (ad 0))] → okW D q A s (wM q ad h) H locs → W p l e R s m args below meth c H locs 0 0 Qm (F0 m 49 ls [])) (by
    intro hw ls H locs hl G
    refine lv_aload_n hx hb dX10_back_49 rfl (lv_at hl 0 rfl) ?_
    refine lv_bipush (v := (-2)) hx hb dX10_back_50 (by decide) ?_
    refine x_Vi S hl.1 G (c_M_bad l D q A ad (-2) h _ hw) (cw_X10_118 S.2.2.2.2 ⟨Nat.le_trans (Nat.le_of_ble_eq_true rfl) hR1, Nat.le_trans (Nat.le_of_ble_eq_true rfl) hR2⟩) (me_11 km_0) rfl rfl rfl (Nat.le_of_ble_eq_true rfl) dX10_back_52 (fun r_52 h_52 H locs G hw => ?_)
    exact RT _ _ _ _ _ _ G hw dX10_back_55)
  refine lv_if_eq (tgt := 49) hx hb dX10_back_5 (by decide) (fun c_5 => ?_) (fun c_5 => ?_)
  · have hw := hw.1 c_5
    exact hw _ _ _ (lv_sub hl [0] rfl) G
  · have hw := hw.2 c_5
    refine lv_aload_n hx hb dX10_back_8 rfl (lv_at hl 0 rfl) ?_
    refine lv_iload_n hx hb dX10_back_9 rfl (lv_at hl 2 rfl) ?_
    refine x_VzP S hl.1 G (c_M_isPlace l D q A ad a2 h _ hw) (cw_X10_194 S.2.2.2.2 ⟨Nat.le_trans (Nat.le_of_ble_eq_true rfl) hR1, Nat.le_trans (Nat.le_of_ble_eq_true rfl) hR2⟩) (me_11 km_0) rfl rfl rfl (Nat.le_of_ble_eq_true rfl) dX10_back_10 (fun r_10 H locs G z_10 hw => ?_)
    refine lv_if_eq (tgt := 49) hx hb dX10_back_13 (by decide) (fun c_13 => ?_) (fun c_13 => ?_)
    · have hw := hw.1 c_13
      exact hw _ _ _ (lv_sub hl [0] rfl) G
    · have hw := hw.2 c_13
      refine lv_iload_n hx hb dX10_back_16 rfl (lv_at hl 3 rfl) ?_
      refine x_SzP S hl.1 G (c_M_isDay l D q A ad a3 h _ hw) (cw_X10_318 S.2.2.2.2 ⟨Nat.le_trans (Nat.le_of_ble_eq_true rfl) hR1, Nat.le_trans (Nat.le_of_ble_eq_true rfl) hR2⟩) rfl rfl (Nat.le_of_ble_eq_true rfl) dX10_back_17 (fun r_17 H locs G z_17 hw => ?_)
      refine lv_if_eq (tgt := 49) hx hb dX10_back_20 (by decide) (fun c_20 => ?_) (fun c_20 => ?_)
      · have hw := hw.1 c_20
        exact hw _ _ _ (lv_sub hl [0] rfl) G
      · have hw := hw.2 c_20
        refine lv_iload hx hb dX10_back_23 (lv_at hl 4 rfl) ?_
        refine lv_i2l hx hb dX10_back_25 rfl ?_
        refine lv_lconst (v := 0) hx hb dX10_back_26 (by decide) ?_
        refine lv_ldc2 (v := 59) hx hb S.2.2.2.1 (S.2.2.2.2 _ kl_X10_316) dX10_back_27 ?_
        refine x_SzP S hl.1 G (c_M_in l D q A ad a4.toInt64 0 59 h _ hw) (cw_X10_105 S.2.2.2.2 ⟨Nat.le_trans (Nat.le_of_ble_eq_true rfl) hR1, Nat.le_trans (Nat.le_of_ble_eq_true rfl) hR2⟩) rfl rfl (Nat.le_of_ble_eq_true rfl) dX10_back_30 (fun r_30 H locs G z_30 hw => ?_)
        refine lv_if_eq (tgt := 49) hx hb dX10_back_33 (by decide) (fun c_33 => ?_) (fun c_33 => ?_)
        · have hw := hw.1 c_33
          exact hw _ _ _ (lv_sub hl [0] rfl) G
        · have hw := hw.2 c_33
          refine lv_iload hx hb dX10_back_36 (lv_at hl 5 rfl) ?_
          refine lv_i2l hx hb dX10_back_38 rfl ?_
          refine lv_lconst (v := 0) hx hb dX10_back_39 (by decide) ?_
          refine lv_ldc2 (v := 999) hx hb S.2.2.2.1 (S.2.2.2.2 _ kl_X10_132) dX10_back_40 ?_
          refine x_SzP S hl.1 G (c_M_in l D q A ad a5.toInt64 0 999 h _ hw) (cw_X10_105 S.2.2.2.2 ⟨Nat.le_trans (Nat.le_of_ble_eq_true rfl) hR1, Nat.le_trans (Nat.le_of_ble_eq_true rfl) hR2⟩) rfl rfl (Nat.le_of_ble_eq_true rfl) dX10_back_43 (fun r_43 H locs G z_43 hw => ?_)
          refine lv_if_ne (tgt := 56) hx hb dX10_back_46 (by decide) (fun c_46 => ?_) (fun c_46 => ?_)
          · have hw := hw.1 c_46
            refine lv_aload_n hx hb dX10_back_56 rfl (lv_at hl 0 rfl) ?_
            refine lv_iload_n hx hb dX10_back_57 rfl (lv_at hl 1 rfl) ?_
            refine lv_iload_n hx hb dX10_back_58 rfl (lv_at hl 2 rfl) ?_
            refine lv_iload_n hx hb dX10_back_59 rfl (lv_at hl 3 rfl) ?_
            refine x_Vi S hl.1 G (c_M_sailsTo l D q A ad a1 a2 a3 h _ hw) (cw_X10_324 S.2.2.2.2 ⟨Nat.le_trans (Nat.le_of_ble_eq_true rfl) hR1, Nat.le_trans (Nat.le_of_ble_eq_true rfl) hR2⟩) (me_11 km_0) rfl rfl rfl (Nat.le_of_ble_eq_true rfl) dX10_back_60 (fun r_60 h_60 H locs G hw => ?_)
            refine lv_istore (lv' := [(6, .int r_60), (0, .ref (ad 0)), (1, .int a1), (2, .int a2), (3, .int a3), (4, .int a4), (5, .int a5)]) hx hb dX10_back_63 hl (by decide) rfl (fun ls hl => ?_)
            refine lv_iload hx hb dX10_back_65 (lv_at hl 0 rfl) ?_
            refine lv_iconst (v := (-1)) hx hb dX10_back_67 (by decide) ?_
            refine lv_icmp_ne (tgt := 73) hx hb dX10_back_68 (by decide) (fun c_68 => ?_) (fun c_68 => ?_)
            · have hw := hw.1 c_68
              refine lv_aload_n hx hb dX10_back_73 rfl (lv_at hl 1 rfl) ?_
              refine lv_iload_n hx hb dX10_back_74 rfl (lv_at hl 3 rfl) ?_
              refine lv_iload_n hx hb dX10_back_75 rfl (lv_at hl 2 rfl) ?_
              refine lv_iload hx hb dX10_back_76 (lv_at hl 0 rfl) ?_
              refine lv_iload hx hb dX10_back_78 (lv_at hl 5 rfl) ?_
              refine lv_iadd hx hb dX10_back_80 ?_
              refine x_Vi S hl.1 G (c_M_sailsTo l D q A ad a2 a1 (r_60 + a4) h_60 _ hw) (cw_X10_324 S.2.2.2.2 ⟨Nat.le_trans (Nat.le_of_ble_eq_true rfl) hR1, Nat.le_trans (Nat.le_of_ble_eq_true rfl) hR2⟩) (me_11 km_0) rfl rfl rfl (Nat.le_of_ble_eq_true rfl) dX10_back_81 (fun r_81 h_81 H locs G hw => ?_)
              refine lv_iload hx hb dX10_back_84 (lv_at hl 6 rfl) ?_
              have hw := hw (fun (t0_94 : Int32) => ∀ (ls : Array Slot) (H : Heap) (locs : List Loc), lv_has ls 7 [] → okW D q A s (wM q ad h_81) H locs → W p l e R s m args below meth c H locs 0 0 Qm (F0 m 94 ls [.int t0_94])) (by
                intro t0_94 hw ls H locs hl G
                exact RT _ _ _ _ _ _ G hw dX10_back_94)
              refine lv_icmp_gt (tgt := 93) hx hb dX10_back_86 (by decide) (fun c_86 => ?_) (fun c_86 => ?_)
              · have hw := hw.1 c_86
                refine lv_iconst (v := 0) hx hb dX10_back_93 (by decide) ?_
                exact hw _ _ _ (lv_sub hl [] rfl) G
              · have hw := hw.2 c_86
                refine lv_iconst (v := 1) hx hb dX10_back_89 (by decide) ?_
                refine lv_goto (tgt := 94) hx hb dX10_back_90 (by decide) ?_
                exact hw _ _ _ (lv_sub hl [] rfl) G
            · have hw := hw.2 c_68
              refine lv_iconst (v := 0) hx hb dX10_back_71 (by decide) ?_
              exact RT _ _ _ _ _ _ G hw dX10_back_72
          · have hw := hw.2 c_46
            exact hw _ _ _ (lv_sub hl [0] rfl) G

abbrev rm_M_part : Room := { frames := 1, cells := 0, slots := 0, locals := 21 }
set_option maxHeartbeats 4000000 in
set_option maxRecDepth 100000 in
theorem c_M_part (l : Launch) (D : va_G) (q : Nat → ClassId) (A : Nat → Prop) (ad : Nat → Nat) (a1 : Int32) (h : Hs) (Q : Int32 → Hs → Prop) (hw : p_M_part a1 h Q) : Met l yX10_part (mw yX10_part cX10_part 2 (some .int)) rm_M_part (va_Pc [.ref (ad 0), .int a1] (pW D q A (wM q ad h))) (va_Qi Q (fun h t => pW D q A (wM q ad h) t) A) 0 0 A := by
  refine met_i (Qp := Q) (by decide) (Nat.le_of_ble_eq_true rfl) ?_
  intro p e R s m args below meth c Qm ls hR1 hR2 S RT hl G
  have hx := S.1
  have hb := S.2.1
  have hl : lv_has ls 2 [(0, .ref (ad 0)), (1, .int a1)] := hl
  unfold p_M_part at hw
  refine lv_iload_n hx hb dX10_part_0 rfl (lv_at hl 1 rfl) ?_
  have hw := hw (fun (t0_45 : Int32) (g_45 : Hs) => ∀ (ls : Array Slot) (H : Heap) (locs : List Loc), lv_has ls 2 [] → okW D q A s (wM q ad g_45) H locs → W p l e R s m args below meth c H locs 0 0 Qm (F0 m 45 ls [.int t0_45])) (by
    intro t0_45 g_45 hw ls H locs hl G
    exact RT _ _ _ _ _ _ G hw dX10_part_45)
  refine lv_if_ne (tgt := 11) hx hb dX10_part_1 (by decide) (fun c_1 => ?_) (fun c_1 => ?_)
  · have hw := hw.1 c_1
    refine lv_iload_n hx hb dX10_part_11 rfl (lv_at hl 1 rfl) ?_
    refine lv_iconst (v := 1) hx hb dX10_part_12 (by decide) ?_
    refine lv_icmp_ne (tgt := 25) hx hb dX10_part_13 (by decide) (fun c_13 => ?_) (fun c_13 => ?_)
    · have hw := hw.1 c_13
      refine lv_iload_n hx hb dX10_part_25 rfl (lv_at hl 1 rfl) ?_
      refine lv_iconst (v := 2) hx hb dX10_part_26 (by decide) ?_
      refine lv_icmp_ne (tgt := 39) hx hb dX10_part_27 (by decide) (fun c_27 => ?_) (fun c_27 => ?_)
      · have hw := hw.1 c_27
        refine lv_aload_n hx hb dX10_part_39 rfl (lv_at hl 0 rfl) ?_
        refine lv_bipush (v := (-2)) hx hb dX10_part_40 (by decide) ?_
        refine x_Vi S hl.1 G (c_M_bad l D q A ad (-2) h _ hw) (cw_X10_118 S.2.2.2.2 ⟨Nat.le_trans (Nat.le_of_ble_eq_true rfl) hR1, Nat.le_trans (Nat.le_of_ble_eq_true rfl) hR2⟩) (me_11 km_0) rfl rfl rfl (Nat.le_of_ble_eq_true rfl) dX10_part_42 (fun r_42 h_42 H locs G hw => ?_)
        exact hw _ _ _ (lv_sub hl [] rfl) G
      · have hw := hw.2 c_27
        refine lv_aload_n hx hb dX10_part_30 rfl (lv_at hl 0 rfl) ?_
        refine x_get (C := RX10) (T := TX10) (n := 21) S G inX10 (me_11 km_0) rfl 5 (by decide) kf_X10_27 rfl dX10_part_31 ?_
        refine lv_iconst (v := 1) hx hb dX10_part_34 (by decide) ?_
        refine x_iald (k := 1) S G (me_20 km_6 lm_6) (vpi (by decide)) rfl rfl dX10_part_35 ?_
        refine lv_goto (tgt := 45) hx hb dX10_part_36 (by decide) ?_
        exact hw _ _ _ (lv_sub hl [] rfl) G
    · have hw := hw.2 c_13
      refine lv_aload_n hx hb dX10_part_16 rfl (lv_at hl 0 rfl) ?_
      refine x_get (C := RX10) (T := TX10) (n := 21) S G inX10 (me_11 km_0) rfl 5 (by decide) kf_X10_27 rfl dX10_part_17 ?_
      refine lv_iconst (v := 0) hx hb dX10_part_20 (by decide) ?_
      refine x_iald (k := 0) S G (me_20 km_6 lm_6) (vpi (by decide)) rfl rfl dX10_part_21 ?_
      refine lv_goto (tgt := 45) hx hb dX10_part_22 (by decide) ?_
      exact hw _ _ _ (lv_sub hl [] rfl) G
  · have hw := hw.2 c_1
    refine lv_aload_n hx hb dX10_part_4 rfl (lv_at hl 0 rfl) ?_
    refine x_get (C := RX10) (T := TX10) (n := 21) S G inX10 (me_11 km_0) rfl 6 (by decide) kf_X10_87 rfl dX10_part_5 ?_
    refine lv_goto (tgt := 45) hx hb dX10_part_8 (by decide) ?_
    exact hw _ _ _ (lv_sub hl [] rfl) G

abbrev rm_M_limb : Room := { frames := 1, cells := 0, slots := 0, locals := 25 }
set_option maxHeartbeats 4000000 in
set_option maxRecDepth 100000 in
theorem c_M_limb (l : Launch) (D : va_G) (q : Nat → ClassId) (A : Nat → Prop) (ad : Nat → Nat) (a1 : Int32) (a2 : Int32) (h : Hs) (Q : Int32 → Hs → Prop) (hw : p_M_limb a1 a2 h Q) : Met l yX10_limb (mw yX10_limb cX10_limb 3 (some .int)) rm_M_limb (va_Pc [.ref (ad 0), .int a1, .int a2] (pW D q A (wM q ad h))) (va_Qi Q (fun h t => pW D q A (wM q ad h) t) A) 0 0 A := by
  refine met_i (Qp := Q) (by decide) (Nat.le_of_ble_eq_true rfl) ?_
  intro p e R s m args below meth c Qm ls hR1 hR2 S RT hl G
  have hx := S.1
  have hb := S.2.1
  have hl : lv_has ls 3 [(0, .ref (ad 0)), (1, .int a1), (2, .int a2)] := hl
  unfold p_M_limb at hw
  refine lv_iload_n hx hb dX10_limb_0 rfl (lv_at hl 1 rfl) ?_
  refine lv_i2l hx hb dX10_limb_1 rfl ?_
  refine lv_lconst (v := 0) hx hb dX10_limb_2 (by decide) ?_
  refine lv_lconst (v := 1) hx hb dX10_limb_3 (by decide) ?_
  refine x_SzP S hl.1 G (c_M_in l D q A ad a1.toInt64 0 1 h _ hw) (cw_X10_105 S.2.2.2.2 ⟨Nat.le_trans (Nat.le_of_ble_eq_true rfl) hR1, Nat.le_trans (Nat.le_of_ble_eq_true rfl) hR2⟩) rfl rfl (Nat.le_of_ble_eq_true rfl) dX10_limb_4 (fun r_4 H locs G z_4 hw => ?_)
  have hw := hw (∀ (ls : Array Slot) (H : Heap) (locs : List Loc), lv_has ls 3 [(0, .ref (ad 0))] → okW D q A s (wM q ad h) H locs → W p l e R s m args below meth c H locs 0 0 Qm (F0 m 14 ls [])) (by
    intro hw ls H locs hl G
    refine lv_aload_n hx hb dX10_limb_14 rfl (lv_at hl 0 rfl) ?_
    refine lv_bipush (v := (-2)) hx hb dX10_limb_15 (by decide) ?_
    refine x_Vi S hl.1 G (c_M_bad l D q A ad (-2) h _ hw) (cw_X10_118 S.2.2.2.2 ⟨Nat.le_trans (Nat.le_of_ble_eq_true rfl) hR1, Nat.le_trans (Nat.le_of_ble_eq_true rfl) hR2⟩) (me_11 km_0) rfl rfl rfl (Nat.le_of_ble_eq_true rfl) dX10_limb_17 (fun r_17 h_17 H locs G hw => ?_)
    exact RT _ _ _ _ _ _ G hw dX10_limb_20)
  refine lv_if_eq (tgt := 14) hx hb dX10_limb_7 (by decide) (fun c_7 => ?_) (fun c_7 => ?_)
  · have hw := hw.1 c_7
    exact hw _ _ _ (lv_sub hl [0] rfl) G
  · have hw := hw.2 c_7
    refine lv_iload_n hx hb dX10_limb_10 rfl (lv_at hl 2 rfl) ?_
    refine lv_if_ge (tgt := 21) hx hb dX10_limb_11 (by decide) (fun c_11 => ?_) (fun c_11 => ?_)
    · have hw := hw.1 c_11
      refine lv_iload_n hx hb dX10_limb_21 rfl (lv_at hl 2 rfl) ?_
      refine lv_aload_n hx hb dX10_limb_22 rfl (lv_at hl 0 rfl) ?_
      refine x_get (C := RX10) (T := TX10) (n := 21) S G inX10 (me_11 km_0) rfl 5 (by decide) kf_X10_27 rfl dX10_limb_23 ?_
      refine lv_iload_n hx hb dX10_limb_26 rfl (lv_at hl 1 rfl) ?_
      obtain ⟨i_27, hw⟩ := hw
      refine x_iald (k := a1.toNatClampNeg) S G (me_20 km_6 lm_6) i_27 rfl rfl dX10_limb_27 ?_
      have hw := hw (fun (t0_47 : Int32) => ∀ (ls : Array Slot) (H : Heap) (locs : List Loc), lv_has ls 3 [] → okW D q A s (wM q ad h) H locs → W p l e R s m args below meth c H locs 0 0 Qm (F0 m 47 ls [.int t0_47])) (by
        intro t0_47 hw ls H locs hl G
        exact RT _ _ _ _ _ _ G hw dX10_limb_47)
      refine lv_icmp_ge (tgt := 46) hx hb dX10_limb_28 (by decide) (fun c_28 => ?_) (fun c_28 => ?_)
      · have hw := hw.1 c_28
        refine lv_iconst (v := (-1)) hx hb dX10_limb_46 (by decide) ?_
        exact hw _ _ _ (lv_sub hl [] rfl) G
      · have hw := hw.2 c_28
        refine lv_aload_n hx hb dX10_limb_31 rfl (lv_at hl 0 rfl) ?_
        refine x_get (C := RX10) (T := TX10) (n := 21) S G inX10 (me_11 km_0) rfl 4 (by decide) kf_X10_23 rfl dX10_limb_32 ?_
        refine lv_bipush (v := 64) hx hb dX10_limb_35 (by decide) ?_
        refine lv_iload_n hx hb dX10_limb_37 rfl (lv_at hl 1 rfl) ?_
        refine lv_imul hx hb dX10_limb_38 ?_
        refine lv_iload_n hx hb dX10_limb_39 rfl (lv_at hl 2 rfl) ?_
        refine lv_iadd hx hb dX10_limb_40 ?_
        obtain ⟨i_41, hw⟩ := hw
        refine x_lald (k := ((64 * a1) + a2).toNatClampNeg) S G (me_26 km_5 lm_5) i_41 rfl rfl dX10_limb_41 ?_
        refine lv_l2i hx hb dX10_limb_42 rfl ?_
        refine lv_goto (tgt := 47) hx hb dX10_limb_43 (by decide) ?_
        exact hw _ _ _ (lv_sub hl [] rfl) G
    · have hw := hw.2 c_11
      exact hw _ _ _ (lv_sub hl [0] rfl) G

abbrev rm_M_image : Room := { frames := 1, cells := 0, slots := 0, locals := 25 }
set_option maxHeartbeats 4000000 in
set_option maxRecDepth 100000 in
theorem c_M_image (l : Launch) (D : va_G) (q : Nat → ClassId) (A : Nat → Prop) (ad : Nat → Nat) (a1 : Int32) (h : Hs) (Q : Int32 → Hs → Prop) (hw : p_M_image a1 h Q) : Met l yX10_image (mw yX10_image cX10_image 3 (some .int)) rm_M_image (va_Pc [.ref (ad 0), .int a1] (pW D q A (wM q ad h))) (va_Qi Q (fun h t => pW D q A (wM q ad h) t) A) 0 0 A := by
  refine met_i (Qp := Q) (by decide) (Nat.le_of_ble_eq_true rfl) ?_
  intro p e R s m args below meth c Qm ls hR1 hR2 S RT hl G
  have hx := S.1
  have hb := S.2.1
  have hl : lv_has ls 3 [(0, .ref (ad 0)), (1, .int a1)] := hl
  unfold p_M_image at hw
  refine lv_iload_n hx hb dX10_image_0 rfl (lv_at hl 1 rfl) ?_
  refine lv_i2l hx hb dX10_image_1 rfl ?_
  refine lv_lconst (v := 0) hx hb dX10_image_2 (by decide) ?_
  refine lv_lconst (v := 1) hx hb dX10_image_3 (by decide) ?_
  refine x_SzP S hl.1 G (c_M_in l D q A ad a1.toInt64 0 1 h _ hw) (cw_X10_105 S.2.2.2.2 ⟨Nat.le_trans (Nat.le_of_ble_eq_true rfl) hR1, Nat.le_trans (Nat.le_of_ble_eq_true rfl) hR2⟩) rfl rfl (Nat.le_of_ble_eq_true rfl) dX10_image_4 (fun r_4 H locs G z_4 hw => ?_)
  refine lv_if_ne (tgt := 17) hx hb dX10_image_7 (by decide) (fun c_7 => ?_) (fun c_7 => ?_)
  · have hw := hw.1 c_7
    refine lv_iconst (v := 0) hx hb dX10_image_17 (by decide) ?_
    refine lv_istore_n (lv' := [(2, .int 0), (0, .ref (ad 0)), (1, .int a1)]) hx hb dX10_image_18 rfl hl (by decide) rfl (fun ls hl => ?_)
    have hw := hw (fun (b2_19 : Int32) (g_19 : Hs) => ∀ (ls : Array Slot) (H : Heap) (locs : List Loc), lv_has ls 3 [(0, .ref (ad 0)), (1, .int a1), (2, .int b2_19)] → okW D q A s (wM q ad g_19) H locs → W p l e R s m args below meth c H locs 0 0 Qm (F0 m 19 ls [])) (by
      intro b2_19 g_19 hw ls H locs hl G
      refine lv_iload_n hx hb dX10_image_19 rfl (lv_at hl 2 rfl) ?_
      refine lv_sipush (v := 675) hx hb dX10_image_20 (by decide) ?_
      refine lv_icmp_ge (tgt := 50) hx hb dX10_image_23 (by decide) (fun c_23 => ?_) (fun c_23 => ?_)
      · have hw := hw.1 c_23
        refine lv_aload_n hx hb dX10_image_50 rfl (lv_at hl 0 rfl) ?_
        refine x_get (C := RX10) (T := TX10) (n := 21) S G inX10 (me_11 km_0) rfl 2 (by decide) kf_X10_16 rfl dX10_image_51 ?_
        refine lv_iload_n hx hb dX10_image_54 rfl (lv_at hl 1 rfl) ?_
        refine lv_iconst (v := 1) hx hb dX10_image_55 (by decide) ?_
        obtain ⟨i_56, hw⟩ := hw
        refine x_zast (k := a1.toNatClampNeg) S G (me_21 km_3 lm_3) i_56 rfl (ms_21 km_3 lm_3) dX10_image_56 (fun H locs G => ?_)
        obtain ⟨h_56, eh_56⟩ : ∃ y : Hs, y = si g_19 3 a1.toNatClampNeg (zn 1) := ⟨_, rfl⟩
        rw [← eh_56] at G
        have hw := hw h_56 eh_56
        refine lv_iconst (v := 1) hx hb dX10_image_57 (by decide) ?_
        exact RT _ _ _ _ _ _ G hw dX10_image_58
      · have hw := hw.2 c_23
        refine lv_aload_n hx hb dX10_image_26 rfl (lv_at hl 0 rfl) ?_
        refine x_get (C := RX10) (T := TX10) (n := 21) S G inX10 (me_11 km_0) rfl 1 (by decide) kf_X10_13 rfl dX10_image_27 ?_
        refine lv_sipush (v := 675) hx hb dX10_image_30 (by decide) ?_
        refine lv_iload_n hx hb dX10_image_33 rfl (lv_at hl 1 rfl) ?_
        refine lv_imul hx hb dX10_image_34 ?_
        refine lv_iload_n hx hb dX10_image_35 rfl (lv_at hl 2 rfl) ?_
        refine lv_iadd hx hb dX10_image_36 ?_
        refine lv_aload_n hx hb dX10_image_37 rfl (lv_at hl 0 rfl) ?_
        refine x_get (C := RX10) (T := TX10) (n := 21) S G inX10 (me_11 km_0) rfl 0 (by decide) kf_X10_7 rfl dX10_image_38 ?_
        refine lv_iload_n hx hb dX10_image_41 rfl (lv_at hl 2 rfl) ?_
        obtain ⟨i_42, hw⟩ := hw
        refine x_iald (k := b2_19.toNatClampNeg) S G (me_20 km_1 lm_1) i_42 rfl rfl dX10_image_42 ?_
        obtain ⟨i_43, hw⟩ := hw
        refine x_iast (k := ((675 * a1) + b2_19).toNatClampNeg) S G (me_20 km_2 lm_2) i_43 rfl (ms_20 km_2 lm_2) dX10_image_43 (fun H locs G => ?_)
        obtain ⟨h_43, eh_43⟩ : ∃ y : Hs, y = si g_19 2 (((675 * a1) + b2_19).toNatClampNeg) (gi g_19 1 b2_19.toNatClampNeg) := ⟨_, rfl⟩
        rw [← eh_43] at G
        have hw := hw h_43 eh_43
        obtain ⟨a2_44, ea2_44⟩ : ∃ y : Int32, y = b2_19 + 1 := ⟨_, rfl⟩
        have hw := hw a2_44 ea2_44
        refine lv_iinc (v := a2_44) (lv' := [(2, .int a2_44), (0, .ref (ad 0)), (1, .int a1)]) hx hb dX10_image_44 hl (k := 2) rfl (by rw [ea2_44]; rfl) (by decide) rfl (fun ls hl => ?_)
        refine lv_goto (tgt := 19) hx hb dX10_image_47 (by decide) ?_
        exact hw _ _ _ (lv_sub hl [1, 2, 0] rfl) G)
    exact hw _ _ _ (lv_sub hl [1, 2, 0] rfl) G
  · have hw := hw.2 c_7
    refine lv_aload_n hx hb dX10_image_10 rfl (lv_at hl 0 rfl) ?_
    refine lv_bipush (v := (-2)) hx hb dX10_image_11 (by decide) ?_
    refine x_Vi S hl.1 G (c_M_bad l D q A ad (-2) h _ hw) (cw_X10_118 S.2.2.2.2 ⟨Nat.le_trans (Nat.le_of_ble_eq_true rfl) hR1, Nat.le_trans (Nat.le_of_ble_eq_true rfl) hR2⟩) (me_11 km_0) rfl rfl rfl (Nat.le_of_ble_eq_true rfl) dX10_image_13 (fun r_13 h_13 H locs G hw => ?_)
    exact RT _ _ _ _ _ _ G hw dX10_image_16

abbrev rm_M_from : Room := { frames := 1, cells := 0, slots := 0, locals := 25 }
set_option maxHeartbeats 4000000 in
set_option maxRecDepth 100000 in
theorem c_M_from (l : Launch) (D : va_G) (q : Nat → ClassId) (A : Nat → Prop) (ad : Nat → Nat) (a1 : Int32) (h : Hs) (Q : Int32 → Hs → Prop) (hw : p_M_from a1 h Q) : Met l yX10_from (mw yX10_from cX10_from 3 (some .int)) rm_M_from (va_Pc [.ref (ad 0), .int a1] (pW D q A (wM q ad h))) (va_Qi Q (fun h t => pW D q A (wM q ad h) t) A) 0 0 A := by
  refine met_i (Qp := Q) (by decide) (Nat.le_of_ble_eq_true rfl) ?_
  intro p e R s m args below meth c Qm ls hR1 hR2 S RT hl G
  have hx := S.1
  have hb := S.2.1
  have hl : lv_has ls 3 [(0, .ref (ad 0)), (1, .int a1)] := hl
  unfold p_M_from at hw
  refine lv_iload_n hx hb dX10_from_0 rfl (lv_at hl 1 rfl) ?_
  refine lv_i2l hx hb dX10_from_1 rfl ?_
  refine lv_lconst (v := 0) hx hb dX10_from_2 (by decide) ?_
  refine lv_lconst (v := 1) hx hb dX10_from_3 (by decide) ?_
  refine x_SzP S hl.1 G (c_M_in l D q A ad a1.toInt64 0 1 h _ hw) (cw_X10_105 S.2.2.2.2 ⟨Nat.le_trans (Nat.le_of_ble_eq_true rfl) hR1, Nat.le_trans (Nat.le_of_ble_eq_true rfl) hR2⟩) rfl rfl (Nat.le_of_ble_eq_true rfl) dX10_from_4 (fun r_4 H locs G z_4 hw => ?_)
  refine lv_if_ne (tgt := 17) hx hb dX10_from_7 (by decide) (fun c_7 => ?_) (fun c_7 => ?_)
  · have hw := hw.1 c_7
    refine lv_aload_n hx hb dX10_from_17 rfl (lv_at hl 0 rfl) ?_
    refine x_get (C := RX10) (T := TX10) (n := 21) S G inX10 (me_11 km_0) rfl 2 (by decide) kf_X10_16 rfl dX10_from_18 ?_
    refine lv_iload_n hx hb dX10_from_21 rfl (lv_at hl 1 rfl) ?_
    obtain ⟨i_22, hw⟩ := hw
    refine x_zald (k := a1.toNatClampNeg) S G (me_21 km_3 lm_3) i_22 rfl rfl dX10_from_22 ?_
    refine lv_if_ne (tgt := 31) hx hb dX10_from_23 (by decide) (fun c_23 => ?_) (fun c_23 => ?_)
    · have hw := hw.1 c_23
      refine lv_iconst (v := 0) hx hb dX10_from_31 (by decide) ?_
      refine lv_istore_n (lv' := [(2, .int 0), (0, .ref (ad 0)), (1, .int a1)]) hx hb dX10_from_32 rfl hl (by decide) rfl (fun ls hl => ?_)
      have hw := hw (fun (b2_33 : Int32) (g_33 : Hs) => ∀ (ls : Array Slot) (H : Heap) (locs : List Loc), lv_has ls 3 [(0, .ref (ad 0)), (1, .int a1), (2, .int b2_33)] → okW D q A s (wM q ad g_33) H locs → W p l e R s m args below meth c H locs 0 0 Qm (F0 m 33 ls [])) (by
        intro b2_33 g_33 hw ls H locs hl G
        refine lv_iload_n hx hb dX10_from_33 rfl (lv_at hl 2 rfl) ?_
        refine lv_sipush (v := 675) hx hb dX10_from_34 (by decide) ?_
        refine lv_icmp_ge (tgt := 64) hx hb dX10_from_37 (by decide) (fun c_37 => ?_) (fun c_37 => ?_)
        · have hw := hw.1 c_37
          refine lv_iconst (v := 1) hx hb dX10_from_64 (by decide) ?_
          exact RT _ _ _ _ _ _ G hw dX10_from_65
        · have hw := hw.2 c_37
          refine lv_aload_n hx hb dX10_from_40 rfl (lv_at hl 0 rfl) ?_
          refine x_get (C := RX10) (T := TX10) (n := 21) S G inX10 (me_11 km_0) rfl 0 (by decide) kf_X10_7 rfl dX10_from_41 ?_
          refine lv_iload_n hx hb dX10_from_44 rfl (lv_at hl 2 rfl) ?_
          refine lv_aload_n hx hb dX10_from_45 rfl (lv_at hl 0 rfl) ?_
          refine x_get (C := RX10) (T := TX10) (n := 21) S G inX10 (me_11 km_0) rfl 1 (by decide) kf_X10_13 rfl dX10_from_46 ?_
          refine lv_sipush (v := 675) hx hb dX10_from_49 (by decide) ?_
          refine lv_iload_n hx hb dX10_from_52 rfl (lv_at hl 1 rfl) ?_
          refine lv_imul hx hb dX10_from_53 ?_
          refine lv_iload_n hx hb dX10_from_54 rfl (lv_at hl 2 rfl) ?_
          refine lv_iadd hx hb dX10_from_55 ?_
          obtain ⟨i_56, hw⟩ := hw
          refine x_iald (k := ((675 * a1) + b2_33).toNatClampNeg) S G (me_20 km_2 lm_2) i_56 rfl rfl dX10_from_56 ?_
          obtain ⟨i_57, hw⟩ := hw
          refine x_iast (k := b2_33.toNatClampNeg) S G (me_20 km_1 lm_1) i_57 rfl (ms_20 km_1 lm_1) dX10_from_57 (fun H locs G => ?_)
          obtain ⟨h_57, eh_57⟩ : ∃ y : Hs, y = si g_33 1 b2_33.toNatClampNeg (gi g_33 2 (((675 * a1) + b2_33).toNatClampNeg)) := ⟨_, rfl⟩
          rw [← eh_57] at G
          have hw := hw h_57 eh_57
          obtain ⟨a2_58, ea2_58⟩ : ∃ y : Int32, y = b2_33 + 1 := ⟨_, rfl⟩
          have hw := hw a2_58 ea2_58
          refine lv_iinc (v := a2_58) (lv' := [(2, .int a2_58), (0, .ref (ad 0)), (1, .int a1)]) hx hb dX10_from_58 hl (k := 2) rfl (by rw [ea2_58]; rfl) (by decide) rfl (fun ls hl => ?_)
          refine lv_goto (tgt := 33) hx hb dX10_from_61 (by decide) ?_
          exact hw _ _ _ (lv_sub hl [1, 2, 0] rfl) G)
      exact hw _ _ _ (lv_sub hl [1, 2, 0] rfl) G
    · have hw := hw.2 c_23
      refine lv_aload_n hx hb dX10_from_26 rfl (lv_at hl 0 rfl) ?_
      refine x_Vi S hl.1 G (c_M_no l D q A ad h _ hw) (cw_X10_286 S.2.2.2.2 ⟨Nat.le_trans (Nat.le_of_ble_eq_true rfl) hR1, Nat.le_trans (Nat.le_of_ble_eq_true rfl) hR2⟩) (me_11 km_0) rfl rfl rfl (Nat.le_of_ble_eq_true rfl) dX10_from_27 (fun r_27 h_27 H locs G hw => ?_)
      exact RT _ _ _ _ _ _ G hw dX10_from_30
  · have hw := hw.2 c_7
    refine lv_aload_n hx hb dX10_from_10 rfl (lv_at hl 0 rfl) ?_
    refine lv_bipush (v := (-2)) hx hb dX10_from_11 (by decide) ?_
    refine x_Vi S hl.1 G (c_M_bad l D q A ad (-2) h _ hw) (cw_X10_118 S.2.2.2.2 ⟨Nat.le_trans (Nat.le_of_ble_eq_true rfl) hR1, Nat.le_trans (Nat.le_of_ble_eq_true rfl) hR2⟩) (me_11 km_0) rfl rfl rfl (Nat.le_of_ble_eq_true rfl) dX10_from_13 (fun r_13 h_13 H locs G hw => ?_)
    exact RT _ _ _ _ _ _ G hw dX10_from_16

abbrev rm_M_status : Room := { frames := 1, cells := 0, slots := 0, locals := 25 }
set_option maxHeartbeats 4000000 in
set_option maxRecDepth 100000 in
theorem c_M_status (l : Launch) (D : va_G) (q : Nat → ClassId) (A : Nat → Prop) (ad : Nat → Nat) (a1 : Int32) (h : Hs) (Q : Int32 → Hs → Prop) (hw : p_M_status a1 h Q) : Met l yX10_status (mw yX10_status cX10_status 2 (some .int)) rm_M_status (va_Pc [.ref (ad 0), .int a1] (pW D q A (wM q ad h))) (va_Qi Q (fun h t => pW D q A (wM q ad h) t) A) 0 0 A := by
  refine met_i (Qp := Q) (by decide) (Nat.le_of_ble_eq_true rfl) ?_
  intro p e R s m args below meth c Qm ls hR1 hR2 S RT hl G
  have hx := S.1
  have hb := S.2.1
  have hl : lv_has ls 2 [(0, .ref (ad 0)), (1, .int a1)] := hl
  unfold p_M_status at hw
  refine lv_iload_n hx hb dX10_status_0 rfl (lv_at hl 1 rfl) ?_
  refine lv_i2l hx hb dX10_status_1 rfl ?_
  refine lv_lconst (v := 0) hx hb dX10_status_2 (by decide) ?_
  refine lv_ldc2 (v := 2) hx hb S.2.2.2.1 (S.2.2.2.2 _ kl_X10_61) dX10_status_3 ?_
  refine x_SzP S hl.1 G (c_M_in l D q A ad a1.toInt64 0 2 h _ hw) (cw_X10_105 S.2.2.2.2 ⟨Nat.le_trans (Nat.le_of_ble_eq_true rfl) hR1, Nat.le_trans (Nat.le_of_ble_eq_true rfl) hR2⟩) rfl rfl (Nat.le_of_ble_eq_true rfl) dX10_status_6 (fun r_6 H locs G z_6 hw => ?_)
  have hw := hw (fun (t0_26 : Int32) (g_26 : Hs) => ∀ (ls : Array Slot) (H : Heap) (locs : List Loc), lv_has ls 2 [] → okW D q A s (wM q ad g_26) H locs → W p l e R s m args below meth c H locs 0 0 Qm (F0 m 26 ls [.int t0_26])) (by
    intro t0_26 g_26 hw ls H locs hl G
    exact RT _ _ _ _ _ _ G hw dX10_status_26)
  refine lv_if_eq (tgt := 21) hx hb dX10_status_9 (by decide) (fun c_9 => ?_) (fun c_9 => ?_)
  · have hw := hw.1 c_9
    refine lv_aload_n hx hb dX10_status_21 rfl (lv_at hl 0 rfl) ?_
    refine lv_iconst (v := (-1)) hx hb dX10_status_22 (by decide) ?_
    refine x_Vi S hl.1 G (c_M_bad l D q A ad (-1) h _ hw) (cw_X10_118 S.2.2.2.2 ⟨Nat.le_trans (Nat.le_of_ble_eq_true rfl) hR1, Nat.le_trans (Nat.le_of_ble_eq_true rfl) hR2⟩) (me_11 km_0) rfl rfl rfl (Nat.le_of_ble_eq_true rfl) dX10_status_23 (fun r_23 h_23 H locs G hw => ?_)
    exact hw _ _ _ (lv_sub hl [] rfl) G
  · have hw := hw.2 c_9
    refine lv_aload_n hx hb dX10_status_12 rfl (lv_at hl 0 rfl) ?_
    refine x_get (C := RX10) (T := TX10) (n := 21) S G inX10 (me_11 km_0) rfl 3 (by decide) kf_X10_20 rfl dX10_status_13 ?_
    refine lv_iload_n hx hb dX10_status_16 rfl (lv_at hl 1 rfl) ?_
    obtain ⟨i_17, hw⟩ := hw
    refine x_iald (k := a1.toNatClampNeg) S G (me_20 km_4 lm_4) i_17 rfl rfl dX10_status_17 ?_
    refine lv_goto (tgt := 26) hx hb dX10_status_18 (by decide) ?_
    exact hw _ _ _ (lv_sub hl [] rfl) G

abbrev rm_M_counted : Room := { frames := 1, cells := 0, slots := 0, locals := 21 }
set_option maxHeartbeats 4000000 in
set_option maxRecDepth 100000 in
theorem c_M_counted (l : Launch) (D : va_G) (q : Nat → ClassId) (A : Nat → Prop) (ad : Nat → Nat) (a1 : Int32) (h : Hs) (Q : Int32 → Prop) (hw : p_M_counted a1 h Q) : Met l yX10_counted (mw yX10_counted cX10_counted 2 (some .int)) rm_M_counted (va_Pc [.ref (ad 0), .int a1] (pW D q A (wM q ad h))) (va_Qi (fun r h9 => h9 = h ∧ Q r) (fun h t => pW D q A (wM q ad h) t) A) 0 0 A := by
  refine met_i (Qp := (fun r h9 => h9 = h ∧ Q r)) (by decide) (Nat.le_of_ble_eq_true rfl) ?_
  intro p e R s m args below meth c Qm ls hR1 hR2 S RT hl G
  have hx := S.1
  have hb := S.2.1
  have hl : lv_has ls 2 [(0, .ref (ad 0)), (1, .int a1)] := hl
  unfold p_M_counted at hw
  refine lv_iload_n hx hb dX10_counted_0 rfl (lv_at hl 1 rfl) ?_
  refine lv_iconst (v := 4) hx hb dX10_counted_1 (by decide) ?_
  have hw := hw (fun (t0_25 : Int32) => ∀ (ls : Array Slot) (H : Heap) (locs : List Loc), lv_has ls 2 [] → okW D q A s (wM q ad h) H locs → W p l e R s m args below meth c H locs 0 0 Qm (F0 m 25 ls [.int t0_25])) (by
    intro t0_25 hw ls H locs hl G
    exact RT _ _ _ _ _ _ G ⟨rfl, hw⟩ dX10_counted_25)
  refine lv_icmp_ge (tgt := 18) hx hb dX10_counted_2 (by decide) (fun c_2 => ?_) (fun c_2 => ?_)
  · have hw := hw.1 c_2
    refine lv_aload_n hx hb dX10_counted_18 rfl (lv_at hl 0 rfl) ?_
    refine lv_iload_n hx hb dX10_counted_19 rfl (lv_at hl 1 rfl) ?_
    refine lv_iconst (v := 4) hx hb dX10_counted_20 (by decide) ?_
    refine lv_isub hx hb dX10_counted_21 ?_
    refine x_ViP S hl.1 G (c_M_textLong l D q A ad (a1 - 4) h _ hw) (cw_X10_136 S.2.2.2.2 ⟨Nat.le_trans (Nat.le_of_ble_eq_true rfl) hR1, Nat.le_trans (Nat.le_of_ble_eq_true rfl) hR2⟩) (me_11 km_0) rfl rfl rfl (Nat.le_of_ble_eq_true rfl) dX10_counted_22 (fun r_22 H locs G hw => ?_)
    exact hw _ _ _ (lv_sub hl [] rfl) G
  · have hw := hw.2 c_2
    refine lv_aload_n hx hb dX10_counted_5 rfl (lv_at hl 0 rfl) ?_
    refine x_get (C := RX10) (T := TX10) (n := 21) S G inX10 (me_11 km_0) rfl 0 (by decide) kf_X10_7 rfl dX10_counted_6 ?_
    refine lv_sipush (v := 671) hx hb dX10_counted_9 (by decide) ?_
    refine lv_iload_n hx hb dX10_counted_12 rfl (lv_at hl 1 rfl) ?_
    refine lv_iadd hx hb dX10_counted_13 ?_
    obtain ⟨i_14, hw⟩ := hw
    refine x_iald (k := (671 + a1).toNatClampNeg) S G (me_20 km_1 lm_1) i_14 rfl rfl dX10_counted_14 ?_
    refine lv_goto (tgt := 25) hx hb dX10_counted_15 (by decide) ?_
    exact hw _ _ _ (lv_sub hl [] rfl) G
theorem cw_X10_330 {R : Room} {s : State} {args : Array Value} (hts : ∀ w ∈ gW, w.before args s = true) (hR : rm_M_counted.frames + 1 ≤ R.frames ∧ 8 + (2 + 11) + rm_M_counted.locals ≤ R.locals) : CallW R s args RX10 RX10 330 yX10_counted cX10_counted 2 (some .int) (mw yX10_counted cX10_counted 2 (some .int)) rm_M_counted 0 0 1 := cwV9 hts km_X10_330 ki_X10_counted ks_X10_counted kn_X10 kk_X10_counted rfl rfl (by decide +kernel) hR
abbrev rm_M_count : Room := { frames := 2, cells := 0, slots := 0, locals := 42 }
set_option maxHeartbeats 4000000 in
set_option maxRecDepth 100000 in
theorem c_M_count (l : Launch) (D : va_G) (q : Nat → ClassId) (A : Nat → Prop) (ad : Nat → Nat) (a1 : Int32) (h : Hs) (Q : Int32 → Hs → Prop) (hw : p_M_count a1 h Q) : Met l yX10_count (mw yX10_count cX10_count 2 (some .int)) rm_M_count (va_Pc [.ref (ad 0), .int a1] (pW D q A (wM q ad h))) (va_Qi Q (fun h t => pW D q A (wM q ad h) t) A) 0 0 A := by
  refine met_i (Qp := Q) (by decide) (Nat.le_of_ble_eq_true rfl) ?_
  intro p e R s m args below meth c Qm ls hR1 hR2 S RT hl G
  have hx := S.1
  have hb := S.2.1
  have hl : lv_has ls 2 [(0, .ref (ad 0)), (1, .int a1)] := hl
  unfold p_M_count at hw
  refine lv_iload_n hx hb dX10_count_0 rfl (lv_at hl 1 rfl) ?_
  refine lv_i2l hx hb dX10_count_1 rfl ?_
  refine lv_lconst (v := 0) hx hb dX10_count_2 (by decide) ?_
  refine lv_ldc2 (v := 7) hx hb S.2.2.2.1 (S.2.2.2.2 _ kl_X10_328) dX10_count_3 ?_
  refine x_SzP S hl.1 G (c_M_in l D q A ad a1.toInt64 0 7 h _ hw) (cw_X10_105 S.2.2.2.2 ⟨Nat.le_trans (Nat.le_of_ble_eq_true rfl) hR1, Nat.le_trans (Nat.le_of_ble_eq_true rfl) hR2⟩) rfl rfl (Nat.le_of_ble_eq_true rfl) dX10_count_6 (fun r_6 H locs G z_6 hw => ?_)
  have hw := hw (fun (t0_26 : Int32) (g_26 : Hs) => ∀ (ls : Array Slot) (H : Heap) (locs : List Loc), lv_has ls 2 [] → okW D q A s (wM q ad g_26) H locs → W p l e R s m args below meth c H locs 0 0 Qm (F0 m 26 ls [.int t0_26])) (by
    intro t0_26 g_26 hw ls H locs hl G
    exact RT _ _ _ _ _ _ G hw dX10_count_26)
  refine lv_if_eq (tgt := 20) hx hb dX10_count_9 (by decide) (fun c_9 => ?_) (fun c_9 => ?_)
  · have hw := hw.1 c_9
    refine lv_aload_n hx hb dX10_count_20 rfl (lv_at hl 0 rfl) ?_
    refine lv_bipush (v := (-2)) hx hb dX10_count_21 (by decide) ?_
    refine x_Vi S hl.1 G (c_M_bad l D q A ad (-2) h _ hw) (cw_X10_118 S.2.2.2.2 ⟨Nat.le_trans (Nat.le_of_ble_eq_true rfl) hR1, Nat.le_trans (Nat.le_of_ble_eq_true rfl) hR2⟩) (me_11 km_0) rfl rfl rfl (Nat.le_of_ble_eq_true rfl) dX10_count_23 (fun r_23 h_23 H locs G hw => ?_)
    exact hw _ _ _ (lv_sub hl [] rfl) G
  · have hw := hw.2 c_9
    refine lv_aload_n hx hb dX10_count_12 rfl (lv_at hl 0 rfl) ?_
    refine lv_iload_n hx hb dX10_count_13 rfl (lv_at hl 1 rfl) ?_
    refine x_ViP S hl.1 G (c_M_counted l D q A ad a1 h _ hw) (cw_X10_330 S.2.2.2.2 ⟨Nat.le_trans (Nat.le_of_ble_eq_true rfl) hR1, Nat.le_trans (Nat.le_of_ble_eq_true rfl) hR2⟩) (me_11 km_0) rfl rfl rfl (Nat.le_of_ble_eq_true rfl) dX10_count_14 (fun r_14 H locs G hw => ?_)
    refine lv_goto (tgt := 26) hx hb dX10_count_17 (by decide) ?_
    exact hw _ _ _ (lv_sub hl [] rfl) G

abbrev rm_M_sums : Room := { frames := 0, cells := 0, slots := 0, locals := 0 }
set_option maxHeartbeats 4000000 in
set_option maxRecDepth 100000 in
theorem c_M_sums (l : Launch) (D : va_G) (q : Nat → ClassId) (A : Nat → Prop) (ad : Nat → Nat) (a1 : Int64) (a3 : Int32) (a4 : Int32) (h : Hs) (Q : Int64 → Prop) (hw : p_M_sums a1 a3 a4 h Q) : Met l yX10_sums (mw yX10_sums cX10_sums 8 (some .long)) rm_M_sums (va_Pc [.ref (ad 0), .long a1, .int a3, .int a4] (pW D q A (wM q ad h))) (va_Ql (fun r h9 => h9 = h ∧ Q r) (fun h t => pW D q A (wM q ad h) t) A) 0 0 A := by
  refine met_l (Qp := (fun r h9 => h9 = h ∧ Q r)) (by decide) (Nat.le_of_ble_eq_true rfl) ?_
  intro p e R s m args below meth c Qm ls hR1 hR2 S RT hl G
  have hx := S.1
  have hb := S.2.1
  have hl : lv_has ls 8 [(0, .ref (ad 0)), (1, .long a1), (3, .int a3), (4, .int a4)] := hl
  unfold p_M_sums at hw
  refine lv_lload_n hx hb dX10_sums_0 rfl (lv_at hl 1 rfl) ?_
  refine lv_lstore (lv' := [(5, .long a1), (0, .ref (ad 0)), (1, .long a1), (3, .int a3), (4, .int a4)]) hx hb dX10_sums_1 hl (by decide) rfl (fun ls hl => ?_)
  refine lv_iconst (v := 0) hx hb dX10_sums_3 (by decide) ?_
  refine lv_istore (lv' := [(7, .int 0), (5, .long a1), (0, .ref (ad 0)), (1, .long a1), (3, .int a3), (4, .int a4)]) hx hb dX10_sums_4 hl (by decide) rfl (fun ls hl => ?_)
  have hw := hw (fun (b5_6 : Int64) (b7_6 : Int32) => ∀ (ls : Array Slot) (H : Heap) (locs : List Loc), lv_has ls 8 [(0, .ref (ad 0)), (3, .int a3), (4, .int a4), (5, .long b5_6), (7, .int b7_6)] → okW D q A s (wM q ad h) H locs → W p l e R s m args below meth c H locs 0 0 Qm (F0 m 6 ls [])) (by
    intro b5_6 b7_6 hw ls H locs hl G
    refine lv_iload hx hb dX10_sums_6 (lv_at hl 4 rfl) ?_
    refine lv_iload hx hb dX10_sums_8 (lv_at hl 2 rfl) ?_
    refine lv_icmp_ge (tgt := 38) hx hb dX10_sums_10 (by decide) (fun c_10 => ?_) (fun c_10 => ?_)
    · have hw := hw.1 c_10
      refine lv_lload hx hb dX10_sums_38 (lv_at hl 3 rfl) ?_
      exact RT _ _ _ _ _ _ G ⟨rfl, hw⟩ dX10_sums_40
    · have hw := hw.2 c_10
      refine lv_ldc2 (v := 31) hx hb S.2.2.2.1 (S.2.2.2.2 _ kl_X10_333) dX10_sums_13 ?_
      refine lv_lload hx hb dX10_sums_16 (lv_at hl 3 rfl) ?_
      refine lv_lmul hx hb dX10_sums_18 ?_
      refine lv_aload_n hx hb dX10_sums_19 rfl (lv_at hl 0 rfl) ?_
      refine x_get (C := RX10) (T := TX10) (n := 21) S G inX10 (me_11 km_0) rfl 0 (by decide) kf_X10_7 rfl dX10_sums_20 ?_
      refine lv_iload_n hx hb dX10_sums_23 rfl (lv_at hl 1 rfl) ?_
      refine lv_iload hx hb dX10_sums_24 (lv_at hl 4 rfl) ?_
      refine lv_iadd hx hb dX10_sums_26 ?_
      obtain ⟨i_27, hw⟩ := hw
      refine x_iald (k := (a3 + b7_6).toNatClampNeg) S G (me_20 km_1 lm_1) i_27 rfl rfl dX10_sums_27 ?_
      refine lv_i2l hx hb dX10_sums_28 rfl ?_
      refine lv_ladd hx hb dX10_sums_29 ?_
      refine lv_topl (fun a5_30 ea5_30 => ?_)
      have hw := hw a5_30 ea5_30
      refine lv_lstore (lv' := [(5, .long a5_30), (0, .ref (ad 0)), (3, .int a3), (4, .int a4), (7, .int b7_6)]) hx hb dX10_sums_30 hl (by decide) rfl (fun ls hl => ?_)
      obtain ⟨a7_32, ea7_32⟩ : ∃ y : Int32, y = b7_6 + 1 := ⟨_, rfl⟩
      have hw := hw a7_32 ea7_32
      refine lv_iinc (v := a7_32) (lv' := [(7, .int a7_32), (5, .long a5_30), (0, .ref (ad 0)), (3, .int a3), (4, .int a4)]) hx hb dX10_sums_32 hl (k := 4) rfl (by rw [ea7_32]; rfl) (by decide) rfl (fun ls hl => ?_)
      refine lv_goto (tgt := 6) hx hb dX10_sums_35 (by decide) ?_
      exact hw _ _ _ (lv_sub hl [2, 3, 4, 1, 0] rfl) G)
  exact hw _ _ _ (lv_sub hl [2, 4, 5, 1, 0] rfl) G
theorem cw_X10_337 {R : Room} {s : State} {args : Array Value} (hts : ∀ w ∈ gW, w.before args s = true) (hR : rm_M_sums.frames + 1 ≤ R.frames ∧ 8 + (8 + 11) + rm_M_sums.locals ≤ R.locals) : CallW R s args RX10 RX10 337 yX10_sums cX10_sums 8 (some .long) (mw yX10_sums cX10_sums 8 (some .long)) rm_M_sums 0 0 3 := cwV9 hts km_X10_337 ki_X10_sums ks_X10_sums kn_X10 kk_X10_sums rfl rfl (by decide +kernel) hR
abbrev rm_M_digest : Room := { frames := 2, cells := 0, slots := 0, locals := 42 }
set_option maxHeartbeats 4000000 in
set_option maxRecDepth 100000 in
theorem c_M_digest (l : Launch) (D : va_G) (q : Nat → ClassId) (A : Nat → Prop) (ad : Nat → Nat) (h : Hs) (Q : Int64 → Prop) (hw : p_M_digest h Q) : Met l yX10_digest (mw yX10_digest cX10_digest 5 (some .long)) rm_M_digest (va_Pc [.ref (ad 0)] (pW D q A (wM q ad h))) (va_Ql (fun r h9 => h9 = h ∧ Q r) (fun h t => pW D q A (wM q ad h) t) A) 0 0 A := by
  refine met_l (Qp := (fun r h9 => h9 = h ∧ Q r)) (by decide) (Nat.le_of_ble_eq_true rfl) ?_
  intro p e R s m args below meth c Qm ls hR1 hR2 S RT hl G
  have hx := S.1
  have hb := S.2.1
  have hl : lv_has ls 5 [(0, .ref (ad 0))] := hl
  unfold p_M_digest at hw
  refine lv_ldc2 (v := 569) hx hb S.2.2.2.1 (S.2.2.2.2 _ kl_X10_335) dX10_digest_0 ?_
  refine lv_lstore_n (lv' := [(1, .long 569), (0, .ref (ad 0))]) hx hb dX10_digest_3 rfl hl (by decide) rfl (fun ls hl => ?_)
  refine lv_iconst (v := 0) hx hb dX10_digest_4 (by decide) ?_
  refine lv_istore_n (lv' := [(3, .int 0), (1, .long 569), (0, .ref (ad 0))]) hx hb dX10_digest_5 rfl hl (by decide) rfl (fun ls hl => ?_)
  have hw := hw (fun (b1_6 : Int64) (b3_6 : Int32) => ∀ (ls : Array Slot) (H : Heap) (locs : List Loc), lv_has ls 5 [(0, .ref (ad 0)), (1, .long b1_6), (3, .int b3_6)] → okW D q A s (wM q ad h) H locs → W p l e R s m args below meth c H locs 0 0 Qm (F0 m 6 ls [])) (by
    intro b1_6 b3_6 hw ls H locs hl G
    refine lv_iload_n hx hb dX10_digest_6 rfl (lv_at hl 2 rfl) ?_
    refine lv_bipush (v := 8) hx hb dX10_digest_7 (by decide) ?_
    refine lv_icmp_ge (tgt := 31) hx hb dX10_digest_9 (by decide) (fun c_9 => ?_) (fun c_9 => ?_)
    · have hw := hw.1 c_9
      refine lv_aload_n hx hb dX10_digest_31 rfl (lv_at hl 0 rfl) ?_
      refine lv_lload_n hx hb dX10_digest_32 rfl (lv_at hl 1 rfl) ?_
      refine lv_iconst (v := 0) hx hb dX10_digest_33 (by decide) ?_
      refine lv_aload_n hx hb dX10_digest_34 rfl (lv_at hl 0 rfl) ?_
      refine x_ViP S hl.1 G (c_M_places l D q A ad h _ hw) (cw_X10_101 S.2.2.2.2 ⟨Nat.le_trans (Nat.le_of_ble_eq_true rfl) hR1, Nat.le_trans (Nat.le_of_ble_eq_true rfl) hR2⟩) (me_11 km_0) rfl rfl rfl (Nat.le_of_ble_eq_true rfl) dX10_digest_35 (fun r_35 H locs G hw => ?_)
      refine x_VlP S hl.1 G (c_M_sums l D q A ad b1_6 0 r_35 h _ hw) (cw_X10_337 S.2.2.2.2 ⟨Nat.le_trans (Nat.le_of_ble_eq_true rfl) hR1, Nat.le_trans (Nat.le_of_ble_eq_true rfl) hR2⟩) (me_11 km_0) rfl rfl rfl (Nat.le_of_ble_eq_true rfl) dX10_digest_38 (fun r_38 H locs G hw => ?_)
      refine lv_lstore_n (lv' := [(1, .long r_38), (0, .ref (ad 0)), (3, .int b3_6)]) hx hb dX10_digest_41 rfl hl (by decide) rfl (fun ls hl => ?_)
      refine lv_aload_n hx hb dX10_digest_42 rfl (lv_at hl 1 rfl) ?_
      refine lv_lload_n hx hb dX10_digest_43 rfl (lv_at hl 0 rfl) ?_
      refine lv_bipush (v := 6) hx hb dX10_digest_44 (by decide) ?_
      refine lv_bipush (v := 10) hx hb dX10_digest_46 (by decide) ?_
      refine x_VlP S hl.1 G (c_M_sums l D q A ad r_38 6 10 h _ hw) (cw_X10_337 S.2.2.2.2 ⟨Nat.le_trans (Nat.le_of_ble_eq_true rfl) hR1, Nat.le_trans (Nat.le_of_ble_eq_true rfl) hR2⟩) (me_11 km_0) rfl rfl rfl (Nat.le_of_ble_eq_true rfl) dX10_digest_48 (fun r_48 H locs G hw => ?_)
      refine lv_lstore_n (lv' := [(1, .long r_48), (0, .ref (ad 0)), (3, .int b3_6)]) hx hb dX10_digest_51 rfl hl (by decide) rfl (fun ls hl => ?_)
      refine lv_aload_n hx hb dX10_digest_52 rfl (lv_at hl 1 rfl) ?_
      refine lv_lload_n hx hb dX10_digest_53 rfl (lv_at hl 0 rfl) ?_
      refine lv_bipush (v := 16) hx hb dX10_digest_54 (by decide) ?_
      refine lv_aload_n hx hb dX10_digest_56 rfl (lv_at hl 1 rfl) ?_
      refine x_ViP S hl.1 G (c_M_lots l D q A ad h _ hw) (cw_X10_109 S.2.2.2.2 ⟨Nat.le_trans (Nat.le_of_ble_eq_true rfl) hR1, Nat.le_trans (Nat.le_of_ble_eq_true rfl) hR2⟩) (me_11 km_0) rfl rfl rfl (Nat.le_of_ble_eq_true rfl) dX10_digest_57 (fun r_57 H locs G hw => ?_)
      refine x_VlP S hl.1 G (c_M_sums l D q A ad r_48 16 r_57 h _ hw) (cw_X10_337 S.2.2.2.2 ⟨Nat.le_trans (Nat.le_of_ble_eq_true rfl) hR1, Nat.le_trans (Nat.le_of_ble_eq_true rfl) hR2⟩) (me_11 km_0) rfl rfl rfl (Nat.le_of_ble_eq_true rfl) dX10_digest_60 (fun r_60 H locs G hw => ?_)
      refine lv_lstore_n (lv' := [(1, .long r_60), (0, .ref (ad 0)), (3, .int b3_6)]) hx hb dX10_digest_63 rfl hl (by decide) rfl (fun ls hl => ?_)
      refine lv_aload_n hx hb dX10_digest_64 rfl (lv_at hl 1 rfl) ?_
      refine lv_lload_n hx hb dX10_digest_65 rfl (lv_at hl 0 rfl) ?_
      refine lv_bipush (v := 20) hx hb dX10_digest_66 (by decide) ?_
      refine lv_iconst (v := 2) hx hb dX10_digest_68 (by decide) ?_
      refine x_VlP S hl.1 G (c_M_sums l D q A ad r_60 20 2 h _ hw) (cw_X10_337 S.2.2.2.2 ⟨Nat.le_trans (Nat.le_of_ble_eq_true rfl) hR1, Nat.le_trans (Nat.le_of_ble_eq_true rfl) hR2⟩) (me_11 km_0) rfl rfl rfl (Nat.le_of_ble_eq_true rfl) dX10_digest_69 (fun r_69 H locs G hw => ?_)
      refine lv_lstore_n (lv' := [(1, .long r_69), (0, .ref (ad 0)), (3, .int b3_6)]) hx hb dX10_digest_72 rfl hl (by decide) rfl (fun ls hl => ?_)
      refine lv_iconst (v := 0) hx hb dX10_digest_73 (by decide) ?_
      refine lv_istore_n (lv' := [(3, .int 0), (1, .long r_69), (0, .ref (ad 0))]) hx hb dX10_digest_74 rfl hl (by decide) rfl (fun ls hl => ?_)
      have hw := hw (fun (b1_75 : Int64) (b3_75 : Int32) => ∀ (ls : Array Slot) (H : Heap) (locs : List Loc), lv_has ls 5 [(0, .ref (ad 0)), (1, .long b1_75), (3, .int b3_75)] → okW D q A s (wM q ad h) H locs → W p l e R s m args below meth c H locs 0 0 Qm (F0 m 75 ls [])) (by
        intro b1_75 b3_75 hw ls H locs hl G
        refine lv_iload_n hx hb dX10_digest_75 rfl (lv_at hl 2 rfl) ?_
        refine lv_iconst (v := 4) hx hb dX10_digest_76 (by decide) ?_
        refine lv_icmp_ge (tgt := 118) hx hb dX10_digest_77 (by decide) (fun c_77 => ?_) (fun c_77 => ?_)
        · have hw := hw.1 c_77
          refine lv_iconst (v := 0) hx hb dX10_digest_118 (by decide) ?_
          refine lv_istore_n (lv' := [(3, .int 0), (0, .ref (ad 0)), (1, .long b1_75)]) hx hb dX10_digest_119 rfl hl (by decide) rfl (fun ls hl => ?_)
          have hw := hw (fun (b1_120 : Int64) (b3_120 : Int32) => ∀ (ls : Array Slot) (H : Heap) (locs : List Loc), lv_has ls 5 [(0, .ref (ad 0)), (1, .long b1_120), (3, .int b3_120)] → okW D q A s (wM q ad h) H locs → W p l e R s m args below meth c H locs 0 0 Qm (F0 m 120 ls [])) (by
            intro b1_120 b3_120 hw ls H locs hl G
            refine lv_iload_n hx hb dX10_digest_120 rfl (lv_at hl 2 rfl) ?_
            refine lv_iconst (v := 4) hx hb dX10_digest_121 (by decide) ?_
            refine lv_icmp_ge (tgt := 166) hx hb dX10_digest_122 (by decide) (fun c_122 => ?_) (fun c_122 => ?_)
            · have hw := hw.1 c_122
              refine lv_aload_n hx hb dX10_digest_166 rfl (lv_at hl 0 rfl) ?_
              refine lv_lload_n hx hb dX10_digest_167 rfl (lv_at hl 1 rfl) ?_
              refine lv_sipush (v := 518) hx hb dX10_digest_168 (by decide) ?_
              refine lv_iconst (v := 4) hx hb dX10_digest_171 (by decide) ?_
              refine lv_aload_n hx hb dX10_digest_172 rfl (lv_at hl 0 rfl) ?_
              refine x_ViP S hl.1 G (c_M_signs l D q A ad h _ hw) (cw_X10_215 S.2.2.2.2 ⟨Nat.le_trans (Nat.le_of_ble_eq_true rfl) hR1, Nat.le_trans (Nat.le_of_ble_eq_true rfl) hR2⟩) (me_11 km_0) rfl rfl rfl (Nat.le_of_ble_eq_true rfl) dX10_digest_173 (fun r_173 H locs G hw => ?_)
              refine lv_imul hx hb dX10_digest_176 ?_
              refine x_VlP S hl.1 G (c_M_sums l D q A ad b1_120 518 (4 * r_173) h _ hw) (cw_X10_337 S.2.2.2.2 ⟨Nat.le_trans (Nat.le_of_ble_eq_true rfl) hR1, Nat.le_trans (Nat.le_of_ble_eq_true rfl) hR2⟩) (me_11 km_0) rfl rfl rfl (Nat.le_of_ble_eq_true rfl) dX10_digest_177 (fun r_177 H locs G hw => ?_)
              refine lv_lstore_n (lv' := [(1, .long r_177), (0, .ref (ad 0)), (3, .int b3_120)]) hx hb dX10_digest_180 rfl hl (by decide) rfl (fun ls hl => ?_)
              refine lv_aload_n hx hb dX10_digest_181 rfl (lv_at hl 1 rfl) ?_
              refine lv_lload_n hx hb dX10_digest_182 rfl (lv_at hl 0 rfl) ?_
              refine lv_sipush (v := 542) hx hb dX10_digest_183 (by decide) ?_
              refine lv_iconst (v := 3) hx hb dX10_digest_186 (by decide) ?_
              refine x_VlP S hl.1 G (c_M_sums l D q A ad r_177 542 3 h _ hw) (cw_X10_337 S.2.2.2.2 ⟨Nat.le_trans (Nat.le_of_ble_eq_true rfl) hR1, Nat.le_trans (Nat.le_of_ble_eq_true rfl) hR2⟩) (me_11 km_0) rfl rfl rfl (Nat.le_of_ble_eq_true rfl) dX10_digest_187 (fun r_187 H locs G hw => ?_)
              refine lv_lstore_n (lv' := [(1, .long r_187), (0, .ref (ad 0)), (3, .int b3_120)]) hx hb dX10_digest_190 rfl hl (by decide) rfl (fun ls hl => ?_)
              refine lv_aload_n hx hb dX10_digest_191 rfl (lv_at hl 1 rfl) ?_
              refine lv_lload_n hx hb dX10_digest_192 rfl (lv_at hl 0 rfl) ?_
              refine lv_sipush (v := 545) hx hb dX10_digest_193 (by decide) ?_
              refine lv_iconst (v := 5) hx hb dX10_digest_196 (by decide) ?_
              refine lv_aload_n hx hb dX10_digest_197 rfl (lv_at hl 1 rfl) ?_
              refine x_ViP S hl.1 G (c_M_tellers l D q A ad h _ hw) (cw_X10_229 S.2.2.2.2 ⟨Nat.le_trans (Nat.le_of_ble_eq_true rfl) hR1, Nat.le_trans (Nat.le_of_ble_eq_true rfl) hR2⟩) (me_11 km_0) rfl rfl rfl (Nat.le_of_ble_eq_true rfl) dX10_digest_198 (fun r_198 H locs G hw => ?_)
              refine lv_imul hx hb dX10_digest_201 ?_
              refine x_VlP S hl.1 G (c_M_sums l D q A ad r_187 545 (5 * r_198) h _ hw) (cw_X10_337 S.2.2.2.2 ⟨Nat.le_trans (Nat.le_of_ble_eq_true rfl) hR1, Nat.le_trans (Nat.le_of_ble_eq_true rfl) hR2⟩) (me_11 km_0) rfl rfl rfl (Nat.le_of_ble_eq_true rfl) dX10_digest_202 (fun r_202 H locs G hw => ?_)
              refine lv_lstore_n (lv' := [(1, .long r_202), (0, .ref (ad 0)), (3, .int b3_120)]) hx hb dX10_digest_205 rfl hl (by decide) rfl (fun ls hl => ?_)
              refine lv_iconst (v := 0) hx hb dX10_digest_206 (by decide) ?_
              refine lv_istore_n (lv' := [(3, .int 0), (1, .long r_202), (0, .ref (ad 0))]) hx hb dX10_digest_207 rfl hl (by decide) rfl (fun ls hl => ?_)
              have hw := hw (fun (b1_208 : Int64) (b3_208 : Int32) => ∀ (ls : Array Slot) (H : Heap) (locs : List Loc), lv_has ls 5 [(0, .ref (ad 0)), (1, .long b1_208), (3, .int b3_208)] → okW D q A s (wM q ad h) H locs → W p l e R s m args below meth c H locs 0 0 Qm (F0 m 208 ls [])) (by
                intro b1_208 b3_208 hw ls H locs hl G
                refine lv_iload_n hx hb dX10_digest_208 rfl (lv_at hl 2 rfl) ?_
                refine lv_aload_n hx hb dX10_digest_209 rfl (lv_at hl 0 rfl) ?_
                refine x_ViP S hl.1 G (c_M_places l D q A ad h _ hw) (cw_X10_101 S.2.2.2.2 ⟨Nat.le_trans (Nat.le_of_ble_eq_true rfl) hR1, Nat.le_trans (Nat.le_of_ble_eq_true rfl) hR2⟩) (me_11 km_0) rfl rfl rfl (Nat.le_of_ble_eq_true rfl) dX10_digest_210 (fun r_210 H locs G hw => ?_)
                refine lv_icmp_ge (tgt := 237) hx hb dX10_digest_213 (by decide) (fun c_213 => ?_) (fun c_213 => ?_)
                · have hw := hw.1 c_213
                  refine lv_aload_n hx hb dX10_digest_237 rfl (lv_at hl 0 rfl) ?_
                  refine lv_lload_n hx hb dX10_digest_238 rfl (lv_at hl 1 rfl) ?_
                  refine lv_sipush (v := 611) hx hb dX10_digest_239 (by decide) ?_
                  refine lv_bipush (v := 60) hx hb dX10_digest_242 (by decide) ?_
                  refine x_VlP S hl.1 G (c_M_sums l D q A ad b1_208 611 60 h _ hw) (cw_X10_337 S.2.2.2.2 ⟨Nat.le_trans (Nat.le_of_ble_eq_true rfl) hR1, Nat.le_trans (Nat.le_of_ble_eq_true rfl) hR2⟩) (me_11 km_0) rfl rfl rfl (Nat.le_of_ble_eq_true rfl) dX10_digest_244 (fun r_244 H locs G hw => ?_)
                  refine lv_lstore_n (lv' := [(1, .long r_244), (0, .ref (ad 0)), (3, .int b3_208)]) hx hb dX10_digest_247 rfl hl (by decide) rfl (fun ls hl => ?_)
                  refine lv_ldc2 (v := 31) hx hb S.2.2.2.1 (S.2.2.2.2 _ kl_X10_333) dX10_digest_248 ?_
                  refine lv_ldc2 (v := 31) hx hb S.2.2.2.1 (S.2.2.2.2 _ kl_X10_333) dX10_digest_251 ?_
                  refine lv_ldc2 (v := 31) hx hb S.2.2.2.1 (S.2.2.2.2 _ kl_X10_333) dX10_digest_254 ?_
                  refine lv_lload_n hx hb dX10_digest_257 rfl (lv_at hl 0 rfl) ?_
                  refine lv_lmul hx hb dX10_digest_258 ?_
                  refine lv_aload_n hx hb dX10_digest_259 rfl (lv_at hl 1 rfl) ?_
                  refine x_get (C := RX10) (T := TX10) (n := 21) S G inX10 (me_11 km_0) rfl 6 (by decide) kf_X10_87 rfl dX10_digest_260 ?_
                  refine lv_i2l hx hb dX10_digest_263 rfl ?_
                  refine lv_ladd hx hb dX10_digest_264 ?_
                  refine lv_lmul hx hb dX10_digest_265 ?_
                  refine lv_aload_n hx hb dX10_digest_266 rfl (lv_at hl 1 rfl) ?_
                  refine x_get (C := RX10) (T := TX10) (n := 21) S G inX10 (me_11 km_0) rfl 5 (by decide) kf_X10_27 rfl dX10_digest_267 ?_
                  refine lv_iconst (v := 0) hx hb dX10_digest_270 (by decide) ?_
                  refine x_iald (k := 0) S G (me_20 km_6 lm_6) (vpi (by decide)) rfl rfl dX10_digest_271 ?_
                  refine lv_i2l hx hb dX10_digest_272 rfl ?_
                  refine lv_ladd hx hb dX10_digest_273 ?_
                  refine lv_lmul hx hb dX10_digest_274 ?_
                  refine lv_aload_n hx hb dX10_digest_275 rfl (lv_at hl 1 rfl) ?_
                  refine x_get (C := RX10) (T := TX10) (n := 21) S G inX10 (me_11 km_0) rfl 5 (by decide) kf_X10_27 rfl dX10_digest_276 ?_
                  refine lv_iconst (v := 1) hx hb dX10_digest_279 (by decide) ?_
                  refine x_iald (k := 1) S G (me_20 km_6 lm_6) (vpi (by decide)) rfl rfl dX10_digest_280 ?_
                  refine lv_i2l hx hb dX10_digest_281 rfl ?_
                  refine lv_ladd hx hb dX10_digest_282 ?_
                  refine lv_topl (fun a1_283 ea1_283 => ?_)
                  have hw := hw a1_283 ea1_283
                  refine lv_lstore_n (lv' := [(1, .long a1_283), (0, .ref (ad 0)), (3, .int b3_208)]) hx hb dX10_digest_283 rfl hl (by decide) rfl (fun ls hl => ?_)
                  refine lv_iconst (v := 0) hx hb dX10_digest_284 (by decide) ?_
                  refine lv_istore_n (lv' := [(3, .int 0), (1, .long a1_283), (0, .ref (ad 0))]) hx hb dX10_digest_285 rfl hl (by decide) rfl (fun ls hl => ?_)
                  have hw := hw (fun (b1_286 : Int64) (b3_286 : Int32) => ∀ (ls : Array Slot) (H : Heap) (locs : List Loc), lv_has ls 5 [(0, .ref (ad 0)), (1, .long b1_286), (3, .int b3_286)] → okW D q A s (wM q ad h) H locs → W p l e R s m args below meth c H locs 0 0 Qm (F0 m 286 ls [])) (by
                    intro b1_286 b3_286 hw ls H locs hl G
                    refine lv_iload_n hx hb dX10_digest_286 rfl (lv_at hl 2 rfl) ?_
                    refine lv_iconst (v := 1) hx hb dX10_digest_287 (by decide) ?_
                    refine lv_icmp_gt (tgt := 336) hx hb dX10_digest_288 (by decide) (fun c_288 => ?_) (fun c_288 => ?_)
                    · have hw := hw.1 c_288
                      refine lv_lload_n hx hb dX10_digest_336 rfl (lv_at hl 1 rfl) ?_
                      exact RT _ _ _ _ _ _ G ⟨rfl, hw⟩ dX10_digest_337
                    · have hw := hw.2 c_288
                      refine lv_iconst (v := 0) hx hb dX10_digest_291 (by decide) ?_
                      refine lv_istore (lv' := [(4, .int 0), (0, .ref (ad 0)), (1, .long b1_286), (3, .int b3_286)]) hx hb dX10_digest_292 hl (by decide) rfl (fun ls hl => ?_)
                      have hw := hw (fun (b1_294 : Int64) (b4_294 : Int32) => ∀ (ls : Array Slot) (H : Heap) (locs : List Loc), lv_has ls 5 [(0, .ref (ad 0)), (1, .long b1_294), (3, .int b3_286), (4, .int b4_294)] → okW D q A s (wM q ad h) H locs → W p l e R s m args below meth c H locs 0 0 Qm (F0 m 294 ls [])) (by
                        intro b1_294 b4_294 hw ls H locs hl G
                        refine lv_iload hx hb dX10_digest_294 (lv_at hl 3 rfl) ?_
                        refine lv_aload_n hx hb dX10_digest_296 rfl (lv_at hl 0 rfl) ?_
                        refine x_get (C := RX10) (T := TX10) (n := 21) S G inX10 (me_11 km_0) rfl 5 (by decide) kf_X10_27 rfl dX10_digest_297 ?_
                        refine lv_iload_n hx hb dX10_digest_300 rfl (lv_at hl 2 rfl) ?_
                        obtain ⟨i_301, hw⟩ := hw
                        refine x_iald (k := b3_286.toNatClampNeg) S G (me_20 km_6 lm_6) i_301 rfl rfl dX10_digest_301 ?_
                        refine lv_icmp_ge (tgt := 330) hx hb dX10_digest_302 (by decide) (fun c_302 => ?_) (fun c_302 => ?_)
                        · have hw := hw.1 c_302
                          obtain ⟨a3_330, ea3_330⟩ : ∃ y : Int32, y = b3_286 + 1 := ⟨_, rfl⟩
                          have hw := hw a3_330 ea3_330
                          refine lv_iinc (v := a3_330) (lv' := [(3, .int a3_330), (0, .ref (ad 0)), (1, .long b1_294), (4, .int b4_294)]) hx hb dX10_digest_330 hl (k := 2) rfl (by rw [ea3_330]; rfl) (by decide) rfl (fun ls hl => ?_)
                          refine lv_goto (tgt := 286) hx hb dX10_digest_333 (by decide) ?_
                          exact hw _ _ _ (lv_sub hl [1, 2, 0] rfl) G
                        · have hw := hw.2 c_302
                          refine lv_ldc2 (v := 31) hx hb S.2.2.2.1 (S.2.2.2.2 _ kl_X10_333) dX10_digest_305 ?_
                          refine lv_lload_n hx hb dX10_digest_308 rfl (lv_at hl 1 rfl) ?_
                          refine lv_lmul hx hb dX10_digest_309 ?_
                          refine lv_aload_n hx hb dX10_digest_310 rfl (lv_at hl 0 rfl) ?_
                          refine x_get (C := RX10) (T := TX10) (n := 21) S G inX10 (me_11 km_0) rfl 4 (by decide) kf_X10_23 rfl dX10_digest_311 ?_
                          refine lv_bipush (v := 64) hx hb dX10_digest_314 (by decide) ?_
                          refine lv_iload_n hx hb dX10_digest_316 rfl (lv_at hl 2 rfl) ?_
                          refine lv_imul hx hb dX10_digest_317 ?_
                          refine lv_iload hx hb dX10_digest_318 (lv_at hl 3 rfl) ?_
                          refine lv_iadd hx hb dX10_digest_320 ?_
                          obtain ⟨i_321, hw⟩ := hw
                          refine x_lald (k := ((64 * b3_286) + b4_294).toNatClampNeg) S G (me_26 km_5 lm_5) i_321 rfl rfl dX10_digest_321 ?_
                          refine lv_ladd hx hb dX10_digest_322 ?_
                          refine lv_topl (fun a1_323 ea1_323 => ?_)
                          have hw := hw a1_323 ea1_323
                          refine lv_lstore_n (lv' := [(1, .long a1_323), (0, .ref (ad 0)), (3, .int b3_286), (4, .int b4_294)]) hx hb dX10_digest_323 rfl hl (by decide) rfl (fun ls hl => ?_)
                          obtain ⟨a4_324, ea4_324⟩ : ∃ y : Int32, y = b4_294 + 1 := ⟨_, rfl⟩
                          have hw := hw a4_324 ea4_324
                          refine lv_iinc (v := a4_324) (lv' := [(4, .int a4_324), (1, .long a1_323), (0, .ref (ad 0)), (3, .int b3_286)]) hx hb dX10_digest_324 hl (k := 3) rfl (by rw [ea4_324]; rfl) (by decide) rfl (fun ls hl => ?_)
                          refine lv_goto (tgt := 294) hx hb dX10_digest_327 (by decide) ?_
                          exact hw _ _ _ (lv_sub hl [2, 1, 3, 0] rfl) G)
                      exact hw _ _ _ (lv_sub hl [1, 2, 3, 0] rfl) G)
                  exact hw _ _ _ (lv_sub hl [2, 1, 0] rfl) G
                · have hw := hw.2 c_213
                  refine lv_aload_n hx hb dX10_digest_216 rfl (lv_at hl 0 rfl) ?_
                  refine lv_lload_n hx hb dX10_digest_217 rfl (lv_at hl 1 rfl) ?_
                  refine lv_sipush (v := 575) hx hb dX10_digest_218 (by decide) ?_
                  refine lv_bipush (v := 6) hx hb dX10_digest_221 (by decide) ?_
                  refine lv_iload_n hx hb dX10_digest_223 rfl (lv_at hl 2 rfl) ?_
                  refine lv_imul hx hb dX10_digest_224 ?_
                  refine lv_iadd hx hb dX10_digest_225 ?_
                  refine lv_iload_n hx hb dX10_digest_226 rfl (lv_at hl 2 rfl) ?_
                  refine x_VlP S hl.1 G (c_M_sums l D q A ad b1_208 (575 + (6 * b3_208)) b3_208 h _ hw) (cw_X10_337 S.2.2.2.2 ⟨Nat.le_trans (Nat.le_of_ble_eq_true rfl) hR1, Nat.le_trans (Nat.le_of_ble_eq_true rfl) hR2⟩) (me_11 km_0) rfl rfl rfl (Nat.le_of_ble_eq_true rfl) dX10_digest_227 (fun r_227 H locs G hw => ?_)
                  refine lv_lstore_n (lv' := [(1, .long r_227), (0, .ref (ad 0)), (3, .int b3_208)]) hx hb dX10_digest_230 rfl hl (by decide) rfl (fun ls hl => ?_)
                  obtain ⟨a3_231, ea3_231⟩ : ∃ y : Int32, y = b3_208 + 1 := ⟨_, rfl⟩
                  have hw := hw a3_231 ea3_231
                  refine lv_iinc (v := a3_231) (lv' := [(3, .int a3_231), (1, .long r_227), (0, .ref (ad 0))]) hx hb dX10_digest_231 hl (k := 2) rfl (by rw [ea3_231]; rfl) (by decide) rfl (fun ls hl => ?_)
                  refine lv_goto (tgt := 208) hx hb dX10_digest_234 (by decide) ?_
                  exact hw _ _ _ (lv_sub hl [2, 1, 0] rfl) G)
              exact hw _ _ _ (lv_sub hl [2, 1, 0] rfl) G
            · have hw := hw.2 c_122
              refine lv_aload_n hx hb dX10_digest_125 rfl (lv_at hl 0 rfl) ?_
              refine lv_ldc2 (v := 31) hx hb S.2.2.2.1 (S.2.2.2.2 _ kl_X10_333) dX10_digest_126 ?_
              refine lv_lload_n hx hb dX10_digest_129 rfl (lv_at hl 1 rfl) ?_
              refine lv_lmul hx hb dX10_digest_130 ?_
              refine lv_aload_n hx hb dX10_digest_131 rfl (lv_at hl 0 rfl) ?_
              refine x_get (C := RX10) (T := TX10) (n := 21) S G inX10 (me_11 km_0) rfl 0 (by decide) kf_X10_7 rfl dX10_digest_132 ?_
              refine lv_bipush (v := 30) hx hb dX10_digest_135 (by decide) ?_
              refine lv_iload_n hx hb dX10_digest_137 rfl (lv_at hl 2 rfl) ?_
              refine lv_iadd hx hb dX10_digest_138 ?_
              obtain ⟨i_139, hw⟩ := hw
              refine x_iald (k := (30 + b3_120).toNatClampNeg) S G (me_20 km_1 lm_1) i_139 rfl rfl dX10_digest_139 ?_
              refine lv_i2l hx hb dX10_digest_140 rfl ?_
              refine lv_ladd hx hb dX10_digest_141 ?_
              refine lv_bipush (v := 34) hx hb dX10_digest_142 (by decide) ?_
              refine lv_bipush (v := 121) hx hb dX10_digest_144 (by decide) ?_
              refine lv_iload_n hx hb dX10_digest_146 rfl (lv_at hl 2 rfl) ?_
              refine lv_imul hx hb dX10_digest_147 ?_
              refine lv_iadd hx hb dX10_digest_148 ?_
              refine lv_iconst (v := 1) hx hb dX10_digest_149 (by decide) ?_
              refine lv_iadd hx hb dX10_digest_150 ?_
              refine lv_aload_n hx hb dX10_digest_151 rfl (lv_at hl 0 rfl) ?_
              refine lv_iload_n hx hb dX10_digest_152 rfl (lv_at hl 2 rfl) ?_
              refine x_ViP S hl.1 G (c_M_textLong l D q A ad b3_120 h _ hw) (cw_X10_136 S.2.2.2.2 ⟨Nat.le_trans (Nat.le_of_ble_eq_true rfl) hR1, Nat.le_trans (Nat.le_of_ble_eq_true rfl) hR2⟩) (me_11 km_0) rfl rfl rfl (Nat.le_of_ble_eq_true rfl) dX10_digest_153 (fun r_153 H locs G hw => ?_)
              refine x_VlP S hl.1 G (c_M_sums l D q A ad ((31 * b1_120) + ((gi h 1 ((30 + b3_120).toNatClampNeg)).toInt64)) ((34 + (121 * b3_120)) + 1) r_153 h _ hw) (cw_X10_337 S.2.2.2.2 ⟨Nat.le_trans (Nat.le_of_ble_eq_true rfl) hR1, Nat.le_trans (Nat.le_of_ble_eq_true rfl) hR2⟩) (me_11 km_0) rfl rfl rfl (Nat.le_of_ble_eq_true rfl) dX10_digest_156 (fun r_156 H locs G hw => ?_)
              refine lv_lstore_n (lv' := [(1, .long r_156), (0, .ref (ad 0)), (3, .int b3_120)]) hx hb dX10_digest_159 rfl hl (by decide) rfl (fun ls hl => ?_)
              obtain ⟨a3_160, ea3_160⟩ : ∃ y : Int32, y = b3_120 + 1 := ⟨_, rfl⟩
              have hw := hw a3_160 ea3_160
              refine lv_iinc (v := a3_160) (lv' := [(3, .int a3_160), (1, .long r_156), (0, .ref (ad 0))]) hx hb dX10_digest_160 hl (k := 2) rfl (by rw [ea3_160]; rfl) (by decide) rfl (fun ls hl => ?_)
              refine lv_goto (tgt := 120) hx hb dX10_digest_163 (by decide) ?_
              exact hw _ _ _ (lv_sub hl [2, 1, 0] rfl) G)
          exact hw _ _ _ (lv_sub hl [1, 2, 0] rfl) G
        · have hw := hw.2 c_77
          refine lv_ldc2 (v := 31) hx hb S.2.2.2.1 (S.2.2.2.2 _ kl_X10_333) dX10_digest_80 ?_
          refine lv_ldc2 (v := 31) hx hb S.2.2.2.1 (S.2.2.2.2 _ kl_X10_333) dX10_digest_83 ?_
          refine lv_lload_n hx hb dX10_digest_86 rfl (lv_at hl 1 rfl) ?_
          refine lv_lmul hx hb dX10_digest_87 ?_
          refine lv_aload_n hx hb dX10_digest_88 rfl (lv_at hl 0 rfl) ?_
          refine x_get (C := RX10) (T := TX10) (n := 21) S G inX10 (me_11 km_0) rfl 0 (by decide) kf_X10_7 rfl dX10_digest_89 ?_
          refine lv_bipush (v := 22) hx hb dX10_digest_92 (by decide) ?_
          refine lv_iload_n hx hb dX10_digest_94 rfl (lv_at hl 2 rfl) ?_
          refine lv_iadd hx hb dX10_digest_95 ?_
          obtain ⟨i_96, hw⟩ := hw
          refine x_iald (k := (22 + b3_75).toNatClampNeg) S G (me_20 km_1 lm_1) i_96 rfl rfl dX10_digest_96 ?_
          refine lv_i2l hx hb dX10_digest_97 rfl ?_
          refine lv_ladd hx hb dX10_digest_98 ?_
          refine lv_lmul hx hb dX10_digest_99 ?_
          refine lv_aload_n hx hb dX10_digest_100 rfl (lv_at hl 0 rfl) ?_
          refine x_get (C := RX10) (T := TX10) (n := 21) S G inX10 (me_11 km_0) rfl 0 (by decide) kf_X10_7 rfl dX10_digest_101 ?_
          refine lv_bipush (v := 26) hx hb dX10_digest_104 (by decide) ?_
          refine lv_iload_n hx hb dX10_digest_106 rfl (lv_at hl 2 rfl) ?_
          refine lv_iadd hx hb dX10_digest_107 ?_
          obtain ⟨i_108, hw⟩ := hw
          refine x_iald (k := (26 + b3_75).toNatClampNeg) S G (me_20 km_1 lm_1) i_108 rfl rfl dX10_digest_108 ?_
          refine lv_i2l hx hb dX10_digest_109 rfl ?_
          refine lv_ladd hx hb dX10_digest_110 ?_
          refine lv_topl (fun a1_111 ea1_111 => ?_)
          have hw := hw a1_111 ea1_111
          refine lv_lstore_n (lv' := [(1, .long a1_111), (0, .ref (ad 0)), (3, .int b3_75)]) hx hb dX10_digest_111 rfl hl (by decide) rfl (fun ls hl => ?_)
          obtain ⟨a3_112, ea3_112⟩ : ∃ y : Int32, y = b3_75 + 1 := ⟨_, rfl⟩
          have hw := hw a3_112 ea3_112
          refine lv_iinc (v := a3_112) (lv' := [(3, .int a3_112), (1, .long a1_111), (0, .ref (ad 0))]) hx hb dX10_digest_112 hl (k := 2) rfl (by rw [ea3_112]; rfl) (by decide) rfl (fun ls hl => ?_)
          refine lv_goto (tgt := 75) hx hb dX10_digest_115 (by decide) ?_
          exact hw _ _ _ (lv_sub hl [2, 1, 0] rfl) G)
      exact hw _ _ _ (lv_sub hl [2, 1, 0] rfl) G
    · have hw := hw.2 c_9
      refine lv_ldc2 (v := 31) hx hb S.2.2.2.1 (S.2.2.2.2 _ kl_X10_333) dX10_digest_12 ?_
      refine lv_lload_n hx hb dX10_digest_15 rfl (lv_at hl 1 rfl) ?_
      refine lv_lmul hx hb dX10_digest_16 ?_
      refine lv_aload_n hx hb dX10_digest_17 rfl (lv_at hl 0 rfl) ?_
      refine lv_iload_n hx hb dX10_digest_18 rfl (lv_at hl 2 rfl) ?_
      refine x_ViP S hl.1 G (c_M_counted l D q A ad b3_6 h _ hw) (cw_X10_330 S.2.2.2.2 ⟨Nat.le_trans (Nat.le_of_ble_eq_true rfl) hR1, Nat.le_trans (Nat.le_of_ble_eq_true rfl) hR2⟩) (me_11 km_0) rfl rfl rfl (Nat.le_of_ble_eq_true rfl) dX10_digest_19 (fun r_19 H locs G hw => ?_)
      refine lv_i2l hx hb dX10_digest_22 rfl ?_
      refine lv_ladd hx hb dX10_digest_23 ?_
      refine lv_topl (fun a1_24 ea1_24 => ?_)
      have hw := hw a1_24 ea1_24
      refine lv_lstore_n (lv' := [(1, .long a1_24), (0, .ref (ad 0)), (3, .int b3_6)]) hx hb dX10_digest_24 rfl hl (by decide) rfl (fun ls hl => ?_)
      obtain ⟨a3_25, ea3_25⟩ : ∃ y : Int32, y = b3_6 + 1 := ⟨_, rfl⟩
      have hw := hw a3_25 ea3_25
      refine lv_iinc (v := a3_25) (lv' := [(3, .int a3_25), (1, .long a1_24), (0, .ref (ad 0))]) hx hb dX10_digest_25 hl (k := 2) rfl (by rw [ea3_25]; rfl) (by decide) rfl (fun ls hl => ?_)
      refine lv_goto (tgt := 6) hx hb dX10_digest_28 (by decide) ?_
      exact hw _ _ _ (lv_sub hl [2, 1, 0] rfl) G)
  exact hw _ _ _ (lv_sub hl [2, 1, 0] rfl) G

