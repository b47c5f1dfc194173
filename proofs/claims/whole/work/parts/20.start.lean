/-! ===== the law from its entry ===== -/
def h00 : Hs := (fun _ _ => 0, fun _ _ => 0, fun _ _ => 0)
def cv (h : Hs) : Hs := (h.1, h.2.1, fun o k => h.2.2 o k - 1)
/-- the references that the making leaves are those of the running worlds -/
def CFX (h : Hs) : Prop := ∀ (q : Nat → ClassId) (b o : Nat), o < 504 → eC q b o (h.1 o) (h.2.1 o) (h.2.2 o) = eX q (fun i => b + i) o ((cv h).1 o) ((cv h).2.1 o) ((cv h).2.2 o)
def CFM (h : Hs) : Prop := ∀ (q : Nat → ClassId) (b o : Nat), o < 14 → eN q b o (h.1 o) (h.2.1 o) (h.2.2 o) = eM q (fun i => b + i) o ((cv h).1 o) ((cv h).2.1 o) ((cv h).2.2 o)
set_option maxRecDepth 20000 in
theorem CFX.world {h : Hs} (hc : CFX h) (q : Nat → ClassId) (b : Nat) : wB b 504 (eC q b) h = wX q (fun i => b + i) (cv h) := by
  unfold wB wG
  apply List.map_congr_left
  intro o ho
  rw [hc q b o (List.mem_range.mp ho)]
theorem CFM.world {h : Hs} (hc : CFM h) (q : Nat → ClassId) (b : Nat) : wB b 14 (eN q b) h = wM q (fun i => b + i) (cv h) := by
  unfold wB wG
  apply List.map_congr_left
  intro o ho
  rw [hc q b o (List.mem_range.mp ho)]
theorem va_D_at {A B : Nat → Prop} {n : Nat} {ent : EntF} {ad : Nat → Nat} {h : Hs} (hD : va_D A (wG n ent ad h)) (hB : ∀ i, i < n → B (ad i)) : va_D B (wG n ent ad h) := ⟨hD.1, fun k x hx => by
  obtain ⟨h1, h2⟩ := wG_adr hx
  rw [h2]
  exact hB k h1⟩
theorem c_newO {p : Program} {l : Launch} {e : Env} {R : Room} {s : State} {m : MethodId} {args : Array Value} {below : List Frame} {meth : Method} {c : Code} {H : Heap} {locs : List Loc} {Q : State → Prop} {cc : ByteArray} {nL pc : Nat} {ls : Array Slot} {rest : List Value} {D : va_G} {q : Nat → ClassId} {A : Nat → Prop} {own : String} {b n d : Nat} {ent : EntF} {h : Hs} (S : CallFix p m c cc nL s args gW own) (G : okC D q A s b n ent h H locs) {C : String} {T : u_T} {N ci index : Nat} (hin : ∀ w ∈ u_ws C T N, w ∈ gW) (ty : Nat → FieldType) (hty : ∀ k, k < N → parseFieldDescriptor (T k).2.2.1 = some (ty k)) (k1 : Cond.classLink own index C ∈ gW) (k2 : Cond.instantiable C N ∈ gW) (k3 : Cond.initialized C ∈ gW) (hc : vwCl[ci]? = some (C, T, N)) {fs : List Value} (he : ent n (fun _ => 0) (fun _ => 0) (fun _ => 0) = .inr (ci, fs)) (hfs : ∀ j, j < N → defaultValue (ty j) = vp_V fs j) (hr1 : d + 1 ≤ R.cells) (hr2 : 2000 * (d + 1) ≤ R.slots) (hN : N ≤ 2000) (hdg : decode cc pc = .ok (.new index, 3))
    (kk : ∀ H1 : Heap, (∀ x, x < b + n → H1[x]? = H[x]?) → okC D q A s b (n + 1) ent (zr h n 1) H1 locs → W p l e R s m args below meth c H1 locs (d + 1) (2000 * (d + 1)) Q (F0 m (pc + 3) ls (.ref (b + n) :: rest))) : W p l e R s m args below meth c H locs d (2000 * d) Q (F0 m pc ls rest) := by
  have hKn := G.1.1.1 ci _ hc
  refine W.newcK S.1 S.2.1 S.2.2.2.1 (S.2.2.2.2 _ k1) (S.2.2.2.2 _ k2) (S.2.2.2.2 _ k3) rfl hdg hr1 (by omega) hKn.2.1 G.2.1 fun H1 kC hkC e1 z1 o1 => ?_
  refine W.widen (k := d + 1) (n := 2000 * (d + 1)) (Nat.le_refl _) (by omega) (kk H1 o1 (okC_push G he z1 o1 ?_))
  exact ⟨_, hc, (u_born ty S.2.2.2.2 hin hKn hkC e1 hty).to hfs⟩
theorem cx_L_9 {R : Room} {s : State} {args : Array Value} (hts : ∀ w ∈ gW, w.before args s = true) (hR : rx_X_init.frames + 1 ≤ R.frames ∧ 8 + (2 + 11) + rx_X_init.locals ≤ R.locals) : CallB R s args RL 9 yX9_init cX9_init 2 none (mw yX9_init cX9_init 2 none) rx_X_init 503 (2000 * 503) 0 ∧ yX9_init.name = "<init>" ∧ (Cond.instanceMethod yX9_init).before args s = true := cxI9 hts km_L_9 ki_X9_init kn_X9 kk_X9_init rfl rfl rfl (by decide +kernel) hR
theorem cx_L_12 {R : Room} {s : State} {args : Array Value} (hts : ∀ w ∈ gW, w.before args s = true) (hR : rx_M_init.frames + 1 ≤ R.frames ∧ 8 + (2 + 11) + rx_M_init.locals ≤ R.locals) : CallB R s args RL 12 yX10_init cX10_init 2 none (mw yX10_init cX10_init 2 none) rx_M_init 13 (2000 * 13) 0 ∧ yX10_init.name = "<init>" ∧ (Cond.instanceMethod yX10_init).before args s = true := cxI9 hts km_L_12 ki_X10_init kn_X10 kk_X10_init rfl rfl rfl (by decide +kernel) hR
set_option maxHeartbeats 4000000 in
set_option maxRecDepth 100000 in
theorem whole_start_of (pg : ∀ (L : Nat) (xs : Nat → Int32), L ≤ 3072 → i_X_init (zr h00 0 1) (fun h => CFX h ∧ i_M_init (zr h00 0 1) (fun g => CFM g ∧ p_law L xs (cv h) (cv g)))) {p : Program} {e : Env} {s : State} {m : MethodId} {below : List Frame} {meth : Method} {c : Code} (l : Launch) {b L : Nat} {xs : Nat → Int32} (hL : L ≤ 3072) (C0 : lw_At p s m meth c b L xs) : W p l e room_1 s m #[Value.ref b] below meth c s.heap [] 0 0 (lw_Z below #[Value.ref b] s) (entryFrame m ([Value.ref b] : List Value).toArray 4) := by
  obtain ⟨hx, hb, hr, hml, hown, htsA, hX, hbl, hlocks, hgv⟩ := id C0
  have hts : ∀ w ∈ gW, w.before #[Value.ref b] s = true := fun w hw => htsA w (List.mem_filter.mp hw).1
  have S : CallFix p m c cL_law 4 s #[Value.ref b] gW RL := ⟨hx, hb, hml, hown, hts⟩
  obtain ⟨c0, i0, hK0⟩ := u_known (C := RX0) (T := TX0) (N := 2) (n := 2) hts inX0 (hts _ kj_X0)
  obtain ⟨c1, i1, hK1⟩ := u_known (C := RX1) (T := TX1) (N := 4) (n := 4) hts inX1 (hts _ kj_X1)
  obtain ⟨c2, i2, hK2⟩ := u_known (C := RX2) (T := TX2) (N := 5) (n := 5) hts inX2 (hts _ kj_X2)
  obtain ⟨c3, i3, hK3⟩ := u_known (C := RX3) (T := TX3) (N := 10) (n := 10) hts inX3 (hts _ kj_X3)
  obtain ⟨c4, i4, hK4⟩ := u_known (C := RX4) (T := TX4) (N := 2) (n := 2) hts inX4 (hts _ kj_X4)
  obtain ⟨c5, i5, hK5⟩ := u_known (C := RX5) (T := TX5) (N := 17) (n := 17) hts inX5 (hts _ kj_X5)
  obtain ⟨c6, i6, hK6⟩ := u_known (C := RX6) (T := TX6) (N := 8) (n := 8) hts inX6 (hts _ kj_X6)
  obtain ⟨c7, i7, hK7⟩ := u_known (C := RX7) (T := TX7) (N := 5) (n := 5) hts inX7 (hts _ kj_X7)
  obtain ⟨c8, i8, hK8⟩ := u_known (C := RX8) (T := TX8) (N := 12) (n := 12) hts inX8 (hts _ kj_X8)
  obtain ⟨c9, i9, hK9⟩ := u_known (C := RX9) (T := TX9) (N := 12) (n := 12) hts inX9 (hts _ kj_X9)
  obtain ⟨c10, i10, hK10⟩ := u_known (C := RX10) (T := TX10) (N := 21) (n := 21) hts inX10 (hts _ kj_X10)
  obtain ⟨dC, dI, hKc⟩ : ∃ (dC : Nat → ClassId) (dI : Nat → Nat → Nat), ∀ (k : Nat) (q : vw_C), vwCl[k]? = some q → u_Kn s q.1 q.2.1 q.2.2 (dC k) (dI k) := by
    refine ⟨fun k => match k with | 0 => c0 | 1 => c1 | 2 => c2 | 3 => c3 | 4 => c4 | 5 => c5 | 6 => c6 | 7 => c7 | 8 => c8 | 9 => c9 | _ => c10, fun k => match k with | 0 => i0 | 1 => i1 | 2 => i2 | 3 => i3 | 4 => i4 | 5 => i5 | 6 => i6 | 7 => i7 | 8 => i8 | 9 => i9 | _ => i10, ?_⟩
    intro k q hq
    match k, hq with
    | 0, hq => cases hq; exact hK0
    | 1, hq => cases hq; exact hK1
    | 2, hq => cases hq; exact hK2
    | 3, hq => cases hq; exact hK3
    | 4, hq => cases hq; exact hK4
    | 5, hq => cases hq; exact hK5
    | 6, hq => cases hq; exact hK6
    | 7, hq => cases hq; exact hK7
    | 8, hq => cases hq; exact hK8
    | 9, hq => cases hq; exact hK9
    | 10, hq => cases hq; exact hK10
    | k + 11, hq => simp [vwCl] at hq
  obtain ⟨aI, kI, mI, fI1, fI2, fI3⟩ := Cond.arrayClass_spec (hts _ ka_int)
  obtain ⟨aZ, kZ, mZ, fZ1, fZ2, fZ3⟩ := Cond.arrayClass_spec (hts _ ka_boolean)
  obtain ⟨aL, kL, mL, fL1, fL2, fL3⟩ := Cond.arrayClass_spec (hts _ ka_long)
  have w0 : va_AO RX0 s := va_AO.of (htsA _ (List.mem_of_getElem? (i := 342) (by decide +kernel)))
  have w6 : va_AO RX6 s := va_AO.of (htsA _ (List.mem_of_getElem? (i := 258) (by decide +kernel)))
  have w5 : va_AO RX5 s := va_AO.of (htsA _ (List.mem_of_getElem? (i := 418) (by decide +kernel)))
  have wI : aoA s := ((htsA _ (List.mem_of_getElem? (i := 140) (by decide +kernel))) : (Cond.arrayOver (.array .int)).before #[Value.ref b] s = true)
  obtain ⟨m0, a0, k0, g01, -, g02, g03, g04⟩ := Cond.arrayOver_spec w0
  obtain ⟨m6, a6, k6, g61, -, g62, g63, g64⟩ := Cond.arrayOver_spec w6
  obtain ⟨m5, a5, k5, g51, -, g52, g53, g54⟩ := Cond.arrayOver_spec w5
  obtain ⟨mA, aA, kA, gA1, -, gA2, gA3, gA4⟩ := aoA_spec wI
  obtain ⟨q, hq⟩ : ∃ q : Nat → ClassId, va_K (dC, dI) vwCl (tyQ q) s := by
    refine ⟨fun t => match t with | 20 => aI | 21 => aZ | 22 => aA | 23 => a0 | 24 => a6 | 25 => a5 | _ => aL, hKc, ?_⟩
    intro k x hx
    match k, hx with
    | 0, hx => cases hx; exact ⟨fun n z => ⟨fun k h => (by cases h), kI, fI2, mI, fI3⟩, fI1⟩
    | 1, hx => cases hx; exact ⟨fun n z => ⟨fun k h => (by cases h), kZ, fZ2, mZ, fZ3⟩, fZ1⟩
    | 2, hx => cases hx; exact ⟨fun n z => ⟨fun k h => (by cases h), kA, gA2, mA, gA3⟩, gA4⟩
    | 3, hx => cases hx; exact ⟨fun n z => ⟨fun k h => (by cases h), k0, g02, m0, g03⟩, k0, m0, g02, g03, g01, g04⟩
    | 4, hx => cases hx; exact ⟨fun n z => ⟨fun k h => (by cases h), k6, g62, m6, g63⟩, k6, m6, g62, g63, g61, g64⟩
    | 5, hx => cases hx; exact ⟨fun n z => ⟨fun k h => (by cases h), k5, g52, m5, g53⟩, k5, m5, g52, g53, g51, g54⟩
    | 6, hx => cases hx; exact ⟨fun n z => ⟨fun k h => (by cases h), kL, fL2, mL, fL3⟩, fL1⟩
    | k + 7, hx => simp [tyQ] at hx
  have hnw : nwD s := va_Nw.of rfl (htsA _ (List.mem_of_getElem? (i := 1040) (by decide +kernel)))
  have hxw : xwC s := ⟨⟨va_Nw.of rfl (htsA _ (List.mem_of_getElem? (i := 237) (by decide +kernel))), va_Nw.of rfl (htsA _ (List.mem_of_getElem? (i := 261) (by decide +kernel))), va_Nw.of rfl (htsA _ (List.mem_of_getElem? (i := 453) (by decide +kernel)))⟩, w0, w6, w5, wI⟩
  generalize hD0 : (dC, dI) = D at hq
  have hw := pg L xs hL
  have G : okC D q (fun a : Nat => s.heap.size ≤ a) s s.heap.size 0 (eC q s.heap.size) h00 s.heap [] := ⟨⟨hq, hnw, fun k x h => by simp [wB, wG] at h, ⟨fun i j x y h => by simp [wB, wG] at h, fun k x h => by simp [wB, wG] at h⟩, va_S.rf⟩, rfl, hxw, fun _ h => h⟩
  have hl := lv_entry ([.ref b]) (n := 4) (Nat.le_of_ble_eq_true rfl)
  rw [lg_entry_eq]
  generalize (lg_sl ([.ref b]) ++ List.replicate (4 - (lg_sl ([.ref b])).length) Slot.unset).toArray = ls at hl ⊢
  have hl : lv_has ls 4 [(0, .ref b)] := hl
  show W p l e room_1 s m #[Value.ref b] below meth c s.heap [] 0 (2000 * 0) (lw_Z below #[Value.ref b] s) (F0 m 0 ls [])
  refine c_new (C := RX9) (T := TX9) (N := 12) S G inX9 tyX9 tyX9_ok kq_L_7 kj_X9 kn_X9 rfl (cz_10 (by decide +kernel)) cf_10 (Nat.le_of_ble_eq_true rfl) (Nat.le_of_ble_eq_true rfl) (Nat.le_of_ble_eq_true rfl) dL_law_0 (fun H G => ?_)
  refine lv_dup hx hb dL_law_3 rfl ?_
  refine c_I (mc := 503) (n' := 504) S hl.1 G (k_X_init l D q _ _ _ _ hw) (cx_L_9 hts ⟨Nat.le_of_ble_eq_true rfl, Nat.le_of_ble_eq_true rfl⟩) rfl rfl (Nat.le_of_ble_eq_true rfl) dL_law_4 ⟨Nat.le_of_ble_eq_true rfl, Nat.le_of_ble_eq_true rfl⟩ (fun h H locs G hw => ?_)
  obtain ⟨hcx, hw⟩ := hw
  refine lv_astore_n (lv' := [(1, .ref (s.heap.size + 0)), (0, .ref b)]) hx hb dL_law_7 rfl hl (by decide) rfl (fun ls hl => ?_)
  have G2 : okC D q (fun a : Nat => s.heap.size ≤ a) s (s.heap.size + 504) 0 (eN q (s.heap.size + 504)) h00 H locs := ⟨⟨hq, hnw, fun k x h => by simp [wB, wG] at h, ⟨fun i j x y h => by simp [wB, wG] at h, fun k x h => by simp [wB, wG] at h⟩, G.1.2.2.2.2⟩, G.2.1, hxw, fun _ h => h⟩
  refine c_newO (C := RX10) (T := TX10) (N := 21) (d := 504) S G2 inX10 tyX10 tyX10_ok kq_L_10 kj_X10 kn_X10 rfl (nz_11 (by decide +kernel)) nf_11 (Nat.le_of_ble_eq_true rfl) (Nat.le_of_ble_eq_true rfl) (Nat.le_of_ble_eq_true rfl) dL_law_8 (fun H1 o1 G2 => ?_)
  have hPX : va_P D vwCl (wX q (fun i => s.heap.size + i) (cv h)) H1 := by
    rw [← hcx.world]
    refine G.1.2.2.1.kept (fun k x hx => o1 x.1 ?_)
    obtain ⟨h1, h2⟩ := wG_adr hx
    rw [h2]
    show s.heap.size + k < _
    omega
  have hDX : va_D (aX s.heap.size) (wX q (fun i => s.heap.size + i) (cv h)) := by
    have hD9 := G.1.2.2.2.1
    rw [hcx.world] at hD9
    exact va_D_at hD9 (fun i hi => ⟨Nat.le_add_right _ _, by show s.heap.size + i < _; omega⟩)
  refine lv_dup hx hb dL_law_11 rfl ?_
  have hrun := va_runI (rest := [.ref (s.heap.size + 504 + 0)]) (cells := 504 + 1) (slots := 2000 * (504 + 1)) (locs := locs) (l := l) (e := e) (R := room_1) (below := below) (meth := meth) S (k_M_init l D q (fun a : Nat => s.heap.size + 504 ≤ a) (s.heap.size + 504) _ _ hw) (cx_L_12 (R := room_1) hts ⟨Nat.le_of_ble_eq_true rfl, Nat.le_of_ble_eq_true rfl⟩) (H := H1) ⟨pC_blind, fun U hU hW => ⟨rfl, ?_⟩⟩ (g := F0 m 12 ls [.ref (s.heap.size + 504 + 0), .ref (s.heap.size + 504 + 0)]) rfl rfl hl.1 rfl (lv_room (Nat.le_of_ble_eq_true rfl)) dL_law_12 ⟨Nat.le_of_ble_eq_true rfl, Nat.le_of_ble_eq_true rfl⟩
  · refine va_callv hrun G2.1.2.2.2.2 (fun x _ h9 => Nat.le_trans (Nat.le_add_right _ _) h9) (fun x h9 => Nat.le_trans (Nat.le_add_right _ _) h9) (fun g t H2 locs2 ht hvm hw hB hz1 hk1 hS => ?_)
    obtain ⟨hcm, hw⟩ := hw
    have hB1 := hB.1
    have hB2 := hB.2.1
    have GL : okL D q s s.heap.size (cv h) (cv g) H2 locs2 := by
      refine ⟨⟨hq, hnw, Nat.le_refl _⟩, ⟨hPX.kept (fun k x hx => ?_), hDX⟩, ⟨?_, ?_⟩, ?_, hS⟩
      · obtain ⟨h1, h2⟩ := wG_adr hx
        rw [h2]
        have hz9 := G2.2.1
        exact hk1 _ (by show s.heap.size + k < _; omega) (fun h3 => by have h3 : s.heap.size + 504 ≤ s.heap.size + k := h3; omega)
      · have hP9 := hB1.2.2.1
        rw [hcm.world] at hP9
        rw [← ht]
        exact hP9
      · have hD9 := hB1.2.2.2
        rw [hcm.world] at hD9
        exact va_D_at hD9 (fun i hi => ⟨by show s.heap.size + 504 ≤ s.heap.size + 504 + i; omega, by show s.heap.size + 504 + i < _; omega⟩)
      · rw [ht] at hB2
        omega
    refine W.widen (k := 600) (n := 1200000) (Nat.le_of_ble_eq_true rfl) (Nat.le_of_ble_eq_true rfl) ?_
    refine lv_astore_n (lv' := [(2, .ref (s.heap.size + 504 + 0)), (1, .ref (s.heap.size + 0)), (0, .ref b)]) hx hb dL_law_15 rfl hl (by decide) rfl (fun ls hl => ?_)
    refine lv_iconst (v := 0) hx hb dL_law_16 (by decide) ?_
    refine lv_istore_n (lv' := [(3, .int 0), (2, .ref (s.heap.size + 504 + 0)), (1, .ref (s.heap.size + 0)), (0, .ref b)]) hx hb dL_law_17 rfl hl (by decide) rfl (fun ls hl => ?_)
    exact law_loop C0 S _ _ hw _ _ _ (lv_sub hl [3, 2, 1, 0] rfl) GL
  · obtain ⟨⟨g1, g2, g3, g4, g5⟩, g6, g7, g8⟩ := G2
    exact ⟨⟨va_K.moved hW.alike g1, va_Nw.warmM hW g2, by rw [hU]; exact g3, va_D_at g4 (fun i hi => Nat.le_add_right _ _)⟩, by rw [hU]; exact g6, xwC.warm hW g7, fun a ha => by show s.heap.size + 504 ≤ a; omega⟩
