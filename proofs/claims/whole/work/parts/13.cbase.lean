/-! ===== making: the world of the first n cells, their references moving ===== -/
def rfC (b v : Nat) : Value := match v with
  | 0 => .null
  | j + 1 => .ref (b + j)
def opC (b v : Nat) : Option Nat := match v with
  | 0 => none
  | j + 1 => some (b + j)
theorem rf_opC (b v : Nat) : va_rf (opC b v) = rfC b v := by cases v <;> rfl
/-- rows from n on, k of them, are blank -/
def zr (h : Hs) (n k : Nat) : Hs := (fun a => if n ≤ a ∧ a < n + k then (fun _ => 0) else h.1 a, fun a => if n ≤ a ∧ a < n + k then (fun _ => 0) else h.2.1 a, fun a => if n ≤ a ∧ a < n + k then (fun _ => 0) else h.2.2 a)
theorem zr_in1 {h : Hs} {n k a : Nat} (h1 : n ≤ a) (h2 : a < n + k) : (zr h n k).1 a = fun _ => 0 := if_pos ⟨h1, h2⟩
theorem zr_in2 {h : Hs} {n k a : Nat} (h1 : n ≤ a) (h2 : a < n + k) : (zr h n k).2.1 a = fun _ => 0 := if_pos ⟨h1, h2⟩
theorem zr_in3 {h : Hs} {n k a : Nat} (h1 : n ≤ a) (h2 : a < n + k) : (zr h n k).2.2 a = fun _ => 0 := if_pos ⟨h1, h2⟩
theorem zr_out {h : Hs} {n k a : Nat} (h1 : ¬ (n ≤ a ∧ a < n + k)) : (zr h n k).1 a = h.1 a ∧ (zr h n k).2.1 a = h.2.1 a ∧ (zr h n k).2.2 a = h.2.2 a := ⟨if_neg h1, if_neg h1, if_neg h1⟩
theorem wG_grow {n : Nat} {ent : EntF} {ad : Nat → Nat} {h : Hs} (k : Nat) : wG (n + k) ent ad (zr h n k) = wG n ent ad h ++ (List.range k).map (fun i => (ad (n + i), ent (n + i) (fun _ => 0) (fun _ => 0) (fun _ => 0))) := by
  unfold wG
  rw [List.range_add, List.map_append, List.map_map]
  congr 1
  · apply List.map_congr_left
    intro o ho
    have ho := List.mem_range.mp ho
    obtain ⟨e1, e2, e3⟩ := zr_out (h := h) (n := n) (k := k) (a := o) (by omega)
    rw [e1, e2, e3]
  · apply List.map_congr_left
    intro i hi
    have hi := List.mem_range.mp hi
    show (ad (n + i), ent (n + i) ((zr h n k).1 (n + i)) ((zr h n k).2.1 (n + i)) ((zr h n k).2.2 (n + i))) = _
    rw [zr_in1 (by omega) (by omega), zr_in2 (by omega) (by omega), zr_in3 (by omega) (by omega)]
def aoA (U : State) : Prop := (Cond.arrayOver (.array .int)).before #[] U = true
theorem aoA_spec {U : State} (h : aoA U) : ∃ comp c k, U.vm.findClass (FieldType.array .int).toString = some comp ∧ (U.vm.classes.findIdx? fun (x : Class) => match x.kind with | .array component _ => component == comp | _ => false) = some c ∧ U.vm.classes[c]? = some k ∧ k.kind = .array comp (.array .int) ∧ U.vm.findClass ("[" ++ (FieldType.array .int).toString) = some c := by
  unfold aoA Cond.before at h
  simp only [Cond.holds, Cond.value, beq_iff_eq] at h
  cases hc : U.vm.findClass (FieldType.array .int).toString with
  | none => simp [hc] at h
  | some comp =>
    simp only [hc, Option.bind_some, Option.bind_eq_some_iff, Option.map_eq_some_iff] at h
    obtain ⟨c, hi, k, hk, hb⟩ := h
    obtain ⟨hlt, hp, -⟩ := Array.findIdx?_eq_some_iff_getElem.mp hi
    have hkk : U.vm.classes[c] = k := (Array.getElem?_eq_some_iff.mp hk).2
    rw [hkk] at hp
    cases hkind : k.kind with
    | array component ty =>
      rw [hkind] at hb hp
      simp at hb hp
      exact ⟨comp, c, k, rfl, hi, hk, by rw [hkind, hp, hb.1], hb.2⟩
    | _ => rw [hkind] at hb; simp at hb
theorem aoA_moved {u U : State} (hvm : u.vm.Alike U.vm) (h : aoA u) : aoA U := by
  obtain ⟨comp, c, k, h1, h2, h3, h4, h5⟩ := aoA_spec h
  obtain ⟨k', hk', he⟩ := hvm.2.2 _ _ h3
  have hi : (U.vm.classes.findIdx? fun (x : Class) => match x.kind with | .array component _ => component == comp | _ => false) = some c := by
    have e1 := va_idx_bare U.vm comp
    have e2 := va_idx_bare u.vm comp
    have h2' := e2.trans h2
    first | rw [hvm.bare_eq] at h2' | rw [← hvm.bare_eq] at h2'
    exact e1.symm.trans h2'
  have hkind : k'.kind = .array comp (.array .int) := by rw [he]; exact h4
  have f1 : U.vm.findClass (FieldType.array .int).toString = some comp := by rw [hvm.findClass]; exact h1
  have f2 : U.vm.findClass ("[" ++ (FieldType.array .int).toString) = some c := by rw [hvm.findClass]; exact h5
  unfold aoA Cond.before Cond.holds
  simp only [Cond.value]
  rw [f1, Option.bind_some]
  refine (congrArg (fun o : Option Nat => (o.bind (fun c => (U.vm.classes[c]?).map fun (k : Class) => match k.kind with | .array _ ty => decide (ty = FieldType.array .int) && decide (U.vm.findClass ("[" ++ (FieldType.array .int).toString) = some c) | _ => false) == some true)) hi).trans ?_
  simp [hk', hkind, f2]
def xwC (U : State) : Prop := (va_Nw (.methodLinkNest RX3 20 yX7_init "WordOnPost") U ∧ va_Nw (.methodLinkNest RX3 49 yX6_init "WordOnPost") U ∧ va_Nw (.methodLinkNest RX9 47 yX4_init "WordOnPost") U) ∧ va_AO RX0 U ∧ va_AO RX6 U ∧ va_AO RX5 U ∧ aoA U
theorem xwC.warm {s U : State} (hW : s.WarmedH U.vm) (h : xwC s) : xwC U :=
  ⟨⟨va_Nw.warmM hW h.1.1, va_Nw.warmM hW h.1.2.1, va_Nw.warmM hW h.1.2.2⟩, va_AO.moved hW.alike h.2.1, va_AO.moved hW.alike h.2.2.1, va_AO.moved hW.alike h.2.2.2.1, aoA_moved hW.alike h.2.2.2.2⟩
abbrev wB (b n : Nat) (ent : EntF) (h : Hs) : va_W := wG n ent (fun i => b + i) h
def pC (D : va_G) (q : Nat → ClassId) (A : Nat → Prop) (b n : Nat) (ent : EntF) (h : Hs) (U : State) : Prop := pW D q A (wB b n ent h) U ∧ U.heap.size = b + n ∧ xwC U ∧ ∀ a, b + n ≤ a → A a
def okC (D : va_G) (q : Nat → ClassId) (A : Nat → Prop) (s : State) (b n : Nat) (ent : EntF) (h : Hs) (H : Heap) (locs : List Loc) : Prop := okW D q A s (wB b n ent h) H locs ∧ H.size = b + n ∧ xwC s ∧ ∀ a, s.heap.size ≤ a → A a
theorem pC_blind {D : va_G} {q : Nat → ClassId} {A : Nat → Prop} {b n : Nat} {ent : EntF} {h : Hs} {av : List Value} : FrameBlind (va_Pc av (pC D q A b n ent h)) := fun a U g mk hp => by
  obtain ⟨h0, ⟨hK, hN, hP, hD⟩, hz, hx, hA⟩ := hp
  refine ⟨h0, ⟨va_K.moved (u := U) (U := U.calling g mk a) (Vm.Alike.refl U.vm) hK, va_Nw.same rfl (u := U) (U := U.calling g mk a) rfl hN, hP, hD⟩, hz, ?_, hA⟩
  exact ⟨⟨va_Nw.same rfl (u := U) (U := U.calling g mk a) rfl hx.1.1, va_Nw.same rfl (u := U) (U := U.calling g mk a) rfl hx.1.2.1, va_Nw.same rfl (u := U) (U := U.calling g mk a) rfl hx.1.2.2⟩, va_AO.moved (u := U) (U := U.calling g mk a) (Vm.Alike.refl U.vm) hx.2.1, va_AO.moved (u := U) (U := U.calling g mk a) (Vm.Alike.refl U.vm) hx.2.2.1, va_AO.moved (u := U) (U := U.calling g mk a) (Vm.Alike.refl U.vm) hx.2.2.2.1, aoA_moved (u := U) (U := U.calling g mk a) (Vm.Alike.refl U.vm) hx.2.2.2.2⟩
theorem okC.pre {D : va_G} {q : Nat → ClassId} {A : Nat → Prop} {s U : State} {b n : Nat} {ent : EntF} {h : Hs} {H : Heap} {locs : List Loc} (G : okC D q A s b n ent h H locs) (hU : U.heap = H) (hW : s.WarmedH U.vm) : pC D q A b n ent h U :=
  ⟨G.1.pre hU hW, by rw [hU]; exact G.2.1, xwC.warm hW G.2.2.1, fun a ha => G.2.2.2 a (by have := G.1.2.2.2.2.1; have := G.2.1; omega)⟩
theorem pC.ok {D : va_G} {q : Nat → ClassId} {A : Nat → Prop} {s t : State} {b n : Nat} {ent : EntF} {h : Hs} {H : Heap} {locs : List Loc} (hK : va_K D vwCl (tyQ q) s) (hN : nwD s) (hx : xwC s) (hA : ∀ a, s.heap.size ≤ a → A a) (hB : pC D q A b n ent h t) (ht : t.heap = H) (hS : va_S A s.heap H locs) : okC D q A s b n ent h H locs :=
  ⟨hB.1.ok hK hN ht hS, by rw [← ht]; exact hB.2.1, hx, hA⟩
theorem wB_grow1 {b n : Nat} {ent : EntF} {h : Hs} {e : va_E} (he : ent n (fun _ => 0) (fun _ => 0) (fun _ => 0) = e) : wB b (n + 1) ent (zr h n 1) = wB b n ent h ++ [(b + n, e)] := by
  rw [← he]
  exact wG_grow 1
section MakeRows
variable {p : Program} {l : Launch} {e : Env} {R : Room} {s : State} {m : MethodId} {args : Array Value} {below : List Frame} {meth : Method} {c : Code} {H : Heap} {locs : List Loc} {Q : State → Prop} {cc : ByteArray} {nL pc : Nat} {ls : Array Slot} {rest : List Value} {D : va_G} {q : Nat → ClassId} {A : Nat → Prop} {own : String} {b n d : Nat} {ent : EntF} {h : Hs}
theorem okC_push {e0 : va_E} {H1 : Heap} (G : okC D q A s b n ent h H locs) (he : ent n (fun _ => 0) (fun _ => 0) (fun _ => 0) = e0) (z1 : H1.size = b + n + 1) (o1 : ∀ x, x < b + n → H1[x]? = H[x]?) (ha : va_at D vwCl (b + n, e0) H1) : okC D q A s b (n + 1) ent (zr h n 1) H1 locs := by
  obtain ⟨⟨hK, hN0, hP, hD, hS⟩, hz, hx, hA⟩ := G
  have hk : ∀ (k : Nat) (x : Nat × va_E), (wB b n ent h)[k]? = some x → H1[x.1]? = H[x.1]? := fun k x hx => o1 x.1 (by rw [← hz]; exact (hP k x hx).lt)
  have hP1 : va_P D vwCl (wB b n ent h ++ [(b + n, e0)]) H1 := (hP.kept hk).app (fun k x hx => by
    have h0 : k < 1 := (List.getElem?_eq_some_iff.mp hx).1
    rw [show k = 0 by omega] at hx
    cases hx
    exact ha)
  have hD1 : va_D A (wB b n ent h ++ [(b + n, e0)]) := hD.push hP hz.symm (hA _ (by have := hS.1; omega))
  rw [← wB_grow1 he] at hP1 hD1
  exact ⟨⟨hK, hN0, hP1, hD1, by rw [z1]; have := hS.1; omega, fun x h1 h2 => (o1 x (by have := hS.1; omega)).trans (hS.2.1 x h1 h2), hS.2.2⟩, by omega, hx, hA⟩
theorem c_new (S : CallFix p m c cc nL s args gW own) (G : okC D q A s b n ent h H locs) {C : String} {T : u_T} {N ci index : Nat} (hin : ∀ w ∈ u_ws C T N, w ∈ gW) (ty : Nat → FieldType) (hty : ∀ k, k < N → parseFieldDescriptor (T k).2.2.1 = some (ty k)) (k1 : Cond.classLink own index C ∈ gW) (k2 : Cond.instantiable C N ∈ gW) (k3 : Cond.initialized C ∈ gW) (hc : vwCl[ci]? = some (C, T, N)) {fs : List Value} (he : ent n (fun _ => 0) (fun _ => 0) (fun _ => 0) = .inr (ci, fs)) (hfs : ∀ j, j < N → defaultValue (ty j) = vp_V fs j) (hr1 : d + 1 ≤ R.cells) (hr2 : 2000 * (d + 1) ≤ R.slots) (hN : N ≤ 2000) (hdg : decode cc pc = .ok (.new index, 3))
    (kk : ∀ H1 : Heap, okC D q A s b (n + 1) ent (zr h n 1) H1 locs → W p l e R s m args below meth c H1 locs (d + 1) (2000 * (d + 1)) Q (F0 m (pc + 3) ls (.ref (b + n) :: rest))) : W p l e R s m args below meth c H locs d (2000 * d) Q (F0 m pc ls rest) := by
  have hKn := G.1.1.1 ci _ hc
  refine W.newcK S.1 S.2.1 S.2.2.2.1 (S.2.2.2.2 _ k1) (S.2.2.2.2 _ k2) (S.2.2.2.2 _ k3) rfl hdg hr1 (by omega) hKn.2.1 G.2.1 fun H1 kC hkC e1 z1 o1 => ?_
  refine W.widen (k := d + 1) (n := 2000 * (d + 1)) (Nat.le_refl _) (by omega) (kk H1 (okC_push G he z1 o1 ?_))
  exact ⟨_, hc, (u_born ty S.2.2.2.2 hin hKn hkC e1 hty).to hfs⟩
theorem c_newa (S : CallFix p m c cc nL s args gW own) (G : okC D q A s b n ent h H locs) {atype : ArrayType} {ty : FieldType} (t0 t : Nat) (ht : (tyQ q)[t0]? = some (q t, ty)) (hra : va_RA s (q t) ty = (s.vm.findClass ("[" ++ ty.toString) = some (q t))) (harr : Cond.arrayClass ty ∈ gW) (hty : newarray.typeOf atype = ty) {k : Int32} {N : Nat} {a0 : (Nat → Int32) ⊕ (Nat → Int64) ⊕ (Nat → UInt32) ⊕ (Nat → UInt64) ⊕ (Nat → Option Nat)} (he : ent n (fun _ => 0) (fun _ => 0) (fun _ => 0) = .inl (q t, N, a0)) (ha : ∀ cA : ClassId, vp_cell cA (N, a0) = arrV cA N (fun _ => defaultValue ty)) (hn : ¬ k < 0) (hN : k.toNatClampNeg = N) (hb : N * componentBytes ty ≤ 536870912) (hr1 : d + 1 ≤ R.cells) (hr2 : 2000 * (d + 1) ≤ R.slots) (hN2 : N ≤ 2000) (hdg : decode cc pc = .ok (.newarray atype, 2))
    (kk : ∀ H1 : Heap, okC D q A s b (n + 1) ent (zr h n 1) H1 locs → W p l e R s m args below meth c H1 locs (d + 1) (2000 * (d + 1)) Q (F0 m (pc + 2) ls (.ref (b + n) :: rest))) : W p l e R s m args below meth c H locs d (2000 * d) Q (F0 m pc ls (.int k :: rest)) := by
  subst hty
  refine va_newaK S.1 S.2.1 (S.2.2.2.2 _ harr) rfl hdg rfl hn hN hb hr1 (by omega) G.2.1 fun H1 cA e1 z1 o1 hAr hNm => ?_
  have hq : cA = q t := by
    have h2 := (G.1.1.2 t0 _ ht).2
    rw [hra] at h2
    exact Option.some.inj (hNm.symm.trans h2)
  subst hq
  refine W.widen (k := d + 1) (n := 2000 * (d + 1)) (Nat.le_refl _) (by omega) (kk H1 (okC_push G he z1 o1 ?_))
  show H1[b + n]? = some (vp_cell _ _)
  rw [ha]
  exact e1
theorem c_anew (S : CallFix p m c cc nL s args gW own) (G : okC D q A s b n ent h H locs) {C : String} {index : Nat} (t0 t : Nat) (ht : (tyQ q)[t0]? = some (q t, .object C)) (hover : va_AO C s) (k1 : Cond.classLink own index C ∈ gW) {k : Int32} {N : Nat} {f : Nat → Option Nat} (he : ent n (fun _ => 0) (fun _ => 0) (fun _ => 0) = .inl (q t, N, .inr (.inr (.inr (.inr f))))) (hf : ∀ j, f j = none) (hn : ¬ k < 0) (hN : k.toNatClampNeg = N) (hr1 : d + 1 ≤ R.cells) (hr2 : 2000 * (d + 1) ≤ R.slots) (hN2 : N ≤ 2000) (hdg : decode cc pc = .ok (.anewarray index, 3))
    (kk : ∀ H1 : Heap, okC D q A s b (n + 1) ent (zr h n 1) H1 locs → W p l e R s m args below meth c H1 locs (d + 1) (2000 * (d + 1)) Q (F0 m (pc + 3) ls (.ref (b + n) :: rest))) : W p l e R s m args below meth c H locs d (2000 * d) Q (F0 m pc ls (.int k :: rest)) := by
  subst hN
  refine W.anew S.1 S.2.1 S.2.2.2.1 (S.2.2.2.2 _ k1) (va_AO.use hover) rfl hdg rfl hn (by omega) hr1 (by omega) fun cA kA comp f1 f2 f3 f4 => ?_
  have hq : cA = q t := by
    obtain ⟨kA', comp', g1, g2, g3, g4⟩ := (G.1.1.2 t0 _ ht).2
    exact Option.some.inj (f1.symm.trans g4)
  subst hq
  generalize hH1 : H.push ({ cls := q t, slots := Array.replicate k.toNatClampNeg .null, vm := .none } : Cell) = H1
  have z1 : H1.size = b + n + 1 := by rw [← hH1, Array.size_push, G.2.1]
  have e1 : H1[b + n]? = some (arrV (q t) k.toNatClampNeg (fun _ => .null)) := by rw [← hH1, ← G.2.1, Array.getElem?_push_size, ← arrV_new]
  have o1 : ∀ x : Nat, x < b + n → H1[x]? = H[x]? := fun x hx => by rw [← hH1, Array.getElem?_push, if_neg (by have := G.2.1; omega)]
  rw [G.2.1]
  refine W.widen (k := d + 1) (n := 2000 * (d + 1)) (Nat.le_refl _) (by omega) (kk H1 (okC_push G he z1 o1 ?_))
  show H1[b + n]? = some (vp_cell _ _)
  rw [e1, vp_cell_q]
  congr 2
  funext j
  rw [hf]
  rfl
theorem c_putF (S : CallFix p m c cc nL s args gW own) (G : okC D q A s b n ent h H locs) {C : String} {T : u_T} {N ci index a o cells slots : Nat} (hin : ∀ w ∈ u_ws C T N, w ∈ gW) (ty0 : Nat → FieldType) (hty : ∀ k, k < N → parseFieldDescriptor (T k).2.2.1 = some (ty0 k)) (hnm : ∀ a, a < N → ∀ b, b < N → a ≠ b → (T a).2.1 ≠ (T b).2.1) {fs : List Value} (he : (wB b n ent h)[o]? = some (a, .inr (ci, fs))) (hc : vwCl[ci]? = some (C, T, N)) (k : Nat) (hk : k < N) (hlink : Cond.fieldLink own index (T k).1 (T k).2.1 (T k).2.2.1 ∈ gW) (hfin : (T k).2.2.2 = true) (hin2 : meth.name = "<init>") (hdecl : (T k).1 = own) {v : Value} (hn : narrow (ty0 k) v = v) (hfit : fits (ty0 k) v = true) (hl : k < fs.length) {h' : Hs} (hset : (wB b n ent h).set o (a, .inr (ci, fs.set k v)) = wB b n ent h') (hdg : decode cc pc = .ok (.putfield index, 3))
    (kk : ∀ (H1 : Heap) (locs1 : List Loc), okC D q A s b n ent h' H1 locs1 → W p l e R s m args below meth c H1 locs1 cells slots Q (F0 m (pc + 3) ls rest)) : W p l e R s m args below meth c H locs cells slots Q (F0 m pc ls (v :: .ref a :: rest)) := by
  obtain ⟨⟨hK, hN0, hP, hD, hS0⟩, hz, hx, hA⟩ := G
  have hts := S.2.2.2.2
  have hap := va_apart (own := own) hts hin ty0 hty hnm hK hc
  obtain ⟨r, h1, cell, q1, q2, q3, q4⟩ := hP o _ he
  have hr : r = (C, T, N) := Option.some.inj (h1.symm.trans hc)
  subst hr
  obtain ⟨hSl, hfc, kC, hkC, hkind⟩ := hK.1 ci _ hc
  obtain ⟨cf, kf, fi, f, hi, hsl⟩ := hSl k hk
  have hlay := hts _ (hin _ (u_in_lay hk))
  unfold u_lay at hlay
  rw [if_pos hfin] at hlay
  have hst := (u_facts hfc hkC (u_lays hts hin hk) hi).1
  have hcf : m.cls = cf := by
    obtain ⟨_, _, c', _, _, _, -, -, hf', -, -, -, hown2, -⟩ := Cond.laysFinal_spec hlay
    have e1 : c' = cf := by have := hi.symm.trans hf'; simp at this; exact this.1.symm
    rw [hdecl] at hown2
    rw [← e1]; exact Option.some.inj (S.2.2.2.1.symm.trans hown2)
  have h6 := u_fits hfc hkC hkind (Or.inr hlay) hi (hty k hk) hn hfit
  refine W.putFinK S.1 S.2.1 S.2.2.2.1 (hts _ hlink) hi hst hcf hin2 (by rw [q2]; exact h6) q1 q3 (by rw [hsl]; exact k2_hasslot (q4 k hk)) rfl rfl hdg fun H' e1 e2 e3 => ?_
  rw [hsl] at e1 ⊢
  have hP1 := hP.set (e := .inr (ci, fs.set k v)) (H1 := H') hD he ⟨_, hc, t_OB.to (V := updV (vp_V fs) k v) ⟨_, e1, q2, q3, t_set q4 hap hk v⟩ (fun j _ => vp_updV_set hl v j)⟩ e3
  have hD1 : va_D A ((wB b n ent h).set o (a, .inr (ci, fs.set k v))) := hD.set he
  rw [hset] at hP1 hD1
  exact kk H' _ ⟨⟨hK, hN0, hP1, hD1, hS0.put e2 e3 (hD.2 o _ he)⟩, by rw [e2]; exact hz, hx, hA⟩
theorem c_put (S : CallFix p m c cc nL s args gW own) (G : okC D q A s b n ent h H locs) {C : String} {T : u_T} {N ci index a o cells slots : Nat} (hin : ∀ w ∈ u_ws C T N, w ∈ gW) (ty0 : Nat → FieldType) (hty : ∀ k, k < N → parseFieldDescriptor (T k).2.2.1 = some (ty0 k)) (hnm : ∀ a, a < N → ∀ b, b < N → a ≠ b → (T a).2.1 ≠ (T b).2.1) {fs : List Value} (he : (wB b n ent h)[o]? = some (a, .inr (ci, fs))) (hc : vwCl[ci]? = some (C, T, N)) (k : Nat) (hk : k < N) (hlink : Cond.fieldLink own index (T k).1 (T k).2.1 (T k).2.2.1 ∈ gW) (hfin : (T k).2.2.2 = false) {v : Value} (hn : narrow (ty0 k) v = v) (hfit : fits (ty0 k) v = true) (hl : k < fs.length) {h' : Hs} (hset : (wB b n ent h).set o (a, .inr (ci, fs.set k v)) = wB b n ent h') (hdg : decode cc pc = .ok (.putfield index, 3))
    (kk : ∀ (H1 : Heap) (locs1 : List Loc), okC D q A s b n ent h' H1 locs1 → W p l e R s m args below meth c H1 locs1 cells slots Q (F0 m (pc + 3) ls rest)) : W p l e R s m args below meth c H locs cells slots Q (F0 m pc ls (v :: .ref a :: rest)) := by
  obtain ⟨⟨hK, hN0, hP, hD, hS0⟩, hz, hx, hA⟩ := G
  have hts := S.2.2.2.2
  have hap := va_apart (own := own) hts hin ty0 hty hnm hK hc
  obtain ⟨r, h1, cell, q1, q2, q3, q4⟩ := hP o _ he
  have hr : r = (C, T, N) := Option.some.inj (h1.symm.trans hc)
  subst hr
  obtain ⟨hSl, hfc, kC, hkC, hkind⟩ := hK.1 ci _ hc
  obtain ⟨cf, kf, fi, f, hi, hsl⟩ := hSl k hk
  have hlay := hts _ (hin _ (u_in_lay hk))
  unfold u_lay at hlay
  rw [if_neg (by rw [hfin]; decide)] at hlay
  have hst := (u_facts hfc hkC (u_lays hts hin hk) hi).1
  have h6 := u_store hfc hkC hkind hlay hi (hty k hk) hn hfit
  refine W.putK S.1 S.2.1 (f := f) ⟨S.2.2.2.1, hts _ hlink, ⟨_, _, _, hi⟩, hst⟩ (by rw [q2]; exact h6) q1 q3 (by rw [hsl]; exact k2_hasslot (q4 k hk)) rfl rfl hdg fun H' e1 e2 e3 => ?_
  rw [hsl] at e1 ⊢
  have hP1 := hP.set (e := .inr (ci, fs.set k v)) (H1 := H') hD he ⟨_, hc, t_OB.to (V := updV (vp_V fs) k v) ⟨_, e1, q2, q3, t_set q4 hap hk v⟩ (fun j _ => vp_updV_set hl v j)⟩ e3
  have hD1 : va_D A ((wB b n ent h).set o (a, .inr (ci, fs.set k v))) := hD.set he
  rw [hset] at hP1 hD1
  exact kk H' _ ⟨⟨hK, hN0, hP1, hD1, hS0.put e2 e3 (hD.2 o _ he)⟩, by rw [e2]; exact hz, hx, hA⟩
theorem c_iast (S : CallFix p m c cc nL s args gW own) (G : okC D q A s b n ent h H locs) {a o N cells slots : Nat} {f : Nat → Int32} (he : (wB b n ent h)[o]? = some (a, .inl (q 20, N, .inl f))) {i x : Int32} {k : Nat} (hin : vp_in i N) (hk : i.toNatClampNeg = k) {h' : Hs} (hset : (wB b n ent h).set o (a, .inl (q 20, N, .inl (upd f k x))) = wB b n ent h') (hdg : decode cc pc = .ok (.iastore, 1))
    (kk : ∀ (H1 : Heap) (locs1 : List Loc), okC D q A s b n ent h' H1 locs1 → W p l e R s m args below meth c H1 locs1 cells slots Q (F0 m (pc + 1) ls rest)) : W p l e R s m args below meth c H locs cells slots Q (F0 m pc ls (.int x :: .int i :: .ref a :: rest)) := by
  subst hk
  obtain ⟨⟨hK, hN0, hP, hD, hS⟩, hz, hx, hA⟩ := G
  refine W.iast S.1 S.2.1 (hP o _ he) ((hK.2 0 _ rfl).1 N (fun j => .int (f j))) (fun q => by cases q) (by show ¬ (i < 0 ∨ (arrV _ _ _).slots.size ≤ _); rw [arrV_size]; exact hin) rfl rfl hdg fun H1 e1 z oq => ?_
  have ha : va_at D vwCl (a, .inl (q 20, N, .inl (upd f i.toNatClampNeg x))) H1 := by
    show H1[a]? = some (vp_cell _ _)
    rw [e1, vp_cell_i, vp_cell_i, arrV_store]
    congr 2
    funext j
    by_cases hj : j = i.toNatClampNeg
    · subst hj
      simp [updV, upd]
    · simp [updV, upd, hj]
  have hP1 := hP.set hD he ha oq
  have hD1 : va_D A ((wB b n ent h).set o (a, .inl (q 20, N, .inl (upd f i.toNatClampNeg x)))) := hD.set he
  rw [hset] at hP1 hD1
  exact kk H1 _ ⟨⟨hK, hN0, hP1, hD1, hS.put z oq (hD.2 o _ he)⟩, by rw [z]; exact hz, hx, hA⟩
theorem c_last (S : CallFix p m c cc nL s args gW own) (G : okC D q A s b n ent h H locs) {a o N cells slots : Nat} {f : Nat → Int64} (he : (wB b n ent h)[o]? = some (a, .inl (q 26, N, .inr (.inl f)))) {i : Int32} {x : Int64} {k : Nat} (hin : vp_in i N) (hk : i.toNatClampNeg = k) {h' : Hs} (hset : (wB b n ent h).set o (a, .inl (q 26, N, .inr (.inl (vp_updL f k x)))) = wB b n ent h') (hdg : decode cc pc = .ok (.lastore, 1))
    (kk : ∀ (H1 : Heap) (locs1 : List Loc), okC D q A s b n ent h' H1 locs1 → W p l e R s m args below meth c H1 locs1 cells slots Q (F0 m (pc + 1) ls rest)) : W p l e R s m args below meth c H locs cells slots Q (F0 m pc ls (.long x :: .int i :: .ref a :: rest)) := by
  subst hk
  obtain ⟨⟨hK, hN0, hP, hD, hS⟩, hz, hx, hA⟩ := G
  refine W.last S.1 S.2.1 (hP o _ he) ((hK.2 6 _ rfl).1 N (fun j => .long (f j))) (fun q => by cases q) (by show ¬ (i < 0 ∨ (arrV _ _ _).slots.size ≤ _); rw [arrV_size]; exact hin) rfl rfl hdg fun H1 e1 z oq => ?_
  have ha : va_at D vwCl (a, .inl (q 26, N, .inr (.inl (vp_updL f i.toNatClampNeg x)))) H1 := by
    show H1[a]? = some (vp_cell _ _)
    rw [e1, vp_cell_l, vp_cell_l, arrV_store]
    congr 2
    funext j
    by_cases hj : j = i.toNatClampNeg
    · subst hj
      simp [updV, vp_updL]
    · simp [updV, vp_updL, hj]
  have hP1 := hP.set hD he ha oq
  have hD1 : va_D A ((wB b n ent h).set o (a, .inl (q 26, N, .inr (.inl (vp_updL f i.toNatClampNeg x))))) := hD.set he
  rw [hset] at hP1 hD1
  exact kk H1 _ ⟨⟨hK, hN0, hP1, hD1, hS.put z oq (hD.2 o _ he)⟩, by rw [z]; exact hz, hx, hA⟩
theorem c_aast (S : CallFix p m c cc nL s args gW own) (G : okC D q A s b n ent h H locs) (t0 : Nat) {a o qk v ci N cells slots : Nat} {cA : ClassId} {r : vw_C} {vs : List Value} {f : Nat → Option Nat} (he : (wB b n ent h)[o]? = some (a, .inl (cA, N, .inr (.inr (.inr (.inr f)))))) (ht : (tyQ q)[t0]? = some (cA, .object r.1)) (hv : (wB b n ent h)[qk]? = some (v, .inr (ci, vs))) (hc : vwCl[ci]? = some r) {i : Int32} (hin : vp_in i N) {h' : Hs} (hset : (wB b n ent h).set o (a, .inl (cA, N, .inr (.inr (.inr (.inr (va_up f i.toNatClampNeg (some v))))))) = wB b n ent h') (hdg : decode cc pc = .ok (.aastore, 1))
    (kk : ∀ (H1 : Heap) (locs1 : List Loc), okC D q A s b n ent h' H1 locs1 → W p l e R s m args below meth c H1 locs1 cells slots Q (F0 m (pc + 1) ls rest)) : W p l e R s m args below meth c H locs cells slots Q (F0 m pc ls (.ref v :: .int i :: .ref a :: rest)) := by
  obtain ⟨⟨hK, hN0, hP, hD, hS⟩, hz, hx, hA⟩ := G
  have hlt : i.toNatClampNeg < N := Nat.not_le.mp fun q => hin (Or.inr q)
  have h0 : ¬ i < 0 := fun q => hin (Or.inl q)
  obtain ⟨r', hr', cellV, g1, g2, g3, -⟩ := hP qk _ hv
  have hcls := (hK.1 ci r hc).2
  obtain ⟨kA, comp, k1, k2, k3, -⟩ := (hK.2 t0 _ ht).2
  have hcomp : comp = D.1 ci := Option.some.inj (k3.symm.trans hcls.1)
  subst hcomp
  obtain ⟨kC, hkC, -⟩ := hcls.2
  refine W.aast S.1 S.2.1 (hP o _ he) (fun q h => by cases h) (fun h => by cases h) k1 k2 rfl hkC ⟨h0, by show _ < (arrV _ _ _).slots.size; rw [arrV_size]; exact hlt⟩ g1 (fun q h => by rw [g3] at h; cases h) (by rw [g2]; exact hkC) (by rw [g2]; exact va_assign hcls) rfl rfl hdg fun H1 e1 z oq => ?_
  have ha : va_at D vwCl (a, .inl (cA, N, .inr (.inr (.inr (.inr (va_up f i.toNatClampNeg (some v))))))) H1 := by
    show H1[a]? = some (vp_cell _ _)
    rw [e1]
    rw [vp_cell_q, vp_cell_q, arrV_store]
    congr 2
    funext j
    by_cases hj : j = i.toNatClampNeg
    · subst hj
      simp [updV, va_up, va_rf]
    · simp [updV, va_up, hj]
  have hP1 := hP.set hD he ha oq
  have hD1 : va_D A ((wB b n ent h).set o (a, .inl (cA, N, .inr (.inr (.inr (.inr (va_up f i.toNatClampNeg (some v)))))))) := hD.set he
  rw [hset] at hP1 hD1
  exact kk H1 _ ⟨⟨hK, hN0, hP1, hD1, hS.put z oq (hD.2 o _ he)⟩, by rw [z]; exact hz, hx, hA⟩
end MakeRows
