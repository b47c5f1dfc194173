/-! ===== the running state: ints, longs, moving references, by cell and slot ===== -/
abbrev Hs : Type := (Nat → Nat → Int32) × (Nat → Nat → Int64) × (Nat → Nat → Nat)
def gi (h : Hs) (o k : Nat) : Int32 := h.1 o k
def gl (h : Hs) (o k : Nat) : Int64 := h.2.1 o k
def gr (h : Hs) (o k : Nat) : Nat := h.2.2 o k
def rowU {α : Type} (f : Nat → α) (o : Nat) (r : α) : Nat → α := fun a => if a = o then r else f a
def updN (f : Nat → Nat) (k x : Nat) : Nat → Nat := fun j => if j = k then x else f j
def sa (h : Hs) (o : Nat) (r : Nat → Int32) : Hs := (rowU h.1 o r, h.2.1, h.2.2)
def si (h : Hs) (o k : Nat) (v : Int32) : Hs := (rowU h.1 o (upd (h.1 o) k v), h.2.1, h.2.2)
def sl (h : Hs) (o k : Nat) (v : Int64) : Hs := (h.1, rowU h.2.1 o (vp_updL (h.2.1 o) k v), h.2.2)
def sr (h : Hs) (o k v : Nat) : Hs := (h.1, h.2.1, rowU h.2.2 o (updN (h.2.2 o) k v))
theorem rowU_s {α : Type} {f : Nat → α} {o : Nat} {r : α} : rowU f o r o = r := if_pos rfl
theorem rowU_n {α : Type} {f : Nat → α} {o a : Nat} {r : α} (h : a ≠ o) : rowU f o r a = f a := if_neg h
/-! a world: cells by number, an entry a row -/
abbrev EntF : Type := Nat → (Nat → Int32) → (Nat → Int64) → (Nat → Nat) → va_E
def wG (N : Nat) (ent : EntF) (ad : Nat → Nat) (h : Hs) : va_W := (List.range N).map (fun o => (ad o, ent o (h.1 o) (h.2.1 o) (h.2.2 o)))
theorem wG_get {N : Nat} {ent : EntF} {ad : Nat → Nat} {h : Hs} {o : Nat} {e : va_E} (ho : o < N) (he : ent o (h.1 o) (h.2.1 o) (h.2.2 o) = e) : (wG N ent ad h)[o]? = some (ad o, e) := by
  unfold wG
  rw [List.getElem?_map, List.getElem?_range ho]
  subst he
  rfl
theorem wG_set {N : Nat} {ent : EntF} {ad : Nat → Nat} {h h' : Hs} {o : Nat} {e : va_E} (he : ent o (h'.1 o) (h'.2.1 o) (h'.2.2 o) = e) (h1 : ∀ a, a ≠ o → h'.1 a = h.1 a) (h2 : ∀ a, a ≠ o → h'.2.1 a = h.2.1 a) (h3 : ∀ a, a ≠ o → h'.2.2 a = h.2.2 a) : (wG N ent ad h).set o (ad o, e) = wG N ent ad h' := by
  apply List.ext_getElem?
  intro k
  unfold wG
  rw [List.getElem?_set]
  by_cases hk : o = k
  · subst hk
    rw [if_pos rfl]
    by_cases ho : o < N
    · rw [if_pos (by simpa using ho), List.getElem?_map, List.getElem?_range ho]
      subst he
      rfl
    · rw [if_neg (by simpa using ho), List.getElem?_eq_none (by simp; omega)]
  · rw [if_neg hk, List.getElem?_map, List.getElem?_map]
    by_cases hN : k < N
    · rw [List.getElem?_range hN]
      simp only [Option.map_some]
      rw [h1 k (Ne.symm hk), h2 k (Ne.symm hk), h3 k (Ne.symm hk)]
    · rw [List.getElem?_eq_none (by simp; omega)]
      rfl
theorem wG_si {N : Nat} {ent : EntF} {ad : Nat → Nat} {h : Hs} {o k : Nat} {v : Int32} {e : va_E} (he : ent o (upd (h.1 o) k v) (h.2.1 o) (h.2.2 o) = e) : (wG N ent ad h).set o (ad o, e) = wG N ent ad (si h o k v) :=
  wG_set (by show ent o (rowU h.1 o (upd (h.1 o) k v) o) (h.2.1 o) (h.2.2 o) = e; rw [rowU_s]; exact he) (fun _ ha => rowU_n ha) (fun _ _ => rfl) (fun _ _ => rfl)
theorem wG_sa {N : Nat} {ent : EntF} {ad : Nat → Nat} {h : Hs} {o : Nat} {r : Nat → Int32} {e : va_E} (he : ent o r (h.2.1 o) (h.2.2 o) = e) : (wG N ent ad h).set o (ad o, e) = wG N ent ad (sa h o r) :=
  wG_set (by show ent o (rowU h.1 o r o) (h.2.1 o) (h.2.2 o) = e; rw [rowU_s]; exact he) (fun _ ha => rowU_n ha) (fun _ _ => rfl) (fun _ _ => rfl)
theorem wG_sl {N : Nat} {ent : EntF} {ad : Nat → Nat} {h : Hs} {o k : Nat} {v : Int64} {e : va_E} (he : ent o (h.1 o) (vp_updL (h.2.1 o) k v) (h.2.2 o) = e) : (wG N ent ad h).set o (ad o, e) = wG N ent ad (sl h o k v) :=
  wG_set (by show ent o (h.1 o) (rowU h.2.1 o (vp_updL (h.2.1 o) k v) o) (h.2.2 o) = e; rw [rowU_s]; exact he) (fun _ _ => rfl) (fun _ ha => rowU_n ha) (fun _ _ => rfl)
theorem wG_sr {N : Nat} {ent : EntF} {ad : Nat → Nat} {h : Hs} {o k v : Nat} {e : va_E} (he : ent o (h.1 o) (h.2.1 o) (updN (h.2.2 o) k v) = e) : (wG N ent ad h).set o (ad o, e) = wG N ent ad (sr h o k v) :=
  wG_set (by show ent o (h.1 o) (h.2.1 o) (rowU h.2.2 o (updN (h.2.2 o) k v) o) = e; rw [rowU_s]; exact he) (fun _ _ => rfl) (fun _ _ => rfl) (fun _ ha => rowU_n ha)
/-! ===== the machine beside a world ===== -/
def tyQ (q : Nat → ClassId) : List (ClassId × FieldType) := [(q 20, .int), (q 21, .boolean), (q 22, .array .int), (q 23, .object RX0), (q 24, .object RX6), (q 25, .object RX5), (q 26, .long)]
def nwD (U : State) : Prop := va_Nw (.methodLinkNest RX5 98 yX9_digestRow "WordOnPost") U
def pW (D : va_G) (q : Nat → ClassId) (A : Nat → Prop) (ws : va_W) (U : State) : Prop := va_K D vwCl (tyQ q) U ∧ nwD U ∧ va_P D vwCl ws U.heap ∧ va_D A ws
def okW (D : va_G) (q : Nat → ClassId) (A : Nat → Prop) (s : State) (ws : va_W) (H : Heap) (locs : List Loc) : Prop := va_K D vwCl (tyQ q) s ∧ nwD s ∧ va_P D vwCl ws H ∧ va_D A ws ∧ va_S A s.heap H locs
abbrev mw (y : MethodName) (cc : ByteArray) (n : Nat) (r : Option FieldType) : List Cond := Cond.code y cc n r :: gW
def zb (v : Int32) : Prop := v = 0 ∨ v = 1
theorem zb0 : zb 0 := Or.inl rfl
theorem zb1 : zb 1 := Or.inr rfl
theorem zb_n {v : Int32} (h : zb v) : narrow .boolean (.int v) = .int v := by rcases h with rfl | rfl <;> rfl
theorem zb_f {v : Int32} (h : zb v) : fits .boolean (.int v) = true := by rcases h with rfl | rfl <;> rfl
theorem pW_blind {D : va_G} {q : Nat → ClassId} {A : Nat → Prop} {ws : va_W} {av : List Value} : FrameBlind (va_Pc av (pW D q A ws)) := fun a U g mk h => by
  obtain ⟨h0, hK, hN, hP, hD⟩ := h
  exact ⟨h0, va_K.moved (u := U) (U := U.calling g mk a) (Vm.Alike.refl U.vm) hK, va_Nw.same rfl (u := U) (U := U.calling g mk a) rfl hN, hP, hD⟩
theorem okW.pre {D : va_G} {q : Nat → ClassId} {A : Nat → Prop} {s U : State} {ws : va_W} {H : Heap} {locs : List Loc} (G : okW D q A s ws H locs) (hU : U.heap = H) (hW : s.WarmedH U.vm) : pW D q A ws U :=
  ⟨va_K.moved hW.alike G.1, va_Nw.warmM hW G.2.1, by rw [hU]; exact G.2.2.1, G.2.2.2.1⟩
theorem pW.ok {D : va_G} {q : Nat → ClassId} {A : Nat → Prop} {s t : State} {ws : va_W} {H : Heap} {locs : List Loc} (hK : va_K D vwCl (tyQ q) s) (hN : nwD s) (hB : pW D q A ws t) (ht : t.heap = H) (hS : va_S A s.heap H locs) : okW D q A s ws H locs :=
  ⟨hK, hN, by rw [← ht]; exact hB.2.2.1, hB.2.2.2, hS⟩
section BaseRows
variable {p : Program} {l : Launch} {e : Env} {R : Room} {s : State} {m : MethodId} {args : Array Value} {below : List Frame} {meth : Method} {c : Code} {H : Heap} {locs : List Loc} {Q : State → Prop} {cc : ByteArray} {nL pc : Nat} {ls : Array Slot} {rest : List Value} {D : va_G} {q : Nat → ClassId} {A : Nat → Prop} {own : String} {ad : Nat → Nat} {N : Nat} {ent : EntF} {h : Hs} {cells slots : Nat}
theorem x_get (S : CallFix p m c cc nL s args gW own) (G : okW D q A s (wG N ent ad h) H locs) {C : String} {T : u_T} {n ci index a o : Nat} (hin : ∀ w ∈ u_ws C T n, w ∈ gW) {fs : List Value} (he : (wG N ent ad h)[o]? = some (a, .inr (ci, fs))) (hc : vwCl[ci]? = some (C, T, n)) (k : Nat) (hk : k < n) (hlink : Cond.fieldLink own index (T k).1 (T k).2.1 (T k).2.2.1 ∈ gW) {v : Value} (hv : fs[k]? = some v) (hdg : decode cc pc = .ok (.getfield index, 3))
    (kk : W p l e R s m args below meth c H locs cells slots Q (F0 m (pc + 3) ls (v :: rest))) : W p l e R s m args below meth c H locs cells slots Q (F0 m pc ls (.ref a :: rest)) :=
  va_get S.1 S.2.1 S.2.2.2.2 hin S.2.2.2.1 G.1 G.2.2.1 o he hc k hk (S.2.2.2.2 _ hlink) (fun _ h9 => h9) hv hdg kk
theorem x_put (S : CallFix p m c cc nL s args gW own) (G : okW D q A s (wG N ent ad h) H locs) {C : String} {T : u_T} {n ci index a o : Nat} (hin : ∀ w ∈ u_ws C T n, w ∈ gW) (ty0 : Nat → FieldType) (hty : ∀ k, k < n → parseFieldDescriptor (T k).2.2.1 = some (ty0 k)) (hnm : ∀ a, a < n → ∀ b, b < n → a ≠ b → (T a).2.1 ≠ (T b).2.1) {fs : List Value} (he : (wG N ent ad h)[o]? = some (a, .inr (ci, fs))) (hc : vwCl[ci]? = some (C, T, n)) (k : Nat) (hk : k < n) (hlink : Cond.fieldLink own index (T k).1 (T k).2.1 (T k).2.2.1 ∈ gW) (hfin : (T k).2.2.2 = false) {v : Value} (hn : narrow (ty0 k) v = v) (hfit : fits (ty0 k) v = true) (hl : k < fs.length) {h' : Hs} (hset : (wG N ent ad h).set o (a, .inr (ci, fs.set k v)) = wG N ent ad h') (hdg : decode cc pc = .ok (.putfield index, 3))
    (kk : ∀ (H1 : Heap) (locs1 : List Loc), okW D q A s (wG N ent ad h') H1 locs1 → W p l e R s m args below meth c H1 locs1 cells slots Q (F0 m (pc + 3) ls rest)) : W p l e R s m args below meth c H locs cells slots Q (F0 m pc ls (v :: .ref a :: rest)) :=
  va_put S.1 S.2.1 S.2.2.2.2 hin ty0 hty hnm S.2.2.2.1 G.1 G.2.2.1 G.2.2.2.1 G.2.2.2.2 o he hc k hk (S.2.2.2.2 _ hlink) (fun _ h9 => h9) hfin (hty k hk) hn hfit hl hdg (fun H1 locs1 hP hD hS => kk H1 locs1 ⟨G.1, G.2.1, by rw [← hset]; exact hP, by rw [← hset]; exact hD, hS⟩)
theorem x_iald (S : CallFix p m c cc nL s args gW own) (G : okW D q A s (wG N ent ad h) H locs) {a o n : Nat} {f : Nat → Int32} (he : (wG N ent ad h)[o]? = some (a, .inl (q 20, n, .inl f))) {i : Int32} {k : Nat} {v : Int32} (hin : vp_in i n) (hk : i.toNatClampNeg = k) (hv : f k = v) (hdg : decode cc pc = .ok (.iaload, 1))
    (kk : W p l e R s m args below meth c H locs cells slots Q (F0 m (pc + 1) ls (.int v :: rest))) : W p l e R s m args below meth c H locs cells slots Q (F0 m pc ls (.int i :: .ref a :: rest)) := by
  subst hk; subst hv
  exact va_iald S.1 S.2.1 G.1 G.2.2.1 o 0 he rfl hin hdg kk
theorem x_zald (S : CallFix p m c cc nL s args gW own) (G : okW D q A s (wG N ent ad h) H locs) {a o n : Nat} {f : Nat → Int32} (he : (wG N ent ad h)[o]? = some (a, .inl (q 21, n, .inl f))) {i : Int32} {k : Nat} {v : Int32} (hin : vp_in i n) (hk : i.toNatClampNeg = k) (hv : f k = v) (hdg : decode cc pc = .ok (.baload, 1))
    (kk : W p l e R s m args below meth c H locs cells slots Q (F0 m (pc + 1) ls (.int v :: rest))) : W p l e R s m args below meth c H locs cells slots Q (F0 m pc ls (.int i :: .ref a :: rest)) := by
  subst hk; subst hv
  exact va_zald S.1 S.2.1 G.1 G.2.2.1 o 1 he rfl hin hdg kk
theorem x_lald (S : CallFix p m c cc nL s args gW own) (G : okW D q A s (wG N ent ad h) H locs) {a o n : Nat} {f : Nat → Int64} (he : (wG N ent ad h)[o]? = some (a, .inl (q 26, n, .inr (.inl f)))) {i : Int32} {k : Nat} {v : Int64} (hin : vp_in i n) (hk : i.toNatClampNeg = k) (hv : f k = v) (hdg : decode cc pc = .ok (.laload, 1))
    (kk : W p l e R s m args below meth c H locs cells slots Q (F0 m (pc + 1) ls (.long v :: rest))) : W p l e R s m args below meth c H locs cells slots Q (F0 m pc ls (.int i :: .ref a :: rest)) := by
  subst hk; subst hv
  exact va_lald S.1 S.2.1 G.1 G.2.2.1 o 6 he rfl hin hdg kk
theorem x_iast (S : CallFix p m c cc nL s args gW own) (G : okW D q A s (wG N ent ad h) H locs) {a o n : Nat} {f : Nat → Int32} (he : (wG N ent ad h)[o]? = some (a, .inl (q 20, n, .inl f))) {i x : Int32} {k : Nat} (hin : vp_in i n) (hk : i.toNatClampNeg = k) {h' : Hs} (hset : (wG N ent ad h).set o (a, .inl (q 20, n, .inl (upd f k x))) = wG N ent ad h') (hdg : decode cc pc = .ok (.iastore, 1))
    (kk : ∀ (H1 : Heap) (locs1 : List Loc), okW D q A s (wG N ent ad h') H1 locs1 → W p l e R s m args below meth c H1 locs1 cells slots Q (F0 m (pc + 1) ls rest)) : W p l e R s m args below meth c H locs cells slots Q (F0 m pc ls (.int x :: .int i :: .ref a :: rest)) := by
  subst hk
  exact va_iast S.1 S.2.1 G.1 G.2.2.1 G.2.2.2.1 G.2.2.2.2 o 0 he rfl hin hdg (fun H1 locs1 hP hD hS => kk H1 locs1 ⟨G.1, G.2.1, by rw [← hset]; exact hP, by rw [← hset]; exact hD, hS⟩)
theorem x_zast (S : CallFix p m c cc nL s args gW own) (G : okW D q A s (wG N ent ad h) H locs) {a o n : Nat} {f : Nat → Int32} (he : (wG N ent ad h)[o]? = some (a, .inl (q 21, n, .inl f))) {i x : Int32} {k : Nat} (hin : vp_in i n) (hk : i.toNatClampNeg = k) {h' : Hs} (hset : (wG N ent ad h).set o (a, .inl (q 21, n, .inl (upd f k (vp_nar .boolean x)))) = wG N ent ad h') (hdg : decode cc pc = .ok (.bastore, 1))
    (kk : ∀ (H1 : Heap) (locs1 : List Loc), okW D q A s (wG N ent ad h') H1 locs1 → W p l e R s m args below meth c H1 locs1 cells slots Q (F0 m (pc + 1) ls rest)) : W p l e R s m args below meth c H locs cells slots Q (F0 m pc ls (.int x :: .int i :: .ref a :: rest)) := by
  subst hk
  exact va_zast S.1 S.2.1 G.1 G.2.2.1 G.2.2.2.1 G.2.2.2.2 o 1 he rfl hin hdg (fun H1 locs1 hP hD hS => kk H1 locs1 ⟨G.1, G.2.1, by rw [← hset]; exact hP, by rw [← hset]; exact hD, hS⟩)
theorem x_last (S : CallFix p m c cc nL s args gW own) (G : okW D q A s (wG N ent ad h) H locs) {a o n : Nat} {f : Nat → Int64} (he : (wG N ent ad h)[o]? = some (a, .inl (q 26, n, .inr (.inl f)))) {i : Int32} {x : Int64} {k : Nat} (hin : vp_in i n) (hk : i.toNatClampNeg = k) {h' : Hs} (hset : (wG N ent ad h).set o (a, .inl (q 26, n, .inr (.inl (vp_updL f k x)))) = wG N ent ad h') (hdg : decode cc pc = .ok (.lastore, 1))
    (kk : ∀ (H1 : Heap) (locs1 : List Loc), okW D q A s (wG N ent ad h') H1 locs1 → W p l e R s m args below meth c H1 locs1 cells slots Q (F0 m (pc + 1) ls rest)) : W p l e R s m args below meth c H locs cells slots Q (F0 m pc ls (.long x :: .int i :: .ref a :: rest)) := by
  subst hk
  exact va_last S.1 S.2.1 G.1 G.2.2.1 G.2.2.2.1 G.2.2.2.2 o 6 he rfl hin hdg (fun H1 locs1 hP hD hS => kk H1 locs1 ⟨G.1, G.2.1, by rw [← hset]; exact hP, by rw [← hset]; exact hD, hS⟩)
theorem x_aald (S : CallFix p m c cc nL s args gW own) (G : okW D q A s (wG N ent ad h) H locs) (t0 : Nat) {a o n : Nat} {cA : ClassId} {ty : FieldType} {f : Nat → Option Nat} (he : (wG N ent ad h)[o]? = some (a, .inl (cA, n, .inr (.inr (.inr (.inr f)))))) (ht : (tyQ q)[t0]? = some (cA, ty)) (hty : ty.isReference = true) {i : Int32} {k : Nat} {v : Nat} (hin : vp_in i n) (hk : i.toNatClampNeg = k) (hv : f k = some v) (hdg : decode cc pc = .ok (.aaload, 1))
    (kk : W p l e R s m args below meth c H locs cells slots Q (F0 m (pc + 1) ls (.ref v :: rest))) : W p l e R s m args below meth c H locs cells slots Q (F0 m pc ls (.int i :: .ref a :: rest)) := by
  subst hk
  have hlt : i.toNatClampNeg < n := Nat.not_le.mp fun q => hin (Or.inr q)
  exact W.aald (v := .ref v) (ty := ty) S.1 S.2.1 (G.2.2.1 o _ he) ((G.1.2 t0 _ ht).1 n (fun j => va_rf (f j))) hty (fun q => by cases q) (by show ¬ (i < 0 ∨ (arrV _ _ _).slots.size ≤ _); rw [arrV_size]; exact hin) (by show (arrV _ _ _).slots[_]? = _; rw [arrV_read _ _ hlt, hv]; rfl) rfl rfl hdg kk
theorem x_alen (S : CallFix p m c cc nL s args gW own) (G : okW D q A s (wG N ent ad h) H locs) (t0 : Nat) {a o : Nat} {cA : ClassId} {x : vp_A} {ty : FieldType} (he : (wG N ent ad h)[o]? = some (a, .inl (cA, x))) (ht : (tyQ q)[t0]? = some (cA, ty)) {v : Int32} (hv : Int32.ofNat x.1 = v) (hdg : decode cc pc = .ok (.arraylength, 1))
    (kk : W p l e R s m args below meth c H locs cells slots Q (F0 m (pc + 1) ls (.int v :: rest))) : W p l e R s m args below meth c H locs cells slots Q (F0 m pc ls (.ref a :: rest)) :=
  va_alen S.1 S.2.1 G.1 G.2.2.1 o t0 he ht hv hdg kk
theorem x_copy (S : CallFix p m c cc nL s args gW own) (hsz : ls.size = nL) (G : okW D q A s (wG N ent ad h) H locs) {index : Nat} (hlink : Cond.methodLink own index arraycopyName ∈ gW) (hnat : Cond.native arraycopyName ∈ gW) (hstat : Cond.static arraycopyName ∈ gW) (hini : Cond.initialized "java/lang/System" ∈ gW) {a a0 o o0 n0 n1 : Nat} {f g : Nat → Int32} (he0 : (wG N ent ad h)[o0]? = some (a0, .inl (q 20, n0, .inl f))) (he : (wG N ent ad h)[o]? = some (a, .inl (q 20, n1, .inl g))) {sp dp n : Int32} (h1 : ¬ sp < 0) (h2 : ¬ dp < 0) (h3 : ¬ n < 0) (h4 : sp.toNatClampNeg + n.toNatClampNeg ≤ n0) (h5 : dp.toNatClampNeg + n.toNatClampNeg ≤ n1) {h' : Hs} (hset : (wG N ent ad h).set o (a, .inl (q 20, n1, .inl (va_cpy f g sp.toNatClampNeg dp.toNatClampNeg n.toNatClampNeg))) = wG N ent ad h')
    (hframes : 1 ≤ R.frames) (hlocals : (rest.map fun v => v.category).sum + (nativeFrameWords "java/lang/System" "arraycopy" 5 + 11) ≤ R.locals) (hdg : decode cc pc = .ok (.invokestatic index, 3))
    (kk : ∀ (H1 : Heap) (locs1 : List Loc), okW D q A s (wG N ent ad h') H1 locs1 → W p l e R s m args below meth c H1 locs1 cells slots Q (F0 m (pc + 3) ls rest)) : W p l e R s m args below meth c H locs cells slots Q (F0 m pc ls (.int n :: .int dp :: .ref a :: .int sp :: .ref a0 :: rest)) :=
  va_copyi S.1 S.2.1 (by rw [hsz]; exact S.2.2.1) S.2.2.2.1 (S.2.2.2.2 _ hlink) (S.2.2.2.2 _ hnat) (S.2.2.2.2 _ hstat) (S.2.2.2.2 _ hini) G.1 G.2.2.1 G.2.2.2.1 G.2.2.2.2 o0 o 0 0 he0 he rfl rfl rfl h1 h2 h3 h4 h5 (fun _ _ => rfl) hframes hlocals hdg (fun H1 locs1 hP hD hS => kk H1 locs1 ⟨G.1, G.2.1, by rw [← hset]; exact hP, by rw [← hset]; exact hD, hS⟩)
/-! calls -/
variable {y : MethodName} {bytes : ByteArray} {maxL index n : Nat} {ret : Option FieldType} {rm : Room} {As st0 : List Value} {b : Nat} {C : String}
theorem cwV9 (hts : ∀ w ∈ gW, w.before args s = true) (k1 : Cond.methodLink own index y ∈ gW) (k2 : Cond.instanceMethod y ∈ gW) (k3 : Cond.selects C y y ∈ gW) (k4 : Cond.initialized C ∈ gW) (k5 : Cond.code y bytes maxL ret ∈ gW) (hrc : rm.cells = 0) (hrs : rm.slots = 0)
    (hd : y.cls = C ∧ y.cls ≠ "java/lang/invoke/MethodHandle" ∧ y.cls ≠ "java/lang/invoke/VarHandle" ∧ (parseMethodDescriptor y.desc).map (fun d => d.parameters.length) = some n) (hR : rm.frames + 1 ≤ R.frames ∧ 8 + (maxL + 11) + rm.locals ≤ R.locals) :
    CallW R s args own C index y bytes maxL ret (mw y bytes maxL ret) rm 0 0 n := by
  refine cwV n hts (fun w hw => gW_good w ?_) rfl hrc hrs hd hR
  unfold wsV at hw
  rcases List.mem_append.mp hw with hw | hw
  · simp only [List.mem_cons, List.not_mem_nil, or_false] at hw
    rcases hw with rfl | rfl | rfl | rfl <;> assumption
  · rcases List.mem_cons.mp hw with rfl | hw <;> assumption
theorem cwS9 (hts : ∀ w ∈ gW, w.before args s = true) (k1 : Cond.methodLink own index y ∈ gW) (k2 : Cond.static y ∈ gW) (k4 : Cond.initialized y.cls ∈ gW) (k5 : Cond.code y bytes maxL ret ∈ gW) (hrc : rm.cells = 0) (hrs : rm.slots = 0)
    (hd : y.cls ≠ "java/lang/invoke/MethodHandle" ∧ y.cls ≠ "java/lang/invoke/VarHandle" ∧ (parseMethodDescriptor y.desc).map (fun d => d.parameters.length) = some n) (hR : rm.frames + 1 ≤ R.frames ∧ 8 + (maxL + 11) + rm.locals ≤ R.locals) :
    CallB R s args own index y bytes maxL ret (mw y bytes maxL ret) rm 0 0 n ∧ (Cond.static y).before args s = true := by
  refine ⟨callB_of n hts (fun w hw => gW_good w ?_) rfl hrc hrs (hts _ k4) (hts _ k1) hd hR, hts _ k2⟩
  rcases List.mem_cons.mp hw with rfl | hw <;> assumption
theorem x_Vi (S : CallFix p m c cc nL s args gW own) (hsz : ls.size = nL) (G : okW D q A s (wG N ent ad h) H locs) {Qp : Int32 → Hs → Prop} (hM : Met l y (mw y bytes maxL ret) rm (va_Pc (.ref b :: As) (pW D q A (wG N ent ad h))) (va_Qi Qp (fun h t => pW D q A (wG N ent ad h) t) A) 0 0 A) (cw : CallW R s args own C index y bytes maxL ret (mw y bytes maxL ret) rm 0 0 n) {o ci nf : Nat} {fs : List Value} {T : u_T} (he : (wG N ent ad h)[o]? = some (b, .inr (ci, fs))) (hc : vwCl[ci]? = some (C, T, nf)) (hn : As.length = n) (hst : st0 = As.reverse ++ .ref b :: rest) (hW : (rest.map fun v => v.category).sum ≤ 8) (hdg : decode cc pc = .ok (.invokevirtual index, 3))
    (kk : ∀ (r : Int32) (h' : Hs) (H1 : Heap) (locs1 : List Loc), okW D q A s (wG N ent ad h') H1 locs1 → Qp r h' → W p l e R s m args below meth c H1 locs1 0 0 Q (F0 m (pc + 3) ls (.int r :: rest))) : W p l e R s m args below meth c H locs 0 0 Q (F0 m pc ls st0) :=
  va_calli (va_runV (rest := rest) S hM cw ⟨pW_blind, va_recv G.1 G.2.2.1 hc he, fun U hU hW => ⟨rfl, G.pre hU hW⟩⟩ rfl hn hsz hst (lv_room hW) hdg ⟨Nat.zero_le _, Nat.zero_le _⟩) G.2.2.2.2 (fun _ _ h => h) (fun _ h => h) (fun r u t H1 locs1 ht hvm hw hB hz1 hk1 hS => kk r u H1 locs1 (hB.ok G.1 G.2.1 ht hS) hw)
theorem x_Vl (S : CallFix p m c cc nL s args gW own) (hsz : ls.size = nL) (G : okW D q A s (wG N ent ad h) H locs) {Qp : Int64 → Hs → Prop} (hM : Met l y (mw y bytes maxL ret) rm (va_Pc (.ref b :: As) (pW D q A (wG N ent ad h))) (va_Ql Qp (fun h t => pW D q A (wG N ent ad h) t) A) 0 0 A) (cw : CallW R s args own C index y bytes maxL ret (mw y bytes maxL ret) rm 0 0 n) {o ci nf : Nat} {fs : List Value} {T : u_T} (he : (wG N ent ad h)[o]? = some (b, .inr (ci, fs))) (hc : vwCl[ci]? = some (C, T, nf)) (hn : As.length = n) (hst : st0 = As.reverse ++ .ref b :: rest) (hW : (rest.map fun v => v.category).sum ≤ 8) (hdg : decode cc pc = .ok (.invokevirtual index, 3))
    (kk : ∀ (r : Int64) (h' : Hs) (H1 : Heap) (locs1 : List Loc), okW D q A s (wG N ent ad h') H1 locs1 → Qp r h' → W p l e R s m args below meth c H1 locs1 0 0 Q (F0 m (pc + 3) ls (.long r :: rest))) : W p l e R s m args below meth c H locs 0 0 Q (F0 m pc ls st0) :=
  va_calll (va_runV (rest := rest) S hM cw ⟨pW_blind, va_recv G.1 G.2.2.1 hc he, fun U hU hW => ⟨rfl, G.pre hU hW⟩⟩ rfl hn hsz hst (lv_room hW) hdg ⟨Nat.zero_le _, Nat.zero_le _⟩) G.2.2.2.2 (fun _ _ h => h) (fun _ h => h) (fun r u t H1 locs1 ht hvm hw hB hz1 hk1 hS => kk r u H1 locs1 (hB.ok G.1 G.2.1 ht hS) hw)
theorem x_Vv (S : CallFix p m c cc nL s args gW own) (hsz : ls.size = nL) (G : okW D q A s (wG N ent ad h) H locs) {Qp : Hs → Prop} (hM : Met l y (mw y bytes maxL ret) rm (va_Pc (.ref b :: As) (pW D q A (wG N ent ad h))) (va_Qv Qp (fun h t => pW D q A (wG N ent ad h) t) A) 0 0 A) (cw : CallW R s args own C index y bytes maxL ret (mw y bytes maxL ret) rm 0 0 n) {o ci nf : Nat} {fs : List Value} {T : u_T} (he : (wG N ent ad h)[o]? = some (b, .inr (ci, fs))) (hc : vwCl[ci]? = some (C, T, nf)) (hn : As.length = n) (hst : st0 = As.reverse ++ .ref b :: rest) (hW : (rest.map fun v => v.category).sum ≤ 8) (hdg : decode cc pc = .ok (.invokevirtual index, 3))
    (kk : ∀ (h' : Hs) (H1 : Heap) (locs1 : List Loc), okW D q A s (wG N ent ad h') H1 locs1 → Qp h' → W p l e R s m args below meth c H1 locs1 0 0 Q (F0 m (pc + 3) ls rest)) : W p l e R s m args below meth c H locs 0 0 Q (F0 m pc ls st0) :=
  va_callv (va_runV (rest := rest) S hM cw ⟨pW_blind, va_recv G.1 G.2.2.1 hc he, fun U hU hW => ⟨rfl, G.pre hU hW⟩⟩ rfl hn hsz hst (lv_room hW) hdg ⟨Nat.zero_le _, Nat.zero_le _⟩) G.2.2.2.2 (fun _ _ h => h) (fun _ h => h) (fun u t H1 locs1 ht hvm hw hB hz1 hk1 hS => kk u H1 locs1 (hB.ok G.1 G.2.1 ht hS) hw)
def Qrf (Qp : Nat → Hs → Prop) : Nat × Hs → Prop := fun u => Qp u.1 u.2
def Brf (D : va_G) (q : Nat → ClassId) (A : Nat → Prop) (N : Nat) (ent : EntF) (ad : Nat → Nat) : Nat × Hs → Nat → State → Prop := fun u a t => a = ad u.1 ∧ pW D q A (wG N ent ad u.2) t
theorem x_Vr (S : CallFix p m c cc nL s args gW own) (hsz : ls.size = nL) (G : okW D q A s (wG N ent ad h) H locs) {Qp : Nat → Hs → Prop} (hM : Met l y (mw y bytes maxL ret) rm (va_Pc (.ref b :: As) (pW D q A (wG N ent ad h))) (va_Qr (Qrf Qp) (Brf D q A N ent ad) A) 0 0 A) (cw : CallW R s args own C index y bytes maxL ret (mw y bytes maxL ret) rm 0 0 n) {o ci nf : Nat} {fs : List Value} {T : u_T} (he : (wG N ent ad h)[o]? = some (b, .inr (ci, fs))) (hc : vwCl[ci]? = some (C, T, nf)) (hn : As.length = n) (hst : st0 = As.reverse ++ .ref b :: rest) (hW : (rest.map fun v => v.category).sum ≤ 8) (hdg : decode cc pc = .ok (.invokevirtual index, 3))
    (kk : ∀ (r : Nat) (h' : Hs) (H1 : Heap) (locs1 : List Loc), okW D q A s (wG N ent ad h') H1 locs1 → Qp r h' → W p l e R s m args below meth c H1 locs1 0 0 Q (F0 m (pc + 3) ls (.ref (ad r) :: rest))) : W p l e R s m args below meth c H locs 0 0 Q (F0 m pc ls st0) :=
  va_callr (va_runV (rest := rest) S hM cw ⟨pW_blind, va_recv G.1 G.2.2.1 hc he, fun U hU hW => ⟨rfl, G.pre hU hW⟩⟩ rfl hn hsz hst (lv_room hW) hdg ⟨Nat.zero_le _, Nat.zero_le _⟩) G.2.2.2.2 (fun _ _ h => h) (fun _ h => h) (fun u ra t H1 locs1 ht hvm hw hB hz1 hk1 hS => by
    obtain ⟨r, h'⟩ := u
    obtain ⟨rfl, hB⟩ := hB
    exact kk r h' H1 locs1 (hB.ok G.1 G.2.1 ht hS) hw)
theorem x_Si (S : CallFix p m c cc nL s args gW own) (hsz : ls.size = nL) (G : okW D q A s (wG N ent ad h) H locs) {Qp : Int32 → Hs → Prop} (hM : Met l y (mw y bytes maxL ret) rm (va_Pc As (pW D q A (wG N ent ad h))) (va_Qi Qp (fun h t => pW D q A (wG N ent ad h) t) A) 0 0 A) (cw : CallB R s args own index y bytes maxL ret (mw y bytes maxL ret) rm 0 0 n ∧ (Cond.static y).before args s = true) (hn : As.length = n) (hst : st0 = As.reverse ++ rest) (hW : (rest.map fun v => v.category).sum ≤ 8) (hdg : decode cc pc = .ok (.invokestatic index, 3))
    (kk : ∀ (r : Int32) (h' : Hs) (H1 : Heap) (locs1 : List Loc), okW D q A s (wG N ent ad h') H1 locs1 → Qp r h' → W p l e R s m args below meth c H1 locs1 0 0 Q (F0 m (pc + 3) ls (.int r :: rest))) : W p l e R s m args below meth c H locs 0 0 Q (F0 m pc ls st0) :=
  va_calli (va_runS (rest := rest) S hM cw ⟨pW_blind, fun U hU hW => ⟨rfl, G.pre hU hW⟩⟩ rfl hn hsz hst (lv_room hW) hdg ⟨Nat.zero_le _, Nat.zero_le _⟩) G.2.2.2.2 (fun _ _ h => h) (fun _ h => h) (fun r u t H1 locs1 ht hvm hw hB hz1 hk1 hS => kk r u H1 locs1 (hB.ok G.1 G.2.1 ht hS) hw)
theorem x_Sl (S : CallFix p m c cc nL s args gW own) (hsz : ls.size = nL) (G : okW D q A s (wG N ent ad h) H locs) {Qp : Int64 → Hs → Prop} (hM : Met l y (mw y bytes maxL ret) rm (va_Pc As (pW D q A (wG N ent ad h))) (va_Ql Qp (fun h t => pW D q A (wG N ent ad h) t) A) 0 0 A) (cw : CallB R s args own index y bytes maxL ret (mw y bytes maxL ret) rm 0 0 n ∧ (Cond.static y).before args s = true) (hn : As.length = n) (hst : st0 = As.reverse ++ rest) (hW : (rest.map fun v => v.category).sum ≤ 8) (hdg : decode cc pc = .ok (.invokestatic index, 3))
    (kk : ∀ (r : Int64) (h' : Hs) (H1 : Heap) (locs1 : List Loc), okW D q A s (wG N ent ad h') H1 locs1 → Qp r h' → W p l e R s m args below meth c H1 locs1 0 0 Q (F0 m (pc + 3) ls (.long r :: rest))) : W p l e R s m args below meth c H locs 0 0 Q (F0 m pc ls st0) :=
  va_calll (va_runS (rest := rest) S hM cw ⟨pW_blind, fun U hU hW => ⟨rfl, G.pre hU hW⟩⟩ rfl hn hsz hst (lv_room hW) hdg ⟨Nat.zero_le _, Nat.zero_le _⟩) G.2.2.2.2 (fun _ _ h => h) (fun _ h => h) (fun r u t H1 locs1 ht hvm hw hB hz1 hk1 hS => kk r u H1 locs1 (hB.ok G.1 G.2.1 ht hS) hw)
theorem x_Sv (S : CallFix p m c cc nL s args gW own) (hsz : ls.size = nL) (G : okW D q A s (wG N ent ad h) H locs) {Qp : Hs → Prop} (hM : Met l y (mw y bytes maxL ret) rm (va_Pc As (pW D q A (wG N ent ad h))) (va_Qv Qp (fun h t => pW D q A (wG N ent ad h) t) A) 0 0 A) (cw : CallB R s args own index y bytes maxL ret (mw y bytes maxL ret) rm 0 0 n ∧ (Cond.static y).before args s = true) (hn : As.length = n) (hst : st0 = As.reverse ++ rest) (hW : (rest.map fun v => v.category).sum ≤ 8) (hdg : decode cc pc = .ok (.invokestatic index, 3))
    (kk : ∀ (h' : Hs) (H1 : Heap) (locs1 : List Loc), okW D q A s (wG N ent ad h') H1 locs1 → Qp h' → W p l e R s m args below meth c H1 locs1 0 0 Q (F0 m (pc + 3) ls rest)) : W p l e R s m args below meth c H locs 0 0 Q (F0 m pc ls st0) :=
  va_callv (va_runS (rest := rest) S hM cw ⟨pW_blind, fun U hU hW => ⟨rfl, G.pre hU hW⟩⟩ rfl hn hsz hst (lv_room hW) hdg ⟨Nat.zero_le _, Nat.zero_le _⟩) G.2.2.2.2 (fun _ _ h => h) (fun _ h => h) (fun u t H1 locs1 ht hvm hw hB hz1 hk1 hS => kk u H1 locs1 (hB.ok G.1 G.2.1 ht hS) hw)
theorem cwN9 {host : String} (hts : ∀ w ∈ gW, w.before args s = true) (k1 : va_Nw (.methodLinkNest own index y host) s) (k2 : Cond.static y ∈ gW) (k4 : Cond.initialized y.cls ∈ gW) (k5 : Cond.code y bytes maxL ret ∈ gW) (hrc : rm.cells = 0) (hrs : rm.slots = 0)
    (hd : y.cls ≠ "java/lang/invoke/MethodHandle" ∧ y.cls ≠ "java/lang/invoke/VarHandle" ∧ (parseMethodDescriptor y.desc).map (fun d => d.parameters.length) = some n) (hR : rm.frames + 1 ≤ R.frames ∧ 8 + (maxL + 11) + rm.locals ≤ R.locals) :
    va_CN R s args own index y host bytes maxL ret (mw y bytes maxL ret) rm 0 0 n ∧ (Cond.static y).before args s = true ∧ True := by
  refine ⟨va_cnB n hts (fun w hw => gW_good w ?_) rfl hrc hrs k1 (hts _ k4) hd hR, hts _ k2, trivial⟩
  rcases List.mem_cons.mp hw with rfl | hw <;> assumption
theorem x_Nl {host : String} (S : CallFix p m c cc nL s args gW own) (hsz : ls.size = nL) (G : okW D q A s (wG N ent ad h) H locs) {Qp : Int64 → Hs → Prop} (hM : Met l y (mw y bytes maxL ret) rm (va_Pc As (pW D q A (wG N ent ad h))) (va_Ql Qp (fun h t => pW D q A (wG N ent ad h) t) A) 0 0 A) (cw : va_CN R s args own index y host bytes maxL ret (mw y bytes maxL ret) rm 0 0 n ∧ (Cond.static y).before args s = true ∧ True) (hn : As.length = n) (hst : st0 = As.reverse ++ rest) (hW : (rest.map fun v => v.category).sum ≤ 8) (hdg : decode cc pc = .ok (.invokestatic index, 3))
    (kk : ∀ (r : Int64) (h' : Hs) (H1 : Heap) (locs1 : List Loc), okW D q A s (wG N ent ad h') H1 locs1 → Qp r h' → W p l e R s m args below meth c H1 locs1 0 0 Q (F0 m (pc + 3) ls (.long r :: rest))) : W p l e R s m args below meth c H locs 0 0 Q (F0 m pc ls st0) :=
  va_calll (va_runSN (rest := rest) S hM cw ⟨pW_blind, fun U hU hW => ⟨rfl, G.pre hU hW⟩⟩ rfl hn hsz hst (lv_room hW) hdg ⟨Nat.zero_le _, Nat.zero_le _⟩) G.2.2.2.2 (fun _ _ h => h) (fun _ h => h) (fun r u t H1 locs1 ht hvm hw hB hz1 hk1 hS => kk r u H1 locs1 (hB.ok G.1 G.2.1 ht hS) hw)
theorem x_ViP (S : CallFix p m c cc nL s args gW own) (hsz : ls.size = nL) (G : okW D q A s (wG N ent ad h) H locs) {Qp : Int32 → Prop} (hM : Met l y (mw y bytes maxL ret) rm (va_Pc (.ref b :: As) (pW D q A (wG N ent ad h))) (va_Qi (fun r h9 => h9 = h ∧ Qp r) (fun h t => pW D q A (wG N ent ad h) t) A) 0 0 A) (cw : CallW R s args own C index y bytes maxL ret (mw y bytes maxL ret) rm 0 0 n) {o ci nf : Nat} {fs : List Value} {T : u_T} (he : (wG N ent ad h)[o]? = some (b, .inr (ci, fs))) (hc : vwCl[ci]? = some (C, T, nf)) (hn : As.length = n) (hst : st0 = As.reverse ++ .ref b :: rest) (hW : (rest.map fun v => v.category).sum ≤ 8) (hdg : decode cc pc = .ok (.invokevirtual index, 3))
    (kk : ∀ (r : Int32) (H1 : Heap) (locs1 : List Loc), okW D q A s (wG N ent ad h) H1 locs1 → Qp r → W p l e R s m args below meth c H1 locs1 0 0 Q (F0 m (pc + 3) ls (.int r :: rest))) : W p l e R s m args below meth c H locs 0 0 Q (F0 m pc ls st0) :=
  x_Vi S hsz G hM cw he hc hn hst hW hdg (fun r h9 H1 locs1 G9 hw => by
    obtain ⟨rfl, hq⟩ := hw
    exact kk r H1 locs1 G9 hq)
theorem x_VzP (S : CallFix p m c cc nL s args gW own) (hsz : ls.size = nL) (G : okW D q A s (wG N ent ad h) H locs) {Qp : Int32 → Prop} (hM : Met l y (mw y bytes maxL ret) rm (va_Pc (.ref b :: As) (pW D q A (wG N ent ad h))) (va_Qi (fun r h9 => zb r ∧ h9 = h ∧ Qp r) (fun h t => pW D q A (wG N ent ad h) t) A) 0 0 A) (cw : CallW R s args own C index y bytes maxL ret (mw y bytes maxL ret) rm 0 0 n) {o ci nf : Nat} {fs : List Value} {T : u_T} (he : (wG N ent ad h)[o]? = some (b, .inr (ci, fs))) (hc : vwCl[ci]? = some (C, T, nf)) (hn : As.length = n) (hst : st0 = As.reverse ++ .ref b :: rest) (hW : (rest.map fun v => v.category).sum ≤ 8) (hdg : decode cc pc = .ok (.invokevirtual index, 3))
    (kk : ∀ (r : Int32) (H1 : Heap) (locs1 : List Loc), okW D q A s (wG N ent ad h) H1 locs1 → zb r → Qp r → W p l e R s m args below meth c H1 locs1 0 0 Q (F0 m (pc + 3) ls (.int r :: rest))) : W p l e R s m args below meth c H locs 0 0 Q (F0 m pc ls st0) :=
  x_Vi S hsz G hM cw he hc hn hst hW hdg (fun r h9 H1 locs1 G9 hw => by
    obtain ⟨z, rfl, hq⟩ := hw
    exact kk r H1 locs1 G9 z hq)
theorem x_VlP (S : CallFix p m c cc nL s args gW own) (hsz : ls.size = nL) (G : okW D q A s (wG N ent ad h) H locs) {Qp : Int64 → Prop} (hM : Met l y (mw y bytes maxL ret) rm (va_Pc (.ref b :: As) (pW D q A (wG N ent ad h))) (va_Ql (fun r h9 => h9 = h ∧ Qp r) (fun h t => pW D q A (wG N ent ad h) t) A) 0 0 A) (cw : CallW R s args own C index y bytes maxL ret (mw y bytes maxL ret) rm 0 0 n) {o ci nf : Nat} {fs : List Value} {T : u_T} (he : (wG N ent ad h)[o]? = some (b, .inr (ci, fs))) (hc : vwCl[ci]? = some (C, T, nf)) (hn : As.length = n) (hst : st0 = As.reverse ++ .ref b :: rest) (hW : (rest.map fun v => v.category).sum ≤ 8) (hdg : decode cc pc = .ok (.invokevirtual index, 3))
    (kk : ∀ (r : Int64) (H1 : Heap) (locs1 : List Loc), okW D q A s (wG N ent ad h) H1 locs1 → Qp r → W p l e R s m args below meth c H1 locs1 0 0 Q (F0 m (pc + 3) ls (.long r :: rest))) : W p l e R s m args below meth c H locs 0 0 Q (F0 m pc ls st0) :=
  x_Vl S hsz G hM cw he hc hn hst hW hdg (fun r h9 H1 locs1 G9 hw => by
    obtain ⟨rfl, hq⟩ := hw
    exact kk r H1 locs1 G9 hq)
theorem x_VrP (S : CallFix p m c cc nL s args gW own) (hsz : ls.size = nL) (G : okW D q A s (wG N ent ad h) H locs) {Qp : Nat → Prop} (hM : Met l y (mw y bytes maxL ret) rm (va_Pc (.ref b :: As) (pW D q A (wG N ent ad h))) (va_Qr (Qrf (fun r h9 => h9 = h ∧ Qp r)) (Brf D q A N ent ad) A) 0 0 A) (cw : CallW R s args own C index y bytes maxL ret (mw y bytes maxL ret) rm 0 0 n) {o ci nf : Nat} {fs : List Value} {T : u_T} (he : (wG N ent ad h)[o]? = some (b, .inr (ci, fs))) (hc : vwCl[ci]? = some (C, T, nf)) (hn : As.length = n) (hst : st0 = As.reverse ++ .ref b :: rest) (hW : (rest.map fun v => v.category).sum ≤ 8) (hdg : decode cc pc = .ok (.invokevirtual index, 3))
    (kk : ∀ (r : Nat) (H1 : Heap) (locs1 : List Loc), okW D q A s (wG N ent ad h) H1 locs1 → Qp r → W p l e R s m args below meth c H1 locs1 0 0 Q (F0 m (pc + 3) ls (.ref (ad r) :: rest))) : W p l e R s m args below meth c H locs 0 0 Q (F0 m pc ls st0) :=
  x_Vr S hsz G hM cw he hc hn hst hW hdg (fun r h9 H1 locs1 G9 hw => by
    obtain ⟨rfl, hq⟩ := hw
    exact kk r H1 locs1 G9 hq)
theorem x_SiP (S : CallFix p m c cc nL s args gW own) (hsz : ls.size = nL) (G : okW D q A s (wG N ent ad h) H locs) {Qp : Int32 → Prop} (hM : Met l y (mw y bytes maxL ret) rm (va_Pc As (pW D q A (wG N ent ad h))) (va_Qi (fun r h9 => h9 = h ∧ Qp r) (fun h t => pW D q A (wG N ent ad h) t) A) 0 0 A) (cw : CallB R s args own index y bytes maxL ret (mw y bytes maxL ret) rm 0 0 n ∧ (Cond.static y).before args s = true) (hn : As.length = n) (hst : st0 = As.reverse ++ rest) (hW : (rest.map fun v => v.category).sum ≤ 8) (hdg : decode cc pc = .ok (.invokestatic index, 3))
    (kk : ∀ (r : Int32) (H1 : Heap) (locs1 : List Loc), okW D q A s (wG N ent ad h) H1 locs1 → Qp r → W p l e R s m args below meth c H1 locs1 0 0 Q (F0 m (pc + 3) ls (.int r :: rest))) : W p l e R s m args below meth c H locs 0 0 Q (F0 m pc ls st0) :=
  x_Si S hsz G hM cw hn hst hW hdg (fun r h9 H1 locs1 G9 hw => by
    obtain ⟨rfl, hq⟩ := hw
    exact kk r H1 locs1 G9 hq)
theorem x_SzP (S : CallFix p m c cc nL s args gW own) (hsz : ls.size = nL) (G : okW D q A s (wG N ent ad h) H locs) {Qp : Int32 → Prop} (hM : Met l y (mw y bytes maxL ret) rm (va_Pc As (pW D q A (wG N ent ad h))) (va_Qi (fun r h9 => zb r ∧ h9 = h ∧ Qp r) (fun h t => pW D q A (wG N ent ad h) t) A) 0 0 A) (cw : CallB R s args own index y bytes maxL ret (mw y bytes maxL ret) rm 0 0 n ∧ (Cond.static y).before args s = true) (hn : As.length = n) (hst : st0 = As.reverse ++ rest) (hW : (rest.map fun v => v.category).sum ≤ 8) (hdg : decode cc pc = .ok (.invokestatic index, 3))
    (kk : ∀ (r : Int32) (H1 : Heap) (locs1 : List Loc), okW D q A s (wG N ent ad h) H1 locs1 → zb r → Qp r → W p l e R s m args below meth c H1 locs1 0 0 Q (F0 m (pc + 3) ls (.int r :: rest))) : W p l e R s m args below meth c H locs 0 0 Q (F0 m pc ls st0) :=
  x_Si S hsz G hM cw hn hst hW hdg (fun r h9 H1 locs1 G9 hw => by
    obtain ⟨z, rfl, hq⟩ := hw
    exact kk r H1 locs1 G9 z hq)
theorem x_SlP (S : CallFix p m c cc nL s args gW own) (hsz : ls.size = nL) (G : okW D q A s (wG N ent ad h) H locs) {Qp : Int64 → Prop} (hM : Met l y (mw y bytes maxL ret) rm (va_Pc As (pW D q A (wG N ent ad h))) (va_Ql (fun r h9 => h9 = h ∧ Qp r) (fun h t => pW D q A (wG N ent ad h) t) A) 0 0 A) (cw : CallB R s args own index y bytes maxL ret (mw y bytes maxL ret) rm 0 0 n ∧ (Cond.static y).before args s = true) (hn : As.length = n) (hst : st0 = As.reverse ++ rest) (hW : (rest.map fun v => v.category).sum ≤ 8) (hdg : decode cc pc = .ok (.invokestatic index, 3))
    (kk : ∀ (r : Int64) (H1 : Heap) (locs1 : List Loc), okW D q A s (wG N ent ad h) H1 locs1 → Qp r → W p l e R s m args below meth c H1 locs1 0 0 Q (F0 m (pc + 3) ls (.long r :: rest))) : W p l e R s m args below meth c H locs 0 0 Q (F0 m pc ls st0) :=
  x_Sl S hsz G hM cw hn hst hW hdg (fun r h9 H1 locs1 G9 hw => by
    obtain ⟨rfl, hq⟩ := hw
    exact kk r H1 locs1 G9 hq)
theorem x_NlP {host : String} (S : CallFix p m c cc nL s args gW own) (hsz : ls.size = nL) (G : okW D q A s (wG N ent ad h) H locs) {Qp : Int64 → Prop} (hM : Met l y (mw y bytes maxL ret) rm (va_Pc As (pW D q A (wG N ent ad h))) (va_Ql (fun r h9 => h9 = h ∧ Qp r) (fun h t => pW D q A (wG N ent ad h) t) A) 0 0 A) (cw : va_CN R s args own index y host bytes maxL ret (mw y bytes maxL ret) rm 0 0 n ∧ (Cond.static y).before args s = true ∧ True) (hn : As.length = n) (hst : st0 = As.reverse ++ rest) (hW : (rest.map fun v => v.category).sum ≤ 8) (hdg : decode cc pc = .ok (.invokestatic index, 3))
    (kk : ∀ (r : Int64) (H1 : Heap) (locs1 : List Loc), okW D q A s (wG N ent ad h) H1 locs1 → Qp r → W p l e R s m args below meth c H1 locs1 0 0 Q (F0 m (pc + 3) ls (.long r :: rest))) : W p l e R s m args below meth c H locs 0 0 Q (F0 m pc ls st0) :=
  x_Nl S hsz G hM cw hn hst hW hdg (fun r h9 H1 locs1 G9 hw => by
    obtain ⟨rfl, hq⟩ := hw
    exact kk r H1 locs1 G9 hq)
end BaseRows
/-! beginning and end of a method -/
section BaseMet
variable {l : Launch} {y : MethodName} {cc : ByteArray} {maxL : Nat} {rm : Room} {D : va_G} {q : Nat → ClassId} {A : Nat → Prop} {av : List Value} {h : Hs} {N : Nat} {ent : EntF} {ad : Nat → Nat}
theorem met_i {Qp : Int32 → Hs → Prop} (hy : plainName y.cls = true) (hlen : (lg_sl av).length ≤ maxL)
    (body : ∀ (p : Program) (e : Env) (R : Room) (s : State) (m : MethodId) (args : Array Value) (below : List Frame) (meth : Method) (c : Code) (Qm : State → Prop) (ls : Array Slot), rm.frames ≤ R.frames → rm.locals ≤ R.locals → CallFix p m c cc maxL s args gW y.cls →
      (∀ (v : Int32) (h' : Hs) (H : Heap) (locs : List Loc) (ls : Array Slot) (pc : Nat), okW D q A s (wG N ent ad h') H locs → Qp v h' → decode cc pc = .ok (.ireturn, 1) → W p l e R s m args below meth c H locs 0 0 Qm (F0 m pc ls [.int v])) →
      lv_has ls maxL (lv_args 0 av) → okW D q A s (wG N ent ad h) s.heap [] → W p l e R s m args below meth c s.heap [] 0 0 Qm (F0 m 0 ls [])) :
    Met l y (mw y cc maxL (some .int)) rm (va_Pc av (pW D q A (wG N ent ad h))) (va_Qi Qp (fun h t => pW D q A (wG N ent ad h) t) A) 0 0 A := by
  refine Met.ofW (cc := cc) (maxL := maxL) (ret := some .int) hy rfl ?_
  intro p e s m args below meth c s₁ B hml hv
  obtain ⟨rfl, hK, hN, hP, hD⟩ := hv
  have hx := B.exec
  have hb := B.bytes
  have hr := B.returns
  have hlocks := B.notSynchronized
  have hts := atoms_spec (ws := mw y cc maxL (some .int)) B.pre
  have hown : s.vm.findClass y.cls = some m.cls := findClass_of_methodNamed B.named
  have hl := lv_entry av (n := maxL) hlen
  rw [lg_entry_eq]
  generalize (lg_sl av ++ List.replicate (maxL - (lg_sl av).length) Slot.unset).toArray = ls at hl ⊢
  refine body p e rm s m av.toArray below meth c _ ls (Nat.le_refl _) (Nat.le_refl _) ⟨hx, hb, hml, hown, fun w hw => hts w (List.mem_cons_of_mem _ hw)⟩ ?_ hl ⟨hK, hN, hP, hD, va_S.rf⟩
  intro v h' H locs ls pc G hq hdg
  exact W.iret hx hb hr (fun t ht hW => ⟨⟨v, h', rfl, hq, G.pre ht hW⟩, G.2.2.2.2.F ht⟩) G.2.2.2.2.2.2 hdg hlocks
theorem met_z {Qp : Int32 → Hs → Prop} (hy : plainName y.cls = true) (hlen : (lg_sl av).length ≤ maxL)
    (body : ∀ (p : Program) (e : Env) (R : Room) (s : State) (m : MethodId) (args : Array Value) (below : List Frame) (meth : Method) (c : Code) (Qm : State → Prop) (ls : Array Slot), rm.frames ≤ R.frames → rm.locals ≤ R.locals → CallFix p m c cc maxL s args gW y.cls →
      (∀ (v : Int32) (h' : Hs) (H : Heap) (locs : List Loc) (ls : Array Slot) (pc : Nat), okW D q A s (wG N ent ad h') H locs → zb v → Qp v h' → decode cc pc = .ok (.ireturn, 1) → W p l e R s m args below meth c H locs 0 0 Qm (F0 m pc ls [.int v])) →
      lv_has ls maxL (lv_args 0 av) → okW D q A s (wG N ent ad h) s.heap [] → W p l e R s m args below meth c s.heap [] 0 0 Qm (F0 m 0 ls [])) :
    Met l y (mw y cc maxL (some .boolean)) rm (va_Pc av (pW D q A (wG N ent ad h))) (va_Qi (fun r h => zb r ∧ Qp r h) (fun h t => pW D q A (wG N ent ad h) t) A) 0 0 A := by
  refine Met.ofW (cc := cc) (maxL := maxL) (ret := some .boolean) hy rfl ?_
  intro p e s m args below meth c s₁ B hml hv
  obtain ⟨rfl, hK, hN, hP, hD⟩ := hv
  have hx := B.exec
  have hb := B.bytes
  have hr := B.returns
  have hlocks := B.notSynchronized
  have hts := atoms_spec (ws := mw y cc maxL (some .boolean)) B.pre
  have hown : s.vm.findClass y.cls = some m.cls := findClass_of_methodNamed B.named
  have hl := lv_entry av (n := maxL) hlen
  rw [lg_entry_eq]
  generalize (lg_sl av ++ List.replicate (maxL - (lg_sl av).length) Slot.unset).toArray = ls at hl ⊢
  refine body p e rm s m av.toArray below meth c _ ls (Nat.le_refl _) (Nat.le_refl _) ⟨hx, hb, hml, hown, fun w hw => hts w (List.mem_cons_of_mem _ hw)⟩ ?_ hl ⟨hK, hN, hP, hD, va_S.rf⟩
  intro v h' H locs ls pc G hz hq hdg
  exact W.zret hx hb hr (zb_n hz) (fun t ht hW => ⟨⟨v, h', rfl, ⟨hz, hq⟩, G.pre ht hW⟩, G.2.2.2.2.F ht⟩) G.2.2.2.2.2.2 hdg hlocks
theorem met_l {Qp : Int64 → Hs → Prop} (hy : plainName y.cls = true) (hlen : (lg_sl av).length ≤ maxL)
    (body : ∀ (p : Program) (e : Env) (R : Room) (s : State) (m : MethodId) (args : Array Value) (below : List Frame) (meth : Method) (c : Code) (Qm : State → Prop) (ls : Array Slot), rm.frames ≤ R.frames → rm.locals ≤ R.locals → CallFix p m c cc maxL s args gW y.cls →
      (∀ (v : Int64) (h' : Hs) (H : Heap) (locs : List Loc) (ls : Array Slot) (pc : Nat), okW D q A s (wG N ent ad h') H locs → Qp v h' → decode cc pc = .ok (.lreturn, 1) → W p l e R s m args below meth c H locs 0 0 Qm (F0 m pc ls [.long v])) →
      lv_has ls maxL (lv_args 0 av) → okW D q A s (wG N ent ad h) s.heap [] → W p l e R s m args below meth c s.heap [] 0 0 Qm (F0 m 0 ls [])) :
    Met l y (mw y cc maxL (some .long)) rm (va_Pc av (pW D q A (wG N ent ad h))) (va_Ql Qp (fun h t => pW D q A (wG N ent ad h) t) A) 0 0 A := by
  refine Met.ofW (cc := cc) (maxL := maxL) (ret := some .long) hy rfl ?_
  intro p e s m args below meth c s₁ B hml hv
  obtain ⟨rfl, hK, hN, hP, hD⟩ := hv
  have hx := B.exec
  have hb := B.bytes
  have hr := B.returns
  have hlocks := B.notSynchronized
  have hts := atoms_spec (ws := mw y cc maxL (some .long)) B.pre
  have hown : s.vm.findClass y.cls = some m.cls := findClass_of_methodNamed B.named
  have hl := lv_entry av (n := maxL) hlen
  rw [lg_entry_eq]
  generalize (lg_sl av ++ List.replicate (maxL - (lg_sl av).length) Slot.unset).toArray = ls at hl ⊢
  refine body p e rm s m av.toArray below meth c _ ls (Nat.le_refl _) (Nat.le_refl _) ⟨hx, hb, hml, hown, fun w hw => hts w (List.mem_cons_of_mem _ hw)⟩ ?_ hl ⟨hK, hN, hP, hD, va_S.rf⟩
  intro v h' H locs ls pc G hq hdg
  exact W.lret hx hb hr (fun t ht hW => ⟨⟨v, h', rfl, hq, G.pre ht hW⟩, G.2.2.2.2.F ht⟩) G.2.2.2.2.2.2 hdg hlocks
theorem met_v {Qp : Hs → Prop} (hy : plainName y.cls = true) (hlen : (lg_sl av).length ≤ maxL)
    (body : ∀ (p : Program) (e : Env) (R : Room) (s : State) (m : MethodId) (args : Array Value) (below : List Frame) (meth : Method) (c : Code) (Qm : State → Prop) (ls : Array Slot), rm.frames ≤ R.frames → rm.locals ≤ R.locals → CallFix p m c cc maxL s args gW y.cls →
      (∀ (h' : Hs) (H : Heap) (locs : List Loc) (ls : Array Slot) (pc : Nat), okW D q A s (wG N ent ad h') H locs → Qp h' → decode cc pc = .ok (.return_, 1) → W p l e R s m args below meth c H locs 0 0 Qm (F0 m pc ls [])) →
      lv_has ls maxL (lv_args 0 av) → okW D q A s (wG N ent ad h) s.heap [] → W p l e R s m args below meth c s.heap [] 0 0 Qm (F0 m 0 ls [])) :
    Met l y (mw y cc maxL none) rm (va_Pc av (pW D q A (wG N ent ad h))) (va_Qv Qp (fun h t => pW D q A (wG N ent ad h) t) A) 0 0 A := by
  refine Met.ofW (cc := cc) (maxL := maxL) (ret := none) hy rfl ?_
  intro p e s m args below meth c s₁ B hml hv
  obtain ⟨rfl, hK, hN, hP, hD⟩ := hv
  have hx := B.exec
  have hb := B.bytes
  have hr := B.returns
  have hlocks := B.notSynchronized
  have hts := atoms_spec (ws := mw y cc maxL none) B.pre
  have hown : s.vm.findClass y.cls = some m.cls := findClass_of_methodNamed B.named
  have hl := lv_entry av (n := maxL) hlen
  rw [lg_entry_eq]
  generalize (lg_sl av ++ List.replicate (maxL - (lg_sl av).length) Slot.unset).toArray = ls at hl ⊢
  refine body p e rm s m av.toArray below meth c _ ls (Nat.le_refl _) (Nat.le_refl _) ⟨hx, hb, hml, hown, fun w hw => hts w (List.mem_cons_of_mem _ hw)⟩ ?_ hl ⟨hK, hN, hP, hD, va_S.rf⟩
  intro h' H locs ls pc G hq hdg
  exact W.vret hx hb hr (fun t ht hW => ⟨⟨h', rfl, hq, G.pre ht hW⟩, G.2.2.2.2.F ht⟩) G.2.2.2.2.2.2 hdg hlocks
theorem met_r {rt : FieldType} {Qp : Nat → Hs → Prop} (hrt : (∃ n, rt = .object n) ∨ ∃ t, rt = .array t) (hy : plainName y.cls = true) (hlen : (lg_sl av).length ≤ maxL)
    (body : ∀ (p : Program) (e : Env) (R : Room) (s : State) (m : MethodId) (args : Array Value) (below : List Frame) (meth : Method) (c : Code) (Qm : State → Prop) (ls : Array Slot), rm.frames ≤ R.frames → rm.locals ≤ R.locals → CallFix p m c cc maxL s args gW y.cls →
      (∀ (v : Nat) (h' : Hs) (H : Heap) (locs : List Loc) (ls : Array Slot) (pc : Nat), okW D q A s (wG N ent ad h') H locs → Qp v h' → decode cc pc = .ok (.areturn, 1) → W p l e R s m args below meth c H locs 0 0 Qm (F0 m pc ls [.ref (ad v)])) →
      lv_has ls maxL (lv_args 0 av) → okW D q A s (wG N ent ad h) s.heap [] → W p l e R s m args below meth c s.heap [] 0 0 Qm (F0 m 0 ls [])) :
    Met l y (mw y cc maxL (some rt)) rm (va_Pc av (pW D q A (wG N ent ad h))) (va_Qr (Qrf Qp) (Brf D q A N ent ad) A) 0 0 A := by
  refine Met.ofW (cc := cc) (maxL := maxL) (ret := some rt) hy rfl ?_
  intro p e s m args below meth c s₁ B hml hv
  obtain ⟨rfl, hK, hN, hP, hD⟩ := hv
  have hx := B.exec
  have hb := B.bytes
  have hr := B.returns
  have hlocks := B.notSynchronized
  have hts := atoms_spec (ws := mw y cc maxL (some rt)) B.pre
  have hown : s.vm.findClass y.cls = some m.cls := findClass_of_methodNamed B.named
  have hl := lv_entry av (n := maxL) hlen
  rw [lg_entry_eq]
  generalize (lg_sl av ++ List.replicate (maxL - (lg_sl av).length) Slot.unset).toArray = ls at hl ⊢
  refine body p e rm s m av.toArray below meth c _ ls (Nat.le_refl _) (Nat.le_refl _) ⟨hx, hb, hml, hown, fun w hw => hts w (List.mem_cons_of_mem _ hw)⟩ ?_ hl ⟨hK, hN, hP, hD, va_S.rf⟩
  intro v h' H locs ls pc G hq hdg
  exact W.aret hx hb hr hrt (Or.inr ⟨_, rfl⟩) (fun t ht hW => ⟨⟨(v, h'), ad v, rfl, hq, rfl, G.pre ht hW⟩, G.2.2.2.2.F ht⟩) G.2.2.2.2.2.2 hdg hlocks
end BaseMet
