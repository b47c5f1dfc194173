/-! THE CLAIM OUT OF ONE WALK OF THE LAW'S BODY. Your part is whole_start (and what it stands on); all else here is the same for every law, but numbers. -/
def R_law : String := "WordOnPostLaw"
def lw_P (b : Addr) (xs : List Int32) (args : Array Value) (s : State) : Prop := args = #[.ref b] ∧ s.IntsAt b xs ∧ xs.length ≤ 3072 ∧ (Jvm.Cond.and given_1 narrow_1).before args s = true
def lw_Q (_ : Array Value) (s : State) (o : Outcome) (t : State) : Prop := o = .returned (some (.int 1)) ∧ Framed s o t [] 600000 7302250
def lw_Z (below : List Frame) (a : Array Value) (s : State) : State → Prop := fun t => ∃ o, t.status = .running ∧ Ended t below o ∧ lw_Q a s o t
/-- the law's own end, with 1 on the stack, nothing written that was there before, its room as the claim has it -/
theorem lw_ret {p : Program} {l : Launch} {e : Env} {s : State} {m : MethodId} {below : List Frame} {meth : Method} {c : Code} {b : Nat} (hx : p.tables.exec = Jvm.exec) (hb : c.code = code) (hr : meth.sig.returnType = ret) (hlocks : meth.locks = false) {pc : Nat} {H : Heap} {ls : Array Slot} (hdg : decode code pc = .ok (.ireturn, 1)) : W p l e room_1 s m #[Value.ref b] below meth c H [] 600000 7302250 (lw_Z below #[Value.ref b] s) (F0 m pc ls [.int 1]) := by
  intro T hT X
  obtain ⟨fs, hret, hrun, hended, hW, hframe⟩ := X.leave (v := some (.int 1)) (hlocks := hlocks) (fun h => by rw [hr] at h; cases h)
  have hmeth' : T.vm.method? m = some meth := X.method'
  refine ⟨T.setFrames fs, ?_, .returned (some (.int 1)), hrun, hended, rfl, ⟨_, rfl⟩, hW, hframe⟩
  jvm_step X.here [X.here.top, hx, hb, hdg, hmeth', hr, ret, narrow_b1]
  (try refine ⟨rfl, ?_⟩); (try refine ⟨rfl, ?_⟩)
  first | (intro acts; rw [hret _ acts rfl rfl rfl]) | rw [hret _ _ rfl rfl rfl]
  exact Steps.refl _
/-- what holds at the law's entry: the machine, the code, the tables' words (any of lw_tbl by 'hts w (by decide +kernel)'), the script of L ints xs at the cell b, what the Statement gives of the start (any of its parts by flat_of_before) -/
def lw_At (p : Program) (s : State) (m : MethodId) (meth : Method) (c : Code) (b L : Nat) (xs : Nat → Int32) : Prop :=
  p.tables.exec = Jvm.exec ∧ c.code = code ∧ meth.sig.returnType = ret ∧ c.maxLocals = 4 ∧ s.vm.findClass R_law = some m.cls ∧ (∀ w ∈ lw_tbl, w.before #[Value.ref b] s = true) ∧ va_X b L xs s s.heap ∧ b < s.heap.size ∧ meth.locks = false ∧ (Jvm.Cond.and given_1 narrow_1).before #[Value.ref b] s = true
/-! ===== the law: both worlds ===== -/
def aX (b : Nat) : Nat → Prop := fun a => b ≤ a ∧ a < b + 504
def aM (b : Nat) : Nat → Prop := fun a => b + 504 ≤ a ∧ a < b + 518
def okL (D : va_G) (q : Nat → ClassId) (s : State) (bX : Nat) (h g : Hs) (H : Heap) (locs : List Loc) : Prop :=
  (va_K D vwCl (tyQ q) s ∧ nwD s ∧ s.heap.size ≤ bX) ∧ (va_P D vwCl (wX q (fun i => bX + i) h) H ∧ va_D (aX bX) (wX q (fun i => bX + i) h)) ∧ (va_P D vwCl (wM q (fun i => bX + 504 + i) g) H ∧ va_D (aM bX) (wM q (fun i => bX + 504 + i) g)) ∧ bX + 518 ≤ H.size ∧ va_S (fun a : Nat => s.heap.size ≤ a) s.heap H locs
theorem sw36 {x : Int32} (h : ∀ k : Nat, k < 36 → ¬ x = nI k) : x.toInt < 0 ∨ 35 < x.toInt := by
  rcases Int.lt_or_le x.toInt 0 with h1 | h1
  · exact Or.inl h1
  · rcases Int.lt_or_le 35 x.toInt with h2 | h2
    · exact Or.inr h2
    · exfalso
      obtain ⟨k, hk⟩ : ∃ k : Nat, x.toInt = (k : Int) := ⟨x.toInt.toNat, by omega⟩
      refine h k (by omega) (Int32.toInt_inj.mp ?_)
      rw [nI_toInt (by omega), hk]
section LawRows
variable {p : Program} {l : Launch} {e : Env} {R : Room} {s : State} {m : MethodId} {args : Array Value} {below : List Frame} {meth : Method} {c : Code} {H : Heap} {locs : List Loc} {Q : State → Prop} {cc : ByteArray} {nL pc cells slots : Nat} {ls : Array Slot} {rest : List Value} {D : va_G} {q : Nat → ClassId} {own : String} {bX : Nat} {h g : Hs} {y : MethodName} {bytes : ByteArray} {maxL index n : Nat} {ret : Option FieldType} {rm : Room} {As st0 : List Value}
theorem okL.preX (G : okL D q s bX h g H locs) {U : State} (hU : U.heap = H) (hW : s.WarmedH U.vm) : pW D q (aX bX) (wX q (fun i => bX + i) h) U :=
  ⟨va_K.moved hW.alike G.1.1, va_Nw.warmM hW G.1.2.1, by rw [hU]; exact G.2.1.1, G.2.1.2⟩
theorem okL.preM (G : okL D q s bX h g H locs) {U : State} (hU : U.heap = H) (hW : s.WarmedH U.vm) : pW D q (aM bX) (wM q (fun i => bX + 504 + i) g) U :=
  ⟨va_K.moved hW.alike G.1.1, va_Nw.warmM hW G.1.2.1, by rw [hU]; exact G.2.2.1.1, G.2.2.1.2⟩
theorem wG_adr {N : Nat} {ent : EntF} {ad : Nat → Nat} {h : Hs} {k : Nat} {x : Nat × va_E} (hx : (wG N ent ad h)[k]? = some x) : k < N ∧ x.1 = ad k := by
  unfold wG at hx
  rw [List.getElem?_map] at hx
  by_cases h9 : k < N
  · rw [List.getElem?_range h9] at hx
    cases hx
    exact ⟨h9, rfl⟩
  · rw [List.getElem?_eq_none (by rw [List.length_range]; omega)] at hx
    cases hx
theorem okL.backX {h' : Hs} {t : State} {H1 : Heap} {locs1 : List Loc} (G : okL D q s bX h g H locs) (hB : pW D q (aX bX) (wX q (fun i => bX + i) h') t) (ht : t.heap = H1) (hz : H.size ≤ H1.size) (hk : ∀ x : Nat, x < H.size → ¬ aX bX x → H1[x]? = H[x]?) (hS : va_S (fun a : Nat => s.heap.size ≤ a) s.heap H1 locs1) : okL D q s bX h' g H1 locs1 := by
  refine ⟨G.1, ⟨by rw [← ht]; exact hB.2.2.1, hB.2.2.2⟩, ⟨G.2.2.1.1.kept (fun k x hx => ?_), G.2.2.1.2⟩, by have := G.2.2.2.1; omega, hS⟩
  obtain ⟨h1, h2⟩ := wG_adr hx
  rw [h2]
  refine hk _ (by have := G.2.2.2.1; show bX + 504 + k < _; omega) (fun h3 => ?_)
  have : bX + 504 + k < bX + 504 := h3.2
  omega
theorem okL.backM {g' : Hs} {t : State} {H1 : Heap} {locs1 : List Loc} (G : okL D q s bX h g H locs) (hB : pW D q (aM bX) (wM q (fun i => bX + 504 + i) g') t) (ht : t.heap = H1) (hz : H.size ≤ H1.size) (hk : ∀ x : Nat, x < H.size → ¬ aM bX x → H1[x]? = H[x]?) (hS : va_S (fun a : Nat => s.heap.size ≤ a) s.heap H1 locs1) : okL D q s bX h g' H1 locs1 := by
  refine ⟨G.1, ⟨G.2.1.1.kept (fun k x hx => ?_), G.2.1.2⟩, ⟨by rw [← ht]; exact hB.2.2.1, hB.2.2.2⟩, by have := G.2.2.2.1; omega, hS⟩
  obtain ⟨h1, h2⟩ := wG_adr hx
  rw [h2]
  refine hk _ (by have := G.2.2.2.1; show bX + k < _; omega) (fun h3 => ?_)
  have : bX + 504 ≤ bX + k := h3.1
  omega
theorem l_Xi (S : CallFix p m c cc nL s args gW own) (hsz : ls.size = nL) (G : okL D q s bX h g H locs) {Qp : Int32 → Hs → Prop} (hM : Met l y (mw y bytes maxL ret) rm (va_Pc (.ref (bX + 0) :: As) (pW D q (aX bX) (wX q (fun i => bX + i) h))) (va_Qi Qp (fun h t => pW D q (aX bX) (wX q (fun i => bX + i) h) t) (aX bX)) 0 0 (aX bX)) (cw : CallW R s args own RX9 index y bytes maxL ret (mw y bytes maxL ret) rm 0 0 n) (hn : As.length = n) (hst : st0 = As.reverse ++ .ref bX :: rest) (hW : (rest.map fun v => v.category).sum ≤ 8) (hdg : decode cc pc = .ok (.invokevirtual index, 3)) (hr : cells ≤ R.cells ∧ slots ≤ R.slots)
    (kk : ∀ (r : Int32) (h' : Hs) (H1 : Heap) (locs1 : List Loc), okL D q s bX h' g H1 locs1 → Qp r h' → W p l e R s m args below meth c H1 locs1 cells slots Q (F0 m (pc + 3) ls (.int r :: rest))) : W p l e R s m args below meth c H locs cells slots Q (F0 m pc ls st0) :=
  va_calli (va_runV (rest := rest) S hM cw ⟨pW_blind, va_recv G.1.1 G.2.1.1 (ci := 9) (q0 := 0) rfl (xe_10 kx_0), fun U hU hW => ⟨rfl, G.preX hU hW⟩⟩ rfl hn hsz hst (lv_room hW) hdg hr) G.2.2.2.2 (fun x _ h => Nat.le_trans G.1.2.2 h.1) (fun x h => Nat.le_trans G.1.2.2 h.1) (fun r u t H1 locs1 ht hvm hw hB hz1 hk1 hS => kk r u H1 locs1 (G.backX hB ht hz1 hk1 hS) hw)
theorem l_Xl (S : CallFix p m c cc nL s args gW own) (hsz : ls.size = nL) (G : okL D q s bX h g H locs) {Qp : Int64 → Hs → Prop} (hM : Met l y (mw y bytes maxL ret) rm (va_Pc (.ref (bX + 0) :: As) (pW D q (aX bX) (wX q (fun i => bX + i) h))) (va_Ql Qp (fun h t => pW D q (aX bX) (wX q (fun i => bX + i) h) t) (aX bX)) 0 0 (aX bX)) (cw : CallW R s args own RX9 index y bytes maxL ret (mw y bytes maxL ret) rm 0 0 n) (hn : As.length = n) (hst : st0 = As.reverse ++ .ref bX :: rest) (hW : (rest.map fun v => v.category).sum ≤ 8) (hdg : decode cc pc = .ok (.invokevirtual index, 3)) (hr : cells ≤ R.cells ∧ slots ≤ R.slots)
    (kk : ∀ (r : Int64) (h' : Hs) (H1 : Heap) (locs1 : List Loc), okL D q s bX h' g H1 locs1 → Qp r h' → W p l e R s m args below meth c H1 locs1 cells slots Q (F0 m (pc + 3) ls (.long r :: rest))) : W p l e R s m args below meth c H locs cells slots Q (F0 m pc ls st0) :=
  va_calll (va_runV (rest := rest) S hM cw ⟨pW_blind, va_recv G.1.1 G.2.1.1 (ci := 9) (q0 := 0) rfl (xe_10 kx_0), fun U hU hW => ⟨rfl, G.preX hU hW⟩⟩ rfl hn hsz hst (lv_room hW) hdg hr) G.2.2.2.2 (fun x _ h => Nat.le_trans G.1.2.2 h.1) (fun x h => Nat.le_trans G.1.2.2 h.1) (fun r u t H1 locs1 ht hvm hw hB hz1 hk1 hS => kk r u H1 locs1 (G.backX hB ht hz1 hk1 hS) hw)
theorem l_Mi (S : CallFix p m c cc nL s args gW own) (hsz : ls.size = nL) (G : okL D q s bX h g H locs) {Qp : Int32 → Hs → Prop} (hM : Met l y (mw y bytes maxL ret) rm (va_Pc (.ref (bX + 504 + 0) :: As) (pW D q (aM bX) (wM q (fun i => bX + 504 + i) g))) (va_Qi Qp (fun h t => pW D q (aM bX) (wM q (fun i => bX + 504 + i) h) t) (aM bX)) 0 0 (aM bX)) (cw : CallW R s args own RX10 index y bytes maxL ret (mw y bytes maxL ret) rm 0 0 n) (hn : As.length = n) (hst : st0 = As.reverse ++ .ref (bX + 504) :: rest) (hW : (rest.map fun v => v.category).sum ≤ 8) (hdg : decode cc pc = .ok (.invokevirtual index, 3)) (hr : cells ≤ R.cells ∧ slots ≤ R.slots)
    (kk : ∀ (r : Int32) (g' : Hs) (H1 : Heap) (locs1 : List Loc), okL D q s bX h g' H1 locs1 → Qp r g' → W p l e R s m args below meth c H1 locs1 cells slots Q (F0 m (pc + 3) ls (.int r :: rest))) : W p l e R s m args below meth c H locs cells slots Q (F0 m pc ls st0) :=
  va_calli (va_runV (rest := rest) S hM cw ⟨pW_blind, va_recv G.1.1 G.2.2.1.1 (ci := 10) (q0 := 0) rfl (me_11 km_0), fun U hU hW => ⟨rfl, G.preM hU hW⟩⟩ rfl hn hsz hst (lv_room hW) hdg hr) G.2.2.2.2 (fun x _ h => Nat.le_trans G.1.2.2 (Nat.le_trans (Nat.le_add_right _ _) h.1)) (fun x h => Nat.le_trans G.1.2.2 (Nat.le_trans (Nat.le_add_right _ _) h.1)) (fun r u t H1 locs1 ht hvm hw hB hz1 hk1 hS => kk r u H1 locs1 (G.backM hB ht hz1 hk1 hS) hw)
theorem l_Ml (S : CallFix p m c cc nL s args gW own) (hsz : ls.size = nL) (G : okL D q s bX h g H locs) {Qp : Int64 → Hs → Prop} (hM : Met l y (mw y bytes maxL ret) rm (va_Pc (.ref (bX + 504 + 0) :: As) (pW D q (aM bX) (wM q (fun i => bX + 504 + i) g))) (va_Ql Qp (fun h t => pW D q (aM bX) (wM q (fun i => bX + 504 + i) h) t) (aM bX)) 0 0 (aM bX)) (cw : CallW R s args own RX10 index y bytes maxL ret (mw y bytes maxL ret) rm 0 0 n) (hn : As.length = n) (hst : st0 = As.reverse ++ .ref (bX + 504) :: rest) (hW : (rest.map fun v => v.category).sum ≤ 8) (hdg : decode cc pc = .ok (.invokevirtual index, 3)) (hr : cells ≤ R.cells ∧ slots ≤ R.slots)
    (kk : ∀ (r : Int64) (g' : Hs) (H1 : Heap) (locs1 : List Loc), okL D q s bX h g' H1 locs1 → Qp r g' → W p l e R s m args below meth c H1 locs1 cells slots Q (F0 m (pc + 3) ls (.long r :: rest))) : W p l e R s m args below meth c H locs cells slots Q (F0 m pc ls st0) :=
  va_calll (va_runV (rest := rest) S hM cw ⟨pW_blind, va_recv G.1.1 G.2.2.1.1 (ci := 10) (q0 := 0) rfl (me_11 km_0), fun U hU hW => ⟨rfl, G.preM hU hW⟩⟩ rfl hn hsz hst (lv_room hW) hdg hr) G.2.2.2.2 (fun x _ h => Nat.le_trans G.1.2.2 (Nat.le_trans (Nat.le_add_right _ _) h.1)) (fun x h => Nat.le_trans G.1.2.2 (Nat.le_trans (Nat.le_add_right _ _) h.1)) (fun r u t H1 locs1 ht hvm hw hB hz1 hk1 hS => kk r u H1 locs1 (G.backM hB ht hz1 hk1 hS) hw)
end LawRows
theorem l_ret {p : Program} {l : Launch} {e : Env} {s : State} {m : MethodId} {below : List Frame} {meth : Method} {c : Code} {D : va_G} {q : Nat → ClassId} {b L bX pc : Nat} {xs : Nat → Int32} {h g : Hs} {H : Heap} {locs : List Loc} {ls : Array Slot} (C0 : lw_At p s m meth c b L xs) (G : okL D q s bX h g H locs) (hdg : decode cL_law pc = .ok (.ireturn, 1)) : W p l e room_1 s m #[Value.ref b] below meth c H locs 600 1200000 (lw_Z below #[Value.ref b] s) (F0 m pc ls [.int 1]) := by
  refine va_forget (fun q hq => G.2.2.2.2.2.2 q hq) ?_
  refine W.widen (k := 600000) (n := 7302250) (Nat.le_of_ble_eq_true rfl) (Nat.le_of_ble_eq_true rfl) ?_
  exact lw_ret C0.1 C0.2.1 C0.2.2.1 C0.2.2.2.2.2.2.2.2.1 hdg
