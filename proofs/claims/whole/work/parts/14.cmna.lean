/-! ===== new int[n][k] ===== -/
theorem outerC_eq (c : ClassId) (N h0 : Nat) : ∀ i : Nat, Jvm.Free.Multi.outerC c N h0 i = arrV c N (fun j => va_rf (if j < i then some (h0 + 1 + j) else none))
  | 0 => by
    show ({ cls := c, slots := Array.replicate N .null, vm := .none } : Cell) = _
    rw [arrV_new]
    refine congrArg (arrV c N) (funext fun j => ?_)
    simp [va_rf]
  | i + 1 => by
    show (Jvm.Free.Multi.outerC c N h0 i).setSlot i (.ref (h0 + 1 + i)) = _
    rw [outerC_eq c N h0 i, arrV_store]
    refine congrArg (arrV c N) (funext fun j => ?_)
    by_cases e : j = i
    · subst e
      simp [updV, va_rf]
    · by_cases h : j < i
      · simp [updV, e, h, Nat.lt_succ_of_lt h]
      · simp [updV, e, h, show ¬ j < i + 1 by omega]
section MnaRow
variable {p : Program} {l : Launch} {e : Env} {R : Room} {s : State} {m : MethodId} {args : Array Value} {below : List Frame} {meth : Method} {c : Code} {H : Heap} {locs : List Loc} {Q : State → Prop} {cc : ByteArray} {nL pc : Nat} {ls : Array Slot} {rest : List Value} {D : va_G} {q : Nat → ClassId} {A : Nat → Prop} {own : String} {b n d : Nat} {ent : EntF} {h : Hs}
theorem c_mna (S : CallFix p m c cc nL s args gW own) (G : okC D q A s b n ent h H locs) {index : Nat} (k1 : Cond.classLink own index "[[I" ∈ gW) (ka : Cond.arrayClass .int ∈ gW) {r k : Int32} {N K : Nat} (he0 : ent n (fun _ => 0) (fun _ => 0) (fun _ => 0) = .inl (q 22, N, .inr (.inr (.inr (.inr (fun i => if i < N then some (b + (n + 1 + 1 * i)) else none)))))) (he1 : ∀ i, i < N → ent (n + 1 + 1 * i) (fun _ => 0) (fun _ => 0) (fun _ => 0) = .inl (q 20, K, .inl (fun _ => 0))) (hn : ¬ r < 0) (hk : ¬ k < 0) (hN : r.toNatClampNeg = N) (hK : k.toNatClampNeg = K) (hb1 : N ≤ 1000) (hb2 : K ≤ 1000) (hr1 : d + (1 + N) ≤ R.cells) (hr2 : 2000 * (d + (1 + N)) ≤ R.slots) (hdg : decode cc pc = .ok (.multianewarray index 2, 4))
    (kk : ∀ H1 : Heap, okC D q A s b (n + (1 + N)) ent (zr h n (1 + N)) H1 locs → W p l e R s m args below meth c H1 locs (d + (1 + N)) (2000 * (d + (1 + N))) Q (F0 m (pc + 4) ls (.ref (b + n) :: rest))) : W p l e R s m args below meth c H locs d (2000 * d) Q (F0 m pc ls (.int k :: .int r :: rest)) := by
  subst hN
  subst hK
  intro T hT Xs
  have hcl : (Cond.classLink own index ("[" ++ (FieldType.array .int).toString)).before args s = true := by
    have e9 : "[" ++ (FieldType.array .int).toString = "[[I" := by decide +kernel
    rw [e9]
    exact S.2.2.2.2 _ k1
  have hNK : r.toNatClampNeg * k.toNatClampNeg ≤ r.toNatClampNeg * 1000 := Nat.mul_le_mul_left _ hb2
  obtain ⟨vm₁, cA, comp, -, fA, fC, hO, -, X', step⟩ := Jvm.Stand.multianewarray2F (ty := .int) Xs S.1 S.2.2.2.1 hcl G.2.2.1.2.2.2.2 (S.2.2.2.2 _ ka) (g := F0 m pc ls (.int k :: .int r :: rest)) rfl (by rw [S.2.1]; exact hdg) rfl hn hk (by omega) (by show _ * 4 ≤ _; omega) (by omega) rfl rfl (by omega) (by omega)
  have hK := G.1.1
  have ecA : cA = q 22 := by
    have h2 := (hK.2 2 _ rfl).2
    exact Option.some.inj (fA.symm.trans h2)
  have ecm : comp = q 20 := by
    have h2 := (hK.2 0 _ rfl).2
    have e9 : (FieldType.array .int).toString = "[" ++ (FieldType.int).toString := by decide +kernel
    rw [e9] at fC
    exact Option.some.inj (fC.symm.trans h2)
  subst ecA
  subst ecm
  generalize hF : Jvm.Free.Multi.fill (T.setVm vm₁) (q 22) (q 20) r.toNatClampNeg k.toNatClampNeg (defaultValue .int) r.toNatClampNeg = F at X' step
  have hTh : (T.setVm vm₁).heap = H := hT
  obtain ⟨f1, f2, -, -⟩ := Jvm.Free.Multi.fill_facts (T.setVm vm₁) (q 22) (q 20) r.toNatClampNeg k.toNatClampNeg (defaultValue .int) r.toNatClampNeg
  rw [hF, hTh] at f1 f2
  have hold : ∀ x : Nat, x < H.size → F.heap[x]? = H[x]? := fun x hx => by
    have := Jvm.Free.Multi.fill_old (T.setVm vm₁) (q 22) (q 20) r.toNatClampNeg k.toNatClampNeg (defaultValue .int) (a := x) (by rw [hTh]; exact hx) r.toNatClampNeg
    rw [hF, hTh] at this
    exact this
  have hrow : ∀ j : Nat, j < r.toNatClampNeg → F.heap[H.size + 1 + j]? = some (vp_cell (q 20) (k.toNatClampNeg, .inl (fun _ => 0))) := fun j hj => by
    have := Jvm.Free.Multi.fill_inner (T.setVm vm₁) (q 22) (q 20) r.toNatClampNeg k.toNatClampNeg (defaultValue .int) r.toNatClampNeg j hj
    rw [hF, hTh] at this
    rw [this]
    show some ({ cls := q 20, slots := Array.replicate k.toNatClampNeg (.int 0), vm := .none } : Cell) = _
    rw [arrV_new]
    rfl
  rw [outerC_eq] at f2
  have hz := G.2.1
  obtain ⟨⟨hK, hN0, hP, hD, hS⟩, -, hxw, hA⟩ := G
  generalize hZ : zr h n (1 + r.toNatClampNeg) = h'
  have hws : wB b (n + (1 + r.toNatClampNeg)) ent h' = wB b n ent h ++ (List.range (1 + r.toNatClampNeg)).map (fun i => (b + (n + i), ent (n + i) (fun _ => 0) (fun _ => 0) (fun _ => 0))) := by
    rw [← hZ]
    exact wG_grow _
  have hP1 : va_P D vwCl (wB b (n + (1 + r.toNatClampNeg)) ent h') F.heap := by
    rw [hws]
    refine (hP.kept (fun k9 x hx => hold x.1 ((hP k9 x hx).lt))).app (fun k9 x hx => ?_)
    rw [List.getElem?_map] at hx
    by_cases h9 : k9 < 1 + r.toNatClampNeg
    · rw [List.getElem?_range h9] at hx
      cases hx
      cases k9 with
      | zero =>
        show va_at D vwCl (b + n, ent n (fun _ => 0) (fun _ => 0) (fun _ => 0)) F.heap
        rw [he0]
        show F.heap[b + n]? = some (vp_cell _ _)
        rw [vp_cell_q, ← hz, f2, hz]
        congr 2
        funext j
        by_cases hj : j < r.toNatClampNeg
        · rw [if_pos hj, if_pos hj, show b + n + 1 + j = b + (n + 1 + 1 * j) by omega]
        · rw [if_neg hj, if_neg hj]
      | succ j =>
        have hj : j < r.toNatClampNeg := by omega
        show va_at D vwCl (b + (n + (j + 1)), ent (n + (j + 1)) (fun _ => 0) (fun _ => 0) (fun _ => 0)) F.heap
        rw [show n + (j + 1) = n + 1 + 1 * j by omega, he1 j hj]
        show F.heap[b + (n + 1 + 1 * j)]? = some (vp_cell _ _)
        rw [show b + (n + 1 + 1 * j) = H.size + 1 + j by omega]
        exact hrow j hj
    · rw [List.getElem?_eq_none (by rw [List.length_range]; omega)] at hx
      cases hx
  have hD1 : va_D A (wB b (n + (1 + r.toNatClampNeg)) ent h') := by
    have hget : ∀ (i : Nat) (x : Nat × va_E), (wB b (n + (1 + r.toNatClampNeg)) ent h')[i]? = some x → x.1 = b + i ∧ i < n + (1 + r.toNatClampNeg) := fun i x hx => by
      unfold wB wG at hx
      rw [List.getElem?_map] at hx
      by_cases h9 : i < n + (1 + r.toNatClampNeg)
      · rw [List.getElem?_range h9] at hx
        cases hx
        exact ⟨rfl, h9⟩
      · rw [List.getElem?_eq_none (by rw [List.length_range]; omega)] at hx
        cases hx
    refine ⟨fun i j x y hi hj hxy => ?_, fun i x hi => ?_⟩
    · have := (hget i x hi).1
      have := (hget j y hj).1
      omega
    · obtain ⟨e1, e2⟩ := hget i x hi
      by_cases hin : i < n
      · have hx : (wB b n ent h)[i]? = some (b + i, ent i (h.1 i) (h.2.1 i) (h.2.2 i)) := wG_get hin rfl
        rw [e1]
        exact hD.2 i _ hx
      · rw [e1]
        exact hA _ (by have := hS.1; omega)
  obtain ⟨t, a1, b1⟩ := W.widen (k := d + (1 + r.toNatClampNeg)) (n := 2000 * (d + (1 + r.toNatClampNeg))) (cells := d + 1 + r.toNatClampNeg) (slots := 2000 * d + r.toNatClampNeg + r.toNatClampNeg * k.toNatClampNeg) (by omega) (by omega) (kk F.heap ⟨⟨hK, hN0, hZ ▸ hP1, hZ ▸ hD1, by rw [f1]; have := hS.1; omega, fun x h1 h2 => (hold x (Nat.lt_of_lt_of_le h1 hS.1)).trans (hS.2.1 x h1 h2), hS.2.2⟩, by rw [f1]; omega, hxw, hA⟩) F rfl X'
  refine ⟨t, step t ?_, b1⟩
  have e9 : T.heap.size = b + n := by rw [hT, hz]
  rw [e9]
  exact a1
end MnaRow
