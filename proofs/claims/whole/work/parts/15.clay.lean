/-! ===== entries while making ===== -/
def eC (q : Nat → ClassId) (b : Nat) : EntF := fun o r1 r2 r3 => match kX o with
  | 1 => .inr (0, [rfC b (r3 0), .int (r1 1)])
  | 2 => .inr (1, [rfC b (r3 0), rfC b (r3 1), rfC b (r3 2), rfC b (r3 3)])
  | 3 => .inr (2, [rfC b (r3 0), rfC b (r3 1), rfC b (r3 2), rfC b (r3 3), rfC b (r3 4)])
  | 4 => .inr (3, [rfC b (r3 0), rfC b (r3 1), rfC b (r3 2), rfC b (r3 3), rfC b (r3 4), .int (r1 5), rfC b (r3 6), rfC b (r3 7), rfC b (r3 8), .int (r1 9)])
  | 5 => .inr (4, [rfC b (r3 0), rfC b (r3 1)])
  | 6 => .inr (5, [.int (r1 0), .int (r1 1), .int (r1 2), .int (r1 3), rfC b (r3 4), rfC b (r3 5), rfC b (r3 6), rfC b (r3 7), rfC b (r3 8), rfC b (r3 9), rfC b (r3 10), rfC b (r3 11), rfC b (r3 12), rfC b (r3 13), rfC b (r3 14), rfC b (r3 15), rfC b (r3 16)])
  | 7 => .inr (6, [rfC b (r3 0), rfC b (r3 1), .int (r1 2), .int (r1 3), .int (r1 4), .int (r1 5), .int (r1 6), .int (r1 7)])
  | 8 => .inr (7, [rfC b (r3 0), rfC b (r3 1), rfC b (r3 2), .int (r1 3), .int (r1 4)])
  | 9 => .inr (8, [rfC b (r3 0), rfC b (r3 1), rfC b (r3 2), rfC b (r3 3), rfC b (r3 4), rfC b (r3 5), rfC b (r3 6), rfC b (r3 7), .int (r1 8), rfC b (r3 9), rfC b (r3 10), .int (r1 11)])
  | 10 => .inr (9, [rfC b (r3 0), rfC b (r3 1), rfC b (r3 2), rfC b (r3 3), rfC b (r3 4), rfC b (r3 5), rfC b (r3 6), rfC b (r3 7), rfC b (r3 8), .int (r1 9), .int (r1 10), .int (r1 11)])
  | 20 => .inl (q 20, lX o, .inl r1)
  | 21 => .inl (q 21, lX o, .inl r1)
  | 22 => .inl (q 22, lX o, .inr (.inr (.inr (.inr (fun k => if k < lX o then some (b + (o + 1 + 1 * k)) else none)))))
  | 23 => .inl (q 23, lX o, .inr (.inr (.inr (.inr (fun k => if k < lX o then opC b (r3 k) else none)))))
  | 24 => .inl (q 24, lX o, .inr (.inr (.inr (.inr (fun k => if k < lX o then opC b (r3 k) else none)))))
  | 25 => .inl (q 25, lX o, .inr (.inr (.inr (.inr (fun k => if k < lX o then opC b (r3 k) else none)))))
  | _ => .inr (0, [])
def eN (q : Nat → ClassId) (b : Nat) : EntF := fun o r1 r2 r3 => match kM o with
  | 11 => .inr (10, [rfC b (r3 0), rfC b (r3 1), rfC b (r3 2), rfC b (r3 3), rfC b (r3 4), rfC b (r3 5), .int (r1 6), .int (r1 7), .int (r1 8), .int (r1 9), .int (r1 10), .int (r1 11), rfC b (r3 12), rfC b (r3 13), rfC b (r3 14), rfC b (r3 15), .int (r1 16), .int (r1 17), rfC b (r3 18), rfC b (r3 19), rfC b (r3 20)])
  | 20 => .inl (q 20, lM o, .inl r1)
  | 21 => .inl (q 21, lM o, .inl r1)
  | 26 => .inl (q 26, lM o, .inr (.inl r2))
  | _ => .inr (0, [])
theorem ce_1 {q : Nat → ClassId} {b n : Nat} {h : Hs} {o : Nat} (ho : o < n) (hk : kX o = 1) : (wB b n (eC q b) h)[o]? = some (b + o, .inr (0, [rfC b (gr h o 0), .int (gi h o 1)])) := wG_get ho (by unfold eC; rw [hk]; rfl)
theorem cz_1 {q : Nat → ClassId} {b o : Nat} (hk : kX o = 1) : eC q b o (fun _ => 0) (fun _ => 0) (fun _ => 0) = .inr (0, [.null, .int 0]) := by unfold eC; rw [hk]; rfl
theorem cf_1 : ∀ j, j < 2 → defaultValue (tyX0 j) = vp_V [.null, .int 0] j := by
  intro j hj
  match j, hj with
  | 0, _ => rfl
  | 1, _ => rfl
  | j + 2, hj => exact absurd hj (by omega)
theorem cp_1_0 {q : Nat → ClassId} {b n : Nat} {h : Hs} {o : Nat} {v : Nat} (hk : kX o = 1) : (wB b n (eC q b) h).set o (b + o, .inr (0, ([rfC b (gr h o 0), .int (gi h o 1)] : List Value).set 0 (.ref (b + v)))) = wB b n (eC q b) (sr h o 0 (v + 1)) := wG_sr (by unfold eC; rw [hk]; rfl)
theorem cp_1_1 {q : Nat → ClassId} {b n : Nat} {h : Hs} {o : Nat} {v : Int32} (hk : kX o = 1) : (wB b n (eC q b) h).set o (b + o, .inr (0, ([rfC b (gr h o 0), .int (gi h o 1)] : List Value).set 1 (.int v))) = wB b n (eC q b) (si h o 1 v) := wG_si (by unfold eC; rw [hk]; rfl)
theorem ce_2 {q : Nat → ClassId} {b n : Nat} {h : Hs} {o : Nat} (ho : o < n) (hk : kX o = 2) : (wB b n (eC q b) h)[o]? = some (b + o, .inr (1, [rfC b (gr h o 0), rfC b (gr h o 1), rfC b (gr h o 2), rfC b (gr h o 3)])) := wG_get ho (by unfold eC; rw [hk]; rfl)
theorem cz_2 {q : Nat → ClassId} {b o : Nat} (hk : kX o = 2) : eC q b o (fun _ => 0) (fun _ => 0) (fun _ => 0) = .inr (1, [.null, .null, .null, .null]) := by unfold eC; rw [hk]; rfl
theorem cf_2 : ∀ j, j < 4 → defaultValue (tyX1 j) = vp_V [.null, .null, .null, .null] j := by
  intro j hj
  match j, hj with
  | 0, _ => rfl
  | 1, _ => rfl
  | 2, _ => rfl
  | 3, _ => rfl
  | j + 4, hj => exact absurd hj (by omega)
theorem cp_2_0 {q : Nat → ClassId} {b n : Nat} {h : Hs} {o : Nat} {v : Nat} (hk : kX o = 2) : (wB b n (eC q b) h).set o (b + o, .inr (1, ([rfC b (gr h o 0), rfC b (gr h o 1), rfC b (gr h o 2), rfC b (gr h o 3)] : List Value).set 0 (.ref (b + v)))) = wB b n (eC q b) (sr h o 0 (v + 1)) := wG_sr (by unfold eC; rw [hk]; rfl)
theorem cp_2_1 {q : Nat → ClassId} {b n : Nat} {h : Hs} {o : Nat} {v : Nat} (hk : kX o = 2) : (wB b n (eC q b) h).set o (b + o, .inr (1, ([rfC b (gr h o 0), rfC b (gr h o 1), rfC b (gr h o 2), rfC b (gr h o 3)] : List Value).set 1 (.ref (b + v)))) = wB b n (eC q b) (sr h o 1 (v + 1)) := wG_sr (by unfold eC; rw [hk]; rfl)
theorem cp_2_2 {q : Nat → ClassId} {b n : Nat} {h : Hs} {o : Nat} {v : Nat} (hk : kX o = 2) : (wB b n (eC q b) h).set o (b + o, .inr (1, ([rfC b (gr h o 0), rfC b (gr h o 1), rfC b (gr h o 2), rfC b (gr h o 3)] : List Value).set 2 (.ref (b + v)))) = wB b n (eC q b) (sr h o 2 (v + 1)) := wG_sr (by unfold eC; rw [hk]; rfl)
theorem cp_2_3 {q : Nat → ClassId} {b n : Nat} {h : Hs} {o : Nat} {v : Nat} (hk : kX o = 2) : (wB b n (eC q b) h).set o (b + o, .inr (1, ([rfC b (gr h o 0), rfC b (gr h o 1), rfC b (gr h o 2), rfC b (gr h o 3)] : List Value).set 3 (.ref (b + v)))) = wB b n (eC q b) (sr h o 3 (v + 1)) := wG_sr (by unfold eC; rw [hk]; rfl)
theorem ce_3 {q : Nat → ClassId} {b n : Nat} {h : Hs} {o : Nat} (ho : o < n) (hk : kX o = 3) : (wB b n (eC q b) h)[o]? = some (b + o, .inr (2, [rfC b (gr h o 0), rfC b (gr h o 1), rfC b (gr h o 2), rfC b (gr h o 3), rfC b (gr h o 4)])) := wG_get ho (by unfold eC; rw [hk]; rfl)
theorem cz_3 {q : Nat → ClassId} {b o : Nat} (hk : kX o = 3) : eC q b o (fun _ => 0) (fun _ => 0) (fun _ => 0) = .inr (2, [.null, .null, .null, .null, .null]) := by unfold eC; rw [hk]; rfl
theorem cf_3 : ∀ j, j < 5 → defaultValue (tyX2 j) = vp_V [.null, .null, .null, .null, .null] j := by
  intro j hj
  match j, hj with
  | 0, _ => rfl
  | 1, _ => rfl
  | 2, _ => rfl
  | 3, _ => rfl
  | 4, _ => rfl
  | j + 5, hj => exact absurd hj (by omega)
theorem cp_3_0 {q : Nat → ClassId} {b n : Nat} {h : Hs} {o : Nat} {v : Nat} (hk : kX o = 3) : (wB b n (eC q b) h).set o (b + o, .inr (2, ([rfC b (gr h o 0), rfC b (gr h o 1), rfC b (gr h o 2), rfC b (gr h o 3), rfC b (gr h o 4)] : List Value).set 0 (.ref (b + v)))) = wB b n (eC q b) (sr h o 0 (v + 1)) := wG_sr (by unfold eC; rw [hk]; rfl)
theorem cp_3_1 {q : Nat → ClassId} {b n : Nat} {h : Hs} {o : Nat} {v : Nat} (hk : kX o = 3) : (wB b n (eC q b) h).set o (b + o, .inr (2, ([rfC b (gr h o 0), rfC b (gr h o 1), rfC b (gr h o 2), rfC b (gr h o 3), rfC b (gr h o 4)] : List Value).set 1 (.ref (b + v)))) = wB b n (eC q b) (sr h o 1 (v + 1)) := wG_sr (by unfold eC; rw [hk]; rfl)
theorem cp_3_2 {q : Nat → ClassId} {b n : Nat} {h : Hs} {o : Nat} {v : Nat} (hk : kX o = 3) : (wB b n (eC q b) h).set o (b + o, .inr (2, ([rfC b (gr h o 0), rfC b (gr h o 1), rfC b (gr h o 2), rfC b (gr h o 3), rfC b (gr h o 4)] : List Value).set 2 (.ref (b + v)))) = wB b n (eC q b) (sr h o 2 (v + 1)) := wG_sr (by unfold eC; rw [hk]; rfl)
theorem cp_3_3 {q : Nat → ClassId} {b n : Nat} {h : Hs} {o : Nat} {v : Nat} (hk : kX o = 3) : (wB b n (eC q b) h).set o (b + o, .inr (2, ([rfC b (gr h o 0), rfC b (gr h o 1), rfC b (gr h o 2), rfC b (gr h o 3), rfC b (gr h o 4)] : List Value).set 3 (.ref (b + v)))) = wB b n (eC q b) (sr h o 3 (v + 1)) := wG_sr (by unfold eC; rw [hk]; rfl)
theorem cp_3_4 {q : Nat → ClassId} {b n : Nat} {h : Hs} {o : Nat} {v : Nat} (hk : kX o = 3) : (wB b n (eC q b) h).set o (b + o, .inr (2, ([rfC b (gr h o 0), rfC b (gr h o 1), rfC b (gr h o 2), rfC b (gr h o 3), rfC b (gr h o 4)] : List Value).set 4 (.ref (b + v)))) = wB b n (eC q b) (sr h o 4 (v + 1)) := wG_sr (by unfold eC; rw [hk]; rfl)
theorem ce_4 {q : Nat → ClassId} {b n : Nat} {h : Hs} {o : Nat} (ho : o < n) (hk : kX o = 4) : (wB b n (eC q b) h)[o]? = some (b + o, .inr (3, [rfC b (gr h o 0), rfC b (gr h o 1), rfC b (gr h o 2), rfC b (gr h o 3), rfC b (gr h o 4), .int (gi h o 5), rfC b (gr h o 6), rfC b (gr h o 7), rfC b (gr h o 8), .int (gi h o 9)])) := wG_get ho (by unfold eC; rw [hk]; rfl)
theorem cz_4 {q : Nat → ClassId} {b o : Nat} (hk : kX o = 4) : eC q b o (fun _ => 0) (fun _ => 0) (fun _ => 0) = .inr (3, [.null, .null, .null, .null, .null, .int 0, .null, .null, .null, .int 0]) := by unfold eC; rw [hk]; rfl
theorem cf_4 : ∀ j, j < 10 → defaultValue (tyX3 j) = vp_V [.null, .null, .null, .null, .null, .int 0, .null, .null, .null, .int 0] j := by
  intro j hj
  match j, hj with
  | 0, _ => rfl
  | 1, _ => rfl
  | 2, _ => rfl
  | 3, _ => rfl
  | 4, _ => rfl
  | 5, _ => rfl
  | 6, _ => rfl
  | 7, _ => rfl
  | 8, _ => rfl
  | 9, _ => rfl
  | j + 10, hj => exact absurd hj (by omega)
theorem cp_4_0 {q : Nat → ClassId} {b n : Nat} {h : Hs} {o : Nat} {v : Nat} (hk : kX o = 4) : (wB b n (eC q b) h).set o (b + o, .inr (3, ([rfC b (gr h o 0), rfC b (gr h o 1), rfC b (gr h o 2), rfC b (gr h o 3), rfC b (gr h o 4), .int (gi h o 5), rfC b (gr h o 6), rfC b (gr h o 7), rfC b (gr h o 8), .int (gi h o 9)] : List Value).set 0 (.ref (b + v)))) = wB b n (eC q b) (sr h o 0 (v + 1)) := wG_sr (by unfold eC; rw [hk]; rfl)
theorem cp_4_1 {q : Nat → ClassId} {b n : Nat} {h : Hs} {o : Nat} {v : Nat} (hk : kX o = 4) : (wB b n (eC q b) h).set o (b + o, .inr (3, ([rfC b (gr h o 0), rfC b (gr h o 1), rfC b (gr h o 2), rfC b (gr h o 3), rfC b (gr h o 4), .int (gi h o 5), rfC b (gr h o 6), rfC b (gr h o 7), rfC b (gr h o 8), .int (gi h o 9)] : List Value).set 1 (.ref (b + v)))) = wB b n (eC q b) (sr h o 1 (v + 1)) := wG_sr (by unfold eC; rw [hk]; rfl)
theorem cp_4_2 {q : Nat → ClassId} {b n : Nat} {h : Hs} {o : Nat} {v : Nat} (hk : kX o = 4) : (wB b n (eC q b) h).set o (b + o, .inr (3, ([rfC b (gr h o 0), rfC b (gr h o 1), rfC b (gr h o 2), rfC b (gr h o 3), rfC b (gr h o 4), .int (gi h o 5), rfC b (gr h o 6), rfC b (gr h o 7), rfC b (gr h o 8), .int (gi h o 9)] : List Value).set 2 (.ref (b + v)))) = wB b n (eC q b) (sr h o 2 (v + 1)) := wG_sr (by unfold eC; rw [hk]; rfl)
theorem cp_4_3 {q : Nat → ClassId} {b n : Nat} {h : Hs} {o : Nat} {v : Nat} (hk : kX o = 4) : (wB b n (eC q b) h).set o (b + o, .inr (3, ([rfC b (gr h o 0), rfC b (gr h o 1), rfC b (gr h o 2), rfC b (gr h o 3), rfC b (gr h o 4), .int (gi h o 5), rfC b (gr h o 6), rfC b (gr h o 7), rfC b (gr h o 8), .int (gi h o 9)] : List Value).set 3 (.ref (b + v)))) = wB b n (eC q b) (sr h o 3 (v + 1)) := wG_sr (by unfold eC; rw [hk]; rfl)
theorem cp_4_4 {q : Nat → ClassId} {b n : Nat} {h : Hs} {o : Nat} {v : Nat} (hk : kX o = 4) : (wB b n (eC q b) h).set o (b + o, .inr (3, ([rfC b (gr h o 0), rfC b (gr h o 1), rfC b (gr h o 2), rfC b (gr h o 3), rfC b (gr h o 4), .int (gi h o 5), rfC b (gr h o 6), rfC b (gr h o 7), rfC b (gr h o 8), .int (gi h o 9)] : List Value).set 4 (.ref (b + v)))) = wB b n (eC q b) (sr h o 4 (v + 1)) := wG_sr (by unfold eC; rw [hk]; rfl)
theorem cp_4_5 {q : Nat → ClassId} {b n : Nat} {h : Hs} {o : Nat} {v : Int32} (hk : kX o = 4) : (wB b n (eC q b) h).set o (b + o, .inr (3, ([rfC b (gr h o 0), rfC b (gr h o 1), rfC b (gr h o 2), rfC b (gr h o 3), rfC b (gr h o 4), .int (gi h o 5), rfC b (gr h o 6), rfC b (gr h o 7), rfC b (gr h o 8), .int (gi h o 9)] : List Value).set 5 (.int v))) = wB b n (eC q b) (si h o 5 v) := wG_si (by unfold eC; rw [hk]; rfl)
theorem cp_4_6 {q : Nat → ClassId} {b n : Nat} {h : Hs} {o : Nat} {v : Nat} (hk : kX o = 4) : (wB b n (eC q b) h).set o (b + o, .inr (3, ([rfC b (gr h o 0), rfC b (gr h o 1), rfC b (gr h o 2), rfC b (gr h o 3), rfC b (gr h o 4), .int (gi h o 5), rfC b (gr h o 6), rfC b (gr h o 7), rfC b (gr h o 8), .int (gi h o 9)] : List Value).set 6 (.ref (b + v)))) = wB b n (eC q b) (sr h o 6 (v + 1)) := wG_sr (by unfold eC; rw [hk]; rfl)
theorem cp_4_7 {q : Nat → ClassId} {b n : Nat} {h : Hs} {o : Nat} {v : Nat} (hk : kX o = 4) : (wB b n (eC q b) h).set o (b + o, .inr (3, ([rfC b (gr h o 0), rfC b (gr h o 1), rfC b (gr h o 2), rfC b (gr h o 3), rfC b (gr h o 4), .int (gi h o 5), rfC b (gr h o 6), rfC b (gr h o 7), rfC b (gr h o 8), .int (gi h o 9)] : List Value).set 7 (.ref (b + v)))) = wB b n (eC q b) (sr h o 7 (v + 1)) := wG_sr (by unfold eC; rw [hk]; rfl)
theorem cp_4_8 {q : Nat → ClassId} {b n : Nat} {h : Hs} {o : Nat} {v : Nat} (hk : kX o = 4) : (wB b n (eC q b) h).set o (b + o, .inr (3, ([rfC b (gr h o 0), rfC b (gr h o 1), rfC b (gr h o 2), rfC b (gr h o 3), rfC b (gr h o 4), .int (gi h o 5), rfC b (gr h o 6), rfC b (gr h o 7), rfC b (gr h o 8), .int (gi h o 9)] : List Value).set 8 (.ref (b + v)))) = wB b n (eC q b) (sr h o 8 (v + 1)) := wG_sr (by unfold eC; rw [hk]; rfl)
theorem cp_4_9 {q : Nat → ClassId} {b n : Nat} {h : Hs} {o : Nat} {v : Int32} (hk : kX o = 4) : (wB b n (eC q b) h).set o (b + o, .inr (3, ([rfC b (gr h o 0), rfC b (gr h o 1), rfC b (gr h o 2), rfC b (gr h o 3), rfC b (gr h o 4), .int (gi h o 5), rfC b (gr h o 6), rfC b (gr h o 7), rfC b (gr h o 8), .int (gi h o 9)] : List Value).set 9 (.int v))) = wB b n (eC q b) (si h o 9 v) := wG_si (by unfold eC; rw [hk]; rfl)
theorem ce_5 {q : Nat → ClassId} {b n : Nat} {h : Hs} {o : Nat} (ho : o < n) (hk : kX o = 5) : (wB b n (eC q b) h)[o]? = some (b + o, .inr (4, [rfC b (gr h o 0), rfC b (gr h o 1)])) := wG_get ho (by unfold eC; rw [hk]; rfl)
theorem cz_5 {q : Nat → ClassId} {b o : Nat} (hk : kX o = 5) : eC q b o (fun _ => 0) (fun _ => 0) (fun _ => 0) = .inr (4, [.null, .null]) := by unfold eC; rw [hk]; rfl
theorem cf_5 : ∀ j, j < 2 → defaultValue (tyX4 j) = vp_V [.null, .null] j := by
  intro j hj
  match j, hj with
  | 0, _ => rfl
  | 1, _ => rfl
  | j + 2, hj => exact absurd hj (by omega)
theorem cp_5_0 {q : Nat → ClassId} {b n : Nat} {h : Hs} {o : Nat} {v : Nat} (hk : kX o = 5) : (wB b n (eC q b) h).set o (b + o, .inr (4, ([rfC b (gr h o 0), rfC b (gr h o 1)] : List Value).set 0 (.ref (b + v)))) = wB b n (eC q b) (sr h o 0 (v + 1)) := wG_sr (by unfold eC; rw [hk]; rfl)
theorem cp_5_1 {q : Nat → ClassId} {b n : Nat} {h : Hs} {o : Nat} {v : Nat} (hk : kX o = 5) : (wB b n (eC q b) h).set o (b + o, .inr (4, ([rfC b (gr h o 0), rfC b (gr h o 1)] : List Value).set 1 (.ref (b + v)))) = wB b n (eC q b) (sr h o 1 (v + 1)) := wG_sr (by unfold eC; rw [hk]; rfl)
theorem ce_6 {q : Nat → ClassId} {b n : Nat} {h : Hs} {o : Nat} (ho : o < n) (hk : kX o = 6) : (wB b n (eC q b) h)[o]? = some (b + o, .inr (5, [.int (gi h o 0), .int (gi h o 1), .int (gi h o 2), .int (gi h o 3), rfC b (gr h o 4), rfC b (gr h o 5), rfC b (gr h o 6), rfC b (gr h o 7), rfC b (gr h o 8), rfC b (gr h o 9), rfC b (gr h o 10), rfC b (gr h o 11), rfC b (gr h o 12), rfC b (gr h o 13), rfC b (gr h o 14), rfC b (gr h o 15), rfC b (gr h o 16)])) := wG_get ho (by unfold eC; rw [hk]; rfl)
theorem cz_6 {q : Nat → ClassId} {b o : Nat} (hk : kX o = 6) : eC q b o (fun _ => 0) (fun _ => 0) (fun _ => 0) = .inr (5, [.int 0, .int 0, .int 0, .int 0, .null, .null, .null, .null, .null, .null, .null, .null, .null, .null, .null, .null, .null]) := by unfold eC; rw [hk]; rfl
theorem cf_6 : ∀ j, j < 17 → defaultValue (tyX5 j) = vp_V [.int 0, .int 0, .int 0, .int 0, .null, .null, .null, .null, .null, .null, .null, .null, .null, .null, .null, .null, .null] j := by
  intro j hj
  match j, hj with
  | 0, _ => rfl
  | 1, _ => rfl
  | 2, _ => rfl
  | 3, _ => rfl
  | 4, _ => rfl
  | 5, _ => rfl
  | 6, _ => rfl
  | 7, _ => rfl
  | 8, _ => rfl
  | 9, _ => rfl
  | 10, _ => rfl
  | 11, _ => rfl
  | 12, _ => rfl
  | 13, _ => rfl
  | 14, _ => rfl
  | 15, _ => rfl
  | 16, _ => rfl
  | j + 17, hj => exact absurd hj (by omega)
theorem cp_6_0 {q : Nat → ClassId} {b n : Nat} {h : Hs} {o : Nat} {v : Int32} (hk : kX o = 6) : (wB b n (eC q b) h).set o (b + o, .inr (5, ([.int (gi h o 0), .int (gi h o 1), .int (gi h o 2), .int (gi h o 3), rfC b (gr h o 4), rfC b (gr h o 5), rfC b (gr h o 6), rfC b (gr h o 7), rfC b (gr h o 8), rfC b (gr h o 9), rfC b (gr h o 10), rfC b (gr h o 11), rfC b (gr h o 12), rfC b (gr h o 13), rfC b (gr h o 14), rfC b (gr h o 15), rfC b (gr h o 16)] : List Value).set 0 (.int v))) = wB b n (eC q b) (si h o 0 v) := wG_si (by unfold eC; rw [hk]; rfl)
theorem cp_6_1 {q : Nat → ClassId} {b n : Nat} {h : Hs} {o : Nat} {v : Int32} (hk : kX o = 6) : (wB b n (eC q b) h).set o (b + o, .inr (5, ([.int (gi h o 0), .int (gi h o 1), .int (gi h o 2), .int (gi h o 3), rfC b (gr h o 4), rfC b (gr h o 5), rfC b (gr h o 6), rfC b (gr h o 7), rfC b (gr h o 8), rfC b (gr h o 9), rfC b (gr h o 10), rfC b (gr h o 11), rfC b (gr h o 12), rfC b (gr h o 13), rfC b (gr h o 14), rfC b (gr h o 15), rfC b (gr h o 16)] : List Value).set 1 (.int v))) = wB b n (eC q b) (si h o 1 v) := wG_si (by unfold eC; rw [hk]; rfl)
theorem cp_6_2 {q : Nat → ClassId} {b n : Nat} {h : Hs} {o : Nat} {v : Int32} (hk : kX o = 6) : (wB b n (eC q b) h).set o (b + o, .inr (5, ([.int (gi h o 0), .int (gi h o 1), .int (gi h o 2), .int (gi h o 3), rfC b (gr h o 4), rfC b (gr h o 5), rfC b (gr h o 6), rfC b (gr h o 7), rfC b (gr h o 8), rfC b (gr h o 9), rfC b (gr h o 10), rfC b (gr h o 11), rfC b (gr h o 12), rfC b (gr h o 13), rfC b (gr h o 14), rfC b (gr h o 15), rfC b (gr h o 16)] : List Value).set 2 (.int v))) = wB b n (eC q b) (si h o 2 v) := wG_si (by unfold eC; rw [hk]; rfl)
theorem cp_6_3 {q : Nat → ClassId} {b n : Nat} {h : Hs} {o : Nat} {v : Int32} (hk : kX o = 6) : (wB b n (eC q b) h).set o (b + o, .inr (5, ([.int (gi h o 0), .int (gi h o 1), .int (gi h o 2), .int (gi h o 3), rfC b (gr h o 4), rfC b (gr h o 5), rfC b (gr h o 6), rfC b (gr h o 7), rfC b (gr h o 8), rfC b (gr h o 9), rfC b (gr h o 10), rfC b (gr h o 11), rfC b (gr h o 12), rfC b (gr h o 13), rfC b (gr h o 14), rfC b (gr h o 15), rfC b (gr h o 16)] : List Value).set 3 (.int v))) = wB b n (eC q b) (si h o 3 v) := wG_si (by unfold eC; rw [hk]; rfl)
theorem cp_6_4 {q : Nat → ClassId} {b n : Nat} {h : Hs} {o : Nat} {v : Nat} (hk : kX o = 6) : (wB b n (eC q b) h).set o (b + o, .inr (5, ([.int (gi h o 0), .int (gi h o 1), .int (gi h o 2), .int (gi h o 3), rfC b (gr h o 4), rfC b (gr h o 5), rfC b (gr h o 6), rfC b (gr h o 7), rfC b (gr h o 8), rfC b (gr h o 9), rfC b (gr h o 10), rfC b (gr h o 11), rfC b (gr h o 12), rfC b (gr h o 13), rfC b (gr h o 14), rfC b (gr h o 15), rfC b (gr h o 16)] : List Value).set 4 (.ref (b + v)))) = wB b n (eC q b) (sr h o 4 (v + 1)) := wG_sr (by unfold eC; rw [hk]; rfl)
theorem cp_6_5 {q : Nat → ClassId} {b n : Nat} {h : Hs} {o : Nat} {v : Nat} (hk : kX o = 6) : (wB b n (eC q b) h).set o (b + o, .inr (5, ([.int (gi h o 0), .int (gi h o 1), .int (gi h o 2), .int (gi h o 3), rfC b (gr h o 4), rfC b (gr h o 5), rfC b (gr h o 6), rfC b (gr h o 7), rfC b (gr h o 8), rfC b (gr h o 9), rfC b (gr h o 10), rfC b (gr h o 11), rfC b (gr h o 12), rfC b (gr h o 13), rfC b (gr h o 14), rfC b (gr h o 15), rfC b (gr h o 16)] : List Value).set 5 (.ref (b + v)))) = wB b n (eC q b) (sr h o 5 (v + 1)) := wG_sr (by unfold eC; rw [hk]; rfl)
theorem cp_6_6 {q : Nat → ClassId} {b n : Nat} {h : Hs} {o : Nat} {v : Nat} (hk : kX o = 6) : (wB b n (eC q b) h).set o (b + o, .inr (5, ([.int (gi h o 0), .int (gi h o 1), .int (gi h o 2), .int (gi h o 3), rfC b (gr h o 4), rfC b (gr h o 5), rfC b (gr h o 6), rfC b (gr h o 7), rfC b (gr h o 8), rfC b (gr h o 9), rfC b (gr h o 10), rfC b (gr h o 11), rfC b (gr h o 12), rfC b (gr h o 13), rfC b (gr h o 14), rfC b (gr h o 15), rfC b (gr h o 16)] : List Value).set 6 (.ref (b + v)))) = wB b n (eC q b) (sr h o 6 (v + 1)) := wG_sr (by unfold eC; rw [hk]; rfl)
theorem cp_6_7 {q : Nat → ClassId} {b n : Nat} {h : Hs} {o : Nat} {v : Nat} (hk : kX o = 6) : (wB b n (eC q b) h).set o (b + o, .inr (5, ([.int (gi h o 0), .int (gi h o 1), .int (gi h o 2), .int (gi h o 3), rfC b (gr h o 4), rfC b (gr h o 5), rfC b (gr h o 6), rfC b (gr h o 7), rfC b (gr h o 8), rfC b (gr h o 9), rfC b (gr h o 10), rfC b (gr h o 11), rfC b (gr h o 12), rfC b (gr h o 13), rfC b (gr h o 14), rfC b (gr h o 15), rfC b (gr h o 16)] : List Value).set 7 (.ref (b + v)))) = wB b n (eC q b) (sr h o 7 (v + 1)) := wG_sr (by unfold eC; rw [hk]; rfl)
theorem cp_6_8 {q : Nat → ClassId} {b n : Nat} {h : Hs} {o : Nat} {v : Nat} (hk : kX o = 6) : (wB b n (eC q b) h).set o (b + o, .inr (5, ([.int (gi h o 0), .int (gi h o 1), .int (gi h o 2), .int (gi h o 3), rfC b (gr h o 4), rfC b (gr h o 5), rfC b (gr h o 6), rfC b (gr h o 7), rfC b (gr h o 8), rfC b (gr h o 9), rfC b (gr h o 10), rfC b (gr h o 11), rfC b (gr h o 12), rfC b (gr h o 13), rfC b (gr h o 14), rfC b (gr h o 15), rfC b (gr h o 16)] : List Value).set 8 (.ref (b + v)))) = wB b n (eC q b) (sr h o 8 (v + 1)) := wG_sr (by unfold eC; rw [hk]; rfl)
theorem cp_6_9 {q : Nat → ClassId} {b n : Nat} {h : Hs} {o : Nat} {v : Nat} (hk : kX o = 6) : (wB b n (eC q b) h).set o (b + o, .inr (5, ([.int (gi h o 0), .int (gi h o 1), .int (gi h o 2), .int (gi h o 3), rfC b (gr h o 4), rfC b (gr h o 5), rfC b (gr h o 6), rfC b (gr h o 7), rfC b (gr h o 8), rfC b (gr h o 9), rfC b (gr h o 10), rfC b (gr h o 11), rfC b (gr h o 12), rfC b (gr h o 13), rfC b (gr h o 14), rfC b (gr h o 15), rfC b (gr h o 16)] : List Value).set 9 (.ref (b + v)))) = wB b n (eC q b) (sr h o 9 (v + 1)) := wG_sr (by unfold eC; rw [hk]; rfl)
theorem cp_6_10 {q : Nat → ClassId} {b n : Nat} {h : Hs} {o : Nat} {v : Nat} (hk : kX o = 6) : (wB b n (eC q b) h).set o (b + o, .inr (5, ([.int (gi h o 0), .int (gi h o 1), .int (gi h o 2), .int (gi h o 3), rfC b (gr h o 4), rfC b (gr h o 5), rfC b (gr h o 6), rfC b (gr h o 7), rfC b (gr h o 8), rfC b (gr h o 9), rfC b (gr h o 10), rfC b (gr h o 11), rfC b (gr h o 12), rfC b (gr h o 13), rfC b (gr h o 14), rfC b (gr h o 15), rfC b (gr h o 16)] : List Value).set 10 (.ref (b + v)))) = wB b n (eC q b) (sr h o 10 (v + 1)) := wG_sr (by unfold eC; rw [hk]; rfl)
theorem cp_6_11 {q : Nat → ClassId} {b n : Nat} {h : Hs} {o : Nat} {v : Nat} (hk : kX o = 6) : (wB b n (eC q b) h).set o (b + o, .inr (5, ([.int (gi h o 0), .int (gi h o 1), .int (gi h o 2), .int (gi h o 3), rfC b (gr h o 4), rfC b (gr h o 5), rfC b (gr h o 6), rfC b (gr h o 7), rfC b (gr h o 8), rfC b (gr h o 9), rfC b (gr h o 10), rfC b (gr h o 11), rfC b (gr h o 12), rfC b (gr h o 13), rfC b (gr h o 14), rfC b (gr h o 15), rfC b (gr h o 16)] : List Value).set 11 (.ref (b + v)))) = wB b n (eC q b) (sr h o 11 (v + 1)) := wG_sr (by unfold eC; rw [hk]; rfl)
theorem cp_6_12 {q : Nat → ClassId} {b n : Nat} {h : Hs} {o : Nat} {v : Nat} (hk : kX o = 6) : (wB b n (eC q b) h).set o (b + o, .inr (5, ([.int (gi h o 0), .int (gi h o 1), .int (gi h o 2), .int (gi h o 3), rfC b (gr h o 4), rfC b (gr h o 5), rfC b (gr h o 6), rfC b (gr h o 7), rfC b (gr h o 8), rfC b (gr h o 9), rfC b (gr h o 10), rfC b (gr h o 11), rfC b (gr h o 12), rfC b (gr h o 13), rfC b (gr h o 14), rfC b (gr h o 15), rfC b (gr h o 16)] : List Value).set 12 (.ref (b + v)))) = wB b n (eC q b) (sr h o 12 (v + 1)) := wG_sr (by unfold eC; rw [hk]; rfl)
theorem cp_6_13 {q : Nat → ClassId} {b n : Nat} {h : Hs} {o : Nat} {v : Nat} (hk : kX o = 6) : (wB b n (eC q b) h).set o (b + o, .inr (5, ([.int (gi h o 0), .int (gi h o 1), .int (gi h o 2), .int (gi h o 3), rfC b (gr h o 4), rfC b (gr h o 5), rfC b (gr h o 6), rfC b (gr h o 7), rfC b (gr h o 8), rfC b (gr h o 9), rfC b (gr h o 10), rfC b (gr h o 11), rfC b (gr h o 12), rfC b (gr h o 13), rfC b (gr h o 14), rfC b (gr h o 15), rfC b (gr h o 16)] : List Value).set 13 (.ref (b + v)))) = wB b n (eC q b) (sr h o 13 (v + 1)) := wG_sr (by unfold eC; rw [hk]; rfl)
theorem cp_6_14 {q : Nat → ClassId} {b n : Nat} {h : Hs} {o : Nat} {v : Nat} (hk : kX o = 6) : (wB b n (eC q b) h).set o (b + o, .inr (5, ([.int (gi h o 0), .int (gi h o 1), .int (gi h o 2), .int (gi h o 3), rfC b (gr h o 4), rfC b (gr h o 5), rfC b (gr h o 6), rfC b (gr h o 7), rfC b (gr h o 8), rfC b (gr h o 9), rfC b (gr h o 10), rfC b (gr h o 11), rfC b (gr h o 12), rfC b (gr h o 13), rfC b (gr h o 14), rfC b (gr h o 15), rfC b (gr h o 16)] : List Value).set 14 (.ref (b + v)))) = wB b n (eC q b) (sr h o 14 (v + 1)) := wG_sr (by unfold eC; rw [hk]; rfl)
theorem cp_6_15 {q : Nat → ClassId} {b n : Nat} {h : Hs} {o : Nat} {v : Nat} (hk : kX o = 6) : (wB b n (eC q b) h).set o (b + o, .inr (5, ([.int (gi h o 0), .int (gi h o 1), .int (gi h o 2), .int (gi h o 3), rfC b (gr h o 4), rfC b (gr h o 5), rfC b (gr h o 6), rfC b (gr h o 7), rfC b (gr h o 8), rfC b (gr h o 9), rfC b (gr h o 10), rfC b (gr h o 11), rfC b (gr h o 12), rfC b (gr h o 13), rfC b (gr h o 14), rfC b (gr h o 15), rfC b (gr h o 16)] : List Value).set 15 (.ref (b + v)))) = wB b n (eC q b) (sr h o 15 (v + 1)) := wG_sr (by unfold eC; rw [hk]; rfl)
theorem cp_6_16 {q : Nat → ClassId} {b n : Nat} {h : Hs} {o : Nat} {v : Nat} (hk : kX o = 6) : (wB b n (eC q b) h).set o (b + o, .inr (5, ([.int (gi h o 0), .int (gi h o 1), .int (gi h o 2), .int (gi h o 3), rfC b (gr h o 4), rfC b (gr h o 5), rfC b (gr h o 6), rfC b (gr h o 7), rfC b (gr h o 8), rfC b (gr h o 9), rfC b (gr h o 10), rfC b (gr h o 11), rfC b (gr h o 12), rfC b (gr h o 13), rfC b (gr h o 14), rfC b (gr h o 15), rfC b (gr h o 16)] : List Value).set 16 (.ref (b + v)))) = wB b n (eC q b) (sr h o 16 (v + 1)) := wG_sr (by unfold eC; rw [hk]; rfl)
theorem ce_7 {q : Nat → ClassId} {b n : Nat} {h : Hs} {o : Nat} (ho : o < n) (hk : kX o = 7) : (wB b n (eC q b) h)[o]? = some (b + o, .inr (6, [rfC b (gr h o 0), rfC b (gr h o 1), .int (gi h o 2), .int (gi h o 3), .int (gi h o 4), .int (gi h o 5), .int (gi h o 6), .int (gi h o 7)])) := wG_get ho (by unfold eC; rw [hk]; rfl)
theorem cz_7 {q : Nat → ClassId} {b o : Nat} (hk : kX o = 7) : eC q b o (fun _ => 0) (fun _ => 0) (fun _ => 0) = .inr (6, [.null, .null, .int 0, .int 0, .int 0, .int 0, .int 0, .int 0]) := by unfold eC; rw [hk]; rfl
theorem cf_7 : ∀ j, j < 8 → defaultValue (tyX6 j) = vp_V [.null, .null, .int 0, .int 0, .int 0, .int 0, .int 0, .int 0] j := by
  intro j hj
  match j, hj with
  | 0, _ => rfl
  | 1, _ => rfl
  | 2, _ => rfl
  | 3, _ => rfl
  | 4, _ => rfl
  | 5, _ => rfl
  | 6, _ => rfl
  | 7, _ => rfl
  | j + 8, hj => exact absurd hj (by omega)
theorem cp_7_0 {q : Nat → ClassId} {b n : Nat} {h : Hs} {o : Nat} {v : Nat} (hk : kX o = 7) : (wB b n (eC q b) h).set o (b + o, .inr (6, ([rfC b (gr h o 0), rfC b (gr h o 1), .int (gi h o 2), .int (gi h o 3), .int (gi h o 4), .int (gi h o 5), .int (gi h o 6), .int (gi h o 7)] : List Value).set 0 (.ref (b + v)))) = wB b n (eC q b) (sr h o 0 (v + 1)) := wG_sr (by unfold eC; rw [hk]; rfl)
theorem cp_7_1 {q : Nat → ClassId} {b n : Nat} {h : Hs} {o : Nat} {v : Nat} (hk : kX o = 7) : (wB b n (eC q b) h).set o (b + o, .inr (6, ([rfC b (gr h o 0), rfC b (gr h o 1), .int (gi h o 2), .int (gi h o 3), .int (gi h o 4), .int (gi h o 5), .int (gi h o 6), .int (gi h o 7)] : List Value).set 1 (.ref (b + v)))) = wB b n (eC q b) (sr h o 1 (v + 1)) := wG_sr (by unfold eC; rw [hk]; rfl)
theorem cp_7_2 {q : Nat → ClassId} {b n : Nat} {h : Hs} {o : Nat} {v : Int32} (hk : kX o = 7) : (wB b n (eC q b) h).set o (b + o, .inr (6, ([rfC b (gr h o 0), rfC b (gr h o 1), .int (gi h o 2), .int (gi h o 3), .int (gi h o 4), .int (gi h o 5), .int (gi h o 6), .int (gi h o 7)] : List Value).set 2 (.int v))) = wB b n (eC q b) (si h o 2 v) := wG_si (by unfold eC; rw [hk]; rfl)
theorem cp_7_3 {q : Nat → ClassId} {b n : Nat} {h : Hs} {o : Nat} {v : Int32} (hk : kX o = 7) : (wB b n (eC q b) h).set o (b + o, .inr (6, ([rfC b (gr h o 0), rfC b (gr h o 1), .int (gi h o 2), .int (gi h o 3), .int (gi h o 4), .int (gi h o 5), .int (gi h o 6), .int (gi h o 7)] : List Value).set 3 (.int v))) = wB b n (eC q b) (si h o 3 v) := wG_si (by unfold eC; rw [hk]; rfl)
theorem cp_7_4 {q : Nat → ClassId} {b n : Nat} {h : Hs} {o : Nat} {v : Int32} (hk : kX o = 7) : (wB b n (eC q b) h).set o (b + o, .inr (6, ([rfC b (gr h o 0), rfC b (gr h o 1), .int (gi h o 2), .int (gi h o 3), .int (gi h o 4), .int (gi h o 5), .int (gi h o 6), .int (gi h o 7)] : List Value).set 4 (.int v))) = wB b n (eC q b) (si h o 4 v) := wG_si (by unfold eC; rw [hk]; rfl)
theorem cp_7_5 {q : Nat → ClassId} {b n : Nat} {h : Hs} {o : Nat} {v : Int32} (hk : kX o = 7) : (wB b n (eC q b) h).set o (b + o, .inr (6, ([rfC b (gr h o 0), rfC b (gr h o 1), .int (gi h o 2), .int (gi h o 3), .int (gi h o 4), .int (gi h o 5), .int (gi h o 6), .int (gi h o 7)] : List Value).set 5 (.int v))) = wB b n (eC q b) (si h o 5 v) := wG_si (by unfold eC; rw [hk]; rfl)
theorem cp_7_6 {q : Nat → ClassId} {b n : Nat} {h : Hs} {o : Nat} {v : Int32} (hk : kX o = 7) : (wB b n (eC q b) h).set o (b + o, .inr (6, ([rfC b (gr h o 0), rfC b (gr h o 1), .int (gi h o 2), .int (gi h o 3), .int (gi h o 4), .int (gi h o 5), .int (gi h o 6), .int (gi h o 7)] : List Value).set 6 (.int v))) = wB b n (eC q b) (si h o 6 v) := wG_si (by unfold eC; rw [hk]; rfl)
theorem cp_7_7 {q : Nat → ClassId} {b n : Nat} {h : Hs} {o : Nat} {v : Int32} (hk : kX o = 7) : (wB b n (eC q b) h).set o (b + o, .inr (6, ([rfC b (gr h o 0), rfC b (gr h o 1), .int (gi h o 2), .int (gi h o 3), .int (gi h o 4), .int (gi h o 5), .int (gi h o 6), .int (gi h o 7)] : List Value).set 7 (.int v))) = wB b n (eC q b) (si h o 7 v) := wG_si (by unfold eC; rw [hk]; rfl)
theorem ce_8 {q : Nat → ClassId} {b n : Nat} {h : Hs} {o : Nat} (ho : o < n) (hk : kX o = 8) : (wB b n (eC q b) h)[o]? = some (b + o, .inr (7, [rfC b (gr h o 0), rfC b (gr h o 1), rfC b (gr h o 2), .int (gi h o 3), .int (gi h o 4)])) := wG_get ho (by unfold eC; rw [hk]; rfl)
theorem cz_8 {q : Nat → ClassId} {b o : Nat} (hk : kX o = 8) : eC q b o (fun _ => 0) (fun _ => 0) (fun _ => 0) = .inr (7, [.null, .null, .null, .int 0, .int 0]) := by unfold eC; rw [hk]; rfl
theorem cf_8 : ∀ j, j < 5 → defaultValue (tyX7 j) = vp_V [.null, .null, .null, .int 0, .int 0] j := by
  intro j hj
  match j, hj with
  | 0, _ => rfl
  | 1, _ => rfl
  | 2, _ => rfl
  | 3, _ => rfl
  | 4, _ => rfl
  | j + 5, hj => exact absurd hj (by omega)
theorem cp_8_0 {q : Nat → ClassId} {b n : Nat} {h : Hs} {o : Nat} {v : Nat} (hk : kX o = 8) : (wB b n (eC q b) h).set o (b + o, .inr (7, ([rfC b (gr h o 0), rfC b (gr h o 1), rfC b (gr h o 2), .int (gi h o 3), .int (gi h o 4)] : List Value).set 0 (.ref (b + v)))) = wB b n (eC q b) (sr h o 0 (v + 1)) := wG_sr (by unfold eC; rw [hk]; rfl)
theorem cp_8_1 {q : Nat → ClassId} {b n : Nat} {h : Hs} {o : Nat} {v : Nat} (hk : kX o = 8) : (wB b n (eC q b) h).set o (b + o, .inr (7, ([rfC b (gr h o 0), rfC b (gr h o 1), rfC b (gr h o 2), .int (gi h o 3), .int (gi h o 4)] : List Value).set 1 (.ref (b + v)))) = wB b n (eC q b) (sr h o 1 (v + 1)) := wG_sr (by unfold eC; rw [hk]; rfl)
theorem cp_8_2 {q : Nat → ClassId} {b n : Nat} {h : Hs} {o : Nat} {v : Nat} (hk : kX o = 8) : (wB b n (eC q b) h).set o (b + o, .inr (7, ([rfC b (gr h o 0), rfC b (gr h o 1), rfC b (gr h o 2), .int (gi h o 3), .int (gi h o 4)] : List Value).set 2 (.ref (b + v)))) = wB b n (eC q b) (sr h o 2 (v + 1)) := wG_sr (by unfold eC; rw [hk]; rfl)
theorem cp_8_3 {q : Nat → ClassId} {b n : Nat} {h : Hs} {o : Nat} {v : Int32} (hk : kX o = 8) : (wB b n (eC q b) h).set o (b + o, .inr (7, ([rfC b (gr h o 0), rfC b (gr h o 1), rfC b (gr h o 2), .int (gi h o 3), .int (gi h o 4)] : List Value).set 3 (.int v))) = wB b n (eC q b) (si h o 3 v) := wG_si (by unfold eC; rw [hk]; rfl)
theorem cp_8_4 {q : Nat → ClassId} {b n : Nat} {h : Hs} {o : Nat} {v : Int32} (hk : kX o = 8) : (wB b n (eC q b) h).set o (b + o, .inr (7, ([rfC b (gr h o 0), rfC b (gr h o 1), rfC b (gr h o 2), .int (gi h o 3), .int (gi h o 4)] : List Value).set 4 (.int v))) = wB b n (eC q b) (si h o 4 v) := wG_si (by unfold eC; rw [hk]; rfl)
theorem ce_9 {q : Nat → ClassId} {b n : Nat} {h : Hs} {o : Nat} (ho : o < n) (hk : kX o = 9) : (wB b n (eC q b) h)[o]? = some (b + o, .inr (8, [rfC b (gr h o 0), rfC b (gr h o 1), rfC b (gr h o 2), rfC b (gr h o 3), rfC b (gr h o 4), rfC b (gr h o 5), rfC b (gr h o 6), rfC b (gr h o 7), .int (gi h o 8), rfC b (gr h o 9), rfC b (gr h o 10), .int (gi h o 11)])) := wG_get ho (by unfold eC; rw [hk]; rfl)
theorem cz_9 {q : Nat → ClassId} {b o : Nat} (hk : kX o = 9) : eC q b o (fun _ => 0) (fun _ => 0) (fun _ => 0) = .inr (8, [.null, .null, .null, .null, .null, .null, .null, .null, .int 0, .null, .null, .int 0]) := by unfold eC; rw [hk]; rfl
theorem cf_9 : ∀ j, j < 12 → defaultValue (tyX8 j) = vp_V [.null, .null, .null, .null, .null, .null, .null, .null, .int 0, .null, .null, .int 0] j := by
  intro j hj
  match j, hj with
  | 0, _ => rfl
  | 1, _ => rfl
  | 2, _ => rfl
  | 3, _ => rfl
  | 4, _ => rfl
  | 5, _ => rfl
  | 6, _ => rfl
  | 7, _ => rfl
  | 8, _ => rfl
  | 9, _ => rfl
  | 10, _ => rfl
  | 11, _ => rfl
  | j + 12, hj => exact absurd hj (by omega)
theorem cp_9_0 {q : Nat → ClassId} {b n : Nat} {h : Hs} {o : Nat} {v : Nat} (hk : kX o = 9) : (wB b n (eC q b) h).set o (b + o, .inr (8, ([rfC b (gr h o 0), rfC b (gr h o 1), rfC b (gr h o 2), rfC b (gr h o 3), rfC b (gr h o 4), rfC b (gr h o 5), rfC b (gr h o 6), rfC b (gr h o 7), .int (gi h o 8), rfC b (gr h o 9), rfC b (gr h o 10), .int (gi h o 11)] : List Value).set 0 (.ref (b + v)))) = wB b n (eC q b) (sr h o 0 (v + 1)) := wG_sr (by unfold eC; rw [hk]; rfl)
theorem cp_9_1 {q : Nat → ClassId} {b n : Nat} {h : Hs} {o : Nat} {v : Nat} (hk : kX o = 9) : (wB b n (eC q b) h).set o (b + o, .inr (8, ([rfC b (gr h o 0), rfC b (gr h o 1), rfC b (gr h o 2), rfC b (gr h o 3), rfC b (gr h o 4), rfC b (gr h o 5), rfC b (gr h o 6), rfC b (gr h o 7), .int (gi h o 8), rfC b (gr h o 9), rfC b (gr h o 10), .int (gi h o 11)] : List Value).set 1 (.ref (b + v)))) = wB b n (eC q b) (sr h o 1 (v + 1)) := wG_sr (by unfold eC; rw [hk]; rfl)
theorem cp_9_2 {q : Nat → ClassId} {b n : Nat} {h : Hs} {o : Nat} {v : Nat} (hk : kX o = 9) : (wB b n (eC q b) h).set o (b + o, .inr (8, ([rfC b (gr h o 0), rfC b (gr h o 1), rfC b (gr h o 2), rfC b (gr h o 3), rfC b (gr h o 4), rfC b (gr h o 5), rfC b (gr h o 6), rfC b (gr h o 7), .int (gi h o 8), rfC b (gr h o 9), rfC b (gr h o 10), .int (gi h o 11)] : List Value).set 2 (.ref (b + v)))) = wB b n (eC q b) (sr h o 2 (v + 1)) := wG_sr (by unfold eC; rw [hk]; rfl)
theorem cp_9_3 {q : Nat → ClassId} {b n : Nat} {h : Hs} {o : Nat} {v : Nat} (hk : kX o = 9) : (wB b n (eC q b) h).set o (b + o, .inr (8, ([rfC b (gr h o 0), rfC b (gr h o 1), rfC b (gr h o 2), rfC b (gr h o 3), rfC b (gr h o 4), rfC b (gr h o 5), rfC b (gr h o 6), rfC b (gr h o 7), .int (gi h o 8), rfC b (gr h o 9), rfC b (gr h o 10), .int (gi h o 11)] : List Value).set 3 (.ref (b + v)))) = wB b n (eC q b) (sr h o 3 (v + 1)) := wG_sr (by unfold eC; rw [hk]; rfl)
theorem cp_9_4 {q : Nat → ClassId} {b n : Nat} {h : Hs} {o : Nat} {v : Nat} (hk : kX o = 9) : (wB b n (eC q b) h).set o (b + o, .inr (8, ([rfC b (gr h o 0), rfC b (gr h o 1), rfC b (gr h o 2), rfC b (gr h o 3), rfC b (gr h o 4), rfC b (gr h o 5), rfC b (gr h o 6), rfC b (gr h o 7), .int (gi h o 8), rfC b (gr h o 9), rfC b (gr h o 10), .int (gi h o 11)] : List Value).set 4 (.ref (b + v)))) = wB b n (eC q b) (sr h o 4 (v + 1)) := wG_sr (by unfold eC; rw [hk]; rfl)
theorem cp_9_5 {q : Nat → ClassId} {b n : Nat} {h : Hs} {o : Nat} {v : Nat} (hk : kX o = 9) : (wB b n (eC q b) h).set o (b + o, .inr (8, ([rfC b (gr h o 0), rfC b (gr h o 1), rfC b (gr h o 2), rfC b (gr h o 3), rfC b (gr h o 4), rfC b (gr h o 5), rfC b (gr h o 6), rfC b (gr h o 7), .int (gi h o 8), rfC b (gr h o 9), rfC b (gr h o 10), .int (gi h o 11)] : List Value).set 5 (.ref (b + v)))) = wB b n (eC q b) (sr h o 5 (v + 1)) := wG_sr (by unfold eC; rw [hk]; rfl)
theorem cp_9_6 {q : Nat → ClassId} {b n : Nat} {h : Hs} {o : Nat} {v : Nat} (hk : kX o = 9) : (wB b n (eC q b) h).set o (b + o, .inr (8, ([rfC b (gr h o 0), rfC b (gr h o 1), rfC b (gr h o 2), rfC b (gr h o 3), rfC b (gr h o 4), rfC b (gr h o 5), rfC b (gr h o 6), rfC b (gr h o 7), .int (gi h o 8), rfC b (gr h o 9), rfC b (gr h o 10), .int (gi h o 11)] : List Value).set 6 (.ref (b + v)))) = wB b n (eC q b) (sr h o 6 (v + 1)) := wG_sr (by unfold eC; rw [hk]; rfl)
theorem cp_9_7 {q : Nat → ClassId} {b n : Nat} {h : Hs} {o : Nat} {v : Nat} (hk : kX o = 9) : (wB b n (eC q b) h).set o (b + o, .inr (8, ([rfC b (gr h o 0), rfC b (gr h o 1), rfC b (gr h o 2), rfC b (gr h o 3), rfC b (gr h o 4), rfC b (gr h o 5), rfC b (gr h o 6), rfC b (gr h o 7), .int (gi h o 8), rfC b (gr h o 9), rfC b (gr h o 10), .int (gi h o 11)] : List Value).set 7 (.ref (b + v)))) = wB b n (eC q b) (sr h o 7 (v + 1)) := wG_sr (by unfold eC; rw [hk]; rfl)
theorem cp_9_8 {q : Nat → ClassId} {b n : Nat} {h : Hs} {o : Nat} {v : Int32} (hk : kX o = 9) : (wB b n (eC q b) h).set o (b + o, .inr (8, ([rfC b (gr h o 0), rfC b (gr h o 1), rfC b (gr h o 2), rfC b (gr h o 3), rfC b (gr h o 4), rfC b (gr h o 5), rfC b (gr h o 6), rfC b (gr h o 7), .int (gi h o 8), rfC b (gr h o 9), rfC b (gr h o 10), .int (gi h o 11)] : List Value).set 8 (.int v))) = wB b n (eC q b) (si h o 8 v) := wG_si (by unfold eC; rw [hk]; rfl)
theorem cp_9_9 {q : Nat → ClassId} {b n : Nat} {h : Hs} {o : Nat} {v : Nat} (hk : kX o = 9) : (wB b n (eC q b) h).set o (b + o, .inr (8, ([rfC b (gr h o 0), rfC b (gr h o 1), rfC b (gr h o 2), rfC b (gr h o 3), rfC b (gr h o 4), rfC b (gr h o 5), rfC b (gr h o 6), rfC b (gr h o 7), .int (gi h o 8), rfC b (gr h o 9), rfC b (gr h o 10), .int (gi h o 11)] : List Value).set 9 (.ref (b + v)))) = wB b n (eC q b) (sr h o 9 (v + 1)) := wG_sr (by unfold eC; rw [hk]; rfl)
theorem cp_9_10 {q : Nat → ClassId} {b n : Nat} {h : Hs} {o : Nat} {v : Nat} (hk : kX o = 9) : (wB b n (eC q b) h).set o (b + o, .inr (8, ([rfC b (gr h o 0), rfC b (gr h o 1), rfC b (gr h o 2), rfC b (gr h o 3), rfC b (gr h o 4), rfC b (gr h o 5), rfC b (gr h o 6), rfC b (gr h o 7), .int (gi h o 8), rfC b (gr h o 9), rfC b (gr h o 10), .int (gi h o 11)] : List Value).set 10 (.ref (b + v)))) = wB b n (eC q b) (sr h o 10 (v + 1)) := wG_sr (by unfold eC; rw [hk]; rfl)
theorem cp_9_11 {q : Nat → ClassId} {b n : Nat} {h : Hs} {o : Nat} {v : Int32} (hk : kX o = 9) : (wB b n (eC q b) h).set o (b + o, .inr (8, ([rfC b (gr h o 0), rfC b (gr h o 1), rfC b (gr h o 2), rfC b (gr h o 3), rfC b (gr h o 4), rfC b (gr h o 5), rfC b (gr h o 6), rfC b (gr h o 7), .int (gi h o 8), rfC b (gr h o 9), rfC b (gr h o 10), .int (gi h o 11)] : List Value).set 11 (.int v))) = wB b n (eC q b) (si h o 11 v) := wG_si (by unfold eC; rw [hk]; rfl)
theorem ce_10 {q : Nat → ClassId} {b n : Nat} {h : Hs} {o : Nat} (ho : o < n) (hk : kX o = 10) : (wB b n (eC q b) h)[o]? = some (b + o, .inr (9, [rfC b (gr h o 0), rfC b (gr h o 1), rfC b (gr h o 2), rfC b (gr h o 3), rfC b (gr h o 4), rfC b (gr h o 5), rfC b (gr h o 6), rfC b (gr h o 7), rfC b (gr h o 8), .int (gi h o 9), .int (gi h o 10), .int (gi h o 11)])) := wG_get ho (by unfold eC; rw [hk]; rfl)
theorem cz_10 {q : Nat → ClassId} {b o : Nat} (hk : kX o = 10) : eC q b o (fun _ => 0) (fun _ => 0) (fun _ => 0) = .inr (9, [.null, .null, .null, .null, .null, .null, .null, .null, .null, .int 0, .int 0, .int 0]) := by unfold eC; rw [hk]; rfl
theorem cf_10 : ∀ j, j < 12 → defaultValue (tyX9 j) = vp_V [.null, .null, .null, .null, .null, .null, .null, .null, .null, .int 0, .int 0, .int 0] j := by
  intro j hj
  match j, hj with
  | 0, _ => rfl
  | 1, _ => rfl
  | 2, _ => rfl
  | 3, _ => rfl
  | 4, _ => rfl
  | 5, _ => rfl
  | 6, _ => rfl
  | 7, _ => rfl
  | 8, _ => rfl
  | 9, _ => rfl
  | 10, _ => rfl
  | 11, _ => rfl
  | j + 12, hj => exact absurd hj (by omega)
theorem cp_10_0 {q : Nat → ClassId} {b n : Nat} {h : Hs} {o : Nat} {v : Nat} (hk : kX o = 10) : (wB b n (eC q b) h).set o (b + o, .inr (9, ([rfC b (gr h o 0), rfC b (gr h o 1), rfC b (gr h o 2), rfC b (gr h o 3), rfC b (gr h o 4), rfC b (gr h o 5), rfC b (gr h o 6), rfC b (gr h o 7), rfC b (gr h o 8), .int (gi h o 9), .int (gi h o 10), .int (gi h o 11)] : List Value).set 0 (.ref (b + v)))) = wB b n (eC q b) (sr h o 0 (v + 1)) := wG_sr (by unfold eC; rw [hk]; rfl)
theorem cp_10_1 {q : Nat → ClassId} {b n : Nat} {h : Hs} {o : Nat} {v : Nat} (hk : kX o = 10) : (wB b n (eC q b) h).set o (b + o, .inr (9, ([rfC b (gr h o 0), rfC b (gr h o 1), rfC b (gr h o 2), rfC b (gr h o 3), rfC b (gr h o 4), rfC b (gr h o 5), rfC b (gr h o 6), rfC b (gr h o 7), rfC b (gr h o 8), .int (gi h o 9), .int (gi h o 10), .int (gi h o 11)] : List Value).set 1 (.ref (b + v)))) = wB b n (eC q b) (sr h o 1 (v + 1)) := wG_sr (by unfold eC; rw [hk]; rfl)
theorem cp_10_2 {q : Nat → ClassId} {b n : Nat} {h : Hs} {o : Nat} {v : Nat} (hk : kX o = 10) : (wB b n (eC q b) h).set o (b + o, .inr (9, ([rfC b (gr h o 0), rfC b (gr h o 1), rfC b (gr h o 2), rfC b (gr h o 3), rfC b (gr h o 4), rfC b (gr h o 5), rfC b (gr h o 6), rfC b (gr h o 7), rfC b (gr h o 8), .int (gi h o 9), .int (gi h o 10), .int (gi h o 11)] : List Value).set 2 (.ref (b + v)))) = wB b n (eC q b) (sr h o 2 (v + 1)) := wG_sr (by unfold eC; rw [hk]; rfl)
theorem cp_10_3 {q : Nat → ClassId} {b n : Nat} {h : Hs} {o : Nat} {v : Nat} (hk : kX o = 10) : (wB b n (eC q b) h).set o (b + o, .inr (9, ([rfC b (gr h o 0), rfC b (gr h o 1), rfC b (gr h o 2), rfC b (gr h o 3), rfC b (gr h o 4), rfC b (gr h o 5), rfC b (gr h o 6), rfC b (gr h o 7), rfC b (gr h o 8), .int (gi h o 9), .int (gi h o 10), .int (gi h o 11)] : List Value).set 3 (.ref (b + v)))) = wB b n (eC q b) (sr h o 3 (v + 1)) := wG_sr (by unfold eC; rw [hk]; rfl)
theorem cp_10_4 {q : Nat → ClassId} {b n : Nat} {h : Hs} {o : Nat} {v : Nat} (hk : kX o = 10) : (wB b n (eC q b) h).set o (b + o, .inr (9, ([rfC b (gr h o 0), rfC b (gr h o 1), rfC b (gr h o 2), rfC b (gr h o 3), rfC b (gr h o 4), rfC b (gr h o 5), rfC b (gr h o 6), rfC b (gr h o 7), rfC b (gr h o 8), .int (gi h o 9), .int (gi h o 10), .int (gi h o 11)] : List Value).set 4 (.ref (b + v)))) = wB b n (eC q b) (sr h o 4 (v + 1)) := wG_sr (by unfold eC; rw [hk]; rfl)
theorem cp_10_5 {q : Nat → ClassId} {b n : Nat} {h : Hs} {o : Nat} {v : Nat} (hk : kX o = 10) : (wB b n (eC q b) h).set o (b + o, .inr (9, ([rfC b (gr h o 0), rfC b (gr h o 1), rfC b (gr h o 2), rfC b (gr h o 3), rfC b (gr h o 4), rfC b (gr h o 5), rfC b (gr h o 6), rfC b (gr h o 7), rfC b (gr h o 8), .int (gi h o 9), .int (gi h o 10), .int (gi h o 11)] : List Value).set 5 (.ref (b + v)))) = wB b n (eC q b) (sr h o 5 (v + 1)) := wG_sr (by unfold eC; rw [hk]; rfl)
theorem cp_10_6 {q : Nat → ClassId} {b n : Nat} {h : Hs} {o : Nat} {v : Nat} (hk : kX o = 10) : (wB b n (eC q b) h).set o (b + o, .inr (9, ([rfC b (gr h o 0), rfC b (gr h o 1), rfC b (gr h o 2), rfC b (gr h o 3), rfC b (gr h o 4), rfC b (gr h o 5), rfC b (gr h o 6), rfC b (gr h o 7), rfC b (gr h o 8), .int (gi h o 9), .int (gi h o 10), .int (gi h o 11)] : List Value).set 6 (.ref (b + v)))) = wB b n (eC q b) (sr h o 6 (v + 1)) := wG_sr (by unfold eC; rw [hk]; rfl)
theorem cp_10_7 {q : Nat → ClassId} {b n : Nat} {h : Hs} {o : Nat} {v : Nat} (hk : kX o = 10) : (wB b n (eC q b) h).set o (b + o, .inr (9, ([rfC b (gr h o 0), rfC b (gr h o 1), rfC b (gr h o 2), rfC b (gr h o 3), rfC b (gr h o 4), rfC b (gr h o 5), rfC b (gr h o 6), rfC b (gr h o 7), rfC b (gr h o 8), .int (gi h o 9), .int (gi h o 10), .int (gi h o 11)] : List Value).set 7 (.ref (b + v)))) = wB b n (eC q b) (sr h o 7 (v + 1)) := wG_sr (by unfold eC; rw [hk]; rfl)
theorem cp_10_8 {q : Nat → ClassId} {b n : Nat} {h : Hs} {o : Nat} {v : Nat} (hk : kX o = 10) : (wB b n (eC q b) h).set o (b + o, .inr (9, ([rfC b (gr h o 0), rfC b (gr h o 1), rfC b (gr h o 2), rfC b (gr h o 3), rfC b (gr h o 4), rfC b (gr h o 5), rfC b (gr h o 6), rfC b (gr h o 7), rfC b (gr h o 8), .int (gi h o 9), .int (gi h o 10), .int (gi h o 11)] : List Value).set 8 (.ref (b + v)))) = wB b n (eC q b) (sr h o 8 (v + 1)) := wG_sr (by unfold eC; rw [hk]; rfl)
theorem cp_10_9 {q : Nat → ClassId} {b n : Nat} {h : Hs} {o : Nat} {v : Int32} (hk : kX o = 10) : (wB b n (eC q b) h).set o (b + o, .inr (9, ([rfC b (gr h o 0), rfC b (gr h o 1), rfC b (gr h o 2), rfC b (gr h o 3), rfC b (gr h o 4), rfC b (gr h o 5), rfC b (gr h o 6), rfC b (gr h o 7), rfC b (gr h o 8), .int (gi h o 9), .int (gi h o 10), .int (gi h o 11)] : List Value).set 9 (.int v))) = wB b n (eC q b) (si h o 9 v) := wG_si (by unfold eC; rw [hk]; rfl)
theorem cp_10_10 {q : Nat → ClassId} {b n : Nat} {h : Hs} {o : Nat} {v : Int32} (hk : kX o = 10) : (wB b n (eC q b) h).set o (b + o, .inr (9, ([rfC b (gr h o 0), rfC b (gr h o 1), rfC b (gr h o 2), rfC b (gr h o 3), rfC b (gr h o 4), rfC b (gr h o 5), rfC b (gr h o 6), rfC b (gr h o 7), rfC b (gr h o 8), .int (gi h o 9), .int (gi h o 10), .int (gi h o 11)] : List Value).set 10 (.int v))) = wB b n (eC q b) (si h o 10 v) := wG_si (by unfold eC; rw [hk]; rfl)
theorem cp_10_11 {q : Nat → ClassId} {b n : Nat} {h : Hs} {o : Nat} {v : Int32} (hk : kX o = 10) : (wB b n (eC q b) h).set o (b + o, .inr (9, ([rfC b (gr h o 0), rfC b (gr h o 1), rfC b (gr h o 2), rfC b (gr h o 3), rfC b (gr h o 4), rfC b (gr h o 5), rfC b (gr h o 6), rfC b (gr h o 7), rfC b (gr h o 8), .int (gi h o 9), .int (gi h o 10), .int (gi h o 11)] : List Value).set 11 (.int v))) = wB b n (eC q b) (si h o 11 v) := wG_si (by unfold eC; rw [hk]; rfl)
theorem ce_20 {q : Nat → ClassId} {b n : Nat} {h : Hs} {o : Nat} {l : Nat} (ho : o < n) (hk : kX o = 20) (hl : lX o = l) : (wB b n (eC q b) h)[o]? = some (b + o, .inl (q 20, l, .inl (gi h o))) := by
  subst hl
  exact wG_get ho (by unfold eC; rw [hk]; rfl)
theorem cz_20 {q : Nat → ClassId} {b o l : Nat} (hk : kX o = 20) (hl : lX o = l) : eC q b o (fun _ => 0) (fun _ => 0) (fun _ => 0) = .inl (q 20, l, .inl (fun _ => 0)) := by
  subst hl
  unfold eC; rw [hk]; rfl
theorem cs_20 {q : Nat → ClassId} {b n : Nat} {h : Hs} {o : Nat} {l k : Nat} {v : Int32} (hk : kX o = 20) (hl : lX o = l) : (wB b n (eC q b) h).set o (b + o, .inl (q 20, l, .inl (upd (gi h o) k v))) = wB b n (eC q b) (si h o k v) := by
  subst hl
  exact wG_si (by unfold eC; rw [hk]; rfl)
theorem ce_21 {q : Nat → ClassId} {b n : Nat} {h : Hs} {o : Nat} {l : Nat} (ho : o < n) (hk : kX o = 21) (hl : lX o = l) : (wB b n (eC q b) h)[o]? = some (b + o, .inl (q 21, l, .inl (gi h o))) := by
  subst hl
  exact wG_get ho (by unfold eC; rw [hk]; rfl)
theorem cz_21 {q : Nat → ClassId} {b o l : Nat} (hk : kX o = 21) (hl : lX o = l) : eC q b o (fun _ => 0) (fun _ => 0) (fun _ => 0) = .inl (q 21, l, .inl (fun _ => 0)) := by
  subst hl
  unfold eC; rw [hk]; rfl
theorem cs_21 {q : Nat → ClassId} {b n : Nat} {h : Hs} {o : Nat} {l k : Nat} {v : Int32} (hk : kX o = 21) (hl : lX o = l) : (wB b n (eC q b) h).set o (b + o, .inl (q 21, l, .inl (upd (gi h o) k v))) = wB b n (eC q b) (si h o k v) := by
  subst hl
  exact wG_si (by unfold eC; rw [hk]; rfl)
theorem ce_22 {q : Nat → ClassId} {b n : Nat} {h : Hs} {o : Nat} {l : Nat} (ho : o < n) (hk : kX o = 22) (hl : lX o = l) : (wB b n (eC q b) h)[o]? = some (b + o, .inl (q 22, l, .inr (.inr (.inr (.inr (fun k => if k < l then some (b + (o + 1 + 1 * k)) else none)))))) := by
  subst hl
  exact wG_get ho (by unfold eC; rw [hk]; rfl)
theorem cz_22 {q : Nat → ClassId} {b o l : Nat} (hk : kX o = 22) (hl : lX o = l) : eC q b o (fun _ => 0) (fun _ => 0) (fun _ => 0) = .inl (q 22, l, .inr (.inr (.inr (.inr (fun i => if i < l then some (b + (o + 1 + 1 * i)) else none))))) := by
  subst hl
  unfold eC; rw [hk]; rfl
theorem ce_23 {q : Nat → ClassId} {b n : Nat} {h : Hs} {o : Nat} {l : Nat} (ho : o < n) (hk : kX o = 23) (hl : lX o = l) : (wB b n (eC q b) h)[o]? = some (b + o, .inl (q 23, l, .inr (.inr (.inr (.inr (fun k => if k < l then opC b (gr h o k) else none)))))) := by
  subst hl
  exact wG_get ho (by unfold eC; rw [hk]; rfl)
theorem cz_23 {q : Nat → ClassId} {b o l : Nat} (hk : kX o = 23) (hl : lX o = l) : eC q b o (fun _ => 0) (fun _ => 0) (fun _ => 0) = .inl (q 23, l, .inr (.inr (.inr (.inr (fun k => if k < l then none else none))))) := by
  subst hl
  unfold eC; rw [hk]; rfl
theorem cs_23 {q : Nat → ClassId} {b n : Nat} {h : Hs} {o : Nat} {l k v : Nat} (hk : kX o = 23) (hl : lX o = l) (hlt : k < l) : (wB b n (eC q b) h).set o (b + o, .inl (q 23, l, .inr (.inr (.inr (.inr (va_up (fun k => if k < l then opC b (gr h o k) else none) k (some (b + v)))))))) = wB b n (eC q b) (sr h o k (v + 1)) := by
  subst hl
  refine wG_sr ?_
  unfold eC
  rw [hk]
  show Sum.inl (q 23, lX o, _) = _
  refine congrArg (fun f => (Sum.inl (q 23, lX o, .inr (.inr (.inr (.inr f)))) : va_E)) (funext fun j => ?_)
  by_cases hj : j = k
  · subst hj
    show (if j < lX o then opC b (updN (h.2.2 o) j (v + 1) j) else none) = va_up _ j _ j
    rw [if_pos hlt, va_up_self]
    simp [updN, opC]
  · show (if j < lX o then opC b (updN (h.2.2 o) k (v + 1) j) else none) = va_up _ k _ j
    simp [updN, hj, gr, va_up]
theorem ce_24 {q : Nat → ClassId} {b n : Nat} {h : Hs} {o : Nat} {l : Nat} (ho : o < n) (hk : kX o = 24) (hl : lX o = l) : (wB b n (eC q b) h)[o]? = some (b + o, .inl (q 24, l, .inr (.inr (.inr (.inr (fun k => if k < l then opC b (gr h o k) else none)))))) := by
  subst hl
  exact wG_get ho (by unfold eC; rw [hk]; rfl)
theorem cz_24 {q : Nat → ClassId} {b o l : Nat} (hk : kX o = 24) (hl : lX o = l) : eC q b o (fun _ => 0) (fun _ => 0) (fun _ => 0) = .inl (q 24, l, .inr (.inr (.inr (.inr (fun k => if k < l then none else none))))) := by
  subst hl
  unfold eC; rw [hk]; rfl
theorem cs_24 {q : Nat → ClassId} {b n : Nat} {h : Hs} {o : Nat} {l k v : Nat} (hk : kX o = 24) (hl : lX o = l) (hlt : k < l) : (wB b n (eC q b) h).set o (b + o, .inl (q 24, l, .inr (.inr (.inr (.inr (va_up (fun k => if k < l then opC b (gr h o k) else none) k (some (b + v)))))))) = wB b n (eC q b) (sr h o k (v + 1)) := by
  subst hl
  refine wG_sr ?_
  unfold eC
  rw [hk]
  show Sum.inl (q 24, lX o, _) = _
  refine congrArg (fun f => (Sum.inl (q 24, lX o, .inr (.inr (.inr (.inr f)))) : va_E)) (funext fun j => ?_)
  by_cases hj : j = k
  · subst hj
    show (if j < lX o then opC b (updN (h.2.2 o) j (v + 1) j) else none) = va_up _ j _ j
    rw [if_pos hlt, va_up_self]
    simp [updN, opC]
  · show (if j < lX o then opC b (updN (h.2.2 o) k (v + 1) j) else none) = va_up _ k _ j
    simp [updN, hj, gr, va_up]
theorem ce_25 {q : Nat → ClassId} {b n : Nat} {h : Hs} {o : Nat} {l : Nat} (ho : o < n) (hk : kX o = 25) (hl : lX o = l) : (wB b n (eC q b) h)[o]? = some (b + o, .inl (q 25, l, .inr (.inr (.inr (.inr (fun k => if k < l then opC b (gr h o k) else none)))))) := by
  subst hl
  exact wG_get ho (by unfold eC; rw [hk]; rfl)
theorem cz_25 {q : Nat → ClassId} {b o l : Nat} (hk : kX o = 25) (hl : lX o = l) : eC q b o (fun _ => 0) (fun _ => 0) (fun _ => 0) = .inl (q 25, l, .inr (.inr (.inr (.inr (fun k => if k < l then none else none))))) := by
  subst hl
  unfold eC; rw [hk]; rfl
theorem cs_25 {q : Nat → ClassId} {b n : Nat} {h : Hs} {o : Nat} {l k v : Nat} (hk : kX o = 25) (hl : lX o = l) (hlt : k < l) : (wB b n (eC q b) h).set o (b + o, .inl (q 25, l, .inr (.inr (.inr (.inr (va_up (fun k => if k < l then opC b (gr h o k) else none) k (some (b + v)))))))) = wB b n (eC q b) (sr h o k (v + 1)) := by
  subst hl
  refine wG_sr ?_
  unfold eC
  rw [hk]
  show Sum.inl (q 25, lX o, _) = _
  refine congrArg (fun f => (Sum.inl (q 25, lX o, .inr (.inr (.inr (.inr f)))) : va_E)) (funext fun j => ?_)
  by_cases hj : j = k
  · subst hj
    show (if j < lX o then opC b (updN (h.2.2 o) j (v + 1) j) else none) = va_up _ j _ j
    rw [if_pos hlt, va_up_self]
    simp [updN, opC]
  · show (if j < lX o then opC b (updN (h.2.2 o) k (v + 1) j) else none) = va_up _ k _ j
    simp [updN, hj, gr, va_up]
theorem ne_11 {q : Nat → ClassId} {b n : Nat} {h : Hs} {o : Nat} (ho : o < n) (hk : kM o = 11) : (wB b n (eN q b) h)[o]? = some (b + o, .inr (10, [rfC b (gr h o 0), rfC b (gr h o 1), rfC b (gr h o 2), rfC b (gr h o 3), rfC b (gr h o 4), rfC b (gr h o 5), .int (gi h o 6), .int (gi h o 7), .int (gi h o 8), .int (gi h o 9), .int (gi h o 10), .int (gi h o 11), rfC b (gr h o 12), rfC b (gr h o 13), rfC b (gr h o 14), rfC b (gr h o 15), .int (gi h o 16), .int (gi h o 17), rfC b (gr h o 18), rfC b (gr h o 19), rfC b (gr h o 20)])) := wG_get ho (by unfold eN; rw [hk]; rfl)
theorem nz_11 {q : Nat → ClassId} {b o : Nat} (hk : kM o = 11) : eN q b o (fun _ => 0) (fun _ => 0) (fun _ => 0) = .inr (10, [.null, .null, .null, .null, .null, .null, .int 0, .int 0, .int 0, .int 0, .int 0, .int 0, .null, .null, .null, .null, .int 0, .int 0, .null, .null, .null]) := by unfold eN; rw [hk]; rfl
theorem nf_11 : ∀ j, j < 21 → defaultValue (tyX10 j) = vp_V [.null, .null, .null, .null, .null, .null, .int 0, .int 0, .int 0, .int 0, .int 0, .int 0, .null, .null, .null, .null, .int 0, .int 0, .null, .null, .null] j := by
  intro j hj
  match j, hj with
  | 0, _ => rfl
  | 1, _ => rfl
  | 2, _ => rfl
  | 3, _ => rfl
  | 4, _ => rfl
  | 5, _ => rfl
  | 6, _ => rfl
  | 7, _ => rfl
  | 8, _ => rfl
  | 9, _ => rfl
  | 10, _ => rfl
  | 11, _ => rfl
  | 12, _ => rfl
  | 13, _ => rfl
  | 14, _ => rfl
  | 15, _ => rfl
  | 16, _ => rfl
  | 17, _ => rfl
  | 18, _ => rfl
  | 19, _ => rfl
  | 20, _ => rfl
  | j + 21, hj => exact absurd hj (by omega)
theorem np_11_0 {q : Nat → ClassId} {b n : Nat} {h : Hs} {o : Nat} {v : Nat} (hk : kM o = 11) : (wB b n (eN q b) h).set o (b + o, .inr (10, ([rfC b (gr h o 0), rfC b (gr h o 1), rfC b (gr h o 2), rfC b (gr h o 3), rfC b (gr h o 4), rfC b (gr h o 5), .int (gi h o 6), .int (gi h o 7), .int (gi h o 8), .int (gi h o 9), .int (gi h o 10), .int (gi h o 11), rfC b (gr h o 12), rfC b (gr h o 13), rfC b (gr h o 14), rfC b (gr h o 15), .int (gi h o 16), .int (gi h o 17), rfC b (gr h o 18), rfC b (gr h o 19), rfC b (gr h o 20)] : List Value).set 0 (.ref (b + v)))) = wB b n (eN q b) (sr h o 0 (v + 1)) := wG_sr (by unfold eN; rw [hk]; rfl)
theorem np_11_1 {q : Nat → ClassId} {b n : Nat} {h : Hs} {o : Nat} {v : Nat} (hk : kM o = 11) : (wB b n (eN q b) h).set o (b + o, .inr (10, ([rfC b (gr h o 0), rfC b (gr h o 1), rfC b (gr h o 2), rfC b (gr h o 3), rfC b (gr h o 4), rfC b (gr h o 5), .int (gi h o 6), .int (gi h o 7), .int (gi h o 8), .int (gi h o 9), .int (gi h o 10), .int (gi h o 11), rfC b (gr h o 12), rfC b (gr h o 13), rfC b (gr h o 14), rfC b (gr h o 15), .int (gi h o 16), .int (gi h o 17), rfC b (gr h o 18), rfC b (gr h o 19), rfC b (gr h o 20)] : List Value).set 1 (.ref (b + v)))) = wB b n (eN q b) (sr h o 1 (v + 1)) := wG_sr (by unfold eN; rw [hk]; rfl)
theorem np_11_2 {q : Nat → ClassId} {b n : Nat} {h : Hs} {o : Nat} {v : Nat} (hk : kM o = 11) : (wB b n (eN q b) h).set o (b + o, .inr (10, ([rfC b (gr h o 0), rfC b (gr h o 1), rfC b (gr h o 2), rfC b (gr h o 3), rfC b (gr h o 4), rfC b (gr h o 5), .int (gi h o 6), .int (gi h o 7), .int (gi h o 8), .int (gi h o 9), .int (gi h o 10), .int (gi h o 11), rfC b (gr h o 12), rfC b (gr h o 13), rfC b (gr h o 14), rfC b (gr h o 15), .int (gi h o 16), .int (gi h o 17), rfC b (gr h o 18), rfC b (gr h o 19), rfC b (gr h o 20)] : List Value).set 2 (.ref (b + v)))) = wB b n (eN q b) (sr h o 2 (v + 1)) := wG_sr (by unfold eN; rw [hk]; rfl)
theorem np_11_3 {q : Nat → ClassId} {b n : Nat} {h : Hs} {o : Nat} {v : Nat} (hk : kM o = 11) : (wB b n (eN q b) h).set o (b + o, .inr (10, ([rfC b (gr h o 0), rfC b (gr h o 1), rfC b (gr h o 2), rfC b (gr h o 3), rfC b (gr h o 4), rfC b (gr h o 5), .int (gi h o 6), .int (gi h o 7), .int (gi h o 8), .int (gi h o 9), .int (gi h o 10), .int (gi h o 11), rfC b (gr h o 12), rfC b (gr h o 13), rfC b (gr h o 14), rfC b (gr h o 15), .int (gi h o 16), .int (gi h o 17), rfC b (gr h o 18), rfC b (gr h o 19), rfC b (gr h o 20)] : List Value).set 3 (.ref (b + v)))) = wB b n (eN q b) (sr h o 3 (v + 1)) := wG_sr (by unfold eN; rw [hk]; rfl)
theorem np_11_4 {q : Nat → ClassId} {b n : Nat} {h : Hs} {o : Nat} {v : Nat} (hk : kM o = 11) : (wB b n (eN q b) h).set o (b + o, .inr (10, ([rfC b (gr h o 0), rfC b (gr h o 1), rfC b (gr h o 2), rfC b (gr h o 3), rfC b (gr h o 4), rfC b (gr h o 5), .int (gi h o 6), .int (gi h o 7), .int (gi h o 8), .int (gi h o 9), .int (gi h o 10), .int (gi h o 11), rfC b (gr h o 12), rfC b (gr h o 13), rfC b (gr h o 14), rfC b (gr h o 15), .int (gi h o 16), .int (gi h o 17), rfC b (gr h o 18), rfC b (gr h o 19), rfC b (gr h o 20)] : List Value).set 4 (.ref (b + v)))) = wB b n (eN q b) (sr h o 4 (v + 1)) := wG_sr (by unfold eN; rw [hk]; rfl)
theorem np_11_5 {q : Nat → ClassId} {b n : Nat} {h : Hs} {o : Nat} {v : Nat} (hk : kM o = 11) : (wB b n (eN q b) h).set o (b + o, .inr (10, ([rfC b (gr h o 0), rfC b (gr h o 1), rfC b (gr h o 2), rfC b (gr h o 3), rfC b (gr h o 4), rfC b (gr h o 5), .int (gi h o 6), .int (gi h o 7), .int (gi h o 8), .int (gi h o 9), .int (gi h o 10), .int (gi h o 11), rfC b (gr h o 12), rfC b (gr h o 13), rfC b (gr h o 14), rfC b (gr h o 15), .int (gi h o 16), .int (gi h o 17), rfC b (gr h o 18), rfC b (gr h o 19), rfC b (gr h o 20)] : List Value).set 5 (.ref (b + v)))) = wB b n (eN q b) (sr h o 5 (v + 1)) := wG_sr (by unfold eN; rw [hk]; rfl)
theorem np_11_6 {q : Nat → ClassId} {b n : Nat} {h : Hs} {o : Nat} {v : Int32} (hk : kM o = 11) : (wB b n (eN q b) h).set o (b + o, .inr (10, ([rfC b (gr h o 0), rfC b (gr h o 1), rfC b (gr h o 2), rfC b (gr h o 3), rfC b (gr h o 4), rfC b (gr h o 5), .int (gi h o 6), .int (gi h o 7), .int (gi h o 8), .int (gi h o 9), .int (gi h o 10), .int (gi h o 11), rfC b (gr h o 12), rfC b (gr h o 13), rfC b (gr h o 14), rfC b (gr h o 15), .int (gi h o 16), .int (gi h o 17), rfC b (gr h o 18), rfC b (gr h o 19), rfC b (gr h o 20)] : List Value).set 6 (.int v))) = wB b n (eN q b) (si h o 6 v) := wG_si (by unfold eN; rw [hk]; rfl)
theorem np_11_7 {q : Nat → ClassId} {b n : Nat} {h : Hs} {o : Nat} {v : Int32} (hk : kM o = 11) : (wB b n (eN q b) h).set o (b + o, .inr (10, ([rfC b (gr h o 0), rfC b (gr h o 1), rfC b (gr h o 2), rfC b (gr h o 3), rfC b (gr h o 4), rfC b (gr h o 5), .int (gi h o 6), .int (gi h o 7), .int (gi h o 8), .int (gi h o 9), .int (gi h o 10), .int (gi h o 11), rfC b (gr h o 12), rfC b (gr h o 13), rfC b (gr h o 14), rfC b (gr h o 15), .int (gi h o 16), .int (gi h o 17), rfC b (gr h o 18), rfC b (gr h o 19), rfC b (gr h o 20)] : List Value).set 7 (.int v))) = wB b n (eN q b) (si h o 7 v) := wG_si (by unfold eN; rw [hk]; rfl)
theorem np_11_8 {q : Nat → ClassId} {b n : Nat} {h : Hs} {o : Nat} {v : Int32} (hk : kM o = 11) : (wB b n (eN q b) h).set o (b + o, .inr (10, ([rfC b (gr h o 0), rfC b (gr h o 1), rfC b (gr h o 2), rfC b (gr h o 3), rfC b (gr h o 4), rfC b (gr h o 5), .int (gi h o 6), .int (gi h o 7), .int (gi h o 8), .int (gi h o 9), .int (gi h o 10), .int (gi h o 11), rfC b (gr h o 12), rfC b (gr h o 13), rfC b (gr h o 14), rfC b (gr h o 15), .int (gi h o 16), .int (gi h o 17), rfC b (gr h o 18), rfC b (gr h o 19), rfC b (gr h o 20)] : List Value).set 8 (.int v))) = wB b n (eN q b) (si h o 8 v) := wG_si (by unfold eN; rw [hk]; rfl)
theorem np_11_9 {q : Nat → ClassId} {b n : Nat} {h : Hs} {o : Nat} {v : Int32} (hk : kM o = 11) : (wB b n (eN q b) h).set o (b + o, .inr (10, ([rfC b (gr h o 0), rfC b (gr h o 1), rfC b (gr h o 2), rfC b (gr h o 3), rfC b (gr h o 4), rfC b (gr h o 5), .int (gi h o 6), .int (gi h o 7), .int (gi h o 8), .int (gi h o 9), .int (gi h o 10), .int (gi h o 11), rfC b (gr h o 12), rfC b (gr h o 13), rfC b (gr h o 14), rfC b (gr h o 15), .int (gi h o 16), .int (gi h o 17), rfC b (gr h o 18), rfC b (gr h o 19), rfC b (gr h o 20)] : List Value).set 9 (.int v))) = wB b n (eN q b) (si h o 9 v) := wG_si (by unfold eN; rw [hk]; rfl)
theorem np_11_10 {q : Nat → ClassId} {b n : Nat} {h : Hs} {o : Nat} {v : Int32} (hk : kM o = 11) : (wB b n (eN q b) h).set o (b + o, .inr (10, ([rfC b (gr h o 0), rfC b (gr h o 1), rfC b (gr h o 2), rfC b (gr h o 3), rfC b (gr h o 4), rfC b (gr h o 5), .int (gi h o 6), .int (gi h o 7), .int (gi h o 8), .int (gi h o 9), .int (gi h o 10), .int (gi h o 11), rfC b (gr h o 12), rfC b (gr h o 13), rfC b (gr h o 14), rfC b (gr h o 15), .int (gi h o 16), .int (gi h o 17), rfC b (gr h o 18), rfC b (gr h o 19), rfC b (gr h o 20)] : List Value).set 10 (.int v))) = wB b n (eN q b) (si h o 10 v) := wG_si (by unfold eN; rw [hk]; rfl)
theorem np_11_11 {q : Nat → ClassId} {b n : Nat} {h : Hs} {o : Nat} {v : Int32} (hk : kM o = 11) : (wB b n (eN q b) h).set o (b + o, .inr (10, ([rfC b (gr h o 0), rfC b (gr h o 1), rfC b (gr h o 2), rfC b (gr h o 3), rfC b (gr h o 4), rfC b (gr h o 5), .int (gi h o 6), .int (gi h o 7), .int (gi h o 8), .int (gi h o 9), .int (gi h o 10), .int (gi h o 11), rfC b (gr h o 12), rfC b (gr h o 13), rfC b (gr h o 14), rfC b (gr h o 15), .int (gi h o 16), .int (gi h o 17), rfC b (gr h o 18), rfC b (gr h o 19), rfC b (gr h o 20)] : List Value).set 11 (.int v))) = wB b n (eN q b) (si h o 11 v) := wG_si (by unfold eN; rw [hk]; rfl)
theorem np_11_12 {q : Nat → ClassId} {b n : Nat} {h : Hs} {o : Nat} {v : Nat} (hk : kM o = 11) : (wB b n (eN q b) h).set o (b + o, .inr (10, ([rfC b (gr h o 0), rfC b (gr h o 1), rfC b (gr h o 2), rfC b (gr h o 3), rfC b (gr h o 4), rfC b (gr h o 5), .int (gi h o 6), .int (gi h o 7), .int (gi h o 8), .int (gi h o 9), .int (gi h o 10), .int (gi h o 11), rfC b (gr h o 12), rfC b (gr h o 13), rfC b (gr h o 14), rfC b (gr h o 15), .int (gi h o 16), .int (gi h o 17), rfC b (gr h o 18), rfC b (gr h o 19), rfC b (gr h o 20)] : List Value).set 12 (.ref (b + v)))) = wB b n (eN q b) (sr h o 12 (v + 1)) := wG_sr (by unfold eN; rw [hk]; rfl)
theorem np_11_13 {q : Nat → ClassId} {b n : Nat} {h : Hs} {o : Nat} {v : Nat} (hk : kM o = 11) : (wB b n (eN q b) h).set o (b + o, .inr (10, ([rfC b (gr h o 0), rfC b (gr h o 1), rfC b (gr h o 2), rfC b (gr h o 3), rfC b (gr h o 4), rfC b (gr h o 5), .int (gi h o 6), .int (gi h o 7), .int (gi h o 8), .int (gi h o 9), .int (gi h o 10), .int (gi h o 11), rfC b (gr h o 12), rfC b (gr h o 13), rfC b (gr h o 14), rfC b (gr h o 15), .int (gi h o 16), .int (gi h o 17), rfC b (gr h o 18), rfC b (gr h o 19), rfC b (gr h o 20)] : List Value).set 13 (.ref (b + v)))) = wB b n (eN q b) (sr h o 13 (v + 1)) := wG_sr (by unfold eN; rw [hk]; rfl)
theorem np_11_14 {q : Nat → ClassId} {b n : Nat} {h : Hs} {o : Nat} {v : Nat} (hk : kM o = 11) : (wB b n (eN q b) h).set o (b + o, .inr (10, ([rfC b (gr h o 0), rfC b (gr h o 1), rfC b (gr h o 2), rfC b (gr h o 3), rfC b (gr h o 4), rfC b (gr h o 5), .int (gi h o 6), .int (gi h o 7), .int (gi h o 8), .int (gi h o 9), .int (gi h o 10), .int (gi h o 11), rfC b (gr h o 12), rfC b (gr h o 13), rfC b (gr h o 14), rfC b (gr h o 15), .int (gi h o 16), .int (gi h o 17), rfC b (gr h o 18), rfC b (gr h o 19), rfC b (gr h o 20)] : List Value).set 14 (.ref (b + v)))) = wB b n (eN q b) (sr h o 14 (v + 1)) := wG_sr (by unfold eN; rw [hk]; rfl)
theorem np_11_15 {q : Nat → ClassId} {b n : Nat} {h : Hs} {o : Nat} {v : Nat} (hk : kM o = 11) : (wB b n (eN q b) h).set o (b + o, .inr (10, ([rfC b (gr h o 0), rfC b (gr h o 1), rfC b (gr h o 2), rfC b (gr h o 3), rfC b (gr h o 4), rfC b (gr h o 5), .int (gi h o 6), .int (gi h o 7), .int (gi h o 8), .int (gi h o 9), .int (gi h o 10), .int (gi h o 11), rfC b (gr h o 12), rfC b (gr h o 13), rfC b (gr h o 14), rfC b (gr h o 15), .int (gi h o 16), .int (gi h o 17), rfC b (gr h o 18), rfC b (gr h o 19), rfC b (gr h o 20)] : List Value).set 15 (.ref (b + v)))) = wB b n (eN q b) (sr h o 15 (v + 1)) := wG_sr (by unfold eN; rw [hk]; rfl)
theorem np_11_16 {q : Nat → ClassId} {b n : Nat} {h : Hs} {o : Nat} {v : Int32} (hk : kM o = 11) : (wB b n (eN q b) h).set o (b + o, .inr (10, ([rfC b (gr h o 0), rfC b (gr h o 1), rfC b (gr h o 2), rfC b (gr h o 3), rfC b (gr h o 4), rfC b (gr h o 5), .int (gi h o 6), .int (gi h o 7), .int (gi h o 8), .int (gi h o 9), .int (gi h o 10), .int (gi h o 11), rfC b (gr h o 12), rfC b (gr h o 13), rfC b (gr h o 14), rfC b (gr h o 15), .int (gi h o 16), .int (gi h o 17), rfC b (gr h o 18), rfC b (gr h o 19), rfC b (gr h o 20)] : List Value).set 16 (.int v))) = wB b n (eN q b) (si h o 16 v) := wG_si (by unfold eN; rw [hk]; rfl)
theorem np_11_17 {q : Nat → ClassId} {b n : Nat} {h : Hs} {o : Nat} {v : Int32} (hk : kM o = 11) : (wB b n (eN q b) h).set o (b + o, .inr (10, ([rfC b (gr h o 0), rfC b (gr h o 1), rfC b (gr h o 2), rfC b (gr h o 3), rfC b (gr h o 4), rfC b (gr h o 5), .int (gi h o 6), .int (gi h o 7), .int (gi h o 8), .int (gi h o 9), .int (gi h o 10), .int (gi h o 11), rfC b (gr h o 12), rfC b (gr h o 13), rfC b (gr h o 14), rfC b (gr h o 15), .int (gi h o 16), .int (gi h o 17), rfC b (gr h o 18), rfC b (gr h o 19), rfC b (gr h o 20)] : List Value).set 17 (.int v))) = wB b n (eN q b) (si h o 17 v) := wG_si (by unfold eN; rw [hk]; rfl)
theorem np_11_18 {q : Nat → ClassId} {b n : Nat} {h : Hs} {o : Nat} {v : Nat} (hk : kM o = 11) : (wB b n (eN q b) h).set o (b + o, .inr (10, ([rfC b (gr h o 0), rfC b (gr h o 1), rfC b (gr h o 2), rfC b (gr h o 3), rfC b (gr h o 4), rfC b (gr h o 5), .int (gi h o 6), .int (gi h o 7), .int (gi h o 8), .int (gi h o 9), .int (gi h o 10), .int (gi h o 11), rfC b (gr h o 12), rfC b (gr h o 13), rfC b (gr h o 14), rfC b (gr h o 15), .int (gi h o 16), .int (gi h o 17), rfC b (gr h o 18), rfC b (gr h o 19), rfC b (gr h o 20)] : List Value).set 18 (.ref (b + v)))) = wB b n (eN q b) (sr h o 18 (v + 1)) := wG_sr (by unfold eN; rw [hk]; rfl)
theorem np_11_19 {q : Nat → ClassId} {b n : Nat} {h : Hs} {o : Nat} {v : Nat} (hk : kM o = 11) : (wB b n (eN q b) h).set o (b + o, .inr (10, ([rfC b (gr h o 0), rfC b (gr h o 1), rfC b (gr h o 2), rfC b (gr h o 3), rfC b (gr h o 4), rfC b (gr h o 5), .int (gi h o 6), .int (gi h o 7), .int (gi h o 8), .int (gi h o 9), .int (gi h o 10), .int (gi h o 11), rfC b (gr h o 12), rfC b (gr h o 13), rfC b (gr h o 14), rfC b (gr h o 15), .int (gi h o 16), .int (gi h o 17), rfC b (gr h o 18), rfC b (gr h o 19), rfC b (gr h o 20)] : List Value).set 19 (.ref (b + v)))) = wB b n (eN q b) (sr h o 19 (v + 1)) := wG_sr (by unfold eN; rw [hk]; rfl)
theorem np_11_20 {q : Nat → ClassId} {b n : Nat} {h : Hs} {o : Nat} {v : Nat} (hk : kM o = 11) : (wB b n (eN q b) h).set o (b + o, .inr (10, ([rfC b (gr h o 0), rfC b (gr h o 1), rfC b (gr h o 2), rfC b (gr h o 3), rfC b (gr h o 4), rfC b (gr h o 5), .int (gi h o 6), .int (gi h o 7), .int (gi h o 8), .int (gi h o 9), .int (gi h o 10), .int (gi h o 11), rfC b (gr h o 12), rfC b (gr h o 13), rfC b (gr h o 14), rfC b (gr h o 15), .int (gi h o 16), .int (gi h o 17), rfC b (gr h o 18), rfC b (gr h o 19), rfC b (gr h o 20)] : List Value).set 20 (.ref (b + v)))) = wB b n (eN q b) (sr h o 20 (v + 1)) := wG_sr (by unfold eN; rw [hk]; rfl)
theorem ne_20 {q : Nat → ClassId} {b n : Nat} {h : Hs} {o : Nat} {l : Nat} (ho : o < n) (hk : kM o = 20) (hl : lM o = l) : (wB b n (eN q b) h)[o]? = some (b + o, .inl (q 20, l, .inl (gi h o))) := by
  subst hl
  exact wG_get ho (by unfold eN; rw [hk]; rfl)
theorem nz_20 {q : Nat → ClassId} {b o l : Nat} (hk : kM o = 20) (hl : lM o = l) : eN q b o (fun _ => 0) (fun _ => 0) (fun _ => 0) = .inl (q 20, l, .inl (fun _ => 0)) := by
  subst hl
  unfold eN; rw [hk]; rfl
theorem ns_20 {q : Nat → ClassId} {b n : Nat} {h : Hs} {o : Nat} {l k : Nat} {v : Int32} (hk : kM o = 20) (hl : lM o = l) : (wB b n (eN q b) h).set o (b + o, .inl (q 20, l, .inl (upd (gi h o) k v))) = wB b n (eN q b) (si h o k v) := by
  subst hl
  exact wG_si (by unfold eN; rw [hk]; rfl)
theorem ne_21 {q : Nat → ClassId} {b n : Nat} {h : Hs} {o : Nat} {l : Nat} (ho : o < n) (hk : kM o = 21) (hl : lM o = l) : (wB b n (eN q b) h)[o]? = some (b + o, .inl (q 21, l, .inl (gi h o))) := by
  subst hl
  exact wG_get ho (by unfold eN; rw [hk]; rfl)
theorem nz_21 {q : Nat → ClassId} {b o l : Nat} (hk : kM o = 21) (hl : lM o = l) : eN q b o (fun _ => 0) (fun _ => 0) (fun _ => 0) = .inl (q 21, l, .inl (fun _ => 0)) := by
  subst hl
  unfold eN; rw [hk]; rfl
theorem ns_21 {q : Nat → ClassId} {b n : Nat} {h : Hs} {o : Nat} {l k : Nat} {v : Int32} (hk : kM o = 21) (hl : lM o = l) : (wB b n (eN q b) h).set o (b + o, .inl (q 21, l, .inl (upd (gi h o) k v))) = wB b n (eN q b) (si h o k v) := by
  subst hl
  exact wG_si (by unfold eN; rw [hk]; rfl)
theorem ne_26 {q : Nat → ClassId} {b n : Nat} {h : Hs} {o : Nat} {l : Nat} (ho : o < n) (hk : kM o = 26) (hl : lM o = l) : (wB b n (eN q b) h)[o]? = some (b + o, .inl (q 26, l, .inr (.inl (gl h o)))) := by
  subst hl
  exact wG_get ho (by unfold eN; rw [hk]; rfl)
theorem nz_26 {q : Nat → ClassId} {b o l : Nat} (hk : kM o = 26) (hl : lM o = l) : eN q b o (fun _ => 0) (fun _ => 0) (fun _ => 0) = .inl (q 26, l, .inr (.inl (fun _ => 0))) := by
  subst hl
  unfold eN; rw [hk]; rfl
theorem ns_26 {q : Nat → ClassId} {b n : Nat} {h : Hs} {o : Nat} {l k : Nat} {v : Int64} (hk : kM o = 26) (hl : lM o = l) : (wB b n (eN q b) h).set o (b + o, .inl (q 26, l, .inr (.inl (vp_updL (gl h o) k v)))) = wB b n (eN q b) (sl h o k v) := by
  subst hl
  exact wG_sl (by unfold eN; rw [hk]; rfl)
theorem ka_int : Cond.arrayClass .int ∈ gW := gW_of 234 (by decide +kernel) (by decide +kernel)
theorem ka_boolean : Cond.arrayClass .boolean ∈ gW := gW_of 450 (by decide +kernel) (by decide +kernel)
theorem ka_long : Cond.arrayClass .long ∈ gW := gW_of 1123 (by decide +kernel) (by decide +kernel)
theorem ki_obj : Cond.instanceMethod objectInit ∈ gW := gW_of 119 (by decide +kernel) (by decide +kernel)
set_option maxRecDepth 20000 in
theorem kk_obj : Cond.code objectInit ⟨#[0xb1]⟩ 1 none ∈ gW := gW_of 120 rfl rfl
section CallC
variable {p : Program} {l : Launch} {e : Env} {R : Room} {s : State} {m : MethodId} {args : Array Value} {below : List Frame} {meth : Method} {c : Code} {H : Heap} {locs : List Loc} {Q : State → Prop} {cc : ByteArray} {nL pc : Nat} {ls : Array Slot} {rest : List Value} {D : va_G} {q : Nat → ClassId} {A : Nat → Prop} {own : String} {b n n' d mc : Nat} {ent : EntF} {h : Hs} {y : MethodName} {bytes : ByteArray} {maxL index k : Nat} {rm : Room} {As st0 : List Value} {a : Nat} {C : String}
theorem cxI9 (hts : ∀ w ∈ gW, w.before args s = true) (k1 : Cond.methodLink own index y ∈ gW) (k2 : Cond.instanceMethod y ∈ gW) (k4 : Cond.initialized y.cls ∈ gW) (k5 : Cond.code y bytes maxL none ∈ gW) (hrc : rm.cells = mc) (hrs : rm.slots = 2000 * mc) (hy : y.name = "<init>")
    (hd : y.cls ≠ "java/lang/invoke/MethodHandle" ∧ y.cls ≠ "java/lang/invoke/VarHandle" ∧ (parseMethodDescriptor y.desc).map (fun d => d.parameters.length) = some k) (hR : rm.frames + 1 ≤ R.frames ∧ 8 + (maxL + 11) + rm.locals ≤ R.locals) :
    CallB R s args own index y bytes maxL none (mw y bytes maxL none) rm mc (2000 * mc) k ∧ y.name = "<init>" ∧ (Cond.instanceMethod y).before args s = true := by
  refine ⟨callB_of k hts (fun w hw => gW_good w ?_) rfl hrc hrs (hts _ k4) (hts _ k1) hd hR, hy, hts _ k2⟩
  rcases List.mem_cons.mp hw with rfl | hw <;> assumption
theorem cxN9 {host : String} (hts : ∀ w ∈ gW, w.before args s = true) (k1 : va_Nw (.methodLinkNest own index y host) s) (k2 : Cond.instanceMethod y ∈ gW) (k4 : Cond.initialized y.cls ∈ gW) (k5 : Cond.code y bytes maxL none ∈ gW) (hrc : rm.cells = mc) (hrs : rm.slots = 2000 * mc) (hy : y.name = "<init>")
    (hd : y.cls ≠ "java/lang/invoke/MethodHandle" ∧ y.cls ≠ "java/lang/invoke/VarHandle" ∧ (parseMethodDescriptor y.desc).map (fun d => d.parameters.length) = some k) (hR : rm.frames + 1 ≤ R.frames ∧ 8 + (maxL + 11) + rm.locals ≤ R.locals) :
    va_CN R s args own index y host bytes maxL none (mw y bytes maxL none) rm mc (2000 * mc) k ∧ y.name = "<init>" ∧ (Cond.instanceMethod y).before args s = true := by
  refine ⟨va_cnB k hts (fun w hw => gW_good w ?_) rfl hrc hrs k1 (hts _ k4) hd hR, hy, hts _ k2⟩
  rcases List.mem_cons.mp hw with rfl | hw <;> assumption
theorem c_I (S : CallFix p m c cc nL s args gW own) (hsz : ls.size = nL) (G : okC D q A s b n ent h H locs) {Qp : Hs → Prop} (hM : Met l y (mw y bytes maxL none) rm (va_Pc (.ref a :: As) (pC D q A b n ent h)) (va_Qv Qp (fun h t => pC D q A b n' ent h t) A) mc (2000 * mc) A) (cw : CallB R s args own index y bytes maxL none (mw y bytes maxL none) rm mc (2000 * mc) k ∧ y.name = "<init>" ∧ (Cond.instanceMethod y).before args s = true) (hn : As.length = k) (hst : st0 = As.reverse ++ .ref a :: rest) (hW : (rest.map fun v => v.category).sum ≤ 8) (hdg : decode cc pc = .ok (.invokespecial index, 3)) (hr : d + mc ≤ R.cells ∧ 2000 * (d + mc) ≤ R.slots)
    (kk : ∀ (h' : Hs) (H1 : Heap) (locs1 : List Loc), okC D q A s b n' ent h' H1 locs1 → Qp h' → W p l e R s m args below meth c H1 locs1 (d + mc) (2000 * (d + mc)) Q (F0 m (pc + 3) ls rest)) : W p l e R s m args below meth c H locs d (2000 * d) Q (F0 m pc ls st0) :=
  va_callv (va_runI (rest := rest) S hM cw ⟨pC_blind, fun U hU hW => ⟨rfl, G.pre hU hW⟩⟩ rfl hn hsz hst (lv_room hW) hdg ⟨hr.1, by omega⟩) G.1.2.2.2.2 (fun _ _ h => h) (fun _ h => h) (fun u t H1 locs1 ht hvm hw hB hz1 hk1 hS => W.widen (k := d + mc) (n := 2000 * (d + mc)) (Nat.le_refl _) (by omega) (kk u H1 locs1 (hB.ok G.1.1 G.1.2.1 G.2.2.1 G.2.2.2 ht hS) hw))
theorem c_IN {host : String} (S : CallFix p m c cc nL s args gW own) (hsz : ls.size = nL) (G : okC D q A s b n ent h H locs) {Qp : Hs → Prop} (hM : Met l y (mw y bytes maxL none) rm (va_Pc (.ref a :: As) (pC D q A b n ent h)) (va_Qv Qp (fun h t => pC D q A b n' ent h t) A) mc (2000 * mc) A) (cw : va_CN R s args own index y host bytes maxL none (mw y bytes maxL none) rm mc (2000 * mc) k ∧ y.name = "<init>" ∧ (Cond.instanceMethod y).before args s = true) (hn : As.length = k) (hst : st0 = As.reverse ++ .ref a :: rest) (hW : (rest.map fun v => v.category).sum ≤ 8) (hdg : decode cc pc = .ok (.invokespecial index, 3)) (hr : d + mc ≤ R.cells ∧ 2000 * (d + mc) ≤ R.slots)
    (kk : ∀ (h' : Hs) (H1 : Heap) (locs1 : List Loc), okC D q A s b n' ent h' H1 locs1 → Qp h' → W p l e R s m args below meth c H1 locs1 (d + mc) (2000 * (d + mc)) Q (F0 m (pc + 3) ls rest)) : W p l e R s m args below meth c H locs d (2000 * d) Q (F0 m pc ls st0) :=
  va_callv (va_runIN (rest := rest) S hM cw ⟨pC_blind, fun U hU hW => ⟨rfl, G.pre hU hW⟩⟩ rfl hn hsz hst (lv_room hW) hdg ⟨hr.1, by omega⟩) G.1.2.2.2.2 (fun _ _ h => h) (fun _ h => h) (fun u t H1 locs1 ht hvm hw hB hz1 hk1 hS => W.widen (k := d + mc) (n := 2000 * (d + mc)) (Nat.le_refl _) (by omega) (kk u H1 locs1 (hB.ok G.1.1 G.1.2.1 G.2.2.1 G.2.2.2 ht hS) hw))
theorem c_V (S : CallFix p m c cc nL s args gW own) (hsz : ls.size = nL) (G : okC D q A s b n ent h H locs) {Qp : Hs → Prop} (hM : Met l y (mw y bytes maxL none) rm (va_Pc (.ref a :: As) (pC D q A b n ent h)) (va_Qv Qp (fun h t => pC D q A b n' ent h t) A) mc (2000 * mc) A) (cw : CallW R s args own C index y bytes maxL none (mw y bytes maxL none) rm mc (2000 * mc) k) {o ci nf : Nat} {fs : List Value} {T : u_T} (he : (wB b n ent h)[o]? = some (a, .inr (ci, fs))) (hc : vwCl[ci]? = some (C, T, nf)) (hn : As.length = k) (hst : st0 = As.reverse ++ .ref a :: rest) (hW : (rest.map fun v => v.category).sum ≤ 8) (hdg : decode cc pc = .ok (.invokevirtual index, 3)) (hr : d + mc ≤ R.cells ∧ 2000 * (d + mc) ≤ R.slots)
    (kk : ∀ (h' : Hs) (H1 : Heap) (locs1 : List Loc), okC D q A s b n' ent h' H1 locs1 → Qp h' → W p l e R s m args below meth c H1 locs1 (d + mc) (2000 * (d + mc)) Q (F0 m (pc + 3) ls rest)) : W p l e R s m args below meth c H locs d (2000 * d) Q (F0 m pc ls st0) :=
  va_callv (va_runV (rest := rest) S hM cw ⟨pC_blind, va_recv G.1.1 G.1.2.2.1 hc he, fun U hU hW => ⟨rfl, G.pre hU hW⟩⟩ rfl hn hsz hst (lv_room hW) hdg ⟨hr.1, by omega⟩) G.1.2.2.2.2 (fun _ _ h => h) (fun _ h => h) (fun u t H1 locs1 ht hvm hw hB hz1 hk1 hS => W.widen (k := d + mc) (n := 2000 * (d + mc)) (Nat.le_refl _) (by omega) (kk u H1 locs1 (hB.ok G.1.1 G.1.2.1 G.2.2.1 G.2.2.2 ht hS) hw))
theorem c_S (S : CallFix p m c cc nL s args gW own) (hsz : ls.size = nL) (G : okC D q A s b n ent h H locs) {Qp : Hs → Prop} (hM : Met l y (mw y bytes maxL none) rm (va_Pc As (pC D q A b n ent h)) (va_Qv Qp (fun h t => pC D q A b n' ent h t) A) mc (2000 * mc) A) (cw : CallB R s args own index y bytes maxL none (mw y bytes maxL none) rm mc (2000 * mc) k ∧ (Cond.static y).before args s = true) (hn : As.length = k) (hst : st0 = As.reverse ++ rest) (hW : (rest.map fun v => v.category).sum ≤ 8) (hdg : decode cc pc = .ok (.invokestatic index, 3)) (hr : d + mc ≤ R.cells ∧ 2000 * (d + mc) ≤ R.slots)
    (kk : ∀ (h' : Hs) (H1 : Heap) (locs1 : List Loc), okC D q A s b n' ent h' H1 locs1 → Qp h' → W p l e R s m args below meth c H1 locs1 (d + mc) (2000 * (d + mc)) Q (F0 m (pc + 3) ls rest)) : W p l e R s m args below meth c H locs d (2000 * d) Q (F0 m pc ls st0) :=
  va_callv (va_runS (rest := rest) S hM cw ⟨pC_blind, fun U hU hW => ⟨rfl, G.pre hU hW⟩⟩ rfl hn hsz hst (lv_room hW) hdg ⟨hr.1, by omega⟩) G.1.2.2.2.2 (fun _ _ h => h) (fun _ h => h) (fun u t H1 locs1 ht hvm hw hB hz1 hk1 hS => W.widen (k := d + mc) (n := 2000 * (d + mc)) (Nat.le_refl _) (by omega) (kk u H1 locs1 (hB.ok G.1.1 G.1.2.1 G.2.2.1 G.2.2.2 ht hS) hw))
end CallC
theorem met_c {l : Launch} {y : MethodName} {cc : ByteArray} {maxL : Nat} {rm : Room} {D : va_G} {q : Nat → ClassId} {A : Nat → Prop} {av : List Value} {h : Hs} {b n n' mc : Nat} {ent : EntF} {Qp : Hs → Prop} (hy : plainName y.cls = true) (hlen : (lg_sl av).length ≤ maxL) (hrc : rm.cells = mc) (hrs : rm.slots = 2000 * mc)
    (body : ∀ (p : Program) (e : Env) (R : Room) (s : State) (m : MethodId) (args : Array Value) (below : List Frame) (meth : Method) (c : Code) (Qm : State → Prop) (ls : Array Slot), rm.frames ≤ R.frames → rm.locals ≤ R.locals → mc ≤ R.cells → 2000 * mc ≤ R.slots → CallFix p m c cc maxL s args gW y.cls → meth.name = y.name →
      (∀ (h' : Hs) (H : Heap) (locs : List Loc) (ls : Array Slot) (pc : Nat), okC D q A s b n' ent h' H locs → Qp h' → decode cc pc = .ok (.return_, 1) → W p l e R s m args below meth c H locs mc (2000 * mc) Qm (F0 m pc ls [])) →
      lv_has ls maxL (lv_args 0 av) → okC D q A s b n ent h s.heap [] → W p l e R s m args below meth c s.heap [] 0 (2000 * 0) Qm (F0 m 0 ls [])) :
    Met l y (mw y cc maxL none) rm (va_Pc av (pC D q A b n ent h)) (va_Qv Qp (fun h t => pC D q A b n' ent h t) A) mc (2000 * mc) A := by
  refine Met.ofW (cc := cc) (maxL := maxL) (ret := none) hy rfl ?_
  intro p e s m args below meth c s₁ B hml hv
  obtain ⟨rfl, ⟨hK, hN, hP, hD⟩, hz, hxw, hA⟩ := hv
  have hx := B.exec
  have hb := B.bytes
  have hr := B.returns
  have hlocks := B.notSynchronized
  have hts := atoms_spec (ws := mw y cc maxL none) B.pre
  have hown : s.vm.findClass y.cls = some m.cls := findClass_of_methodNamed B.named
  have hl := lv_entry av (n := maxL) hlen
  rw [lg_entry_eq]
  generalize (lg_sl av ++ List.replicate (maxL - (lg_sl av).length) Slot.unset).toArray = ls at hl ⊢
  refine body p e rm s m av.toArray below meth c _ ls (Nat.le_refl _) (Nat.le_refl _) (Nat.le_of_eq hrc.symm) (Nat.le_of_eq hrs.symm) ⟨hx, hb, hml, hown, fun w hw => hts w (List.mem_cons_of_mem _ hw)⟩ (name_of_methodNamed B.named B.method).1 ?_ hl ⟨⟨hK, hN, hP, hD, va_S.rf⟩, hz, hxw, fun a ha => hA a (by omega)⟩
  intro h' H locs ls pc G hq hdg
  exact W.vret hx hb hr (fun t ht hW => ⟨⟨h', rfl, hq, G.pre ht hW⟩, G.1.2.2.2.2.F ht⟩) G.1.2.2.2.2.2.2 hdg hlocks
