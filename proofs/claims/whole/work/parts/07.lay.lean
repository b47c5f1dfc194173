/-! ===== the cells of the class (X) and of the reference (M): kinds and lengths by number ===== -/
def kxl : List Nat := [10, 9, 4, 3, 5, 2, 8, 6, 20, 20, 20, 20, 22, 20, 20, 20, 20, 20, 20, 22, 20, 20, 20, 20, 22, 20, 20, 20, 20, 20, 20, 20, 22, 20, 20, 20, 20, 20, 20, 22, 20, 20, 20, 20, 20, 20, 20, 25, 6, 20, 20, 20, 20, 22, 20, 20, 20, 20, 20, 20, 22, 20, 20, 20, 20, 22, 20, 20, 20, 20, 20, 20, 20, 22, 20, 20, 20, 20, 20, 20, 22, 20, 20, 20, 20, 20, 20, 20, 6, 20, 20, 20, 20, 22, 20, 20, 20, 20, 20, 20, 22, 20, 20, 20, 20, 22, 20, 20, 20, 20, 20, 20, 20, 22, 20, 20, 20, 20, 20, 20, 22, 20, 20, 20, 20, 20, 20, 20, 21, 24, 7, 20, 20, 7, 20, 20, 7, 20, 20, 7, 20, 20, 20, 20, 20, 20, 20, 20, 20, 22, 20, 20, 20, 20, 20, 20, 20, 20, 20, 22, 20, 20, 20, 20, 23, 1, 20, 1, 20, 1, 20, 1, 20, 1, 20, 1, 20, 1, 20, 1, 20, 1, 20, 1, 20, 1, 20, 1, 20, 1, 20, 1, 20, 1, 20, 1, 20, 23, 1, 20, 1, 20, 1, 20, 1, 20, 23, 1, 20, 1, 20, 1, 20, 1, 20, 1, 20, 1, 20, 1, 20, 1, 20, 1, 20, 1, 20, 23, 1, 20, 1, 20, 1, 20, 1, 20, 1, 20, 1, 20, 1, 20, 1, 20, 1, 20, 1, 20, 1, 20, 1, 20, 1, 20, 1, 20, 1, 20, 1, 20, 1, 20, 1, 20, 1, 20, 1, 20, 1, 20, 1, 20, 1, 20, 1, 20, 1, 20, 1, 20, 1, 20, 1, 20, 1, 20, 1, 20, 1, 20, 1, 20, 1, 20, 1, 20, 1, 20, 1, 20, 1, 20, 1, 20, 1, 20, 1, 20, 1, 20, 1, 20, 1, 20, 1, 20, 1, 20, 1, 20, 1, 20, 1, 20, 1, 20, 1, 20, 1, 20, 1, 20, 1, 20, 1, 20, 1, 20, 1, 20, 1, 20, 1, 20, 1, 20, 1, 20, 1, 20, 1, 20, 1, 20, 1, 20, 1, 20, 1, 20, 1, 20, 1, 20, 1, 20, 1, 20, 1, 20, 1, 20, 1, 20, 1, 20, 1, 20, 1, 20, 1, 20, 1, 20, 1, 20, 1, 20, 1, 20, 1, 20, 1, 20, 1, 20, 1, 20, 1, 20, 1, 20, 1, 20, 1, 20, 1, 20, 1, 20, 1, 20, 1, 20, 1, 20, 1, 20, 1, 20, 1, 20, 1, 20, 1, 20, 1, 20, 1, 20, 1, 20, 1, 20, 1, 20, 1, 20, 1, 20, 1, 20, 1, 20, 1, 20, 1, 20, 1, 20, 1, 20, 1, 20, 1, 20, 1, 20, 1, 20, 1, 20, 1, 20, 1, 20, 1, 20, 1, 20, 1, 20, 1, 20, 1, 20, 1, 20, 1, 20, 1, 20, 1, 20, 1, 20, 1, 20, 1, 20, 1, 20, 1, 20, 1, 20, 1, 20, 1, 20, 1, 20, 1, 20]
def lxl : List Nat := [0, 0, 0, 0, 0, 0, 0, 0, 6, 10, 4, 2, 4, 2, 2, 2, 2, 4, 4, 4, 120, 120, 120, 120, 6, 4, 4, 4, 4, 4, 4, 3, 6, 5, 5, 5, 5, 5, 5, 6, 6, 6, 6, 6, 6, 6, 60, 2, 0, 6, 10, 4, 2, 4, 2, 2, 2, 2, 4, 4, 4, 120, 120, 120, 120, 6, 4, 4, 4, 4, 4, 4, 3, 6, 5, 5, 5, 5, 5, 5, 6, 6, 6, 6, 6, 6, 6, 60, 0, 6, 10, 4, 2, 4, 2, 2, 2, 2, 4, 4, 4, 120, 120, 120, 120, 6, 4, 4, 4, 4, 4, 4, 3, 6, 5, 5, 5, 5, 5, 5, 6, 6, 6, 6, 6, 6, 6, 60, 2, 4, 0, 120, 6, 0, 120, 6, 0, 120, 6, 0, 120, 6, 121, 121, 121, 4, 120, 6, 6, 6, 10, 10, 10, 10, 10, 10, 6, 6, 6, 4, 4, 4, 4, 4, 16, 0, 32, 0, 32, 0, 32, 0, 32, 0, 32, 0, 32, 0, 32, 0, 32, 0, 32, 0, 32, 0, 32, 0, 32, 0, 32, 0, 32, 0, 32, 0, 32, 4, 0, 32, 0, 32, 0, 32, 0, 32, 10, 0, 5, 0, 5, 0, 5, 0, 5, 0, 5, 0, 5, 0, 5, 0, 5, 0, 5, 0, 5, 126, 0, 5, 0, 5, 0, 5, 0, 5, 0, 5, 0, 5, 0, 5, 0, 5, 0, 5, 0, 5, 0, 5, 0, 5, 0, 5, 0, 5, 0, 5, 0, 5, 0, 5, 0, 5, 0, 5, 0, 5, 0, 5, 0, 5, 0, 5, 0, 5, 0, 5, 0, 5, 0, 5, 0, 5, 0, 5, 0, 5, 0, 5, 0, 5, 0, 5, 0, 5, 0, 5, 0, 5, 0, 5, 0, 5, 0, 5, 0, 5, 0, 5, 0, 5, 0, 5, 0, 5, 0, 5, 0, 5, 0, 5, 0, 5, 0, 5, 0, 5, 0, 5, 0, 5, 0, 5, 0, 5, 0, 5, 0, 5, 0, 5, 0, 5, 0, 5, 0, 5, 0, 5, 0, 5, 0, 5, 0, 5, 0, 5, 0, 5, 0, 5, 0, 5, 0, 5, 0, 5, 0, 5, 0, 5, 0, 5, 0, 5, 0, 5, 0, 5, 0, 5, 0, 5, 0, 5, 0, 5, 0, 5, 0, 5, 0, 5, 0, 5, 0, 5, 0, 5, 0, 5, 0, 5, 0, 5, 0, 5, 0, 5, 0, 5, 0, 5, 0, 5, 0, 5, 0, 5, 0, 5, 0, 5, 0, 5, 0, 5, 0, 5, 0, 5, 0, 5, 0, 5, 0, 5, 0, 5, 0, 5, 0, 5, 0, 5, 0, 5, 0, 5, 0, 5, 0, 5, 0, 5, 0, 5, 0, 5, 0, 5, 0, 5, 0, 5, 0, 5, 0, 5, 0, 5, 0, 5, 0, 5, 0, 5, 0, 5, 0, 5, 0, 32, 0, 32, 0, 32, 0, 32, 0, 32, 0, 32, 0, 32, 0, 32, 0, 32, 0, 5, 0, 5]
def kml : List Nat := [11, 20, 20, 21, 20, 26, 20, 20, 20, 21, 21, 20, 21, 20]
def lml : List Nat := [0, 675, 1350, 2, 3, 768, 12, 480, 4, 4, 4, 4, 4, 6]
def kX (o : Nat) : Nat := kxl.getD o 0
def lX (o : Nat) : Nat := lxl.getD o 0
def kM (o : Nat) : Nat := kml.getD o 0
def lM (o : Nat) : Nat := lml.getD o 0
set_option maxRecDepth 20000 in
theorem kX_lt {o k : Nat} (h : kX o = k + 1) : o < 504 := by
  rcases Nat.lt_or_ge o 504 with g | g
  · exact g
  · exfalso
    unfold kX at h
    rw [List.getD_eq_getElem?_getD, List.getElem?_eq_none (Nat.le_trans (Nat.le_of_ble_eq_true rfl) g)] at h
    exact absurd h (by simp)
set_option maxRecDepth 20000 in
theorem kM_lt {o k : Nat} (h : kM o = k + 1) : o < 14 := by
  rcases Nat.lt_or_ge o 14 with g | g
  · exact g
  · exfalso
    unfold kM at h
    rw [List.getD_eq_getElem?_getD, List.getElem?_eq_none (Nat.le_trans (Nat.le_of_ble_eq_true rfl) g)] at h
    exact absurd h (by simp)
def eX (q : Nat → ClassId) (ad : Nat → Nat) : EntF := fun o r1 r2 r3 => match kX o with
  | 1 => .inr (0, [.ref (ad (o + 1)), .int (r1 1)])
  | 2 => .inr (1, [.ref (ad 227), .ref (ad 206), .ref (ad 480), .ref (ad 158)])
  | 3 => .inr (2, [.ref (ad 490), .ref (ad 492), .ref (ad 494), .ref (ad (r3 3)), .ref (ad (r3 4))])
  | 4 => .inr (3, [.ref (ad 7), .ref (ad 6), .ref (ad 129), .ref (ad 145), .ref (ad 146), .int (r1 5), .ref (ad 147), .ref (ad 148), .ref (ad 149), .int (r1 9)])
  | 5 => .inr (4, [.ref (ad 156), .ref (ad 157)])
  | 6 => .inr (5, [.int (r1 0), .int (r1 1), .int (r1 2), .int (r1 3), .ref (ad (o + 1)), .ref (ad (o + 2)), .ref (ad (o + 3)), .ref (ad (o + 4)), .ref (ad (o + 5)), .ref (ad (o + 10)), .ref (ad (o + 11)), .ref (ad (o + 12)), .ref (ad (o + 17)), .ref (ad (o + 24)), .ref (ad (o + 25)), .ref (ad (o + 32)), .ref (ad (o + 39))])
  | 7 => .inr (6, [.ref (ad (o + 1)), .ref (ad (o + 2)), .int (r1 2), .int (r1 3), .int (r1 4), .int (r1 5), .int (r1 6), .int (r1 7)])
  | 8 => .inr (7, [.ref (ad 142), .ref (ad 143), .ref (ad 144), .int (r1 3), .int (r1 4)])
  | 9 => .inr (8, [.ref (ad 2), .ref (ad 7), .ref (ad 5), .ref (ad 159), .ref (ad 164), .ref (ad 482), .ref (ad (r3 6)), .ref (ad (r3 7)), .int (r1 8), .ref (ad 197), .ref (ad 484), .int (r1 11)])
  | 10 => .inr (9, [.ref (ad 1), .ref (ad 2), .ref (ad 7), .ref (ad 47), .ref (ad 128), .ref (ad 3), .ref (ad 4), .ref (ad 500), .ref (ad 502), .int (r1 9), .int (r1 10), .int (r1 11)])
  | 20 => .inl (q 20, lX o, .inl r1)
  | 21 => .inl (q 21, lX o, .inl r1)
  | 22 => .inl (q 22, lX o, .inr (.inr (.inr (.inr (fun k => some (ad (o + 1 + 1 * k)))))))
  | 23 => .inl (q 23, lX o, .inr (.inr (.inr (.inr (fun k => some (ad (o + 1 + 2 * k)))))))
  | 24 => .inl (q 24, lX o, .inr (.inr (.inr (.inr (fun k => some (ad (o + 1 + 3 * k)))))))
  | 25 => .inl (q 25, lX o, .inr (.inr (.inr (.inr (fun k => some (ad (o + 1 + 40 * k)))))))
  | _ => .inr (0, [])
def eM (q : Nat → ClassId) (ad : Nat → Nat) : EntF := fun o r1 r2 r3 => match kM o with
  | 11 => .inr (10, [.ref (ad 1), .ref (ad 2), .ref (ad 3), .ref (ad 4), .ref (ad 5), .ref (ad 6), .int (r1 6), .int (r1 7), .int (r1 8), .int (r1 9), .int (r1 10), .int (r1 11), .ref (ad 7), .ref (ad 8), .ref (ad 9), .ref (ad 10), .int (r1 16), .int (r1 17), .ref (ad 11), .ref (ad 12), .ref (ad 13)])
  | 20 => .inl (q 20, lM o, .inl r1)
  | 21 => .inl (q 21, lM o, .inl r1)
  | 26 => .inl (q 26, lM o, .inr (.inl r2))
  | _ => .inr (0, [])
abbrev wX (q : Nat → ClassId) (ad : Nat → Nat) (h : Hs) : va_W := wG 504 (eX q ad) ad h
abbrev wM (q : Nat → ClassId) (ad : Nat → Nat) (h : Hs) : va_W := wG 14 (eM q ad) ad h
theorem xe_1 {q : Nat → ClassId} {ad : Nat → Nat} {h : Hs} {o : Nat} (hk : kX o = 1) : (wX q ad h)[o]? = some (ad o, .inr (0, [.ref (ad (o + 1)), .int (gi h o 1)])) := wG_get (kX_lt hk) (by unfold eX; rw [hk]; rfl)
theorem xe_2 {q : Nat → ClassId} {ad : Nat → Nat} {h : Hs} {o : Nat} (hk : kX o = 2) : (wX q ad h)[o]? = some (ad o, .inr (1, [.ref (ad 227), .ref (ad 206), .ref (ad 480), .ref (ad 158)])) := wG_get (kX_lt hk) (by unfold eX; rw [hk]; rfl)
theorem xe_3 {q : Nat → ClassId} {ad : Nat → Nat} {h : Hs} {o : Nat} (hk : kX o = 3) : (wX q ad h)[o]? = some (ad o, .inr (2, [.ref (ad 490), .ref (ad 492), .ref (ad 494), .ref (ad (gr h o 3)), .ref (ad (gr h o 4))])) := wG_get (kX_lt hk) (by unfold eX; rw [hk]; rfl)
theorem xe_4 {q : Nat → ClassId} {ad : Nat → Nat} {h : Hs} {o : Nat} (hk : kX o = 4) : (wX q ad h)[o]? = some (ad o, .inr (3, [.ref (ad 7), .ref (ad 6), .ref (ad 129), .ref (ad 145), .ref (ad 146), .int (gi h o 5), .ref (ad 147), .ref (ad 148), .ref (ad 149), .int (gi h o 9)])) := wG_get (kX_lt hk) (by unfold eX; rw [hk]; rfl)
theorem xe_5 {q : Nat → ClassId} {ad : Nat → Nat} {h : Hs} {o : Nat} (hk : kX o = 5) : (wX q ad h)[o]? = some (ad o, .inr (4, [.ref (ad 156), .ref (ad 157)])) := wG_get (kX_lt hk) (by unfold eX; rw [hk]; rfl)
theorem xe_6 {q : Nat → ClassId} {ad : Nat → Nat} {h : Hs} {o : Nat} (hk : kX o = 6) : (wX q ad h)[o]? = some (ad o, .inr (5, [.int (gi h o 0), .int (gi h o 1), .int (gi h o 2), .int (gi h o 3), .ref (ad (o + 1)), .ref (ad (o + 2)), .ref (ad (o + 3)), .ref (ad (o + 4)), .ref (ad (o + 5)), .ref (ad (o + 10)), .ref (ad (o + 11)), .ref (ad (o + 12)), .ref (ad (o + 17)), .ref (ad (o + 24)), .ref (ad (o + 25)), .ref (ad (o + 32)), .ref (ad (o + 39))])) := wG_get (kX_lt hk) (by unfold eX; rw [hk]; rfl)
theorem xe_7 {q : Nat → ClassId} {ad : Nat → Nat} {h : Hs} {o : Nat} (hk : kX o = 7) : (wX q ad h)[o]? = some (ad o, .inr (6, [.ref (ad (o + 1)), .ref (ad (o + 2)), .int (gi h o 2), .int (gi h o 3), .int (gi h o 4), .int (gi h o 5), .int (gi h o 6), .int (gi h o 7)])) := wG_get (kX_lt hk) (by unfold eX; rw [hk]; rfl)
theorem xe_8 {q : Nat → ClassId} {ad : Nat → Nat} {h : Hs} {o : Nat} (hk : kX o = 8) : (wX q ad h)[o]? = some (ad o, .inr (7, [.ref (ad 142), .ref (ad 143), .ref (ad 144), .int (gi h o 3), .int (gi h o 4)])) := wG_get (kX_lt hk) (by unfold eX; rw [hk]; rfl)
theorem xe_9 {q : Nat → ClassId} {ad : Nat → Nat} {h : Hs} {o : Nat} (hk : kX o = 9) : (wX q ad h)[o]? = some (ad o, .inr (8, [.ref (ad 2), .ref (ad 7), .ref (ad 5), .ref (ad 159), .ref (ad 164), .ref (ad 482), .ref (ad (gr h o 6)), .ref (ad (gr h o 7)), .int (gi h o 8), .ref (ad 197), .ref (ad 484), .int (gi h o 11)])) := wG_get (kX_lt hk) (by unfold eX; rw [hk]; rfl)
theorem xe_10 {q : Nat → ClassId} {ad : Nat → Nat} {h : Hs} {o : Nat} (hk : kX o = 10) : (wX q ad h)[o]? = some (ad o, .inr (9, [.ref (ad 1), .ref (ad 2), .ref (ad 7), .ref (ad 47), .ref (ad 128), .ref (ad 3), .ref (ad 4), .ref (ad 500), .ref (ad 502), .int (gi h o 9), .int (gi h o 10), .int (gi h o 11)])) := wG_get (kX_lt hk) (by unfold eX; rw [hk]; rfl)
theorem me_11 {q : Nat → ClassId} {ad : Nat → Nat} {h : Hs} {o : Nat} (hk : kM o = 11) : (wM q ad h)[o]? = some (ad o, .inr (10, [.ref (ad 1), .ref (ad 2), .ref (ad 3), .ref (ad 4), .ref (ad 5), .ref (ad 6), .int (gi h o 6), .int (gi h o 7), .int (gi h o 8), .int (gi h o 9), .int (gi h o 10), .int (gi h o 11), .ref (ad 7), .ref (ad 8), .ref (ad 9), .ref (ad 10), .int (gi h o 16), .int (gi h o 17), .ref (ad 11), .ref (ad 12), .ref (ad 13)])) := wG_get (kM_lt hk) (by unfold eM; rw [hk]; rfl)
theorem xe_20 {q : Nat → ClassId} {ad : Nat → Nat} {h : Hs} {o : Nat} {n : Nat} (hk : kX o = 20) (hl : lX o = n) : (wX q ad h)[o]? = some (ad o, .inl (q 20, n, .inl (gi h o))) := by
  subst hl
  exact wG_get (kX_lt hk) (by unfold eX; rw [hk]; rfl)
theorem xs_20 {q : Nat → ClassId} {ad : Nat → Nat} {h : Hs} {o : Nat} {n k : Nat} {v : Int32} (hk : kX o = 20) (hl : lX o = n) : (wX q ad h).set o (ad o, .inl (q 20, n, .inl (upd (gi h o) k v))) = wX q ad (si h o k v) := by
  subst hl
  exact wG_si (by unfold eX; rw [hk]; rfl)
theorem xt_20 {q : Nat → ClassId} {ad : Nat → Nat} {h : Hs} {o : Nat} {n : Nat} {r : Nat → Int32} (hk : kX o = 20) (hl : lX o = n) : (wX q ad h).set o (ad o, .inl (q 20, n, .inl r)) = wX q ad (sa h o r) := by
  subst hl
  exact wG_sa (by unfold eX; rw [hk]; rfl)
theorem xe_21 {q : Nat → ClassId} {ad : Nat → Nat} {h : Hs} {o : Nat} {n : Nat} (hk : kX o = 21) (hl : lX o = n) : (wX q ad h)[o]? = some (ad o, .inl (q 21, n, .inl (gi h o))) := by
  subst hl
  exact wG_get (kX_lt hk) (by unfold eX; rw [hk]; rfl)
theorem xs_21 {q : Nat → ClassId} {ad : Nat → Nat} {h : Hs} {o : Nat} {n k : Nat} {v : Int32} (hk : kX o = 21) (hl : lX o = n) : (wX q ad h).set o (ad o, .inl (q 21, n, .inl (upd (gi h o) k v))) = wX q ad (si h o k v) := by
  subst hl
  exact wG_si (by unfold eX; rw [hk]; rfl)
theorem xt_21 {q : Nat → ClassId} {ad : Nat → Nat} {h : Hs} {o : Nat} {n : Nat} {r : Nat → Int32} (hk : kX o = 21) (hl : lX o = n) : (wX q ad h).set o (ad o, .inl (q 21, n, .inl r)) = wX q ad (sa h o r) := by
  subst hl
  exact wG_sa (by unfold eX; rw [hk]; rfl)
theorem me_20 {q : Nat → ClassId} {ad : Nat → Nat} {h : Hs} {o : Nat} {n : Nat} (hk : kM o = 20) (hl : lM o = n) : (wM q ad h)[o]? = some (ad o, .inl (q 20, n, .inl (gi h o))) := by
  subst hl
  exact wG_get (kM_lt hk) (by unfold eM; rw [hk]; rfl)
theorem ms_20 {q : Nat → ClassId} {ad : Nat → Nat} {h : Hs} {o : Nat} {n k : Nat} {v : Int32} (hk : kM o = 20) (hl : lM o = n) : (wM q ad h).set o (ad o, .inl (q 20, n, .inl (upd (gi h o) k v))) = wM q ad (si h o k v) := by
  subst hl
  exact wG_si (by unfold eM; rw [hk]; rfl)
theorem mt_20 {q : Nat → ClassId} {ad : Nat → Nat} {h : Hs} {o : Nat} {n : Nat} {r : Nat → Int32} (hk : kM o = 20) (hl : lM o = n) : (wM q ad h).set o (ad o, .inl (q 20, n, .inl r)) = wM q ad (sa h o r) := by
  subst hl
  exact wG_sa (by unfold eM; rw [hk]; rfl)
theorem me_21 {q : Nat → ClassId} {ad : Nat → Nat} {h : Hs} {o : Nat} {n : Nat} (hk : kM o = 21) (hl : lM o = n) : (wM q ad h)[o]? = some (ad o, .inl (q 21, n, .inl (gi h o))) := by
  subst hl
  exact wG_get (kM_lt hk) (by unfold eM; rw [hk]; rfl)
theorem ms_21 {q : Nat → ClassId} {ad : Nat → Nat} {h : Hs} {o : Nat} {n k : Nat} {v : Int32} (hk : kM o = 21) (hl : lM o = n) : (wM q ad h).set o (ad o, .inl (q 21, n, .inl (upd (gi h o) k v))) = wM q ad (si h o k v) := by
  subst hl
  exact wG_si (by unfold eM; rw [hk]; rfl)
theorem mt_21 {q : Nat → ClassId} {ad : Nat → Nat} {h : Hs} {o : Nat} {n : Nat} {r : Nat → Int32} (hk : kM o = 21) (hl : lM o = n) : (wM q ad h).set o (ad o, .inl (q 21, n, .inl r)) = wM q ad (sa h o r) := by
  subst hl
  exact wG_sa (by unfold eM; rw [hk]; rfl)
theorem me_26 {q : Nat → ClassId} {ad : Nat → Nat} {h : Hs} {o : Nat} {n : Nat} (hk : kM o = 26) (hl : lM o = n) : (wM q ad h)[o]? = some (ad o, .inl (q 26, n, .inr (.inl (gl h o)))) := by
  subst hl
  exact wG_get (kM_lt hk) (by unfold eM; rw [hk]; rfl)
theorem ms_26 {q : Nat → ClassId} {ad : Nat → Nat} {h : Hs} {o : Nat} {n k : Nat} {v : Int64} (hk : kM o = 26) (hl : lM o = n) : (wM q ad h).set o (ad o, .inl (q 26, n, .inr (.inl (vp_updL (gl h o) k v)))) = wM q ad (sl h o k v) := by
  subst hl
  exact wG_sl (by unfold eM; rw [hk]; rfl)
theorem xe_22 {q : Nat → ClassId} {ad : Nat → Nat} {h : Hs} {o : Nat} {n : Nat} (hk : kX o = 22) (hl : lX o = n) : (wX q ad h)[o]? = some (ad o, .inl (q 22, n, .inr (.inr (.inr (.inr (fun k => some (ad (o + 1 + 1 * k)))))))) := by
  subst hl
  exact wG_get (kX_lt hk) (by unfold eX; rw [hk]; rfl)
theorem xe_23 {q : Nat → ClassId} {ad : Nat → Nat} {h : Hs} {o : Nat} {n : Nat} (hk : kX o = 23) (hl : lX o = n) : (wX q ad h)[o]? = some (ad o, .inl (q 23, n, .inr (.inr (.inr (.inr (fun k => some (ad (o + 1 + 2 * k)))))))) := by
  subst hl
  exact wG_get (kX_lt hk) (by unfold eX; rw [hk]; rfl)
theorem xe_24 {q : Nat → ClassId} {ad : Nat → Nat} {h : Hs} {o : Nat} {n : Nat} (hk : kX o = 24) (hl : lX o = n) : (wX q ad h)[o]? = some (ad o, .inl (q 24, n, .inr (.inr (.inr (.inr (fun k => some (ad (o + 1 + 3 * k)))))))) := by
  subst hl
  exact wG_get (kX_lt hk) (by unfold eX; rw [hk]; rfl)
theorem xe_25 {q : Nat → ClassId} {ad : Nat → Nat} {h : Hs} {o : Nat} {n : Nat} (hk : kX o = 25) (hl : lX o = n) : (wX q ad h)[o]? = some (ad o, .inl (q 25, n, .inr (.inr (.inr (.inr (fun k => some (ad (o + 1 + 40 * k)))))))) := by
  subst hl
  exact wG_get (kX_lt hk) (by unfold eX; rw [hk]; rfl)
theorem xp_1_1 {q : Nat → ClassId} {ad : Nat → Nat} {h : Hs} {o : Nat} {v : Int32} (hk : kX o = 1) : (wX q ad h).set o (ad o, .inr (0, ([.ref (ad (o + 1)), .int (gi h o 1)] : List Value).set 1 (.int v))) = wX q ad (si h o 1 v) := wG_si (by unfold eX; rw [hk]; rfl)
theorem xp_3_3 {q : Nat → ClassId} {ad : Nat → Nat} {h : Hs} {o : Nat} {v : Nat} (hk : kX o = 3) : (wX q ad h).set o (ad o, .inr (2, ([.ref (ad 490), .ref (ad 492), .ref (ad 494), .ref (ad (gr h o 3)), .ref (ad (gr h o 4))] : List Value).set 3 (.ref (ad v)))) = wX q ad (sr h o 3 v) := wG_sr (by unfold eX; rw [hk]; rfl)
theorem xp_3_4 {q : Nat → ClassId} {ad : Nat → Nat} {h : Hs} {o : Nat} {v : Nat} (hk : kX o = 3) : (wX q ad h).set o (ad o, .inr (2, ([.ref (ad 490), .ref (ad 492), .ref (ad 494), .ref (ad (gr h o 3)), .ref (ad (gr h o 4))] : List Value).set 4 (.ref (ad v)))) = wX q ad (sr h o 4 v) := wG_sr (by unfold eX; rw [hk]; rfl)
theorem xp_4_5 {q : Nat → ClassId} {ad : Nat → Nat} {h : Hs} {o : Nat} {v : Int32} (hk : kX o = 4) : (wX q ad h).set o (ad o, .inr (3, ([.ref (ad 7), .ref (ad 6), .ref (ad 129), .ref (ad 145), .ref (ad 146), .int (gi h o 5), .ref (ad 147), .ref (ad 148), .ref (ad 149), .int (gi h o 9)] : List Value).set 5 (.int v))) = wX q ad (si h o 5 v) := wG_si (by unfold eX; rw [hk]; rfl)
theorem xp_4_9 {q : Nat → ClassId} {ad : Nat → Nat} {h : Hs} {o : Nat} {v : Int32} (hk : kX o = 4) : (wX q ad h).set o (ad o, .inr (3, ([.ref (ad 7), .ref (ad 6), .ref (ad 129), .ref (ad 145), .ref (ad 146), .int (gi h o 5), .ref (ad 147), .ref (ad 148), .ref (ad 149), .int (gi h o 9)] : List Value).set 9 (.int v))) = wX q ad (si h o 9 v) := wG_si (by unfold eX; rw [hk]; rfl)
theorem xp_6_0 {q : Nat → ClassId} {ad : Nat → Nat} {h : Hs} {o : Nat} {v : Int32} (hk : kX o = 6) : (wX q ad h).set o (ad o, .inr (5, ([.int (gi h o 0), .int (gi h o 1), .int (gi h o 2), .int (gi h o 3), .ref (ad (o + 1)), .ref (ad (o + 2)), .ref (ad (o + 3)), .ref (ad (o + 4)), .ref (ad (o + 5)), .ref (ad (o + 10)), .ref (ad (o + 11)), .ref (ad (o + 12)), .ref (ad (o + 17)), .ref (ad (o + 24)), .ref (ad (o + 25)), .ref (ad (o + 32)), .ref (ad (o + 39))] : List Value).set 0 (.int v))) = wX q ad (si h o 0 v) := wG_si (by unfold eX; rw [hk]; rfl)
theorem xp_6_1 {q : Nat → ClassId} {ad : Nat → Nat} {h : Hs} {o : Nat} {v : Int32} (hk : kX o = 6) : (wX q ad h).set o (ad o, .inr (5, ([.int (gi h o 0), .int (gi h o 1), .int (gi h o 2), .int (gi h o 3), .ref (ad (o + 1)), .ref (ad (o + 2)), .ref (ad (o + 3)), .ref (ad (o + 4)), .ref (ad (o + 5)), .ref (ad (o + 10)), .ref (ad (o + 11)), .ref (ad (o + 12)), .ref (ad (o + 17)), .ref (ad (o + 24)), .ref (ad (o + 25)), .ref (ad (o + 32)), .ref (ad (o + 39))] : List Value).set 1 (.int v))) = wX q ad (si h o 1 v) := wG_si (by unfold eX; rw [hk]; rfl)
theorem xp_6_2 {q : Nat → ClassId} {ad : Nat → Nat} {h : Hs} {o : Nat} {v : Int32} (hk : kX o = 6) : (wX q ad h).set o (ad o, .inr (5, ([.int (gi h o 0), .int (gi h o 1), .int (gi h o 2), .int (gi h o 3), .ref (ad (o + 1)), .ref (ad (o + 2)), .ref (ad (o + 3)), .ref (ad (o + 4)), .ref (ad (o + 5)), .ref (ad (o + 10)), .ref (ad (o + 11)), .ref (ad (o + 12)), .ref (ad (o + 17)), .ref (ad (o + 24)), .ref (ad (o + 25)), .ref (ad (o + 32)), .ref (ad (o + 39))] : List Value).set 2 (.int v))) = wX q ad (si h o 2 v) := wG_si (by unfold eX; rw [hk]; rfl)
theorem xp_6_3 {q : Nat → ClassId} {ad : Nat → Nat} {h : Hs} {o : Nat} {v : Int32} (hk : kX o = 6) : (wX q ad h).set o (ad o, .inr (5, ([.int (gi h o 0), .int (gi h o 1), .int (gi h o 2), .int (gi h o 3), .ref (ad (o + 1)), .ref (ad (o + 2)), .ref (ad (o + 3)), .ref (ad (o + 4)), .ref (ad (o + 5)), .ref (ad (o + 10)), .ref (ad (o + 11)), .ref (ad (o + 12)), .ref (ad (o + 17)), .ref (ad (o + 24)), .ref (ad (o + 25)), .ref (ad (o + 32)), .ref (ad (o + 39))] : List Value).set 3 (.int v))) = wX q ad (si h o 3 v) := wG_si (by unfold eX; rw [hk]; rfl)
theorem xp_7_2 {q : Nat → ClassId} {ad : Nat → Nat} {h : Hs} {o : Nat} {v : Int32} (hk : kX o = 7) : (wX q ad h).set o (ad o, .inr (6, ([.ref (ad (o + 1)), .ref (ad (o + 2)), .int (gi h o 2), .int (gi h o 3), .int (gi h o 4), .int (gi h o 5), .int (gi h o 6), .int (gi h o 7)] : List Value).set 2 (.int v))) = wX q ad (si h o 2 v) := wG_si (by unfold eX; rw [hk]; rfl)
theorem xp_7_3 {q : Nat → ClassId} {ad : Nat → Nat} {h : Hs} {o : Nat} {v : Int32} (hk : kX o = 7) : (wX q ad h).set o (ad o, .inr (6, ([.ref (ad (o + 1)), .ref (ad (o + 2)), .int (gi h o 2), .int (gi h o 3), .int (gi h o 4), .int (gi h o 5), .int (gi h o 6), .int (gi h o 7)] : List Value).set 3 (.int v))) = wX q ad (si h o 3 v) := wG_si (by unfold eX; rw [hk]; rfl)
theorem xp_7_4 {q : Nat → ClassId} {ad : Nat → Nat} {h : Hs} {o : Nat} {v : Int32} (hk : kX o = 7) : (wX q ad h).set o (ad o, .inr (6, ([.ref (ad (o + 1)), .ref (ad (o + 2)), .int (gi h o 2), .int (gi h o 3), .int (gi h o 4), .int (gi h o 5), .int (gi h o 6), .int (gi h o 7)] : List Value).set 4 (.int v))) = wX q ad (si h o 4 v) := wG_si (by unfold eX; rw [hk]; rfl)
theorem xp_7_5 {q : Nat → ClassId} {ad : Nat → Nat} {h : Hs} {o : Nat} {v : Int32} (hk : kX o = 7) : (wX q ad h).set o (ad o, .inr (6, ([.ref (ad (o + 1)), .ref (ad (o + 2)), .int (gi h o 2), .int (gi h o 3), .int (gi h o 4), .int (gi h o 5), .int (gi h o 6), .int (gi h o 7)] : List Value).set 5 (.int v))) = wX q ad (si h o 5 v) := wG_si (by unfold eX; rw [hk]; rfl)
theorem xp_7_6 {q : Nat → ClassId} {ad : Nat → Nat} {h : Hs} {o : Nat} {v : Int32} (hk : kX o = 7) : (wX q ad h).set o (ad o, .inr (6, ([.ref (ad (o + 1)), .ref (ad (o + 2)), .int (gi h o 2), .int (gi h o 3), .int (gi h o 4), .int (gi h o 5), .int (gi h o 6), .int (gi h o 7)] : List Value).set 6 (.int v))) = wX q ad (si h o 6 v) := wG_si (by unfold eX; rw [hk]; rfl)
theorem xp_7_7 {q : Nat → ClassId} {ad : Nat → Nat} {h : Hs} {o : Nat} {v : Int32} (hk : kX o = 7) : (wX q ad h).set o (ad o, .inr (6, ([.ref (ad (o + 1)), .ref (ad (o + 2)), .int (gi h o 2), .int (gi h o 3), .int (gi h o 4), .int (gi h o 5), .int (gi h o 6), .int (gi h o 7)] : List Value).set 7 (.int v))) = wX q ad (si h o 7 v) := wG_si (by unfold eX; rw [hk]; rfl)
theorem xp_8_3 {q : Nat → ClassId} {ad : Nat → Nat} {h : Hs} {o : Nat} {v : Int32} (hk : kX o = 8) : (wX q ad h).set o (ad o, .inr (7, ([.ref (ad 142), .ref (ad 143), .ref (ad 144), .int (gi h o 3), .int (gi h o 4)] : List Value).set 3 (.int v))) = wX q ad (si h o 3 v) := wG_si (by unfold eX; rw [hk]; rfl)
theorem xp_8_4 {q : Nat → ClassId} {ad : Nat → Nat} {h : Hs} {o : Nat} {v : Int32} (hk : kX o = 8) : (wX q ad h).set o (ad o, .inr (7, ([.ref (ad 142), .ref (ad 143), .ref (ad 144), .int (gi h o 3), .int (gi h o 4)] : List Value).set 4 (.int v))) = wX q ad (si h o 4 v) := wG_si (by unfold eX; rw [hk]; rfl)
theorem xp_9_6 {q : Nat → ClassId} {ad : Nat → Nat} {h : Hs} {o : Nat} {v : Nat} (hk : kX o = 9) : (wX q ad h).set o (ad o, .inr (8, ([.ref (ad 2), .ref (ad 7), .ref (ad 5), .ref (ad 159), .ref (ad 164), .ref (ad 482), .ref (ad (gr h o 6)), .ref (ad (gr h o 7)), .int (gi h o 8), .ref (ad 197), .ref (ad 484), .int (gi h o 11)] : List Value).set 6 (.ref (ad v)))) = wX q ad (sr h o 6 v) := wG_sr (by unfold eX; rw [hk]; rfl)
theorem xp_9_7 {q : Nat → ClassId} {ad : Nat → Nat} {h : Hs} {o : Nat} {v : Nat} (hk : kX o = 9) : (wX q ad h).set o (ad o, .inr (8, ([.ref (ad 2), .ref (ad 7), .ref (ad 5), .ref (ad 159), .ref (ad 164), .ref (ad 482), .ref (ad (gr h o 6)), .ref (ad (gr h o 7)), .int (gi h o 8), .ref (ad 197), .ref (ad 484), .int (gi h o 11)] : List Value).set 7 (.ref (ad v)))) = wX q ad (sr h o 7 v) := wG_sr (by unfold eX; rw [hk]; rfl)
theorem xp_9_8 {q : Nat → ClassId} {ad : Nat → Nat} {h : Hs} {o : Nat} {v : Int32} (hk : kX o = 9) : (wX q ad h).set o (ad o, .inr (8, ([.ref (ad 2), .ref (ad 7), .ref (ad 5), .ref (ad 159), .ref (ad 164), .ref (ad 482), .ref (ad (gr h o 6)), .ref (ad (gr h o 7)), .int (gi h o 8), .ref (ad 197), .ref (ad 484), .int (gi h o 11)] : List Value).set 8 (.int v))) = wX q ad (si h o 8 v) := wG_si (by unfold eX; rw [hk]; rfl)
theorem xp_9_11 {q : Nat → ClassId} {ad : Nat → Nat} {h : Hs} {o : Nat} {v : Int32} (hk : kX o = 9) : (wX q ad h).set o (ad o, .inr (8, ([.ref (ad 2), .ref (ad 7), .ref (ad 5), .ref (ad 159), .ref (ad 164), .ref (ad 482), .ref (ad (gr h o 6)), .ref (ad (gr h o 7)), .int (gi h o 8), .ref (ad 197), .ref (ad 484), .int (gi h o 11)] : List Value).set 11 (.int v))) = wX q ad (si h o 11 v) := wG_si (by unfold eX; rw [hk]; rfl)
theorem xp_10_9 {q : Nat → ClassId} {ad : Nat → Nat} {h : Hs} {o : Nat} {v : Int32} (hk : kX o = 10) : (wX q ad h).set o (ad o, .inr (9, ([.ref (ad 1), .ref (ad 2), .ref (ad 7), .ref (ad 47), .ref (ad 128), .ref (ad 3), .ref (ad 4), .ref (ad 500), .ref (ad 502), .int (gi h o 9), .int (gi h o 10), .int (gi h o 11)] : List Value).set 9 (.int v))) = wX q ad (si h o 9 v) := wG_si (by unfold eX; rw [hk]; rfl)
theorem xp_10_10 {q : Nat → ClassId} {ad : Nat → Nat} {h : Hs} {o : Nat} {v : Int32} (hk : kX o = 10) : (wX q ad h).set o (ad o, .inr (9, ([.ref (ad 1), .ref (ad 2), .ref (ad 7), .ref (ad 47), .ref (ad 128), .ref (ad 3), .ref (ad 4), .ref (ad 500), .ref (ad 502), .int (gi h o 9), .int (gi h o 10), .int (gi h o 11)] : List Value).set 10 (.int v))) = wX q ad (si h o 10 v) := wG_si (by unfold eX; rw [hk]; rfl)
theorem xp_10_11 {q : Nat → ClassId} {ad : Nat → Nat} {h : Hs} {o : Nat} {v : Int32} (hk : kX o = 10) : (wX q ad h).set o (ad o, .inr (9, ([.ref (ad 1), .ref (ad 2), .ref (ad 7), .ref (ad 47), .ref (ad 128), .ref (ad 3), .ref (ad 4), .ref (ad 500), .ref (ad 502), .int (gi h o 9), .int (gi h o 10), .int (gi h o 11)] : List Value).set 11 (.int v))) = wX q ad (si h o 11 v) := wG_si (by unfold eX; rw [hk]; rfl)
theorem mp_11_6 {q : Nat → ClassId} {ad : Nat → Nat} {h : Hs} {o : Nat} {v : Int32} (hk : kM o = 11) : (wM q ad h).set o (ad o, .inr (10, ([.ref (ad 1), .ref (ad 2), .ref (ad 3), .ref (ad 4), .ref (ad 5), .ref (ad 6), .int (gi h o 6), .int (gi h o 7), .int (gi h o 8), .int (gi h o 9), .int (gi h o 10), .int (gi h o 11), .ref (ad 7), .ref (ad 8), .ref (ad 9), .ref (ad 10), .int (gi h o 16), .int (gi h o 17), .ref (ad 11), .ref (ad 12), .ref (ad 13)] : List Value).set 6 (.int v))) = wM q ad (si h o 6 v) := wG_si (by unfold eM; rw [hk]; rfl)
theorem mp_11_7 {q : Nat → ClassId} {ad : Nat → Nat} {h : Hs} {o : Nat} {v : Int32} (hk : kM o = 11) : (wM q ad h).set o (ad o, .inr (10, ([.ref (ad 1), .ref (ad 2), .ref (ad 3), .ref (ad 4), .ref (ad 5), .ref (ad 6), .int (gi h o 6), .int (gi h o 7), .int (gi h o 8), .int (gi h o 9), .int (gi h o 10), .int (gi h o 11), .ref (ad 7), .ref (ad 8), .ref (ad 9), .ref (ad 10), .int (gi h o 16), .int (gi h o 17), .ref (ad 11), .ref (ad 12), .ref (ad 13)] : List Value).set 7 (.int v))) = wM q ad (si h o 7 v) := wG_si (by unfold eM; rw [hk]; rfl)
theorem mp_11_8 {q : Nat → ClassId} {ad : Nat → Nat} {h : Hs} {o : Nat} {v : Int32} (hk : kM o = 11) : (wM q ad h).set o (ad o, .inr (10, ([.ref (ad 1), .ref (ad 2), .ref (ad 3), .ref (ad 4), .ref (ad 5), .ref (ad 6), .int (gi h o 6), .int (gi h o 7), .int (gi h o 8), .int (gi h o 9), .int (gi h o 10), .int (gi h o 11), .ref (ad 7), .ref (ad 8), .ref (ad 9), .ref (ad 10), .int (gi h o 16), .int (gi h o 17), .ref (ad 11), .ref (ad 12), .ref (ad 13)] : List Value).set 8 (.int v))) = wM q ad (si h o 8 v) := wG_si (by unfold eM; rw [hk]; rfl)
theorem mp_11_9 {q : Nat → ClassId} {ad : Nat → Nat} {h : Hs} {o : Nat} {v : Int32} (hk : kM o = 11) : (wM q ad h).set o (ad o, .inr (10, ([.ref (ad 1), .ref (ad 2), .ref (ad 3), .ref (ad 4), .ref (ad 5), .ref (ad 6), .int (gi h o 6), .int (gi h o 7), .int (gi h o 8), .int (gi h o 9), .int (gi h o 10), .int (gi h o 11), .ref (ad 7), .ref (ad 8), .ref (ad 9), .ref (ad 10), .int (gi h o 16), .int (gi h o 17), .ref (ad 11), .ref (ad 12), .ref (ad 13)] : List Value).set 9 (.int v))) = wM q ad (si h o 9 v) := wG_si (by unfold eM; rw [hk]; rfl)
theorem mp_11_10 {q : Nat → ClassId} {ad : Nat → Nat} {h : Hs} {o : Nat} {v : Int32} (hk : kM o = 11) : (wM q ad h).set o (ad o, .inr (10, ([.ref (ad 1), .ref (ad 2), .ref (ad 3), .ref (ad 4), .ref (ad 5), .ref (ad 6), .int (gi h o 6), .int (gi h o 7), .int (gi h o 8), .int (gi h o 9), .int (gi h o 10), .int (gi h o 11), .ref (ad 7), .ref (ad 8), .ref (ad 9), .ref (ad 10), .int (gi h o 16), .int (gi h o 17), .ref (ad 11), .ref (ad 12), .ref (ad 13)] : List Value).set 10 (.int v))) = wM q ad (si h o 10 v) := wG_si (by unfold eM; rw [hk]; rfl)
theorem mp_11_11 {q : Nat → ClassId} {ad : Nat → Nat} {h : Hs} {o : Nat} {v : Int32} (hk : kM o = 11) : (wM q ad h).set o (ad o, .inr (10, ([.ref (ad 1), .ref (ad 2), .ref (ad 3), .ref (ad 4), .ref (ad 5), .ref (ad 6), .int (gi h o 6), .int (gi h o 7), .int (gi h o 8), .int (gi h o 9), .int (gi h o 10), .int (gi h o 11), .ref (ad 7), .ref (ad 8), .ref (ad 9), .ref (ad 10), .int (gi h o 16), .int (gi h o 17), .ref (ad 11), .ref (ad 12), .ref (ad 13)] : List Value).set 11 (.int v))) = wM q ad (si h o 11 v) := wG_si (by unfold eM; rw [hk]; rfl)
theorem mp_11_16 {q : Nat → ClassId} {ad : Nat → Nat} {h : Hs} {o : Nat} {v : Int32} (hk : kM o = 11) : (wM q ad h).set o (ad o, .inr (10, ([.ref (ad 1), .ref (ad 2), .ref (ad 3), .ref (ad 4), .ref (ad 5), .ref (ad 6), .int (gi h o 6), .int (gi h o 7), .int (gi h o 8), .int (gi h o 9), .int (gi h o 10), .int (gi h o 11), .ref (ad 7), .ref (ad 8), .ref (ad 9), .ref (ad 10), .int (gi h o 16), .int (gi h o 17), .ref (ad 11), .ref (ad 12), .ref (ad 13)] : List Value).set 16 (.int v))) = wM q ad (si h o 16 v) := wG_si (by unfold eM; rw [hk]; rfl)
theorem mp_11_17 {q : Nat → ClassId} {ad : Nat → Nat} {h : Hs} {o : Nat} {v : Int32} (hk : kM o = 11) : (wM q ad h).set o (ad o, .inr (10, ([.ref (ad 1), .ref (ad 2), .ref (ad 3), .ref (ad 4), .ref (ad 5), .ref (ad 6), .int (gi h o 6), .int (gi h o 7), .int (gi h o 8), .int (gi h o 9), .int (gi h o 10), .int (gi h o 11), .ref (ad 7), .ref (ad 8), .ref (ad 9), .ref (ad 10), .int (gi h o 16), .int (gi h o 17), .ref (ad 11), .ref (ad 12), .ref (ad 13)] : List Value).set 17 (.int v))) = wM q ad (si h o 17 v) := wG_si (by unfold eM; rw [hk]; rfl)
theorem kx_0 : kX 0 = 10 := by decide +kernel
theorem kx_1 : kX 1 = 9 := by decide +kernel
theorem kx_2 : kX 2 = 4 := by decide +kernel
theorem kx_3 : kX 3 = 3 := by decide +kernel
theorem kx_4 : kX 4 = 5 := by decide +kernel
theorem kx_5 : kX 5 = 2 := by decide +kernel
theorem kx_6 : kX 6 = 8 := by decide +kernel
theorem kx_7 : kX 7 = 6 := by decide +kernel
theorem kx_8 : kX 8 = 20 := by decide +kernel
theorem lx_8 : lX 8 = 6 := by decide +kernel
theorem kx_9 : kX 9 = 20 := by decide +kernel
theorem lx_9 : lX 9 = 10 := by decide +kernel
theorem kx_10 : kX 10 = 20 := by decide +kernel
theorem lx_10 : lX 10 = 4 := by decide +kernel
theorem kx_11 : kX 11 = 20 := by decide +kernel
theorem lx_11 : lX 11 = 2 := by decide +kernel
theorem kx_12 : kX 12 = 22 := by decide +kernel
theorem lx_12 : lX 12 = 4 := by decide +kernel
theorem kx_13 : kX 13 = 20 := by decide +kernel
theorem lx_13 : lX 13 = 2 := by decide +kernel
theorem kx_14 : kX 14 = 20 := by decide +kernel
theorem lx_14 : lX 14 = 2 := by decide +kernel
theorem kx_15 : kX 15 = 20 := by decide +kernel
theorem lx_15 : lX 15 = 2 := by decide +kernel
theorem kx_16 : kX 16 = 20 := by decide +kernel
theorem lx_16 : lX 16 = 2 := by decide +kernel
theorem kx_17 : kX 17 = 20 := by decide +kernel
theorem lx_17 : lX 17 = 4 := by decide +kernel
theorem kx_18 : kX 18 = 20 := by decide +kernel
theorem lx_18 : lX 18 = 4 := by decide +kernel
theorem kx_19 : kX 19 = 22 := by decide +kernel
theorem lx_19 : lX 19 = 4 := by decide +kernel
theorem kx_20 : kX 20 = 20 := by decide +kernel
theorem lx_20 : lX 20 = 120 := by decide +kernel
theorem kx_21 : kX 21 = 20 := by decide +kernel
theorem lx_21 : lX 21 = 120 := by decide +kernel
theorem kx_22 : kX 22 = 20 := by decide +kernel
theorem lx_22 : lX 22 = 120 := by decide +kernel
theorem kx_23 : kX 23 = 20 := by decide +kernel
theorem lx_23 : lX 23 = 120 := by decide +kernel
theorem kx_24 : kX 24 = 22 := by decide +kernel
theorem lx_24 : lX 24 = 6 := by decide +kernel
theorem kx_25 : kX 25 = 20 := by decide +kernel
theorem lx_25 : lX 25 = 4 := by decide +kernel
theorem kx_26 : kX 26 = 20 := by decide +kernel
theorem lx_26 : lX 26 = 4 := by decide +kernel
theorem kx_27 : kX 27 = 20 := by decide +kernel
theorem lx_27 : lX 27 = 4 := by decide +kernel
theorem kx_28 : kX 28 = 20 := by decide +kernel
theorem lx_28 : lX 28 = 4 := by decide +kernel
theorem kx_29 : kX 29 = 20 := by decide +kernel
theorem lx_29 : lX 29 = 4 := by decide +kernel
theorem kx_30 : kX 30 = 20 := by decide +kernel
theorem lx_30 : lX 30 = 4 := by decide +kernel
theorem kx_31 : kX 31 = 20 := by decide +kernel
theorem lx_31 : lX 31 = 3 := by decide +kernel
theorem kx_32 : kX 32 = 22 := by decide +kernel
theorem lx_32 : lX 32 = 6 := by decide +kernel
theorem kx_33 : kX 33 = 20 := by decide +kernel
theorem lx_33 : lX 33 = 5 := by decide +kernel
theorem kx_34 : kX 34 = 20 := by decide +kernel
theorem lx_34 : lX 34 = 5 := by decide +kernel
theorem kx_35 : kX 35 = 20 := by decide +kernel
theorem lx_35 : lX 35 = 5 := by decide +kernel
theorem kx_36 : kX 36 = 20 := by decide +kernel
theorem lx_36 : lX 36 = 5 := by decide +kernel
theorem kx_37 : kX 37 = 20 := by decide +kernel
theorem lx_37 : lX 37 = 5 := by decide +kernel
theorem kx_38 : kX 38 = 20 := by decide +kernel
theorem lx_38 : lX 38 = 5 := by decide +kernel
theorem kx_39 : kX 39 = 22 := by decide +kernel
theorem lx_39 : lX 39 = 6 := by decide +kernel
theorem kx_40 : kX 40 = 20 := by decide +kernel
theorem lx_40 : lX 40 = 6 := by decide +kernel
theorem kx_41 : kX 41 = 20 := by decide +kernel
theorem lx_41 : lX 41 = 6 := by decide +kernel
theorem kx_42 : kX 42 = 20 := by decide +kernel
theorem lx_42 : lX 42 = 6 := by decide +kernel
theorem kx_43 : kX 43 = 20 := by decide +kernel
theorem lx_43 : lX 43 = 6 := by decide +kernel
theorem kx_44 : kX 44 = 20 := by decide +kernel
theorem lx_44 : lX 44 = 6 := by decide +kernel
theorem kx_45 : kX 45 = 20 := by decide +kernel
theorem lx_45 : lX 45 = 6 := by decide +kernel
theorem kx_46 : kX 46 = 20 := by decide +kernel
theorem lx_46 : lX 46 = 60 := by decide +kernel
theorem kx_47 : kX 47 = 25 := by decide +kernel
theorem lx_47 : lX 47 = 2 := by decide +kernel
theorem kx_48 : kX 48 = 6 := by decide +kernel
theorem kx_49 : kX 49 = 20 := by decide +kernel
theorem lx_49 : lX 49 = 6 := by decide +kernel
theorem kx_50 : kX 50 = 20 := by decide +kernel
theorem lx_50 : lX 50 = 10 := by decide +kernel
theorem kx_51 : kX 51 = 20 := by decide +kernel
theorem lx_51 : lX 51 = 4 := by decide +kernel
theorem kx_52 : kX 52 = 20 := by decide +kernel
theorem lx_52 : lX 52 = 2 := by decide +kernel
theorem kx_53 : kX 53 = 22 := by decide +kernel
theorem lx_53 : lX 53 = 4 := by decide +kernel
theorem kx_54 : kX 54 = 20 := by decide +kernel
theorem lx_54 : lX 54 = 2 := by decide +kernel
theorem kx_55 : kX 55 = 20 := by decide +kernel
theorem lx_55 : lX 55 = 2 := by decide +kernel
theorem kx_56 : kX 56 = 20 := by decide +kernel
theorem lx_56 : lX 56 = 2 := by decide +kernel
theorem kx_57 : kX 57 = 20 := by decide +kernel
theorem lx_57 : lX 57 = 2 := by decide +kernel
theorem kx_58 : kX 58 = 20 := by decide +kernel
theorem lx_58 : lX 58 = 4 := by decide +kernel
theorem kx_59 : kX 59 = 20 := by decide +kernel
theorem lx_59 : lX 59 = 4 := by decide +kernel
theorem kx_60 : kX 60 = 22 := by decide +kernel
theorem lx_60 : lX 60 = 4 := by decide +kernel
theorem kx_61 : kX 61 = 20 := by decide +kernel
theorem lx_61 : lX 61 = 120 := by decide +kernel
theorem kx_62 : kX 62 = 20 := by decide +kernel
theorem lx_62 : lX 62 = 120 := by decide +kernel
theorem kx_63 : kX 63 = 20 := by decide +kernel
theorem lx_63 : lX 63 = 120 := by decide +kernel
theorem kx_64 : kX 64 = 20 := by decide +kernel
theorem lx_64 : lX 64 = 120 := by decide +kernel
theorem kx_65 : kX 65 = 22 := by decide +kernel
theorem lx_65 : lX 65 = 6 := by decide +kernel
theorem kx_66 : kX 66 = 20 := by decide +kernel
theorem lx_66 : lX 66 = 4 := by decide +kernel
theorem kx_67 : kX 67 = 20 := by decide +kernel
theorem lx_67 : lX 67 = 4 := by decide +kernel
theorem kx_68 : kX 68 = 20 := by decide +kernel
theorem lx_68 : lX 68 = 4 := by decide +kernel
theorem kx_69 : kX 69 = 20 := by decide +kernel
theorem lx_69 : lX 69 = 4 := by decide +kernel
theorem kx_70 : kX 70 = 20 := by decide +kernel
theorem lx_70 : lX 70 = 4 := by decide +kernel
theorem kx_71 : kX 71 = 20 := by decide +kernel
theorem lx_71 : lX 71 = 4 := by decide +kernel
theorem kx_72 : kX 72 = 20 := by decide +kernel
theorem lx_72 : lX 72 = 3 := by decide +kernel
theorem kx_73 : kX 73 = 22 := by decide +kernel
theorem lx_73 : lX 73 = 6 := by decide +kernel
theorem kx_74 : kX 74 = 20 := by decide +kernel
theorem lx_74 : lX 74 = 5 := by decide +kernel
theorem kx_75 : kX 75 = 20 := by decide +kernel
theorem lx_75 : lX 75 = 5 := by decide +kernel
theorem kx_76 : kX 76 = 20 := by decide +kernel
theorem lx_76 : lX 76 = 5 := by decide +kernel
theorem kx_77 : kX 77 = 20 := by decide +kernel
theorem lx_77 : lX 77 = 5 := by decide +kernel
theorem kx_78 : kX 78 = 20 := by decide +kernel
theorem lx_78 : lX 78 = 5 := by decide +kernel
theorem kx_79 : kX 79 = 20 := by decide +kernel
theorem lx_79 : lX 79 = 5 := by decide +kernel
theorem kx_80 : kX 80 = 22 := by decide +kernel
theorem lx_80 : lX 80 = 6 := by decide +kernel
theorem kx_81 : kX 81 = 20 := by decide +kernel
theorem lx_81 : lX 81 = 6 := by decide +kernel
theorem kx_82 : kX 82 = 20 := by decide +kernel
theorem lx_82 : lX 82 = 6 := by decide +kernel
theorem kx_83 : kX 83 = 20 := by decide +kernel
theorem lx_83 : lX 83 = 6 := by decide +kernel
theorem kx_84 : kX 84 = 20 := by decide +kernel
theorem lx_84 : lX 84 = 6 := by decide +kernel
theorem kx_85 : kX 85 = 20 := by decide +kernel
theorem lx_85 : lX 85 = 6 := by decide +kernel
theorem kx_86 : kX 86 = 20 := by decide +kernel
theorem lx_86 : lX 86 = 6 := by decide +kernel
theorem kx_87 : kX 87 = 20 := by decide +kernel
theorem lx_87 : lX 87 = 60 := by decide +kernel
theorem kx_88 : kX 88 = 6 := by decide +kernel
theorem kx_89 : kX 89 = 20 := by decide +kernel
theorem lx_89 : lX 89 = 6 := by decide +kernel
theorem kx_90 : kX 90 = 20 := by decide +kernel
theorem lx_90 : lX 90 = 10 := by decide +kernel
theorem kx_91 : kX 91 = 20 := by decide +kernel
theorem lx_91 : lX 91 = 4 := by decide +kernel
theorem kx_92 : kX 92 = 20 := by decide +kernel
theorem lx_92 : lX 92 = 2 := by decide +kernel
theorem kx_93 : kX 93 = 22 := by decide +kernel
theorem lx_93 : lX 93 = 4 := by decide +kernel
theorem kx_94 : kX 94 = 20 := by decide +kernel
theorem lx_94 : lX 94 = 2 := by decide +kernel
theorem kx_95 : kX 95 = 20 := by decide +kernel
theorem lx_95 : lX 95 = 2 := by decide +kernel
theorem kx_96 : kX 96 = 20 := by decide +kernel
theorem lx_96 : lX 96 = 2 := by decide +kernel
theorem kx_97 : kX 97 = 20 := by decide +kernel
theorem lx_97 : lX 97 = 2 := by decide +kernel
theorem kx_98 : kX 98 = 20 := by decide +kernel
theorem lx_98 : lX 98 = 4 := by decide +kernel
theorem kx_99 : kX 99 = 20 := by decide +kernel
theorem lx_99 : lX 99 = 4 := by decide +kernel
theorem kx_100 : kX 100 = 22 := by decide +kernel
theorem lx_100 : lX 100 = 4 := by decide +kernel
theorem kx_101 : kX 101 = 20 := by decide +kernel
theorem lx_101 : lX 101 = 120 := by decide +kernel
theorem kx_102 : kX 102 = 20 := by decide +kernel
theorem lx_102 : lX 102 = 120 := by decide +kernel
theorem kx_103 : kX 103 = 20 := by decide +kernel
theorem lx_103 : lX 103 = 120 := by decide +kernel
theorem kx_104 : kX 104 = 20 := by decide +kernel
theorem lx_104 : lX 104 = 120 := by decide +kernel
theorem kx_105 : kX 105 = 22 := by decide +kernel
theorem lx_105 : lX 105 = 6 := by decide +kernel
theorem kx_106 : kX 106 = 20 := by decide +kernel
theorem lx_106 : lX 106 = 4 := by decide +kernel
theorem kx_107 : kX 107 = 20 := by decide +kernel
theorem lx_107 : lX 107 = 4 := by decide +kernel
theorem kx_108 : kX 108 = 20 := by decide +kernel
theorem lx_108 : lX 108 = 4 := by decide +kernel
theorem kx_109 : kX 109 = 20 := by decide +kernel
theorem lx_109 : lX 109 = 4 := by decide +kernel
theorem kx_110 : kX 110 = 20 := by decide +kernel
theorem lx_110 : lX 110 = 4 := by decide +kernel
theorem kx_111 : kX 111 = 20 := by decide +kernel
theorem lx_111 : lX 111 = 4 := by decide +kernel
theorem kx_112 : kX 112 = 20 := by decide +kernel
theorem lx_112 : lX 112 = 3 := by decide +kernel
theorem kx_113 : kX 113 = 22 := by decide +kernel
theorem lx_113 : lX 113 = 6 := by decide +kernel
theorem kx_114 : kX 114 = 20 := by decide +kernel
theorem lx_114 : lX 114 = 5 := by decide +kernel
theorem kx_115 : kX 115 = 20 := by decide +kernel
theorem lx_115 : lX 115 = 5 := by decide +kernel
theorem kx_116 : kX 116 = 20 := by decide +kernel
theorem lx_116 : lX 116 = 5 := by decide +kernel
theorem kx_117 : kX 117 = 20 := by decide +kernel
theorem lx_117 : lX 117 = 5 := by decide +kernel
theorem kx_118 : kX 118 = 20 := by decide +kernel
theorem lx_118 : lX 118 = 5 := by decide +kernel
theorem kx_119 : kX 119 = 20 := by decide +kernel
theorem lx_119 : lX 119 = 5 := by decide +kernel
theorem kx_120 : kX 120 = 22 := by decide +kernel
theorem lx_120 : lX 120 = 6 := by decide +kernel
theorem kx_121 : kX 121 = 20 := by decide +kernel
theorem lx_121 : lX 121 = 6 := by decide +kernel
theorem kx_122 : kX 122 = 20 := by decide +kernel
theorem lx_122 : lX 122 = 6 := by decide +kernel
theorem kx_123 : kX 123 = 20 := by decide +kernel
theorem lx_123 : lX 123 = 6 := by decide +kernel
theorem kx_124 : kX 124 = 20 := by decide +kernel
theorem lx_124 : lX 124 = 6 := by decide +kernel
theorem kx_125 : kX 125 = 20 := by decide +kernel
theorem lx_125 : lX 125 = 6 := by decide +kernel
theorem kx_126 : kX 126 = 20 := by decide +kernel
theorem lx_126 : lX 126 = 6 := by decide +kernel
theorem kx_127 : kX 127 = 20 := by decide +kernel
theorem lx_127 : lX 127 = 60 := by decide +kernel
theorem kx_128 : kX 128 = 21 := by decide +kernel
theorem lx_128 : lX 128 = 2 := by decide +kernel
theorem kx_129 : kX 129 = 24 := by decide +kernel
theorem lx_129 : lX 129 = 4 := by decide +kernel
theorem kx_130 : kX 130 = 7 := by decide +kernel
theorem kx_131 : kX 131 = 20 := by decide +kernel
theorem lx_131 : lX 131 = 120 := by decide +kernel
theorem kx_132 : kX 132 = 20 := by decide +kernel
theorem lx_132 : lX 132 = 6 := by decide +kernel
theorem kx_133 : kX 133 = 7 := by decide +kernel
theorem kx_134 : kX 134 = 20 := by decide +kernel
theorem lx_134 : lX 134 = 120 := by decide +kernel
theorem kx_135 : kX 135 = 20 := by decide +kernel
theorem lx_135 : lX 135 = 6 := by decide +kernel
theorem kx_136 : kX 136 = 7 := by decide +kernel
theorem kx_137 : kX 137 = 20 := by decide +kernel
theorem lx_137 : lX 137 = 120 := by decide +kernel
theorem kx_138 : kX 138 = 20 := by decide +kernel
theorem lx_138 : lX 138 = 6 := by decide +kernel
theorem kx_139 : kX 139 = 7 := by decide +kernel
theorem kx_140 : kX 140 = 20 := by decide +kernel
theorem lx_140 : lX 140 = 120 := by decide +kernel
theorem kx_141 : kX 141 = 20 := by decide +kernel
theorem lx_141 : lX 141 = 6 := by decide +kernel
theorem kx_142 : kX 142 = 20 := by decide +kernel
theorem lx_142 : lX 142 = 121 := by decide +kernel
theorem kx_143 : kX 143 = 20 := by decide +kernel
theorem lx_143 : lX 143 = 121 := by decide +kernel
theorem kx_144 : kX 144 = 20 := by decide +kernel
theorem lx_144 : lX 144 = 121 := by decide +kernel
theorem kx_145 : kX 145 = 20 := by decide +kernel
theorem lx_145 : lX 145 = 4 := by decide +kernel
theorem kx_146 : kX 146 = 20 := by decide +kernel
theorem lx_146 : lX 146 = 120 := by decide +kernel
theorem kx_147 : kX 147 = 20 := by decide +kernel
theorem lx_147 : lX 147 = 6 := by decide +kernel
theorem kx_148 : kX 148 = 20 := by decide +kernel
theorem lx_148 : lX 148 = 6 := by decide +kernel
theorem kx_149 : kX 149 = 22 := by decide +kernel
theorem lx_149 : lX 149 = 6 := by decide +kernel
theorem kx_150 : kX 150 = 20 := by decide +kernel
theorem lx_150 : lX 150 = 10 := by decide +kernel
theorem kx_151 : kX 151 = 20 := by decide +kernel
theorem lx_151 : lX 151 = 10 := by decide +kernel
theorem kx_152 : kX 152 = 20 := by decide +kernel
theorem lx_152 : lX 152 = 10 := by decide +kernel
theorem kx_153 : kX 153 = 20 := by decide +kernel
theorem lx_153 : lX 153 = 10 := by decide +kernel
theorem kx_154 : kX 154 = 20 := by decide +kernel
theorem lx_154 : lX 154 = 10 := by decide +kernel
theorem kx_155 : kX 155 = 20 := by decide +kernel
theorem lx_155 : lX 155 = 10 := by decide +kernel
theorem kx_156 : kX 156 = 20 := by decide +kernel
theorem lx_156 : lX 156 = 6 := by decide +kernel
theorem kx_157 : kX 157 = 20 := by decide +kernel
theorem lx_157 : lX 157 = 6 := by decide +kernel
theorem kx_158 : kX 158 = 20 := by decide +kernel
theorem lx_158 : lX 158 = 6 := by decide +kernel
theorem kx_159 : kX 159 = 22 := by decide +kernel
theorem lx_159 : lX 159 = 4 := by decide +kernel
theorem kx_160 : kX 160 = 20 := by decide +kernel
theorem lx_160 : lX 160 = 4 := by decide +kernel
theorem kx_161 : kX 161 = 20 := by decide +kernel
theorem lx_161 : lX 161 = 4 := by decide +kernel
theorem kx_162 : kX 162 = 20 := by decide +kernel
theorem lx_162 : lX 162 = 4 := by decide +kernel
theorem kx_163 : kX 163 = 20 := by decide +kernel
theorem lx_163 : lX 163 = 4 := by decide +kernel
theorem kx_164 : kX 164 = 23 := by decide +kernel
theorem lx_164 : lX 164 = 16 := by decide +kernel
theorem kx_197 : kX 197 = 23 := by decide +kernel
theorem lx_197 : lX 197 = 4 := by decide +kernel
theorem kx_206 : kX 206 = 23 := by decide +kernel
theorem lx_206 : lX 206 = 10 := by decide +kernel
theorem kx_227 : kX 227 = 23 := by decide +kernel
theorem lx_227 : lX 227 = 126 := by decide +kernel
theorem kx_480 : kX 480 = 1 := by decide +kernel
theorem kx_481 : kX 481 = 20 := by decide +kernel
theorem lx_481 : lX 481 = 5 := by decide +kernel
theorem kx_482 : kX 482 = 1 := by decide +kernel
theorem kx_483 : kX 483 = 20 := by decide +kernel
theorem lx_483 : lX 483 = 32 := by decide +kernel
theorem kx_484 : kX 484 = 1 := by decide +kernel
theorem kx_485 : kX 485 = 20 := by decide +kernel
theorem lx_485 : lX 485 = 32 := by decide +kernel
theorem kx_486 : kX 486 = 1 := by decide +kernel
theorem kx_487 : kX 487 = 20 := by decide +kernel
theorem lx_487 : lX 487 = 32 := by decide +kernel
theorem kx_488 : kX 488 = 1 := by decide +kernel
theorem kx_489 : kX 489 = 20 := by decide +kernel
theorem lx_489 : lX 489 = 32 := by decide +kernel
theorem kx_490 : kX 490 = 1 := by decide +kernel
theorem kx_491 : kX 491 = 20 := by decide +kernel
theorem lx_491 : lX 491 = 32 := by decide +kernel
theorem kx_492 : kX 492 = 1 := by decide +kernel
theorem kx_493 : kX 493 = 20 := by decide +kernel
theorem lx_493 : lX 493 = 32 := by decide +kernel
theorem kx_494 : kX 494 = 1 := by decide +kernel
theorem kx_495 : kX 495 = 20 := by decide +kernel
theorem lx_495 : lX 495 = 32 := by decide +kernel
theorem kx_496 : kX 496 = 1 := by decide +kernel
theorem kx_497 : kX 497 = 20 := by decide +kernel
theorem lx_497 : lX 497 = 32 := by decide +kernel
theorem kx_498 : kX 498 = 1 := by decide +kernel
theorem kx_499 : kX 499 = 20 := by decide +kernel
theorem lx_499 : lX 499 = 32 := by decide +kernel
theorem kx_500 : kX 500 = 1 := by decide +kernel
theorem kx_501 : kX 501 = 20 := by decide +kernel
theorem lx_501 : lX 501 = 5 := by decide +kernel
theorem kx_502 : kX 502 = 1 := by decide +kernel
theorem kx_503 : kX 503 = 20 := by decide +kernel
theorem lx_503 : lX 503 = 5 := by decide +kernel
theorem km_0 : kM 0 = 11 := by decide +kernel
theorem km_1 : kM 1 = 20 := by decide +kernel
theorem lm_1 : lM 1 = 675 := by decide +kernel
theorem km_2 : kM 2 = 20 := by decide +kernel
theorem lm_2 : lM 2 = 1350 := by decide +kernel
theorem km_3 : kM 3 = 21 := by decide +kernel
theorem lm_3 : lM 3 = 2 := by decide +kernel
theorem km_4 : kM 4 = 20 := by decide +kernel
theorem lm_4 : lM 4 = 3 := by decide +kernel
theorem km_5 : kM 5 = 26 := by decide +kernel
theorem lm_5 : lM 5 = 768 := by decide +kernel
theorem km_6 : kM 6 = 20 := by decide +kernel
theorem lm_6 : lM 6 = 12 := by decide +kernel
theorem km_7 : kM 7 = 20 := by decide +kernel
theorem lm_7 : lM 7 = 480 := by decide +kernel
theorem km_8 : kM 8 = 20 := by decide +kernel
theorem lm_8 : lM 8 = 4 := by decide +kernel
theorem km_9 : kM 9 = 21 := by decide +kernel
theorem lm_9 : lM 9 = 4 := by decide +kernel
theorem km_10 : kM 10 = 21 := by decide +kernel
theorem lm_10 : lM 10 = 4 := by decide +kernel
theorem km_11 : kM 11 = 20 := by decide +kernel
theorem lm_11 : lM 11 = 4 := by decide +kernel
theorem km_12 : kM 12 = 21 := by decide +kernel
theorem lm_12 : lM 12 = 4 := by decide +kernel
theorem km_13 : kM 13 = 20 := by decide +kernel
theorem lm_13 : lM 13 = 6 := by decide +kernel
theorem kxe_12 : ∀ k, k < 4 → kX (12 + 1 + 1 * k) = 20 := by decide +kernel
theorem lxe_12 : ∀ k, k < 4 → lX (12 + 1 + 1 * k) = 2 := by decide +kernel
theorem kxe_19 : ∀ k, k < 4 → kX (19 + 1 + 1 * k) = 20 := by decide +kernel
theorem lxe_19 : ∀ k, k < 4 → lX (19 + 1 + 1 * k) = 120 := by decide +kernel
theorem kxe_24 : ∀ k, k < 6 → kX (24 + 1 + 1 * k) = 20 := by decide +kernel
theorem lxe_24 : ∀ k, k < 6 → lX (24 + 1 + 1 * k) = 4 := by decide +kernel
theorem kxe_32 : ∀ k, k < 6 → kX (32 + 1 + 1 * k) = 20 := by decide +kernel
theorem lxe_32 : ∀ k, k < 6 → lX (32 + 1 + 1 * k) = 5 := by decide +kernel
theorem kxe_39 : ∀ k, k < 6 → kX (39 + 1 + 1 * k) = 20 := by decide +kernel
theorem lxe_39 : ∀ k, k < 6 → lX (39 + 1 + 1 * k) = 6 := by decide +kernel
theorem kxe_47 : ∀ k, k < 2 → kX (47 + 1 + 40 * k) = 6 := by decide +kernel
theorem kxe_53 : ∀ k, k < 4 → kX (53 + 1 + 1 * k) = 20 := by decide +kernel
theorem lxe_53 : ∀ k, k < 4 → lX (53 + 1 + 1 * k) = 2 := by decide +kernel
theorem kxe_60 : ∀ k, k < 4 → kX (60 + 1 + 1 * k) = 20 := by decide +kernel
theorem lxe_60 : ∀ k, k < 4 → lX (60 + 1 + 1 * k) = 120 := by decide +kernel
theorem kxe_65 : ∀ k, k < 6 → kX (65 + 1 + 1 * k) = 20 := by decide +kernel
theorem lxe_65 : ∀ k, k < 6 → lX (65 + 1 + 1 * k) = 4 := by decide +kernel
theorem kxe_73 : ∀ k, k < 6 → kX (73 + 1 + 1 * k) = 20 := by decide +kernel
theorem lxe_73 : ∀ k, k < 6 → lX (73 + 1 + 1 * k) = 5 := by decide +kernel
theorem kxe_80 : ∀ k, k < 6 → kX (80 + 1 + 1 * k) = 20 := by decide +kernel
theorem lxe_80 : ∀ k, k < 6 → lX (80 + 1 + 1 * k) = 6 := by decide +kernel
theorem kxe_93 : ∀ k, k < 4 → kX (93 + 1 + 1 * k) = 20 := by decide +kernel
theorem lxe_93 : ∀ k, k < 4 → lX (93 + 1 + 1 * k) = 2 := by decide +kernel
theorem kxe_100 : ∀ k, k < 4 → kX (100 + 1 + 1 * k) = 20 := by decide +kernel
theorem lxe_100 : ∀ k, k < 4 → lX (100 + 1 + 1 * k) = 120 := by decide +kernel
theorem kxe_105 : ∀ k, k < 6 → kX (105 + 1 + 1 * k) = 20 := by decide +kernel
theorem lxe_105 : ∀ k, k < 6 → lX (105 + 1 + 1 * k) = 4 := by decide +kernel
theorem kxe_113 : ∀ k, k < 6 → kX (113 + 1 + 1 * k) = 20 := by decide +kernel
theorem lxe_113 : ∀ k, k < 6 → lX (113 + 1 + 1 * k) = 5 := by decide +kernel
theorem kxe_120 : ∀ k, k < 6 → kX (120 + 1 + 1 * k) = 20 := by decide +kernel
theorem lxe_120 : ∀ k, k < 6 → lX (120 + 1 + 1 * k) = 6 := by decide +kernel
theorem kxe_129 : ∀ k, k < 4 → kX (129 + 1 + 3 * k) = 7 := by decide +kernel
theorem kxe_149 : ∀ k, k < 6 → kX (149 + 1 + 1 * k) = 20 := by decide +kernel
theorem lxe_149 : ∀ k, k < 6 → lX (149 + 1 + 1 * k) = 10 := by decide +kernel
theorem kxe_159 : ∀ k, k < 4 → kX (159 + 1 + 1 * k) = 20 := by decide +kernel
theorem lxe_159 : ∀ k, k < 4 → lX (159 + 1 + 1 * k) = 4 := by decide +kernel
theorem kxe_164 : ∀ k, k < 16 → kX (164 + 1 + 2 * k) = 1 := by decide +kernel
theorem kxe_197 : ∀ k, k < 4 → kX (197 + 1 + 2 * k) = 1 := by decide +kernel
theorem kxe_206 : ∀ k, k < 10 → kX (206 + 1 + 2 * k) = 1 := by decide +kernel
theorem kxe_227 : ∀ k, k < 126 → kX (227 + 1 + 2 * k) = 1 := by decide +kernel
theorem kxe22 : ∀ o, o < 504 → kX o = 22 → ∀ k, k < lX o → kX (o + 1 + 1 * k) = 20 := by decide +kernel
theorem kxr_1 : ∀ o, o < 504 → kX o = 1 → kX (o + 1) = 20 := by decide +kernel
theorem kxr_7 : ∀ o, o < 504 → kX o = 7 → (kX (o + 1) = 20 ∧ lX (o + 1) = 120) ∧ (kX (o + 2) = 20 ∧ lX (o + 2) = 6) := by decide +kernel
theorem kxr_6_1 : ∀ o, o < 504 → kX o = 6 → kX (o + 1) = 20 ∧ lX (o + 1) = 6 := by decide +kernel
theorem kxr_6_2 : ∀ o, o < 504 → kX o = 6 → kX (o + 2) = 20 ∧ lX (o + 2) = 10 := by decide +kernel
theorem kxr_6_3 : ∀ o, o < 504 → kX o = 6 → kX (o + 3) = 20 ∧ lX (o + 3) = 4 := by decide +kernel
theorem kxr_6_4 : ∀ o, o < 504 → kX o = 6 → kX (o + 4) = 20 ∧ lX (o + 4) = 2 := by decide +kernel
theorem kxr_6_5 : ∀ o, o < 504 → kX o = 6 → kX (o + 5) = 22 ∧ lX (o + 5) = 4 := by decide +kernel
theorem kxr_6_10 : ∀ o, o < 504 → kX o = 6 → kX (o + 10) = 20 ∧ lX (o + 10) = 4 := by decide +kernel
theorem kxr_6_11 : ∀ o, o < 504 → kX o = 6 → kX (o + 11) = 20 ∧ lX (o + 11) = 4 := by decide +kernel
theorem kxr_6_12 : ∀ o, o < 504 → kX o = 6 → kX (o + 12) = 22 ∧ lX (o + 12) = 4 := by decide +kernel
theorem kxr_6_17 : ∀ o, o < 504 → kX o = 6 → kX (o + 17) = 22 ∧ lX (o + 17) = 6 := by decide +kernel
theorem kxr_6_24 : ∀ o, o < 504 → kX o = 6 → kX (o + 24) = 20 ∧ lX (o + 24) = 3 := by decide +kernel
theorem kxr_6_25 : ∀ o, o < 504 → kX o = 6 → kX (o + 25) = 22 ∧ lX (o + 25) = 6 := by decide +kernel
theorem kxr_6_32 : ∀ o, o < 504 → kX o = 6 → kX (o + 32) = 22 ∧ lX (o + 32) = 6 := by decide +kernel
theorem kxr_6_39 : ∀ o, o < 504 → kX o = 6 → kX (o + 39) = 20 ∧ lX (o + 39) = 60 := by decide +kernel
theorem vpl {i : Int32} {n : Nat} (h : vp_in i n) : i.toNatClampNeg < n := Nat.not_le.mp fun q => h (Or.inr q)
theorem vpi {i : Int32} {n : Nat} (h : (decide (i < 0) || decide (n ≤ i.toNatClampNeg)) = false) : vp_in i n := by
  intro g
  simp only [Bool.or_eq_false_iff, decide_eq_false_iff_not] at h
  exact g.elim h.1 h.2
abbrev zn (x : Int32) : Int32 := vp_nar .boolean x
theorem neTI {x k : Int32} {n : Int} (hk : k.toInt = n) (h : ¬ x = k) : x.toInt ≠ n := fun e => h (Int32.toInt_inj.mp (e.trans hk.symm))
theorem z0c : (0 : Int32).toNatClampNeg = 0 := rfl
theorem kv_copy : Cond.native arraycopyName ∈ gW := gW_of 774 (by decide +kernel) (by decide +kernel)
theorem kt_J10_arraycopy : Cond.static arraycopyName ∈ gW := gW_of 773 (by decide +kernel) (by decide +kernel)
