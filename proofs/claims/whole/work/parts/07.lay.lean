/-! ===== the cells of the class (X) and of the reference (M): kinds and lengths by number ===== -/
def kxl : List Nat := [10, 9, 4, 6, 20, 20, 20, 20, 22, 20, 20, 20, 20, 20, 20, 22, 20, 20, 20, 20, 22, 20, 20, 20, 20, 20, 20, 20, 22, 20, 20, 20, 20, 20, 20, 22, 20, 20, 20, 20, 20, 20, 20, 8, 20, 20, 20, 24, 20, 20, 20, 20, 22, 20, 20, 20, 20, 20, 20, 7, 20, 20, 7, 20, 20, 7, 20, 20, 7, 20, 20, 2, 23, 23, 1, 20, 20, 1, 20, 1, 20, 1, 20, 1, 20, 1, 20, 1, 20, 1, 20, 1, 20, 1, 20, 1, 20, 1, 20, 1, 20, 1, 20, 1, 20, 1, 20, 1, 20, 1, 20, 1, 20, 1, 20, 1, 20, 1, 20, 1, 20, 1, 20, 1, 20, 1, 20, 1, 20, 1, 20, 1, 20, 1, 20, 1, 20, 1, 20, 1, 20, 1, 20, 1, 20, 1, 20, 1, 20, 1, 20, 1, 20, 1, 20, 1, 20, 1, 20, 1, 20, 1, 20, 1, 20, 1, 20, 1, 20, 1, 20, 1, 20, 1, 20, 1, 20, 1, 20, 1, 20, 1, 20, 1, 20, 1, 20, 1, 20, 1, 20, 1, 20, 1, 20, 1, 20, 1, 20, 1, 20, 1, 20, 1, 20, 1, 20, 1, 20, 1, 20, 1, 20, 1, 20, 1, 20, 1, 20, 1, 20, 1, 20, 1, 20, 1, 20, 1, 20, 1, 20, 1, 20, 1, 20, 1, 20, 1, 20, 1, 20, 1, 20, 1, 20, 1, 20, 1, 20, 1, 20, 1, 20, 1, 20, 1, 20, 1, 20, 1, 20, 1, 20, 1, 20, 1, 20, 1, 20, 1, 20, 1, 20, 1, 20, 1, 20, 1, 20, 1, 20, 1, 20, 1, 20, 1, 20, 1, 20, 1, 20, 1, 20, 1, 20, 1, 20, 1, 20, 1, 20, 1, 20, 1, 20, 1, 20, 1, 20, 1, 20, 1, 20, 1, 20, 1, 20, 1, 20, 1, 20, 1, 20, 1, 20, 1, 20, 1, 20, 1, 20, 1, 20, 1, 20, 1, 20, 1, 20, 1, 20, 1, 20, 1, 20, 1, 20, 1, 20, 22, 20, 20, 20, 20, 23, 1, 20, 1, 20, 1, 20, 23, 1, 20, 1, 20, 1, 20, 1, 20, 1, 20, 1, 20, 1, 20, 1, 20, 1, 20, 1, 20, 1, 20, 1, 20, 1, 20, 1, 20, 1, 20, 1, 20, 1, 20, 1, 20, 1, 20, 1, 20, 1, 20, 25, 21, 3, 1, 20, 1, 20, 1, 20, 1, 20, 1, 20, 5, 20, 20, 1, 20, 1, 20, 6, 20, 20, 20, 20, 22, 20, 20, 20, 20, 20, 20, 22, 20, 20, 20, 20, 22, 20, 20, 20, 20, 20, 20, 20, 22, 20, 20, 20, 20, 20, 20, 22, 20, 20, 20, 20, 20, 20, 20, 6, 20, 20, 20, 20, 22, 20, 20, 20, 20, 20, 20, 22, 20, 20, 20, 20, 22, 20, 20, 20, 20, 20, 20, 20, 22, 20, 20, 20, 20, 20, 20, 22, 20, 20, 20, 20, 20, 20, 20]
def lxl : List Nat := [0, 0, 0, 0, 6, 10, 4, 2, 4, 2, 2, 2, 2, 4, 4, 4, 120, 120, 120, 120, 6, 4, 4, 4, 4, 4, 4, 3, 6, 5, 5, 5, 5, 5, 5, 6, 6, 6, 6, 6, 6, 6, 60, 0, 121, 121, 121, 4, 4, 120, 6, 6, 6, 10, 10, 10, 10, 10, 10, 0, 120, 6, 0, 120, 6, 0, 120, 6, 0, 120, 6, 0, 126, 10, 0, 5, 6, 0, 5, 0, 5, 0, 5, 0, 5, 0, 5, 0, 5, 0, 5, 0, 5, 0, 5, 0, 5, 0, 5, 0, 5, 0, 5, 0, 5, 0, 5, 0, 5, 0, 5, 0, 5, 0, 5, 0, 5, 0, 5, 0, 5, 0, 5, 0, 5, 0, 5, 0, 5, 0, 5, 0, 5, 0, 5, 0, 5, 0, 5, 0, 5, 0, 5, 0, 5, 0, 5, 0, 5, 0, 5, 0, 5, 0, 5, 0, 5, 0, 5, 0, 5, 0, 5, 0, 5, 0, 5, 0, 5, 0, 5, 0, 5, 0, 5, 0, 5, 0, 5, 0, 5, 0, 5, 0, 5, 0, 5, 0, 5, 0, 5, 0, 5, 0, 5, 0, 5, 0, 5, 0, 5, 0, 5, 0, 5, 0, 5, 0, 5, 0, 5, 0, 5, 0, 5, 0, 5, 0, 5, 0, 5, 0, 5, 0, 5, 0, 5, 0, 5, 0, 5, 0, 5, 0, 5, 0, 5, 0, 5, 0, 5, 0, 5, 0, 5, 0, 5, 0, 5, 0, 5, 0, 5, 0, 5, 0, 5, 0, 5, 0, 5, 0, 5, 0, 5, 0, 5, 0, 5, 0, 5, 0, 5, 0, 5, 0, 5, 0, 5, 0, 5, 0, 5, 0, 5, 0, 5, 0, 5, 0, 5, 0, 5, 0, 5, 0, 5, 0, 5, 0, 5, 0, 5, 0, 5, 0, 5, 0, 5, 0, 5, 0, 5, 0, 5, 0, 5, 0, 5, 0, 5, 0, 5, 0, 5, 0, 5, 0, 5, 0, 5, 0, 5, 0, 5, 0, 5, 0, 5, 0, 5, 0, 5, 0, 5, 0, 5, 0, 5, 4, 4, 4, 4, 4, 16, 0, 32, 0, 32, 0, 32, 4, 0, 32, 0, 32, 0, 32, 0, 32, 0, 32, 0, 32, 0, 32, 0, 32, 0, 32, 0, 32, 0, 32, 0, 32, 0, 32, 0, 32, 0, 32, 0, 32, 0, 32, 0, 32, 0, 32, 0, 32, 0, 32, 2, 2, 0, 0, 32, 0, 32, 0, 32, 0, 32, 0, 32, 0, 6, 6, 0, 5, 0, 5, 0, 6, 10, 4, 2, 4, 2, 2, 2, 2, 4, 4, 4, 120, 120, 120, 120, 6, 4, 4, 4, 4, 4, 4, 3, 6, 5, 5, 5, 5, 5, 5, 6, 6, 6, 6, 6, 6, 6, 60, 0, 6, 10, 4, 2, 4, 2, 2, 2, 2, 4, 4, 4, 120, 120, 120, 120, 6, 4, 4, 4, 4, 4, 4, 3, 6, 5, 5, 5, 5, 5, 5, 6, 6, 6, 6, 6, 6, 6, 60]
def kml : List Nat := [11, 20, 20, 21, 20, 26, 20, 20, 20, 21, 21, 20, 21, 20]
def bX (o : Nat) : Nat := if o = 47 then 59 else if o = 72 then 77 else if o = 73 then 329 else if o = 354 then 364 else if o = 361 then 396 else if o = 404 then 424 else 0
def lml : List Nat := [0, 675, 1350, 2, 3, 768, 12, 480, 4, 4, 4, 4, 4, 6]
def kX (o : Nat) : Nat := kxl.getD o 0
def lX (o : Nat) : Nat := lxl.getD o 0
def kM (o : Nat) : Nat := kml.getD o 0
def lM (o : Nat) : Nat := lml.getD o 0
set_option maxRecDepth 20000 in
theorem kX_lt {o k : Nat} (h : kX o = k + 1) : o < 504 := by
  rcases Nat.lt_or_ge o 504 with g | g
  · exact g
  · exfalso
    unfold kX at h
    rw [List.getD_eq_getElem?_getD, List.getElem?_eq_none (Nat.le_trans (Nat.le_of_ble_eq_true rfl) g)] at h
    exact absurd h (by simp)
set_option maxRecDepth 20000 in
theorem kM_lt {o k : Nat} (h : kM o = k + 1) : o < 14 := by
  rcases Nat.lt_or_ge o 14 with g | g
  · exact g
  · exfalso
    unfold kM at h
    rw [List.getD_eq_getElem?_getD, List.getElem?_eq_none (Nat.le_trans (Nat.le_of_ble_eq_true rfl) g)] at h
    exact absurd h (by simp)
def eX (q : Nat → ClassId) (ad : Nat → Nat) : EntF := fun o r1 r2 r3 => match kX o with
  | 1 => .inr (0, [.ref (ad (o + 1)), .int (r1 1)])
  | 2 => .inr (1, [.ref (ad 72), .ref (ad 73), .ref (ad 74), .ref (ad 76)])
  | 3 => .inr (2, [.ref (ad 407), .ref (ad 409), .ref (ad 411), .ref (ad (r3 3)), .ref (ad (r3 4))])
  | 4 => .inr (3, [.ref (ad 3), .ref (ad 43), .ref (ad 47), .ref (ad 48), .ref (ad 49), .int (r1 5), .ref (ad 50), .ref (ad 51), .ref (ad 52), .int (r1 9)])
  | 5 => .inr (4, [.ref (ad 418), .ref (ad 419)])
  | 6 => .inr (5, [.int (r1 0), .int (r1 1), .int (r1 2), .int (r1 3), .ref (ad (o + 1)), .ref (ad (o + 2)), .ref (ad (o + 3)), .ref (ad (o + 4)), .ref (ad (o + 5)), .ref (ad (o + 10)), .ref (ad (o + 11)), .ref (ad (o + 12)), .ref (ad (o + 17)), .ref (ad (o + 24)), .ref (ad (o + 25)), .ref (ad (o + 32)), .ref (ad (o + 39))])
  | 7 => .inr (6, [.ref (ad (o + 1)), .ref (ad (o + 2)), .int (r1 2), .int (r1 3), .int (r1 4), .int (r1 5), .int (r1 6), .int (r1 7)])
  | 8 => .inr (7, [.ref (ad 44), .ref (ad 45), .ref (ad 46), .int (r1 3), .int (r1 4)])
  | 9 => .inr (8, [.ref (ad 2), .ref (ad 3), .ref (ad 71), .ref (ad 349), .ref (ad 354), .ref (ad 355), .ref (ad (r3 6)), .ref (ad (r3 7)), .int (r1 8), .ref (ad 361), .ref (ad 362), .int (r1 11)])
  | 10 => .inr (9, [.ref (ad 1), .ref (ad 2), .ref (ad 3), .ref (ad 404), .ref (ad 405), .ref (ad 406), .ref (ad 417), .ref (ad 420), .ref (ad 422), .int (r1 9), .int (r1 10), .int (r1 11)])
  | 20 => .inl (q 20, lX o, .inl r1)
  | 21 => .inl (q 21, lX o, .inl r1)
  | 22 => .inl (q 22, lX o, .inr (.inr (.inr (.inr (fun k => if k < lX o then some (ad (o + 1 + 1 * k)) else none)))))
  | 23 => .inl (q 23, lX o, .inr (.inr (.inr (.inr (fun k => if k < lX o then some (ad (bX o + 2 * k)) else none)))))
  | 24 => .inl (q 24, lX o, .inr (.inr (.inr (.inr (fun k => if k < lX o then some (ad (bX o + 3 * k)) else none)))))
  | 25 => .inl (q 25, lX o, .inr (.inr (.inr (.inr (fun k => if k < lX o then some (ad (bX o + 40 * k)) else none)))))
  | _ => .inr (0, [])
def eM (q : Nat → ClassId) (ad : Nat → Nat) : EntF := fun o r1 r2 r3 => match kM o with
  | 11 => .inr (10, [.ref (ad 1), .ref (ad 2), .ref (ad 3), .ref (ad 4), .ref (ad 5), .ref (ad 6), .int (r1 6), .int (r1 7), .int (r1 8), .int (r1 9), .int (r1 10), .int (r1 11), .ref (ad 7), .ref (ad 8), .ref (ad 9), .ref (ad 10), .int (r1 16), .int (r1 17), .ref (ad 11), .ref (ad 12), .ref (ad 13)])
  | 20 => .inl (q 20, lM o, .inl r1)
  | 21 => .inl (q 21, lM o, .inl r1)
  | 26 => .inl (q 26, lM o, .inr (.inl r2))
  | _ => .inr (0, [])
abbrev wX (q : Nat → ClassId) (ad : Nat → Nat) (h : Hs) : va_W := wG 504 (eX q ad) ad h
abbrev wM (q : Nat → ClassId) (ad : Nat → Nat) (h : Hs) : va_W := wG 14 (eM q ad) ad h
theorem xe_1 {q : Nat → ClassId} {ad : Nat → Nat} {h : Hs} {o : Nat} (hk : kX o = 1) : (wX q ad h)[o]? = some (ad o, .inr (0, [.ref (ad (o + 1)), .int (gi h o 1)])) := wG_get (kX_lt hk) (by unfold eX; rw [hk]; rfl)
theorem xe_2 {q : Nat → ClassId} {ad : Nat → Nat} {h : Hs} {o : Nat} (hk : kX o = 2) : (wX q ad h)[o]? = some (ad o, .inr (1, [.ref (ad 72), .ref (ad 73), .ref (ad 74), .ref (ad 76)])) := wG_get (kX_lt hk) (by unfold eX; rw [hk]; rfl)
theorem xe_3 {q : Nat → ClassId} {ad : Nat → Nat} {h : Hs} {o : Nat} (hk : kX o = 3) : (wX q ad h)[o]? = some (ad o, .inr (2, [.ref (ad 407), .ref (ad 409), .ref (ad 411), .ref (ad (gr h o 3)), .ref (ad (gr h o 4))])) := wG_get (kX_lt hk) (by unfold eX; rw [hk]; rfl)
theorem xe_4 {q : Nat → ClassId} {ad : Nat → Nat} {h : Hs} {o : Nat} (hk : kX o = 4) : (wX q ad h)[o]? = some (ad o, .inr (3, [.ref (ad 3), .ref (ad 43), .ref (ad 47), .ref (ad 48), .ref (ad 49), .int (gi h o 5), .ref (ad 50), .ref (ad 51), .ref (ad 52), .int (gi h o 9)])) := wG_get (kX_lt hk) (by unfold eX; rw [hk]; rfl)
theorem xe_5 {q : Nat → ClassId} {ad : Nat → Nat} {h : Hs} {o : Nat} (hk : kX o = 5) : (wX q ad h)[o]? = some (ad o, .inr (4, [.ref (ad 418), .ref (ad 419)])) := wG_get (kX_lt hk) (by unfold eX; rw [hk]; rfl)
theorem xe_6 {q : Nat → ClassId} {ad : Nat → Nat} {h : Hs} {o : Nat} (hk : kX o = 6) : (wX q ad h)[o]? = some (ad o, .inr (5, [.int (gi h o 0), .int (gi h o 1), .int (gi h o 2), .int (gi h o 3), .ref (ad (o + 1)), .ref (ad (o + 2)), .ref (ad (o + 3)), .ref (ad (o + 4)), .ref (ad (o + 5)), .ref (ad (o + 10)), .ref (ad (o + 11)), .ref (ad (o + 12)), .ref (ad (o + 17)), .ref (ad (o + 24)), .ref (ad (o + 25)), .ref (ad (o + 32)), .ref (ad (o + 39))])) := wG_get (kX_lt hk) (by unfold eX; rw [hk]; rfl)
theorem xe_7 {q : Nat → ClassId} {ad : Nat → Nat} {h : Hs} {o : Nat} (hk : kX o = 7) : (wX q ad h)[o]? = some (ad o, .inr (6, [.ref (ad (o + 1)), .ref (ad (o + 2)), .int (gi h o 2), .int (gi h o 3), .int (gi h o 4), .int (gi h o 5), .int (gi h o 6), .int (gi h o 7)])) := wG_get (kX_lt hk) (by unfold eX; rw [hk]; rfl)
theorem xe_8 {q : Nat → ClassId} {ad : Nat → Nat} {h : Hs} {o : Nat} (hk : kX o = 8) : (wX q ad h)[o]? = some (ad o, .inr (7, [.ref (ad 44), .ref (ad 45), .ref (ad 46), .int (gi h o 3), .int (gi h o 4)])) := wG_get (kX_lt hk) (by unfold eX; rw [hk]; rfl)
theorem xe_9 {q : Nat → ClassId} {ad : Nat → Nat} {h : Hs} {o : Nat} (hk : kX o = 9) : (wX q ad h)[o]? = some (ad o, .inr (8, [.ref (ad 2), .ref (ad 3), .ref (ad 71), .ref (ad 349), .ref (ad 354), .ref (ad 355), .ref (ad (gr h o 6)), .ref (ad (gr h o 7)), .int (gi h o 8), .ref (ad 361), .ref (ad 362), .int (gi h o 11)])) := wG_get (kX_lt hk) (by unfold eX; rw [hk]; rfl)
theorem xe_10 {q : Nat → ClassId} {ad : Nat → Nat} {h : Hs} {o : Nat} (hk : kX o = 10) : (wX q ad h)[o]? = some (ad o, .inr (9, [.ref (ad 1), .ref (ad 2), .ref (ad 3), .ref (ad 404), .ref (ad 405), .ref (ad 406), .ref (ad 417), .ref (ad 420), .ref (ad 422), .int (gi h o 9), .int (gi h o 10), .int (gi h o 11)])) := wG_get (kX_lt hk) (by unfold eX; rw [hk]; rfl)
theorem me_11 {q : Nat → ClassId} {ad : Nat → Nat} {h : Hs} {o : Nat} (hk : kM o = 11) : (wM q ad h)[o]? = some (ad o, .inr (10, [.ref (ad 1), .ref (ad 2), .ref (ad 3), .ref (ad 4), .ref (ad 5), .ref (ad 6), .int (gi h o 6), .int (gi h o 7), .int (gi h o 8), .int (gi h o 9), .int (gi h o 10), .int (gi h o 11), .ref (ad 7), .ref (ad 8), .ref (ad 9), .ref (ad 10), .int (gi h o 16), .int (gi h o 17), .ref (ad 11), .ref (ad 12), .ref (ad 13)])) := wG_get (kM_lt hk) (by unfold eM; rw [hk]; rfl)
theorem xe_20 {q : Nat → ClassId} {ad : Nat → Nat} {h : Hs} {o : Nat} {n : Nat} (hk : kX o = 20) (hl : lX o = n) : (wX q ad h)[o]? = some (ad o, .inl (q 20, n, .inl (gi h o))) := by
  subst hl
  exact wG_get (kX_lt hk) (by unfold eX; rw [hk]; rfl)
theorem xs_20 {q : Nat → ClassId} {ad : Nat → Nat} {h : Hs} {o : Nat} {n k : Nat} {v : Int32} (hk : kX o = 20) (hl : lX o = n) : (wX q ad h).set o (ad o, .inl (q 20, n, .inl (upd (gi h o) k v))) = wX q ad (si h o k v) := by
  subst hl
  exact wG_si (by unfold eX; rw [hk]; rfl)
theorem xt_20 {q : Nat → ClassId} {ad : Nat → Nat} {h : Hs} {o : Nat} {n : Nat} {r : Nat → Int32} (hk : kX o = 20) (hl : lX o = n) : (wX q ad h).set o (ad o, .inl (q 20, n, .inl r)) = wX q ad (sa h o r) := by
  subst hl
  exact wG_sa (by unfold eX; rw [hk]; rfl)
theorem xe_21 {q : Nat → ClassId} {ad : Nat → Nat} {h : Hs} {o : Nat} {n : Nat} (hk : kX o = 21) (hl : lX o = n) : (wX q ad h)[o]? = some (ad o, .inl (q 21, n, .inl (gi h o))) := by
  subst hl
  exact wG_get (kX_lt hk) (by unfold eX; rw [hk]; rfl)
theorem xs_21 {q : Nat → ClassId} {ad : Nat → Nat} {h : Hs} {o : Nat} {n k : Nat} {v : Int32} (hk : kX o = 21) (hl : lX o = n) : (wX q ad h).set o (ad o, .inl (q 21, n, .inl (upd (gi h o) k v))) = wX q ad (si h o k v) := by
  subst hl
  exact wG_si (by unfold eX; rw [hk]; rfl)
theorem xt_21 {q : Nat → ClassId} {ad : Nat → Nat} {h : Hs} {o : Nat} {n : Nat} {r : Nat → Int32} (hk : kX o = 21) (hl : lX o = n) : (wX q ad h).set o (ad o, .inl (q 21, n, .inl r)) = wX q ad (sa h o r) := by
  subst hl
  exact wG_sa (by unfold eX; rw [hk]; rfl)
theorem me_20 {q : Nat → ClassId} {ad : Nat → Nat} {h : Hs} {o : Nat} {n : Nat} (hk : kM o = 20) (hl : lM o = n) : (wM q ad h)[o]? = some (ad o, .inl (q 20, n, .inl (gi h o))) := by
  subst hl
  exact wG_get (kM_lt hk) (by unfold eM; rw [hk]; rfl)
theorem ms_20 {q : Nat → ClassId} {ad : Nat → Nat} {h : Hs} {o : Nat} {n k : Nat} {v : Int32} (hk : kM o = 20) (hl : lM o = n) : (wM q ad h).set o (ad o, .inl (q 20, n, .inl (upd (gi h o) k v))) = wM q ad (si h o k v) := by
  subst hl
  exact wG_si (by unfold eM; rw [hk]; rfl)
theorem mt_20 {q : Nat → ClassId} {ad : Nat → Nat} {h : Hs} {o : Nat} {n : Nat} {r : Nat → Int32} (hk : kM o = 20) (hl : lM o = n) : (wM q ad h).set o (ad o, .inl (q 20, n, .inl r)) = wM q ad (sa h o r) := by
  subst hl
  exact wG_sa (by unfold eM; rw [hk]; rfl)
theorem me_21 {q : Nat → ClassId} {ad : Nat → Nat} {h : Hs} {o : Nat} {n : Nat} (hk : kM o = 21) (hl : lM o = n) : (wM q ad h)[o]? = some (ad o, .inl (q 21, n, .inl (gi h o))) := by
  subst hl
  exact wG_get (kM_lt hk) (by unfold eM; rw [hk]; rfl)
theorem ms_21 {q : Nat → ClassId} {ad : Nat → Nat} {h : Hs} {o : Nat} {n k : Nat} {v : Int32} (hk : kM o = 21) (hl : lM o = n) : (wM q ad h).set o (ad o, .inl (q 21, n, .inl (upd (gi h o) k v))) = wM q ad (si h o k v) := by
  subst hl
  exact wG_si (by unfold eM; rw [hk]; rfl)
theorem mt_21 {q : Nat → ClassId} {ad : Nat → Nat} {h : Hs} {o : Nat} {n : Nat} {r : Nat → Int32} (hk : kM o = 21) (hl : lM o = n) : (wM q ad h).set o (ad o, .inl (q 21, n, .inl r)) = wM q ad (sa h o r) := by
  subst hl
  exact wG_sa (by unfold eM; rw [hk]; rfl)
theorem me_26 {q : Nat → ClassId} {ad : Nat → Nat} {h : Hs} {o : Nat} {n : Nat} (hk : kM o = 26) (hl : lM o = n) : (wM q ad h)[o]? = some (ad o, .inl (q 26, n, .inr (.inl (gl h o)))) := by
  subst hl
  exact wG_get (kM_lt hk) (by unfold eM; rw [hk]; rfl)
theorem ms_26 {q : Nat → ClassId} {ad : Nat → Nat} {h : Hs} {o : Nat} {n k : Nat} {v : Int64} (hk : kM o = 26) (hl : lM o = n) : (wM q ad h).set o (ad o, .inl (q 26, n, .inr (.inl (vp_updL (gl h o) k v)))) = wM q ad (sl h o k v) := by
  subst hl
  exact wG_sl (by unfold eM; rw [hk]; rfl)
theorem xe_22 {q : Nat → ClassId} {ad : Nat → Nat} {h : Hs} {o : Nat} {n : Nat} (hk : kX o = 22) (hl : lX o = n) : (wX q ad h)[o]? = some (ad o, .inl (q 22, n, .inr (.inr (.inr (.inr (fun k => if k < n then some (ad (o + 1 + 1 * k)) else none)))))) := by
  subst hl
  exact wG_get (kX_lt hk) (by unfold eX; rw [hk]; rfl)
theorem xe_23 {q : Nat → ClassId} {ad : Nat → Nat} {h : Hs} {o : Nat} {n b : Nat} (hk : kX o = 23) (hl : lX o = n) (hb : bX o = b) : (wX q ad h)[o]? = some (ad o, .inl (q 23, n, .inr (.inr (.inr (.inr (fun k => if k < n then some (ad (b + 2 * k)) else none)))))) := by
  subst hl; subst hb
  exact wG_get (kX_lt hk) (by unfold eX; rw [hk]; rfl)
theorem xe_24 {q : Nat → ClassId} {ad : Nat → Nat} {h : Hs} {o : Nat} {n b : Nat} (hk : kX o = 24) (hl : lX o = n) (hb : bX o = b) : (wX q ad h)[o]? = some (ad o, .inl (q 24, n, .inr (.inr (.inr (.inr (fun k => if k < n then some (ad (b + 3 * k)) else none)))))) := by
  subst hl; subst hb
  exact wG_get (kX_lt hk) (by unfold eX; rw [hk]; rfl)
theorem xe_25 {q : Nat → ClassId} {ad : Nat → Nat} {h : Hs} {o : Nat} {n b : Nat} (hk : kX o = 25) (hl : lX o = n) (hb : bX o = b) : (wX q ad h)[o]? = some (ad o, .inl (q 25, n, .inr (.inr (.inr (.inr (fun k => if k < n then some (ad (b + 40 * k)) else none)))))) := by
  subst hl; subst hb
  exact wG_get (kX_lt hk) (by unfold eX; rw [hk]; rfl)
theorem xp_1_1 {q : Nat → ClassId} {ad : Nat → Nat} {h : Hs} {o : Nat} {v : Int32} (hk : kX o = 1) : (wX q ad h).set o (ad o, .inr (0, ([.ref (ad (o + 1)), .int (gi h o 1)] : List Value).set 1 (.int v))) = wX q ad (si h o 1 v) := wG_si (by unfold eX; rw [hk]; rfl)
theorem xp_3_3 {q : Nat → ClassId} {ad : Nat → Nat} {h : Hs} {o : Nat} {v : Nat} (hk : kX o = 3) : (wX q ad h).set o (ad o, .inr (2, ([.ref (ad 407), .ref (ad 409), .ref (ad 411), .ref (ad (gr h o 3)), .ref (ad (gr h o 4))] : List Value).set 3 (.ref (ad v)))) = wX q ad (sr h o 3 v) := wG_sr (by unfold eX; rw [hk]; rfl)
theorem xp_3_4 {q : Nat → ClassId} {ad : Nat → Nat} {h : Hs} {o : Nat} {v : Nat} (hk : kX o = 3) : (wX q ad h).set o (ad o, .inr (2, ([.ref (ad 407), .ref (ad 409), .ref (ad 411), .ref (ad (gr h o 3)), .ref (ad (gr h o 4))] : List Value).set 4 (.ref (ad v)))) = wX q ad (sr h o 4 v) := wG_sr (by unfold eX; rw [hk]; rfl)
theorem xp_4_5 {q : Nat → ClassId} {ad : Nat → Nat} {h : Hs} {o : Nat} {v : Int32} (hk : kX o = 4) : (wX q ad h).set o (ad o, .inr (3, ([.ref (ad 3), .ref (ad 43), .ref (ad 47), .ref (ad 48), .ref (ad 49), .int (gi h o 5), .ref (ad 50), .ref (ad 51), .ref (ad 52), .int (gi h o 9)] : List Value).set 5 (.int v))) = wX q ad (si h o 5 v) := wG_si (by unfold eX; rw [hk]; rfl)
theorem xp_4_9 {q : Nat → ClassId} {ad : Nat → Nat} {h : Hs} {o : Nat} {v : Int32} (hk : kX o = 4) : (wX q ad h).set o (ad o, .inr (3, ([.ref (ad 3), .ref (ad 43), .ref (ad 47), .ref (ad 48), .ref (ad 49), .int (gi h o 5), .ref (ad 50), .ref (ad 51), .ref (ad 52), .int (gi h o 9)] : List Value).set 9 (.int v))) = wX q ad (si h o 9 v) := wG_si (by unfold eX; rw [hk]; rfl)
theorem xp_6_0 {q : Nat → ClassId} {ad : Nat → Nat} {h : Hs} {o : Nat} {v : Int32} (hk : kX o = 6) : (wX q ad h).set o (ad o, .inr (5, ([.int (gi h o 0), .int (gi h o 1), .int (gi h o 2), .int (gi h o 3), .ref (ad (o + 1)), .ref (ad (o + 2)), .ref (ad (o + 3)), .ref (ad (o + 4)), .ref (ad (o + 5)), .ref (ad (o + 10)), .ref (ad (o + 11)), .ref (ad (o + 12)), .ref (ad (o + 17)), .ref (ad (o + 24)), .ref (ad (o + 25)), .ref (ad (o + 32)), .ref (ad (o + 39))] : List Value).set 0 (.int v))) = wX q ad (si h o 0 v) := wG_si (by unfold eX; rw [hk]; rfl)
theorem xp_6_1 {q : Nat → ClassId} {ad : Nat → Nat} {h : Hs} {o : Nat} {v : Int32} (hk : kX o = 6) : (wX q ad h).set o (ad o, .inr (5, ([.int (gi h o 0), .int (gi h o 1), .int (gi h o 2), .int (gi h o 3), .ref (ad (o + 1)), .ref (ad (o + 2)), .ref (ad (o + 3)), .ref (ad (o + 4)), .ref (ad (o + 5)), .ref (ad (o + 10)), .ref (ad (o + 11)), .ref (ad (o + 12)), .ref (ad (o + 17)), .ref (ad (o + 24)), .ref (ad (o + 25)), .ref (ad (o + 32)), .ref (ad (o + 39))] : List Value).set 1 (.int v))) = wX q ad (si h o 1 v) := wG_si (by unfold eX; rw [hk]; rfl)
theorem xp_6_2 {q : Nat → ClassId} {ad : Nat → Nat} {h : Hs} {o : Nat} {v : Int32} (hk : kX o = 6) : (wX q ad h).set o (ad o, .inr (5, ([.int (gi h o 0), .int (gi h o 1), .int (gi h o 2), .int (gi h o 3), .ref (ad (o + 1)), .ref (ad (o + 2)), .ref (ad (o + 3)), .ref (ad (o + 4)), .ref (ad (o + 5)), .ref (ad (o + 10)), .ref (ad (o + 11)), .ref (ad (o + 12)), .ref (ad (o + 17)), .ref (ad (o + 24)), .ref (ad (o + 25)), .ref (ad (o + 32)), .ref (ad (o + 39))] : List Value).set 2 (.int v))) = wX q ad (si h o 2 v) := wG_si (by unfold eX; rw [hk]; rfl)
theorem xp_6_3 {q : Nat → ClassId} {ad : Nat → Nat} {h : Hs} {o : Nat} {v : Int32} (hk : kX o = 6) : (wX q ad h).set o (ad o, .inr (5, ([.int (gi h o 0), .int (gi h o 1), .int (gi h o 2), .int (gi h o 3), .ref (ad (o + 1)), .ref (ad (o + 2)), .ref (ad (o + 3)), .ref (ad (o + 4)), .ref (ad (o + 5)), .ref (ad (o + 10)), .ref (ad (o + 11)), .ref (ad (o + 12)), .ref (ad (o + 17)), .ref (ad (o + 24)), .ref (ad (o + 25)), .ref (ad (o + 32)), .ref (ad (o + 39))] : List Value).set 3 (.int v))) = wX q ad (si h o 3 v) := wG_si (by unfold eX; rw [hk]; rfl)
theorem xp_7_2 {q : Nat → ClassId} {ad : Nat → Nat} {h : Hs} {o : Nat} {v : Int32} (hk : kX o = 7) : (wX q ad h).set o (ad o, .inr (6, ([.ref (ad (o + 1)), .ref (ad (o + 2)), .int (gi h o 2), .int (gi h o 3), .int (gi h o 4), .int (gi h o 5), .int (gi h o 6), .int (gi h o 7)] : List Value).set 2 (.int v))) = wX q ad (si h o 2 v) := wG_si (by unfold eX; rw [hk]; rfl)
theorem xp_7_3 {q : Nat → ClassId} {ad : Nat → Nat} {h : Hs} {o : Nat} {v : Int32} (hk : kX o = 7) : (wX q ad h).set o (ad o, .inr (6, ([.ref (ad (o + 1)), .ref (ad (o + 2)), .int (gi h o 2), .int (gi h o 3), .int (gi h o 4), .int (gi h o 5), .int (gi h o 6), .int (gi h o 7)] : List Value).set 3 (.int v))) = wX q ad (si h o 3 v) := wG_si (by unfold eX; rw [hk]; rfl)
theorem xp_7_4 {q : Nat → ClassId} {ad : Nat → Nat} {h : Hs} {o : Nat} {v : Int32} (hk : kX o = 7) : (wX q ad h).set o (ad o, .inr (6, ([.ref (ad (o + 1)), .ref (ad (o + 2)), .int (gi h o 2), .int (gi h o 3), .int (gi h o 4), .int (gi h o 5), .int (gi h o 6), .int (gi h o 7)] : List Value).set 4 (.int v))) = wX q ad (si h o 4 v) := wG_si (by unfold eX; rw [hk]; rfl)
theorem xp_7_5 {q : Nat → ClassId} {ad : Nat → Nat} {h : Hs} {o : Nat} {v : Int32} (hk : kX o = 7) : (wX q ad h).set o (ad o, .inr (6, ([.ref (ad (o + 1)), .ref (ad (o + 2)), .int (gi h o 2), .int (gi h o 3), .int (gi h o 4), .int (gi h o 5), .int (gi h o 6), .int (gi h o 7)] : List Value).set 5 (.int v))) = wX q ad (si h o 5 v) := wG_si (by unfold eX; rw [hk]; rfl)
theorem xp_7_6 {q : Nat → ClassId} {ad : Nat → Nat} {h : Hs} {o : Nat} {v : Int32} (hk : kX o = 7) : (wX q ad h).set o (ad o, .inr (6, ([.ref (ad (o + 1)), .ref (ad (o + 2)), .int (gi h o 2), .int (gi h o 3), .int (gi h o 4), .int (gi h o 5), .int (gi h o 6), .int (gi h o 7)] : List Value).set 6 (.int v))) = wX q ad (si h o 6 v) := wG_si (by unfold eX; rw [hk]; rfl)
theorem xp_7_7 {q : Nat → ClassId} {ad : Nat → Nat} {h : Hs} {o : Nat} {v : Int32} (hk : kX o = 7) : (wX q ad h).set o (ad o, .inr (6, ([.ref (ad (o + 1)), .ref (ad (o + 2)), .int (gi h o 2), .int (gi h o 3), .int (gi h o 4), .int (gi h o 5), .int (gi h o 6), .int (gi h o 7)] : List Value).set 7 (.int v))) = wX q ad (si h o 7 v) := wG_si (by unfold eX; rw [hk]; rfl)
theorem xp_8_3 {q : Nat → ClassId} {ad : Nat → Nat} {h : Hs} {o : Nat} {v : Int32} (hk : kX o = 8) : (wX q ad h).set o (ad o, .inr (7, ([.ref (ad 44), .ref (ad 45), .ref (ad 46), .int (gi h o 3), .int (gi h o 4)] : List Value).set 3 (.int v))) = wX q ad (si h o 3 v) := wG_si (by unfold eX; rw [hk]; rfl)
theorem xp_8_4 {q : Nat → ClassId} {ad : Nat → Nat} {h : Hs} {o : Nat} {v : Int32} (hk : kX o = 8) : (wX q ad h).set o (ad o, .inr (7, ([.ref (ad 44), .ref (ad 45), .ref (ad 46), .int (gi h o 3), .int (gi h o 4)] : List Value).set 4 (.int v))) = wX q ad (si h o 4 v) := wG_si (by unfold eX; rw [hk]; rfl)
theorem xp_9_6 {q : Nat → ClassId} {ad : Nat → Nat} {h : Hs} {o : Nat} {v : Nat} (hk : kX o = 9) : (wX q ad h).set o (ad o, .inr (8, ([.ref (ad 2), .ref (ad 3), .ref (ad 71), .ref (ad 349), .ref (ad 354), .ref (ad 355), .ref (ad (gr h o 6)), .ref (ad (gr h o 7)), .int (gi h o 8), .ref (ad 361), .ref (ad 362), .int (gi h o 11)] : List Value).set 6 (.ref (ad v)))) = wX q ad (sr h o 6 v) := wG_sr (by unfold eX; rw [hk]; rfl)
theorem xp_9_7 {q : Nat → ClassId} {ad : Nat → Nat} {h : Hs} {o : Nat} {v : Nat} (hk : kX o = 9) : (wX q ad h).set o (ad o, .inr (8, ([.ref (ad 2), .ref (ad 3), .ref (ad 71), .ref (ad 349), .ref (ad 354), .ref (ad 355), .ref (ad (gr h o 6)), .ref (ad (gr h o 7)), .int (gi h o 8), .ref (ad 361), .ref (ad 362), .int (gi h o 11)] : List Value).set 7 (.ref (ad v)))) = wX q ad (sr h o 7 v) := wG_sr (by unfold eX; rw [hk]; rfl)
theorem xp_9_8 {q : Nat → ClassId} {ad : Nat → Nat} {h : Hs} {o : Nat} {v : Int32} (hk : kX o = 9) : (wX q ad h).set o (ad o, .inr (8, ([.ref (ad 2), .ref (ad 3), .ref (ad 71), .ref (ad 349), .ref (ad 354), .ref (ad 355), .ref (ad (gr h o 6)), .ref (ad (gr h o 7)), .int (gi h o 8), .ref (ad 361), .ref (ad 362), .int (gi h o 11)] : List Value).set 8 (.int v))) = wX q ad (si h o 8 v) := wG_si (by unfold eX; rw [hk]; rfl)
theorem xp_9_11 {q : Nat → ClassId} {ad : Nat → Nat} {h : Hs} {o : Nat} {v : Int32} (hk : kX o = 9) : (wX q ad h).set o (ad o, .inr (8, ([.ref (ad 2), .ref (ad 3), .ref (ad 71), .ref (ad 349), .ref (ad 354), .ref (ad 355), .ref (ad (gr h o 6)), .ref (ad (gr h o 7)), .int (gi h o 8), .ref (ad 361), .ref (ad 362), .int (gi h o 11)] : List Value).set 11 (.int v))) = wX q ad (si h o 11 v) := wG_si (by unfold eX; rw [hk]; rfl)
theorem xp_10_9 {q : Nat → ClassId} {ad : Nat → Nat} {h : Hs} {o : Nat} {v : Int32} (hk : kX o = 10) : (wX q ad h).set o (ad o, .inr (9, ([.ref (ad 1), .ref (ad 2), .ref (ad 3), .ref (ad 404), .ref (ad 405), .ref (ad 406), .ref (ad 417), .ref (ad 420), .ref (ad 422), .int (gi h o 9), .int (gi h o 10), .int (gi h o 11)] : List Value).set 9 (.int v))) = wX q ad (si h o 9 v) := wG_si (by unfold eX; rw [hk]; rfl)
theorem xp_10_10 {q : Nat → ClassId} {ad : Nat → Nat} {h : Hs} {o : Nat} {v : Int32} (hk : kX o = 10) : (wX q ad h).set o (ad o, .inr (9, ([.ref (ad 1), .ref (ad 2), .ref (ad 3), .ref (ad 404), .ref (ad 405), .ref (ad 406), .ref (ad 417), .ref (ad 420), .ref (ad 422), .int (gi h o 9), .int (gi h o 10), .int (gi h o 11)] : List Value).set 10 (.int v))) = wX q ad (si h o 10 v) := wG_si (by unfold eX; rw [hk]; rfl)
theorem xp_10_11 {q : Nat → ClassId} {ad : Nat → Nat} {h : Hs} {o : Nat} {v : Int32} (hk : kX o = 10) : (wX q ad h).set o (ad o, .inr (9, ([.ref (ad 1), .ref (ad 2), .ref (ad 3), .ref (ad 404), .ref (ad 405), .ref (ad 406), .ref (ad 417), .ref (ad 420), .ref (ad 422), .int (gi h o 9), .int (gi h o 10), .int (gi h o 11)] : List Value).set 11 (.int v))) = wX q ad (si h o 11 v) := wG_si (by unfold eX; rw [hk]; rfl)
theorem mp_11_6 {q : Nat → ClassId} {ad : Nat → Nat} {h : Hs} {o : Nat} {v : Int32} (hk : kM o = 11) : (wM q ad h).set o (ad o, .inr (10, ([.ref (ad 1), .ref (ad 2), .ref (ad 3), .ref (ad 4), .ref (ad 5), .ref (ad 6), .int (gi h o 6), .int (gi h o 7), .int (gi h o 8), .int (gi h o 9), .int (gi h o 10), .int (gi h o 11), .ref (ad 7), .ref (ad 8), .ref (ad 9), .ref (ad 10), .int (gi h o 16), .int (gi h o 17), .ref (ad 11), .ref (ad 12), .ref (ad 13)] : List Value).set 6 (.int v))) = wM q ad (si h o 6 v) := wG_si (by unfold eM; rw [hk]; rfl)
theorem mp_11_7 {q : Nat → ClassId} {ad : Nat → Nat} {h : Hs} {o : Nat} {v : Int32} (hk : kM o = 11) : (wM q ad h).set o (ad o, .inr (10, ([.ref (ad 1), .ref (ad 2), .ref (ad 3), .ref (ad 4), .ref (ad 5), .ref (ad 6), .int (gi h o 6), .int (gi h o 7), .int (gi h o 8), .int (gi h o 9), .int (gi h o 10), .int (gi h o 11), .ref (ad 7), .ref (ad 8), .ref (ad 9), .ref (ad 10), .int (gi h o 16), .int (gi h o 17), .ref (ad 11), .ref (ad 12), .ref (ad 13)] : List Value).set 7 (.int v))) = wM q ad (si h o 7 v) := wG_si (by unfold eM; rw [hk]; rfl)
theorem mp_11_8 {q : Nat → ClassId} {ad : Nat → Nat} {h : Hs} {o : Nat} {v : Int32} (hk : kM o = 11) : (wM q ad h).set o (ad o, .inr (10, ([.ref (ad 1), .ref (ad 2), .ref (ad 3), .ref (ad 4), .ref (ad 5), .ref (ad 6), .int (gi h o 6), .int (gi h o 7), .int (gi h o 8), .int (gi h o 9), .int (gi h o 10), .int (gi h o 11), .ref (ad 7), .ref (ad 8), .ref (ad 9), .ref (ad 10), .int (gi h o 16), .int (gi h o 17), .ref (ad 11), .ref (ad 12), .ref (ad 13)] : List Value).set 8 (.int v))) = wM q ad (si h o 8 v) := wG_si (by unfold eM; rw [hk]; rfl)
theorem mp_11_9 {q : Nat → ClassId} {ad : Nat → Nat} {h : Hs} {o : Nat} {v : Int32} (hk : kM o = 11) : (wM q ad h).set o (ad o, .inr (10, ([.ref (ad 1), .ref (ad 2), .ref (ad 3), .ref (ad 4), .ref (ad 5), .ref (ad 6), .int (gi h o 6), .int (gi h o 7), .int (gi h o 8), .int (gi h o 9), .int (gi h o 10), .int (gi h o 11), .ref (ad 7), .ref (ad 8), .ref (ad 9), .ref (ad 10), .int (gi h o 16), .int (gi h o 17), .ref (ad 11), .ref (ad 12), .ref (ad 13)] : List Value).set 9 (.int v))) = wM q ad (si h o 9 v) := wG_si (by unfold eM; rw [hk]; rfl)
theorem mp_11_10 {q : Nat → ClassId} {ad : Nat → Nat} {h : Hs} {o : Nat} {v : Int32} (hk : kM o = 11) : (wM q ad h).set o (ad o, .inr (10, ([.ref (ad 1), .ref (ad 2), .ref (ad 3), .ref (ad 4), .ref (ad 5), .ref (ad 6), .int (gi h o 6), .int (gi h o 7), .int (gi h o 8), .int (gi h o 9), .int (gi h o 10), .int (gi h o 11), .ref (ad 7), .ref (ad 8), .ref (ad 9), .ref (ad 10), .int (gi h o 16), .int (gi h o 17), .ref (ad 11), .ref (ad 12), .ref (ad 13)] : List Value).set 10 (.int v))) = wM q ad (si h o 10 v) := wG_si (by unfold eM; rw [hk]; rfl)
theorem mp_11_11 {q : Nat → ClassId} {ad : Nat → Nat} {h : Hs} {o : Nat} {v : Int32} (hk : kM o = 11) : (wM q ad h).set o (ad o, .inr (10, ([.ref (ad 1), .ref (ad 2), .ref (ad 3), .ref (ad 4), .ref (ad 5), .ref (ad 6), .int (gi h o 6), .int (gi h o 7), .int (gi h o 8), .int (gi h o 9), .int (gi h o 10), .int (gi h o 11), .ref (ad 7), .ref (ad 8), .ref (ad 9), .ref (ad 10), .int (gi h o 16), .int (gi h o 17), .ref (ad 11), .ref (ad 12), .ref (ad 13)] : List Value).set 11 (.int v))) = wM q ad (si h o 11 v) := wG_si (by unfold eM; rw [hk]; rfl)
theorem mp_11_16 {q : Nat → ClassId} {ad : Nat → Nat} {h : Hs} {o : Nat} {v : Int32} (hk : kM o = 11) : (wM q ad h).set o (ad o, .inr (10, ([.ref (ad 1), .ref (ad 2), .ref (ad 3), .ref (ad 4), .ref (ad 5), .ref (ad 6), .int (gi h o 6), .int (gi h o 7), .int (gi h o 8), .int (gi h o 9), .int (gi h o 10), .int (gi h o 11), .ref (ad 7), .ref (ad 8), .ref (ad 9), .ref (ad 10), .int (gi h o 16), .int (gi h o 17), .ref (ad 11), .ref (ad 12), .ref (ad 13)] : List Value).set 16 (.int v))) = wM q ad (si h o 16 v) := wG_si (by unfold eM; rw [hk]; rfl)
theorem mp_11_17 {q : Nat → ClassId} {ad : Nat → Nat} {h : Hs} {o : Nat} {v : Int32} (hk : kM o = 11) : (wM q ad h).set o (ad o, .inr (10, ([.ref (ad 1), .ref (ad 2), .ref (ad 3), .ref (ad 4), .ref (ad 5), .ref (ad 6), .int (gi h o 6), .int (gi h o 7), .int (gi h o 8), .int (gi h o 9), .int (gi h o 10), .int (gi h o 11), .ref (ad 7), .ref (ad 8), .ref (ad 9), .ref (ad 10), .int (gi h o 16), .int (gi h o 17), .ref (ad 11), .ref (ad 12), .ref (ad 13)] : List Value).set 17 (.int v))) = wM q ad (si h o 17 v) := wG_si (by unfold eM; rw [hk]; rfl)
theorem kx_0 : kX 0 = 10 := by decide +kernel
theorem kx_1 : kX 1 = 9 := by decide +kernel
theorem kx_2 : kX 2 = 4 := by decide +kernel
theorem kx_3 : kX 3 = 6 := by decide +kernel
theorem kx_4 : kX 4 = 20 := by decide +kernel
theorem lx_4 : lX 4 = 6 := by decide +kernel
theorem kx_5 : kX 5 = 20 := by decide +kernel
theorem lx_5 : lX 5 = 10 := by decide +kernel
theorem kx_6 : kX 6 = 20 := by decide +kernel
theorem lx_6 : lX 6 = 4 := by decide +kernel
theorem kx_7 : kX 7 = 20 := by decide +kernel
theorem lx_7 : lX 7 = 2 := by decide +kernel
theorem kx_8 : kX 8 = 22 := by decide +kernel
theorem lx_8 : lX 8 = 4 := by decide +kernel
theorem kx_9 : kX 9 = 20 := by decide +kernel
theorem lx_9 : lX 9 = 2 := by decide +kernel
theorem kx_10 : kX 10 = 20 := by decide +kernel
theorem lx_10 : lX 10 = 2 := by decide +kernel
theorem kx_11 : kX 11 = 20 := by decide +kernel
theorem lx_11 : lX 11 = 2 := by decide +kernel
theorem kx_12 : kX 12 = 20 := by decide +kernel
theorem lx_12 : lX 12 = 2 := by decide +kernel
theorem kx_13 : kX 13 = 20 := by decide +kernel
theorem lx_13 : lX 13 = 4 := by decide +kernel
theorem kx_14 : kX 14 = 20 := by decide +kernel
theorem lx_14 : lX 14 = 4 := by decide +kernel
theorem kx_15 : kX 15 = 22 := by decide +kernel
theorem lx_15 : lX 15 = 4 := by decide +kernel
theorem kx_16 : kX 16 = 20 := by decide +kernel
theorem lx_16 : lX 16 = 120 := by decide +kernel
theorem kx_17 : kX 17 = 20 := by decide +kernel
theorem lx_17 : lX 17 = 120 := by decide +kernel
theorem kx_18 : kX 18 = 20 := by decide +kernel
theorem lx_18 : lX 18 = 120 := by decide +kernel
theorem kx_19 : kX 19 = 20 := by decide +kernel
theorem lx_19 : lX 19 = 120 := by decide +kernel
theorem kx_20 : kX 20 = 22 := by decide +kernel
theorem lx_20 : lX 20 = 6 := by decide +kernel
theorem kx_21 : kX 21 = 20 := by decide +kernel
theorem lx_21 : lX 21 = 4 := by decide +kernel
theorem kx_22 : kX 22 = 20 := by decide +kernel
theorem lx_22 : lX 22 = 4 := by decide +kernel
theorem kx_23 : kX 23 = 20 := by decide +kernel
theorem lx_23 : lX 23 = 4 := by decide +kernel
theorem kx_24 : kX 24 = 20 := by decide +kernel
theorem lx_24 : lX 24 = 4 := by decide +kernel
theorem kx_25 : kX 25 = 20 := by decide +kernel
theorem lx_25 : lX 25 = 4 := by decide +kernel
theorem kx_26 : kX 26 = 20 := by decide +kernel
theorem lx_26 : lX 26 = 4 := by decide +kernel
theorem kx_27 : kX 27 = 20 := by decide +kernel
theorem lx_27 : lX 27 = 3 := by decide +kernel
theorem kx_28 : kX 28 = 22 := by decide +kernel
theorem lx_28 : lX 28 = 6 := by decide +kernel
theorem kx_29 : kX 29 = 20 := by decide +kernel
theorem lx_29 : lX 29 = 5 := by decide +kernel
theorem kx_30 : kX 30 = 20 := by decide +kernel
theorem lx_30 : lX 30 = 5 := by decide +kernel
theorem kx_31 : kX 31 = 20 := by decide +kernel
theorem lx_31 : lX 31 = 5 := by decide +kernel
theorem kx_32 : kX 32 = 20 := by decide +kernel
theorem lx_32 : lX 32 = 5 := by decide +kernel
theorem kx_33 : kX 33 = 20 := by decide +kernel
theorem lx_33 : lX 33 = 5 := by decide +kernel
theorem kx_34 : kX 34 = 20 := by decide +kernel
theorem lx_34 : lX 34 = 5 := by decide +kernel
theorem kx_35 : kX 35 = 22 := by decide +kernel
theorem lx_35 : lX 35 = 6 := by decide +kernel
theorem kx_36 : kX 36 = 20 := by decide +kernel
theorem lx_36 : lX 36 = 6 := by decide +kernel
theorem kx_37 : kX 37 = 20 := by decide +kernel
theorem lx_37 : lX 37 = 6 := by decide +kernel
theorem kx_38 : kX 38 = 20 := by decide +kernel
theorem lx_38 : lX 38 = 6 := by decide +kernel
theorem kx_39 : kX 39 = 20 := by decide +kernel
theorem lx_39 : lX 39 = 6 := by decide +kernel
theorem kx_40 : kX 40 = 20 := by decide +kernel
theorem lx_40 : lX 40 = 6 := by decide +kernel
theorem kx_41 : kX 41 = 20 := by decide +kernel
theorem lx_41 : lX 41 = 6 := by decide +kernel
theorem kx_42 : kX 42 = 20 := by decide +kernel
theorem lx_42 : lX 42 = 60 := by decide +kernel
theorem kx_43 : kX 43 = 8 := by decide +kernel
theorem kx_44 : kX 44 = 20 := by decide +kernel
theorem lx_44 : lX 44 = 121 := by decide +kernel
theorem kx_45 : kX 45 = 20 := by decide +kernel
theorem lx_45 : lX 45 = 121 := by decide +kernel
theorem kx_46 : kX 46 = 20 := by decide +kernel
theorem lx_46 : lX 46 = 121 := by decide +kernel
theorem kx_47 : kX 47 = 24 := by decide +kernel
theorem lx_47 : lX 47 = 4 := by decide +kernel
theorem kx_48 : kX 48 = 20 := by decide +kernel
theorem lx_48 : lX 48 = 4 := by decide +kernel
theorem kx_49 : kX 49 = 20 := by decide +kernel
theorem lx_49 : lX 49 = 120 := by decide +kernel
theorem kx_50 : kX 50 = 20 := by decide +kernel
theorem lx_50 : lX 50 = 6 := by decide +kernel
theorem kx_51 : kX 51 = 20 := by decide +kernel
theorem lx_51 : lX 51 = 6 := by decide +kernel
theorem kx_52 : kX 52 = 22 := by decide +kernel
theorem lx_52 : lX 52 = 6 := by decide +kernel
theorem kx_53 : kX 53 = 20 := by decide +kernel
theorem lx_53 : lX 53 = 10 := by decide +kernel
theorem kx_54 : kX 54 = 20 := by decide +kernel
theorem lx_54 : lX 54 = 10 := by decide +kernel
theorem kx_55 : kX 55 = 20 := by decide +kernel
theorem lx_55 : lX 55 = 10 := by decide +kernel
theorem kx_56 : kX 56 = 20 := by decide +kernel
theorem lx_56 : lX 56 = 10 := by decide +kernel
theorem kx_57 : kX 57 = 20 := by decide +kernel
theorem lx_57 : lX 57 = 10 := by decide +kernel
theorem kx_58 : kX 58 = 20 := by decide +kernel
theorem lx_58 : lX 58 = 10 := by decide +kernel
theorem kx_59 : kX 59 = 7 := by decide +kernel
theorem kx_60 : kX 60 = 20 := by decide +kernel
theorem lx_60 : lX 60 = 120 := by decide +kernel
theorem kx_61 : kX 61 = 20 := by decide +kernel
theorem lx_61 : lX 61 = 6 := by decide +kernel
theorem kx_62 : kX 62 = 7 := by decide +kernel
theorem kx_63 : kX 63 = 20 := by decide +kernel
theorem lx_63 : lX 63 = 120 := by decide +kernel
theorem kx_64 : kX 64 = 20 := by decide +kernel
theorem lx_64 : lX 64 = 6 := by decide +kernel
theorem kx_65 : kX 65 = 7 := by decide +kernel
theorem kx_66 : kX 66 = 20 := by decide +kernel
theorem lx_66 : lX 66 = 120 := by decide +kernel
theorem kx_67 : kX 67 = 20 := by decide +kernel
theorem lx_67 : lX 67 = 6 := by decide +kernel
theorem kx_68 : kX 68 = 7 := by decide +kernel
theorem kx_69 : kX 69 = 20 := by decide +kernel
theorem lx_69 : lX 69 = 120 := by decide +kernel
theorem kx_70 : kX 70 = 20 := by decide +kernel
theorem lx_70 : lX 70 = 6 := by decide +kernel
theorem kx_71 : kX 71 = 2 := by decide +kernel
theorem kx_72 : kX 72 = 23 := by decide +kernel
theorem lx_72 : lX 72 = 126 := by decide +kernel
theorem kx_73 : kX 73 = 23 := by decide +kernel
theorem lx_73 : lX 73 = 10 := by decide +kernel
theorem kx_74 : kX 74 = 1 := by decide +kernel
theorem kx_75 : kX 75 = 20 := by decide +kernel
theorem lx_75 : lX 75 = 5 := by decide +kernel
theorem kx_76 : kX 76 = 20 := by decide +kernel
theorem lx_76 : lX 76 = 6 := by decide +kernel
theorem kx_349 : kX 349 = 22 := by decide +kernel
theorem lx_349 : lX 349 = 4 := by decide +kernel
theorem kx_350 : kX 350 = 20 := by decide +kernel
theorem lx_350 : lX 350 = 4 := by decide +kernel
theorem kx_351 : kX 351 = 20 := by decide +kernel
theorem lx_351 : lX 351 = 4 := by decide +kernel
theorem kx_352 : kX 352 = 20 := by decide +kernel
theorem lx_352 : lX 352 = 4 := by decide +kernel
theorem kx_353 : kX 353 = 20 := by decide +kernel
theorem lx_353 : lX 353 = 4 := by decide +kernel
theorem kx_354 : kX 354 = 23 := by decide +kernel
theorem lx_354 : lX 354 = 16 := by decide +kernel
theorem kx_355 : kX 355 = 1 := by decide +kernel
theorem kx_356 : kX 356 = 20 := by decide +kernel
theorem lx_356 : lX 356 = 32 := by decide +kernel
theorem kx_357 : kX 357 = 1 := by decide +kernel
theorem kx_358 : kX 358 = 20 := by decide +kernel
theorem lx_358 : lX 358 = 32 := by decide +kernel
theorem kx_359 : kX 359 = 1 := by decide +kernel
theorem kx_360 : kX 360 = 20 := by decide +kernel
theorem lx_360 : lX 360 = 32 := by decide +kernel
theorem kx_361 : kX 361 = 23 := by decide +kernel
theorem lx_361 : lX 361 = 4 := by decide +kernel
theorem kx_362 : kX 362 = 1 := by decide +kernel
theorem kx_363 : kX 363 = 20 := by decide +kernel
theorem lx_363 : lX 363 = 32 := by decide +kernel
theorem kx_404 : kX 404 = 25 := by decide +kernel
theorem lx_404 : lX 404 = 2 := by decide +kernel
theorem kx_405 : kX 405 = 21 := by decide +kernel
theorem lx_405 : lX 405 = 2 := by decide +kernel
theorem kx_406 : kX 406 = 3 := by decide +kernel
theorem kx_407 : kX 407 = 1 := by decide +kernel
theorem kx_408 : kX 408 = 20 := by decide +kernel
theorem lx_408 : lX 408 = 32 := by decide +kernel
theorem kx_409 : kX 409 = 1 := by decide +kernel
theorem kx_410 : kX 410 = 20 := by decide +kernel
theorem lx_410 : lX 410 = 32 := by decide +kernel
theorem kx_411 : kX 411 = 1 := by decide +kernel
theorem kx_412 : kX 412 = 20 := by decide +kernel
theorem lx_412 : lX 412 = 32 := by decide +kernel
theorem kx_413 : kX 413 = 1 := by decide +kernel
theorem kx_414 : kX 414 = 20 := by decide +kernel
theorem lx_414 : lX 414 = 32 := by decide +kernel
theorem kx_415 : kX 415 = 1 := by decide +kernel
theorem kx_416 : kX 416 = 20 := by decide +kernel
theorem lx_416 : lX 416 = 32 := by decide +kernel
theorem kx_417 : kX 417 = 5 := by decide +kernel
theorem kx_418 : kX 418 = 20 := by decide +kernel
theorem lx_418 : lX 418 = 6 := by decide +kernel
theorem kx_419 : kX 419 = 20 := by decide +kernel
theorem lx_419 : lX 419 = 6 := by decide +kernel
theorem kx_420 : kX 420 = 1 := by decide +kernel
theorem kx_421 : kX 421 = 20 := by decide +kernel
theorem lx_421 : lX 421 = 5 := by decide +kernel
theorem kx_422 : kX 422 = 1 := by decide +kernel
theorem kx_423 : kX 423 = 20 := by decide +kernel
theorem lx_423 : lX 423 = 5 := by decide +kernel
theorem kx_424 : kX 424 = 6 := by decide +kernel
theorem km_0 : kM 0 = 11 := by decide +kernel
theorem km_1 : kM 1 = 20 := by decide +kernel
theorem lm_1 : lM 1 = 675 := by decide +kernel
theorem km_2 : kM 2 = 20 := by decide +kernel
theorem lm_2 : lM 2 = 1350 := by decide +kernel
theorem km_3 : kM 3 = 21 := by decide +kernel
theorem lm_3 : lM 3 = 2 := by decide +kernel
theorem km_4 : kM 4 = 20 := by decide +kernel
theorem lm_4 : lM 4 = 3 := by decide +kernel
theorem km_5 : kM 5 = 26 := by decide +kernel
theorem lm_5 : lM 5 = 768 := by decide +kernel
theorem km_6 : kM 6 = 20 := by decide +kernel
theorem lm_6 : lM 6 = 12 := by decide +kernel
theorem km_7 : kM 7 = 20 := by decide +kernel
theorem lm_7 : lM 7 = 480 := by decide +kernel
theorem km_8 : kM 8 = 20 := by decide +kernel
theorem lm_8 : lM 8 = 4 := by decide +kernel
theorem km_9 : kM 9 = 21 := by decide +kernel
theorem lm_9 : lM 9 = 4 := by decide +kernel
theorem km_10 : kM 10 = 21 := by decide +kernel
theorem lm_10 : lM 10 = 4 := by decide +kernel
theorem km_11 : kM 11 = 20 := by decide +kernel
theorem lm_11 : lM 11 = 4 := by decide +kernel
theorem km_12 : kM 12 = 21 := by decide +kernel
theorem lm_12 : lM 12 = 4 := by decide +kernel
theorem km_13 : kM 13 = 20 := by decide +kernel
theorem lm_13 : lM 13 = 6 := by decide +kernel
theorem kxe_8 : ∀ k, k < 4 → kX (8 + 1 + 1 * k) = 20 := by decide +kernel
theorem lxe_8 : ∀ k, k < 4 → lX (8 + 1 + 1 * k) = 2 := by decide +kernel
theorem kxe_15 : ∀ k, k < 4 → kX (15 + 1 + 1 * k) = 20 := by decide +kernel
theorem lxe_15 : ∀ k, k < 4 → lX (15 + 1 + 1 * k) = 120 := by decide +kernel
theorem kxe_20 : ∀ k, k < 6 → kX (20 + 1 + 1 * k) = 20 := by decide +kernel
theorem lxe_20 : ∀ k, k < 6 → lX (20 + 1 + 1 * k) = 4 := by decide +kernel
theorem kxe_28 : ∀ k, k < 6 → kX (28 + 1 + 1 * k) = 20 := by decide +kernel
theorem lxe_28 : ∀ k, k < 6 → lX (28 + 1 + 1 * k) = 5 := by decide +kernel
theorem kxe_35 : ∀ k, k < 6 → kX (35 + 1 + 1 * k) = 20 := by decide +kernel
theorem lxe_35 : ∀ k, k < 6 → lX (35 + 1 + 1 * k) = 6 := by decide +kernel
theorem kxe_47 : ∀ k, k < 4 → kX (59 + 3 * k) = 7 := by decide +kernel
theorem kxe_52 : ∀ k, k < 6 → kX (52 + 1 + 1 * k) = 20 := by decide +kernel
theorem lxe_52 : ∀ k, k < 6 → lX (52 + 1 + 1 * k) = 10 := by decide +kernel
theorem kxe_72 : ∀ k, k < 126 → kX (77 + 2 * k) = 1 := by decide +kernel
theorem kxe_73 : ∀ k, k < 10 → kX (329 + 2 * k) = 1 := by decide +kernel
theorem kxe_349 : ∀ k, k < 4 → kX (349 + 1 + 1 * k) = 20 := by decide +kernel
theorem lxe_349 : ∀ k, k < 4 → lX (349 + 1 + 1 * k) = 4 := by decide +kernel
theorem kxe_354 : ∀ k, k < 16 → kX (364 + 2 * k) = 1 := by decide +kernel
theorem kxe_361 : ∀ k, k < 4 → kX (396 + 2 * k) = 1 := by decide +kernel
theorem kxe_404 : ∀ k, k < 2 → kX (424 + 40 * k) = 6 := by decide +kernel
theorem kxe_429 : ∀ k, k < 4 → kX (429 + 1 + 1 * k) = 20 := by decide +kernel
theorem lxe_429 : ∀ k, k < 4 → lX (429 + 1 + 1 * k) = 2 := by decide +kernel
theorem kxe_436 : ∀ k, k < 4 → kX (436 + 1 + 1 * k) = 20 := by decide +kernel
theorem lxe_436 : ∀ k, k < 4 → lX (436 + 1 + 1 * k) = 120 := by decide +kernel
theorem kxe_441 : ∀ k, k < 6 → kX (441 + 1 + 1 * k) = 20 := by decide +kernel
theorem lxe_441 : ∀ k, k < 6 → lX (441 + 1 + 1 * k) = 4 := by decide +kernel
theorem kxe_449 : ∀ k, k < 6 → kX (449 + 1 + 1 * k) = 20 := by decide +kernel
theorem lxe_449 : ∀ k, k < 6 → lX (449 + 1 + 1 * k) = 5 := by decide +kernel
theorem kxe_456 : ∀ k, k < 6 → kX (456 + 1 + 1 * k) = 20 := by decide +kernel
theorem lxe_456 : ∀ k, k < 6 → lX (456 + 1 + 1 * k) = 6 := by decide +kernel
theorem kxe_469 : ∀ k, k < 4 → kX (469 + 1 + 1 * k) = 20 := by decide +kernel
theorem lxe_469 : ∀ k, k < 4 → lX (469 + 1 + 1 * k) = 2 := by decide +kernel
theorem kxe_476 : ∀ k, k < 4 → kX (476 + 1 + 1 * k) = 20 := by decide +kernel
theorem lxe_476 : ∀ k, k < 4 → lX (476 + 1 + 1 * k) = 120 := by decide +kernel
theorem kxe_481 : ∀ k, k < 6 → kX (481 + 1 + 1 * k) = 20 := by decide +kernel
theorem lxe_481 : ∀ k, k < 6 → lX (481 + 1 + 1 * k) = 4 := by decide +kernel
theorem kxe_489 : ∀ k, k < 6 → kX (489 + 1 + 1 * k) = 20 := by decide +kernel
theorem lxe_489 : ∀ k, k < 6 → lX (489 + 1 + 1 * k) = 5 := by decide +kernel
theorem kxe_496 : ∀ k, k < 6 → kX (496 + 1 + 1 * k) = 20 := by decide +kernel
theorem lxe_496 : ∀ k, k < 6 → lX (496 + 1 + 1 * k) = 6 := by decide +kernel
theorem kxe22 : ∀ o, o < 504 → kX o = 22 → ∀ k, k < lX o → kX (o + 1 + 1 * k) = 20 := by decide +kernel
theorem kxr_1 : ∀ o, o < 504 → kX o = 1 → kX (o + 1) = 20 := by decide +kernel
theorem kxr_7 : ∀ o, o < 504 → kX o = 7 → (kX (o + 1) = 20 ∧ lX (o + 1) = 120) ∧ (kX (o + 2) = 20 ∧ lX (o + 2) = 6) := by decide +kernel
theorem kxr_6_1 : ∀ o, o < 504 → kX o = 6 → kX (o + 1) = 20 ∧ lX (o + 1) = 6 := by decide +kernel
theorem kxr_6_2 : ∀ o, o < 504 → kX o = 6 → kX (o + 2) = 20 ∧ lX (o + 2) = 10 := by decide +kernel
theorem kxr_6_3 : ∀ o, o < 504 → kX o = 6 → kX (o + 3) = 20 ∧ lX (o + 3) = 4 := by decide +kernel
theorem kxr_6_4 : ∀ o, o < 504 → kX o = 6 → kX (o + 4) = 20 ∧ lX (o + 4) = 2 := by decide +kernel
theorem kxr_6_5 : ∀ o, o < 504 → kX o = 6 → kX (o + 5) = 22 ∧ lX (o + 5) = 4 := by decide +kernel
theorem kxr_6_10 : ∀ o, o < 504 → kX o = 6 → kX (o + 10) = 20 ∧ lX (o + 10) = 4 := by decide +kernel
theorem kxr_6_11 : ∀ o, o < 504 → kX o = 6 → kX (o + 11) = 20 ∧ lX (o + 11) = 4 := by decide +kernel
theorem kxr_6_12 : ∀ o, o < 504 → kX o = 6 → kX (o + 12) = 22 ∧ lX (o + 12) = 4 := by decide +kernel
theorem kxr_6_17 : ∀ o, o < 504 → kX o = 6 → kX (o + 17) = 22 ∧ lX (o + 17) = 6 := by decide +kernel
theorem kxr_6_24 : ∀ o, o < 504 → kX o = 6 → kX (o + 24) = 20 ∧ lX (o + 24) = 3 := by decide +kernel
theorem kxr_6_25 : ∀ o, o < 504 → kX o = 6 → kX (o + 25) = 22 ∧ lX (o + 25) = 6 := by decide +kernel
theorem kxr_6_32 : ∀ o, o < 504 → kX o = 6 → kX (o + 32) = 22 ∧ lX (o + 32) = 6 := by decide +kernel
theorem kxr_6_39 : ∀ o, o < 504 → kX o = 6 → kX (o + 39) = 20 ∧ lX (o + 39) = 60 := by decide +kernel
theorem vpl {i : Int32} {n : Nat} (h : vp_in i n) : i.toNatClampNeg < n := Nat.not_le.mp fun q => h (Or.inr q)
theorem vpi {i : Int32} {n : Nat} (h : (decide (i < 0) || decide (n ≤ i.toNatClampNeg)) = false) : vp_in i n := by
  intro g
  simp only [Bool.or_eq_false_iff, decide_eq_false_iff_not] at h
  exact g.elim h.1 h.2
abbrev zn (x : Int32) : Int32 := vp_nar .boolean x
theorem neTI {x k : Int32} {n : Int} (hk : k.toInt = n) (h : ¬ x = k) : x.toInt ≠ n := fun e => h (Int32.toInt_inj.mp (e.trans hk.symm))
theorem z0c : (0 : Int32).toNatClampNeg = 0 := rfl
theorem kv_copy : Cond.native arraycopyName ∈ gW := gW_of 778 (by decide +kernel) (by decide +kernel)
theorem kt_J10_arraycopy : Cond.static arraycopyName ∈ gW := gW_of 777 (by decide +kernel) (by decide +kernel)
