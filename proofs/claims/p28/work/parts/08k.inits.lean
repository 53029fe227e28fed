/-! THE WORLDS THAT THE CONSTRUCTORS LEAVE, as W5 and WM -/
def adI (h0 : Nat) (u : Nat → Nat) (i : Nat) : Nat := if i = 0 then h0 else if i ≤ 11 then u (i - 1) else if i = 22 then u 11 else if i < 22 then u i else if i < 25 then u (i - 1) else if i = 25 then u 36 else if i = 26 then u 43 else if i < 39 then u (i - 3) else u (i - 2)
def sI : Mem := fun p => bif Nat.beq p 18 then (fun j => if j = 4 then -1 else 0) else bif Nat.beq p 21 || Nat.beq p 22 || Nat.ble 39 p then fl_row 5 (-1) (fun _ => 0) else bif Nat.beq p 26 then fl_row 6 (-1) (fun _ => 0) else fun _ => 0
set_option maxRecDepth 100000 in
theorem W5_start {D : va_G} {A : Nat → Prop} {H : Heap} {k : Nat → Nat} {h0 : Nat} {u : Nat → Nat} (hP : va_P D vwCl (wv_X5_init k h0 u) H) (hD : va_D A (wv_X5_init k h0 u)) : va_P D vwCl (W5 k (adI h0 u) sI) H ∧ va_D A (W5 k (adI h0 u) sI) := by
  have e : W5 k (adI h0 u) sI = [(h0, .inr (9, [.ref (u 0), .ref (u 10), .ref (u 22), .int 0])), ((u 0), .inr (6, [.ref (u 1), .ref (u 2), .ref (u 3), .ref (u 4), .ref (u 5), .ref (u 6), .ref (u 7), .ref (u 8), .ref (u 9), .int 0, .int 0])), ((u 1), .inl (k 0, 5, .inl (fun _ => 0))), ((u 2), .inl (k 0, 5, .inl (fun _ => 0))), ((u 3), .inl (k 0, 30, .inl (fun _ => 0))), ((u 4), .inl (k 0, 30, .inl (fun _ => 0))), ((u 5), .inl (k 0, 30, .inl (fun _ => 0))), ((u 6), .inl (k 0, 30, .inl (fun _ => 0))), ((u 7), .inl (k 0, 30, .inl (fun _ => 0))), ((u 8), .inl (k 1, 30, .inl (fun _ => 0))), ((u 9), .inl (k 1, 30, .inl (fun _ => 0))), ((u 10), .inr (8, [.ref (u 0), .ref (u 12), .ref (u 14), .ref (u 16), .ref (u 18), .ref (u 11), .int 0])), ((u 12), .inr (7, [.ref (u 0), .ref (u 13), .int 0])), ((u 13), .inl (k 0, 5, .inl (fun _ => 0))), ((u 14), .inr (7, [.ref (u 0), .ref (u 15), .int 0])), ((u 15), .inl (k 0, 5, .inl (fun _ => 0))), ((u 16), .inr (7, [.ref (u 0), .ref (u 17), .int 0])), ((u 17), .inl (k 0, 5, .inl (fun _ => 0))), ((u 18), .inr (4, [.ref (u 0), .ref (u 19), .ref (u 20), .ref (u 21), .int (-1), .int 0, .int 0])), ((u 19), .inl (k 0, 5, .inl (fun _ => 0))), ((u 20), .inl (k 0, 5, .inl (fun _ => 0))), ((u 21), .inl (k 0, 5, .inl (fl_row 5 (-1) (fun _ => 0)))), ((u 11), .inl (k 0, 5, .inl (fl_row 5 (-1) (fun _ => 0)))), ((u 22), .inr (5, [.ref (u 23), .ref (u 36), .ref (u 43), .int 0])), ((u 23), .inl (k 2, 12, .inr (.inr (.inr (.inr (fun i => if i < 12 then some (u (24 + i)) else none)))))), ((u 36), .inl (k 2, 6, .inr (.inr (.inr (.inr (fun i => if i < 6 then some (u (37 + i)) else none)))))), ((u 43), .inl (k 0, 6, .inl (fl_row 6 (-1) (fun _ => 0)))), ((u 24), .inl (k 0, 5, .inl (fun _ => 0))), ((u 25), .inl (k 0, 5, .inl (fun _ => 0))), ((u 26), .inl (k 0, 5, .inl (fun _ => 0))), ((u 27), .inl (k 0, 5, .inl (fun _ => 0))), ((u 28), .inl (k 0, 5, .inl (fun _ => 0))), ((u 29), .inl (k 0, 5, .inl (fun _ => 0))), ((u 30), .inl (k 0, 5, .inl (fun _ => 0))), ((u 31), .inl (k 0, 5, .inl (fun _ => 0))), ((u 32), .inl (k 0, 5, .inl (fun _ => 0))), ((u 33), .inl (k 0, 5, .inl (fun _ => 0))), ((u 34), .inl (k 0, 5, .inl (fun _ => 0))), ((u 35), .inl (k 0, 5, .inl (fun _ => 0))), ((u 37), .inl (k 0, 5, .inl (fl_row 5 (-1) (fun _ => 0)))), ((u 38), .inl (k 0, 5, .inl (fl_row 5 (-1) (fun _ => 0)))), ((u 39), .inl (k 0, 5, .inl (fl_row 5 (-1) (fun _ => 0)))), ((u 40), .inl (k 0, 5, .inl (fl_row 5 (-1) (fun _ => 0)))), ((u 41), .inl (k 0, 5, .inl (fl_row 5 (-1) (fun _ => 0)))), ((u 42), .inl (k 0, 5, .inl (fl_row 5 (-1) (fun _ => 0))))] := by
    unfold W5
    rw [mx_fn (n := 12) (r := fun j => adI h0 u (27 + j)) (s := fun j => u (24 + j)) (fun j hj => by
      show adI h0 u (27 + j) = u (24 + j)
      unfold adI
      rw [if_neg (by omega), if_neg (by omega), if_neg (by omega), if_neg (by omega), if_neg (by omega), if_neg (by omega), if_neg (by omega), if_pos (by omega)]
      congr 1; omega), mx_fn (n := 6) (r := fun j => adI h0 u (39 + j)) (s := fun j => u (37 + j)) (fun j hj => by
      show adI h0 u (39 + j) = u (37 + j)
      unfold adI
      rw [if_neg (by omega), if_neg (by omega), if_neg (by omega), if_neg (by omega), if_neg (by omega), if_neg (by omega), if_neg (by omega), if_neg (by omega)]
      congr 1; omega)]
    rfl
  rw [e]
  exact ⟨hP.sub [0, 1, 2, 3, 4, 5, 6, 7, 8, 9, 10, 11, 13, 14, 15, 16, 17, 18, 19, 20, 21, 22, 12, 23, 24, 37, 44, 25, 26, 27, 28, 29, 30, 31, 32, 33, 34, 35, 36, 38, 39, 40, 41, 42, 43] rfl, hD.sub [0, 1, 2, 3, 4, 5, 6, 7, 8, 9, 10, 11, 13, 14, 15, 16, 17, 18, 19, 20, 21, 22, 12, 23, 24, 37, 44, 25, 26, 27, 28, 29, 30, 31, 32, 33, 34, 35, 36, 38, 39, 40, 41, 42, 43] (by decide) rfl⟩
def amI (h0 : Nat) (u : Nat → Nat) (i : Nat) : Nat := if i = 0 then h0 else u (i - 1)
def tI : Mem := fun p => bif Nat.beq p 5 then (upd (upd (upd (upd (upd (upd (fun _ => 0) 0 (-1)) 1 (-1)) 2 (-1)) 3 (-1)) 4 (-1)) 5 (-1)) else bif Nat.beq p 6 then (upd (upd (upd (upd (upd (upd (upd (upd (upd (upd (upd (upd (upd (upd (upd (upd (upd (upd (upd (upd (upd (upd (upd (upd (upd (upd (upd (upd (upd (upd (fun _ => 0) 0 (-1)) 1 (-1)) 2 (-1)) 3 (-1)) 4 (-1)) 5 (-1)) 6 (-1)) 7 (-1)) 8 (-1)) 9 (-1)) 10 (-1)) 11 (-1)) 12 (-1)) 13 (-1)) 14 (-1)) 15 (-1)) 16 (-1)) 17 (-1)) 18 (-1)) 19 (-1)) 20 (-1)) 21 (-1)) 22 (-1)) 23 (-1)) 24 (-1)) 25 (-1)) 26 (-1)) 27 (-1)) 28 (-1)) 29 (-1)) else fun _ => 0
theorem dl00 : dl64 0 0 = 0 := by decide
set_option maxRecDepth 100000 in
theorem WM_start (k : Nat → Nat) (h0 : Nat) (u : Nat → Nat) : wv_X8_init k h0 u = WM k (amI h0 u) (fun _ => 0) tI := by
  show wv_X8_init k h0 u = WM0 k (amI h0 u) (fun _ => 0) tI
  unfold WM0
  rw [show dl64 (tI 0 14) (tI 0 15) = 0 from dl00]
  rfl
