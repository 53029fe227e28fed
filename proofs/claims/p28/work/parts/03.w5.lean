/-! THE CLASS'S WORLD: a cell a place; place p lies at the address ad p, and holds the memory's row σ p -/
def W5 (k ad : Nat → Nat) (σ : Mem) : va_W := [
  (ad 0, .inr (9, [.ref (ad 1), .ref (ad 11), .ref (ad 23), .int (σ 0 3)])),
  (ad 1, .inr (6, [.ref (ad 2), .ref (ad 3), .ref (ad 4), .ref (ad 5), .ref (ad 6), .ref (ad 7), .ref (ad 8), .ref (ad 9), .ref (ad 10), .int (σ 1 9), .int (σ 1 10)])),
  (ad 2, .inl (k 0, 5, .inl (σ 2))), (ad 3, .inl (k 0, 5, .inl (σ 3))), (ad 4, .inl (k 0, 30, .inl (σ 4))), (ad 5, .inl (k 0, 30, .inl (σ 5))), (ad 6, .inl (k 0, 30, .inl (σ 6))), (ad 7, .inl (k 0, 30, .inl (σ 7))), (ad 8, .inl (k 0, 30, .inl (σ 8))),
  (ad 9, .inl (k 1, 30, .inl (σ 9))), (ad 10, .inl (k 1, 30, .inl (σ 10))),
  (ad 11, .inr (8, [.ref (ad 1), .ref (ad 12), .ref (ad 14), .ref (ad 16), .ref (ad 18), .ref (ad 22), .int (σ 11 6)])),
  (ad 12, .inr (7, [.ref (ad 1), .ref (ad 13), .int (σ 12 2)])), (ad 13, .inl (k 0, 5, .inl (σ 13))),
  (ad 14, .inr (7, [.ref (ad 1), .ref (ad 15), .int (σ 14 2)])), (ad 15, .inl (k 0, 5, .inl (σ 15))),
  (ad 16, .inr (7, [.ref (ad 1), .ref (ad 17), .int (σ 16 2)])), (ad 17, .inl (k 0, 5, .inl (σ 17))),
  (ad 18, .inr (4, [.ref (ad 1), .ref (ad 19), .ref (ad 20), .ref (ad 21), .int (σ 18 4), .int (σ 18 5), .int (σ 18 6)])),
  (ad 19, .inl (k 0, 5, .inl (σ 19))), (ad 20, .inl (k 0, 5, .inl (σ 20))), (ad 21, .inl (k 0, 5, .inl (σ 21))), (ad 22, .inl (k 0, 5, .inl (σ 22))),
  (ad 23, .inr (5, [.ref (ad 24), .ref (ad 25), .ref (ad 26), .int (σ 23 3)])),
  (ad 24, .inl (k 2, 12, .inr (.inr (.inr (.inr (fun j => if j < 12 then some (ad (27 + j)) else none)))))),
  (ad 25, .inl (k 2, 6, .inr (.inr (.inr (.inr (fun j => if j < 6 then some (ad (39 + j)) else none)))))),
  (ad 26, .inl (k 0, 6, .inl (σ 26))),
  (ad 27, .inl (k 0, 5, .inl (σ 27))), (ad 28, .inl (k 0, 5, .inl (σ 28))), (ad 29, .inl (k 0, 5, .inl (σ 29))), (ad 30, .inl (k 0, 5, .inl (σ 30))), (ad 31, .inl (k 0, 5, .inl (σ 31))), (ad 32, .inl (k 0, 5, .inl (σ 32))), (ad 33, .inl (k 0, 5, .inl (σ 33))), (ad 34, .inl (k 0, 5, .inl (σ 34))), (ad 35, .inl (k 0, 5, .inl (σ 35))), (ad 36, .inl (k 0, 5, .inl (σ 36))), (ad 37, .inl (k 0, 5, .inl (σ 37))), (ad 38, .inl (k 0, 5, .inl (σ 38))),
  (ad 39, .inl (k 0, 5, .inl (σ 39))), (ad 40, .inl (k 0, 5, .inl (σ 40))), (ad 41, .inl (k 0, 5, .inl (σ 41))), (ad 42, .inl (k 0, 5, .inl (σ 42))), (ad 43, .inl (k 0, 5, .inl (σ 43))), (ad 44, .inl (k 0, 5, .inl (σ 44)))]
theorem W5_kept (k ad : Nat → Nat) (σ : Mem) {j : Nat} (h : j < 12) : (W5 k ad σ)[27 + j]? = some (ad (27 + j), .inl (k 0, 5, .inl (σ (27 + j)))) := by
  rcases (show j = 0 ∨ j = 1 ∨ j = 2 ∨ j = 3 ∨ j = 4 ∨ j = 5 ∨ j = 6 ∨ j = 7 ∨ j = 8 ∨ j = 9 ∨ j = 10 ∨ j = 11 by omega) with rfl | rfl | rfl | rfl | rfl | rfl | rfl | rfl | rfl | rfl | rfl | rfl <;> rfl
theorem W5_had (k ad : Nat → Nat) (σ : Mem) {j : Nat} (h : j < 6) : (W5 k ad σ)[39 + j]? = some (ad (39 + j), .inl (k 0, 5, .inl (σ (39 + j)))) := by
  rcases (show j = 0 ∨ j = 1 ∨ j = 2 ∨ j = 3 ∨ j = 4 ∨ j = 5 by omega) with rfl | rfl | rfl | rfl | rfl | rfl <;> rfl
theorem W5_keptS (k ad : Nat → Nat) (σ : Mem) {j : Nat} (h : j < 12) (f : Nat → Int32) : (W5 k ad σ).set (27 + j) (ad (27 + j), .inl (k 0, 5, .inl f)) = W5 k ad (mup σ (27 + j) f) := by
  rcases (show j = 0 ∨ j = 1 ∨ j = 2 ∨ j = 3 ∨ j = 4 ∨ j = 5 ∨ j = 6 ∨ j = 7 ∨ j = 8 ∨ j = 9 ∨ j = 10 ∨ j = 11 by omega) with rfl | rfl | rfl | rfl | rfl | rfl | rfl | rfl | rfl | rfl | rfl | rfl <;> rfl
theorem W5_hadS (k ad : Nat → Nat) (σ : Mem) {j : Nat} (h : j < 6) (f : Nat → Int32) : (W5 k ad σ).set (39 + j) (ad (39 + j), .inl (k 0, 5, .inl f)) = W5 k ad (mup σ (39 + j) f) := by
  rcases (show j = 0 ∨ j = 1 ∨ j = 2 ∨ j = 3 ∨ j = 4 ∨ j = 5 by omega) with rfl | rfl | rfl | rfl | rfl | rfl <;> rfl
theorem vin_lt {i : Int32} {n : Nat} (h : vp_in i n) : i.toNatClampNeg < n := Nat.not_le.mp fun q => h (Or.inr q)
section QL
variable {p : Program} {l : Launch} {e : Env} {R : Room} {s : State} {m : MethodId} {args : Array Value} {below : List Frame} {meth : Method} {c : Code} {H : Heap} {locs : List Loc} {cells slots : Nat} {Q : State → Prop}
variable {cc : ByteArray} {pc : Nat} {ls : Array Slot} {rest : List Value} {D : va_G} {cl : List vw_C} {A : Nat → Prop} {a : Nat} {tys : List (ClassId × FieldType)} {ws : va_W} {H0 : Heap}
/-- aaload out of an array of rows -/
theorem va_ald2 (hexec : p.tables.exec = Jvm.exec) (hb : c.code = cc) (hK : va_K D cl tys s) (hP : va_P D cl ws H) (q0 t0 : Nat) {cA : ClassId} {n : Nat} {f : Nat → Option Nat} (ha : ws[q0]? = some (a, .inl (cA, n, .inr (.inr (.inr (.inr f)))))) (ht : tys[t0]? = some (cA, .array .int)) {i : Int32} (hin : vp_in i n) {y : Nat} (hf : f i.toNatClampNeg = some y) (hdg : decode cc pc = .ok (.aaload, 1))
    (kk : W p l e R s m args below meth c H locs cells slots Q (F0 m (pc + 1) ls (.ref y :: rest))) : W p l e R s m args below meth c H locs cells slots Q (F0 m pc ls (.int i :: .ref a :: rest)) := by
  have hlt : i.toNatClampNeg < n := Nat.not_le.mp fun q => hin (Or.inr q)
  exact W.aald (v := .ref y) (ty := .array .int) hexec hb (hP q0 _ ha) ((hK.2 t0 _ ht).1 n (fun j => va_rf (f j))) rfl (fun q => by cases q) (by show ¬ (i < 0 ∨ (arrV _ _ _).slots.size ≤ _); rw [arrV_size]; exact hin) (by show (arrV _ _ _).slots[_]? = _; rw [arrV_read _ _ hlt, hf]; rfl) rfl rfl hdg kk
end QL
theorem if_some {j n : Nat} (h : j < n) (x : Nat) : (if j < n then some x else none) = some x := if_pos h
def W1 (k ad : Nat → Nat) (n : Nat) (σ : Mem) : va_W := [(ad 0, .inl (k 0, n, .inl (σ 0)))]
