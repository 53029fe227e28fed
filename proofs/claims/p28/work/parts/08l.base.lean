/-! TWO LONGS COMPARED, TO SEE WHETHER THEY ARE ONE -/
section LCMP
variable {p : Program} {l : Launch} {e : Env} {R : Room} {s : State} {m : MethodId} {args : Array Value} {below : List Frame} {meth : Method} {c : Code} {H : Heap} {locs : List Loc} {cells slots : Nat} {Q : State → Prop}
variable {cc : ByteArray} {pc : Nat} {ls : Array Slot} {rest : List Value}
theorem lcmp_nl (x : Int64) : ¬ x > x := by
  rw [gt_iff_lt, Int64.lt_iff_toInt_lt]
  omega
theorem vx_lcmp (hexec : p.tables.exec = Jvm.exec) (hb : c.code = cc) {x y : Int64} (hdg : decode cc pc = .ok (.lcmp, 1))
    (k1 : x = y → W p l e R s m args below meth c H locs cells slots Q (F0 m (pc + 1) ls (.int 0 :: rest)))
    (k2 : ¬ x = y → ∀ z : Int32, ¬ z = 0 → W p l e R s m args below meth c H locs cells slots Q (F0 m (pc + 1) ls (.int z :: rest))) : W p l e R s m args below meth c H locs cells slots Q (F0 m pc ls (.long y :: .long x :: rest)) := by
  by_cases hxy : x = y
  · subst hxy
    intro T hT X
    obtain ⟨t, a, b⟩ := k1 rfl T hT X
    refine ⟨t, ?_, b⟩
    jvm_step X.here [X.here.top, hexec, hb, hdg, lcmp_nl]
    exact a
  · by_cases hgt : x > y
    · intro T hT X
      obtain ⟨t, a, b⟩ := k2 hxy 1 (by decide) T hT X
      refine ⟨t, ?_, b⟩
      jvm_step X.here [X.here.top, hexec, hb, hdg, hgt]
      exact a
    · intro T hT X
      obtain ⟨t, a, b⟩ := k2 hxy (-1) (by decide) T hT X
      refine ⟨t, ?_, b⟩
      jvm_step X.here [X.here.top, hexec, hb, hdg, hgt, hxy]
      exact a
end LCMP
