/-! SIDE BY SIDE: lines met, narrower fields -/
theorem fl_cp {g : Mw} : fl_row 5 255 g = cp5 full g := by
  funext i
  unfold fl_row cp5 full
  by_cases q : i < 5
  · simp only [if_pos q]
  · simp only [if_neg q]
section JM
variable {am g : Nat → Nat} {a1 a2 a3 a4 : Int32} {σ τ : Mem} {nF : Nat} {n : Int64} {v : Value}
theorem bg_15 {set : Int32} {f : Nat} (h : RR σ g τ nF) (hf : f < 5) : bgM 14 15 nF (g 0) set σ 15 f = mtF (tm (g 0) τ) set nF (g 0) full f ∧ bgM 14 15 nF (g 0) set σ 14 2 = mtC (tm (g 0) τ) set nF (g 0) full := by
  obtain ⟨e1, e2⟩ := ag_mt (set := set) (nF := nF) h.ag h.ci.lv.2.1
  unfold bgM
  constructor
  · rw [mst_ne (by decide), mup_eq, fl_cp, (cp_mt h.ci.lv).1, cp_lt hf, e1]
  · rw [mst_eq, upd_eq, fl_cp, (cp_mt h.ci.lv).2, e2]
end JM
