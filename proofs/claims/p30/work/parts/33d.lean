/-! SIDE BY SIDE: reasons -/
section JR
variable {am g : Nat → Nat} {a1 a2 a3 a4 : Int32} {σ τ : Mem} {nF : Nat} {n : Int64} {v : Value}
/-- the class's memory in a reason: its trial apart, as it was -/
def Tr (σ ρ : Mem) : Prop := ∀ p : Nat, p ≠ 14 → p ≠ 15 → ρ p = σ p
theorem tr_bg {set : Int32} {f : Nat} {ρ : Mem} (h : RR σ g τ nF) (ht : Tr σ ρ) (hf : f < 5) : bgM 14 15 nF (g 0) set ρ 15 f = mtF (tm (g 0) τ) set nF (g 0) full f ∧ bgM 14 15 nF (g 0) set ρ 14 2 = mtC (tm (g 0) τ) set nF (g 0) full ∧ Tr σ (bgM 14 15 nF (g 0) set ρ) := by
  have e : ∀ p : Nat, p ≤ 10 → ρ p = σ p := fun p hp => ht p (by omega) (by omega)
  obtain ⟨e1, e2⟩ := ag_mt (set := set) (nF := nF) h.ag h.ci.lv.2.1
  refine ⟨?_, ?_, fun p a b => (bgM_fr a b).trans (ht p a b)⟩
  · unfold bgM
    rw [mst_ne (by decide), mup_eq, fl_cp, mtF_sm e, (cp_mt h.ci.lv).1, cp_lt hf, e1]
  · unfold bgM
    rw [mst_eq, upd_eq, fl_cp, mtC_sm e, (cp_mt h.ci.lv).2, e2]
end JR
