/-! THE REFERENCE'S CHOOSER FINDS WHAT IS SAID, AND COUNTS IT -/
def WY (τ ρ : Mem) : Prop := WE τ ρ ∧ ∀ i : Nat, (i = 0 ∨ 14 ≤ i) → ρ 0 i = τ 0 i
theorem WY.rf {τ : Mem} : WY τ τ := ⟨WE.rf, fun _ _ => rfl⟩
theorem WY.trans {τ ρ χ : Mem} (h : WY τ ρ) (h2 : WY ρ χ) : WY τ χ := ⟨h.1.trans h2.1, fun i hi => (h2.2 i hi).trans (h.2 i hi)⟩
theorem WY.z {τ ρ : Mem} (h : WY τ ρ) : ρ 0 0 = τ 0 0 := h.2 0 (Or.inl rfl)
theorem WY.etm {n : Nat} {τ ρ : Mem} (h : WY τ ρ) : tm n ρ = tm n τ := h.1.etm
theorem WY.lv {n nF nL : Nat} {τ ρ : Mem} (h : WY τ ρ) (hL : LV (tm n τ) nF nL) : LV (tm n ρ) nF nL := h.1.lv hL
theorem SE.wy {τ ρ : Mem} (h : SE τ ρ) : WY τ ρ := ⟨h.we, fun i _ => by rw [h 0 (by decide)]⟩
theorem put_wy {d : Nat} {m : Mw} {τ : Mem} : WY τ (put d m τ) := ⟨put_we, fun i _ => by rw [put_ne (by decide)]⟩
theorem mst0_wy {τ : Mem} {i : Nat} {x : Int32} (hi : i = 12 ∨ i = 13) : WY τ (mst τ 0 i x) := ⟨mst0_we (by omega), fun k hk => by rw [mst_eq, upd_ne (by omega)]⟩
theorem mstp_wy {τ : Mem} {p i : Nat} {x : Int32} (hp : 7 ≤ p ∧ p < 10) : WY τ (mst τ p i x) := ⟨mstp_we hp, fun i _ => by rw [mst_ne (by omega)]⟩
theorem mup_wy {τ : Mem} {p : Nat} {f : Nat → Int32} (hp : 7 ≤ p ∧ p < 10) : WY τ (mup τ p f) := ⟨mup_we hp, fun i _ => by rw [mup_ne (by omega)]⟩
def cv_Rr (nF : Nat) (τ : Mem) (s : Sp) : Prop := ∃ k : Nat, τ 0 13 = nI k ∧ k + s.1 ≤ 1000 ∧ (s.1 = 1000 ∧ k = 0 ∨ s.1 < 1000 ∧ 0 < k ∧ τ 0 12 = nI s.1 ∧ ∀ f : Nat, f < nF → τ 9 f = nI (s.2 f))
theorem cs_1000 {w x : Nat → Nat} {nF : Nat} (h5 : nF ≤ 5) (hw : ∀ f : Nat, f < nF → w f ≤ 9) (hx : ∀ f : Nat, f < nF → x f < 8) : cv_cs w nF x < 1000 := by
  have := cs_315 (w := w) (x := x) nF (fun i hi => ⟨hx i hi, hw i hi⟩)
  omega
theorem le0_nI {k : Nat} (hk : k < 2 ^ 31) : nI k ≤ 0 ↔ k = 0 := by
  rw [Int32.le_iff_toInt_le, nI_toInt hk]
  show (k : Int) ≤ 0 ↔ k = 0
  omega
