/-! CHOOSING, SAID ONCE: number by number, the first of the cheapest -/
def cv_up (x : Nat → Nat) (f i : Nat) : Nat → Nat := fun k => if k = f then i else x k
def cv_cs (w : Nat → Nat) : Nat → (Nat → Nat) → Nat
  | 0, _ => 0
  | k + 1, x => cv_cs w k x + w k * x k
def cv_lp {S : Type} (g : Nat → S → S) : Nat → Nat → S → S
  | 0, _, s => s
  | k + 1, i, s => cv_lp g k (i + 1) (g i s)
abbrev Sp : Type := Nat × (Nat → Nat)
noncomputable def cv_bf (P : (Nat → Nat) → Prop) (w : Nat → Nat) (nF : Nat) : Nat → Nat → (Nat → Nat) → Sp → Sp
  | 0, _, x, s => @ite Sp (P x ∧ cv_cs w nF x < s.1) (Classical.propDecidable _) (cv_cs w nF x, x) s
  | d + 1, f, x, s => cv_lp (fun i s => cv_bf P w nF d (f + 1) (cv_up x f i) s) 8 0 s
noncomputable def cv_cf (P : (Nat → Nat) → Prop) : Nat → Nat → (Nat → Nat) → Nat → Nat
  | 0, _, x, s => @ite Nat (P x) (Classical.propDecidable _) (s + 1) s
  | d + 1, f, x, s => cv_lp (fun i s => if 500 ≤ s then s else cv_cf P d (f + 1) (cv_up x f i) s) 8 0 s
theorem up_at {x : Nat → Nat} {f i : Nat} : cv_up x f i f = i := if_pos rfl
theorem up_lo {x : Nat → Nat} {f i k : Nat} (h : k ≠ f) : cv_up x f i k = x k := if_neg h
theorem cs_eq {w x y : Nat → Nat} : ∀ k : Nat, (∀ i : Nat, i < k → x i = y i) → cv_cs w k x = cv_cs w k y := by
  intro k
  induction k with
  | zero => intro _; rfl
  | succ k ih =>
    intro h
    unfold cv_cs
    rw [ih (fun i hi => h i (by omega)), h k (by omega)]
theorem cs_mono {w x y : Nat → Nat} : ∀ k : Nat, (∀ i : Nat, i < k → x i ≤ y i) → cv_cs w k x ≤ cv_cs w k y := by
  intro k
  induction k with
  | zero => intro _; exact Nat.le_refl _
  | succ k ih =>
    intro h
    unfold cv_cs
    exact Nat.add_le_add (ih (fun i hi => h i (by omega))) (Nat.mul_le_mul_left _ (h k (by omega)))
theorem cs_le {w x : Nat → Nat} {f : Nat} : ∀ d : Nat, cv_cs w f x ≤ cv_cs w (f + d) x := by
  intro d
  induction d with
  | zero => exact Nat.le_refl _
  | succ d ih =>
    show cv_cs w f x ≤ cv_cs w (f + d) x + w (f + d) * x (f + d)
    exact Nat.le_trans ih (Nat.le_add_right _ _)
theorem cs_315 {w x : Nat → Nat} : ∀ k : Nat, (∀ i : Nat, i < k → x i < 8 ∧ w i ≤ 9) → cv_cs w k x ≤ 63 * k := by
  intro k
  induction k with
  | zero => intro _; exact Nat.le_refl _
  | succ k ih =>
    intro h
    unfold cv_cs
    have h1 := ih (fun i hi => h i (by omega))
    obtain ⟨h2, h3⟩ := h k (by omega)
    have h4 : w k * x k ≤ 9 * 7 := Nat.mul_le_mul h3 (by omega)
    omega
theorem cs_up {w x : Nat → Nat} {f i : Nat} : cv_cs w (f + 1) (cv_up x f i) = cv_cs w f x + w f * i := by
  show cv_cs w f (cv_up x f i) + w f * cv_up x f i f = _
  rw [up_at, cs_eq f (fun k hk => up_lo (by omega))]
theorem lp_stay {S : Type} {g : Nat → S → S} {s : S} (h : ∀ i : Nat, i < 8 → g i s = s) : ∀ k i : Nat, i + k = 8 → cv_lp g k i s = s := by
  intro k
  induction k with
  | zero => intro i _; rfl
  | succ k ih =>
    intro i hi
    unfold cv_lp
    rw [h i (by omega)]
    exact ih (i + 1) (by omega)
/-- what goes on from numbers that are told up to a field -/
def cv_Ex (f : Nat) (x y : Nat → Nat) : Prop := ∀ i : Nat, i < f → y i = x i
theorem ex_up {f i : Nat} {x y : Nat → Nat} (h : cv_Ex (f + 1) (cv_up x f i) y) : cv_Ex f x y ∧ y f = i := ⟨fun k hk => by rw [h k (by omega), up_lo (by omega)], by rw [h f (by omega), up_at]⟩
theorem ok_up {f i : Nat} {x : Nat → Nat} (h : cv_Ok f x) (hi : i < 8) : cv_Ok (f + 1) (cv_up x f i) := fun k hk => by
  by_cases e : k = f
  · rw [e, up_at]; exact hi
  · rw [up_lo e]; exact h k (by omega)
theorem bf_stay {P : (Nat → Nat) → Prop} {w : Nat → Nat} {nF : Nat} : ∀ (d f : Nat) (x : Nat → Nat) (s : Sp), f + d = nF → cv_Ok f x → (∀ y : Nat → Nat, cv_Ex f x y → cv_Ok nF y → P y → s.1 ≤ cv_cs w nF y) → cv_bf P w nF d f x s = s := by
  intro d
  induction d with
  | zero =>
    intro f x s hf hx h
    unfold cv_bf
    have e : f = nF := by omega
    subst e
    exact if_neg (fun q => by have := h x (fun _ _ => rfl) hx q.1; omega)
  | succ d ih =>
    intro f x s hf hx h
    unfold cv_bf
    exact lp_stay (fun i hi => ih (f + 1) (cv_up x f i) s (by omega) (ok_up hx hi) (fun y hy ho hP => h y (ex_up hy).1 ho hP)) 8 0 rfl
theorem cf_stay {P : (Nat → Nat) → Prop} {nF : Nat} : ∀ (d f : Nat) (x : Nat → Nat) (s : Nat), f + d = nF → cv_Ok f x → (∀ y : Nat → Nat, cv_Ex f x y → cv_Ok nF y → ¬ P y) → cv_cf P d f x s = s := by
  intro d
  induction d with
  | zero =>
    intro f x s hf hx h
    unfold cv_cf
    have e : f = nF := by omega
    subst e
    exact if_neg (h x (fun _ _ => rfl) hx)
  | succ d ih =>
    intro f x s hf hx h
    unfold cv_cf
    refine lp_stay (fun i hi => ?_) 8 0 rfl
    split
    · rfl
    · exact ih (f + 1) (cv_up x f i) s (by omega) (ok_up hx hi) (fun y hy ho => h y (ex_up hy).1 ho)
/-- how often at most -/
theorem cf_le {P : (Nat → Nat) → Prop} : ∀ (d f : Nat) (x : Nat → Nat) (s : Nat), s < 500 → cv_cf P d f x s ≤ 500 := by
  intro d
  induction d with
  | zero =>
    intro f x s hs
    unfold cv_cf
    by_cases q : P x
    · rw [if_pos q]; omega
    · rw [if_neg q]; omega
  | succ d ih =>
    intro f x s hs
    unfold cv_cf
    have key : ∀ (k i s : Nat), s ≤ 500 → cv_lp (fun i s => if 500 ≤ s then s else cv_cf P d (f + 1) (cv_up x f i) s) k i s ≤ 500 := by
      intro k
      induction k with
      | zero => intro i s hs; exact hs
      | succ k ih2 =>
        intro i s hs
        unfold cv_lp
        refine ih2 (i + 1) _ ?_
        by_cases q : 500 ≤ s
        · rw [if_pos q]; exact hs
        · rw [if_neg q]; exact ih (f + 1) _ s (by omega)
    exact key 8 0 s (by omega)
/-- what is chosen: a choice, or none -/
theorem bf_has {P : (Nat → Nat) → Prop} {w : Nat → Nat} {nF : Nat} : ∀ (d f : Nat) (x : Nat → Nat) (s : Sp), f + d = nF → cv_Ok f x → (∀ y : Nat → Nat, P y → cv_Ok nF y → cv_cs w nF y < 1000) → (s.1 = 1000 ∨ (s.1 < 1000 ∧ P s.2 ∧ cv_Ok nF s.2)) → ((cv_bf P w nF d f x s).1 = 1000 ∨ ((cv_bf P w nF d f x s).1 < 1000 ∧ P (cv_bf P w nF d f x s).2 ∧ cv_Ok nF (cv_bf P w nF d f x s).2)) := by
  intro d
  induction d with
  | zero =>
    intro f x s hf hx hc hs
    have e : f = nF := by omega
    subst e
    unfold cv_bf
    by_cases q : P x ∧ cv_cs w f x < s.1
    · rw [if_pos q]; exact Or.inr ⟨hc x q.1 hx, q.1, hx⟩
    · rw [if_neg q]; exact hs
  | succ d ih =>
    intro f x s hf hx hc hs
    unfold cv_bf
    have key : ∀ (k i : Nat) (s : Sp), i + k = 8 → (s.1 = 1000 ∨ (s.1 < 1000 ∧ P s.2 ∧ cv_Ok nF s.2)) → ((cv_lp (fun i s => cv_bf P w nF d (f + 1) (cv_up x f i) s) k i s).1 = 1000 ∨ ((cv_lp (fun i s => cv_bf P w nF d (f + 1) (cv_up x f i) s) k i s).1 < 1000 ∧ P (cv_lp (fun i s => cv_bf P w nF d (f + 1) (cv_up x f i) s) k i s).2 ∧ cv_Ok nF (cv_lp (fun i s => cv_bf P w nF d (f + 1) (cv_up x f i) s) k i s).2)) := by
      intro k
      induction k with
      | zero => intro i s _ hs; exact hs
      | succ k ih2 =>
        intro i s hi hs
        unfold cv_lp
        exact ih2 (i + 1) _ (by omega) (ih (f + 1) _ s (by omega) (ok_up hx (by omega)) hc hs)
    exact key 8 0 s rfl hs
