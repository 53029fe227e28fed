/-! SIDE BY SIDE: reason, ofLine -/
section JL
variable {am g : Nat → Nat} {a1 a2 a3 a4 : Int32} {σ τ : Mem} {nF : Nat} {n : Int64} {v : Value}
end JL
