def zr (ty : FieldType) (x : Int32) : Option Int32 := if narrow ty (.int x) = .int x then some x else none
theorem zr_spec {ty : FieldType} {x z : Int32} (h : zr ty x = some z) : narrow ty (.int x) = .int x ∧ z = x := by
  unfold zr at h
  split at h
  · rename_i hc; cases h; exact ⟨hc, rfl⟩
  · cases h
def stL (b : Nat) : Option Int32 := if 10000 ≤ b ∧ b < 10013 then some (nI (sLn.getD (b - 10000) 0)) else none
def stC (b : Nat) (i : Int32) : Option Int32 := if 10000 ≤ b ∧ b < 10013 ∧ 0 ≤ i ∧ i.toNatClampNeg < sLn.getD (b - 10000) 0 then some ((sBy.getD (b - 10000) []).getD i.toNatClampNeg 0) else none
