def jHF : List Int32 := [1000, 2, 1, 1, 0, 0, 0]
def jHL : List Int32 := [0, 1, 0, 0, 0, 0, 0]
def jHM : List Int32 := [9999, 9, 1, 1, 2, 9999, 9999]
def jTM : List Int32 := [6, 999, 9999, 99, 99, 9999, 999]
def jKA : List Int32 := [-1, 0, 0, 2, 3, 0, 1]
/-- a copy of n numbers from sp on to dp on, between rows of n0 and n1 -/
def jcpok (sp dp n : Int32) (n0 n1 : Nat) : Prop := ¬ sp < 0 ∧ ¬ dp < 0 ∧ ¬ n < 0 ∧ sp.toNatClampNeg + n.toNatClampNeg ≤ n0 ∧ dp.toNatClampNeg + n.toNatClampNeg ≤ n1
theorem jlt4 {s : Int32} (h : vp_in s 4) : s.toNatClampNeg < 4 := by
  unfold vp_in at h
  omega
