theorem zck (m : Nat) (h : m < gMeL.length) : zckm m = true := by sorry
