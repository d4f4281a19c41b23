theorem lkAll {i : Nat} {q : mrec} (h : MT[i]? = some q) : lkM q = true := sorry
