theorem lk_0 : MT_0.all lkM = true := by decide +kernel
theorem lk_1 : MT_1.all lkM = true := by decide +kernel
theorem lk_2 : MT_2.all lkM = true := by decide +kernel
theorem lk_3 : MT_3.all lkM = true := by decide +kernel
theorem lk_4 : MT_4.all lkM = true := by decide +kernel
theorem lk_5 : MT_5.all lkM = true := by decide +kernel
theorem lk_6 : MT_6.all lkM = true := by decide +kernel
theorem lk_7 : MT_7.all lkM = true := by decide +kernel
theorem lkAll {i : Nat} {q : mrec} (h : MT[i]? = some q) : lkM q = true := by
  have hm := List.mem_of_getElem? h
  unfold MT at hm
  simp only [List.mem_append] at hm
  rcases hm with ((((((h | h) | h) | h) | h) | h) | h) | h
  · exact List.all_eq_true.mp lk_0 _ h
  · exact List.all_eq_true.mp lk_1 _ h
  · exact List.all_eq_true.mp lk_2 _ h
  · exact List.all_eq_true.mp lk_3 _ h
  · exact List.all_eq_true.mp lk_4 _ h
  · exact List.all_eq_true.mp lk_5 _ h
  · exact List.all_eq_true.mp lk_6 _ h
  · exact List.all_eq_true.mp lk_7 _ h
