/-! THE LAW's first block, walked -/
section BLK
variable {pJ : Program} {lJ : Launch} {eJ : Env} {sJ : State} {mJ : MethodId} {aJ : Array Value} {bJ : List Frame} {tJ : Method} {cJ : Code} {QJ : State → Prop}
variable {sa : Nat → Nat} {base L : Nat} {xs : Nat → Int} {ca : Nat → ClassId} {D : va_G} {r : List PI} {op : Nat} {as : List Nat} {z : Int} {ls ls' : plocs} {st st' : List pv} {h h' : pheap}
theorem hp_end (f : Nat → pcell) : (99, 6816, endF f) = HP (0, 6816, endF f) st0 := by
  unfold HP
  have e : endF f = (fun a => if 32 ≤ a ∧ a < 131 then cellOf (shl.getD (a - 32) (.inl (0, 0))) (st0 a) else endF f a) := by
    funext a
    by_cases c : 32 ≤ a ∧ a < 131
    · rw [if_pos c]
      have q := fe_all f (a - 32) (by omega)
      rw [show 32 + (a - 32) = a by omega] at q
      exact q
    · rw [if_neg c]
  exact congrArg (fun q => ((99, 6816, q) : pheap)) e
theorem bl_c (C : CX pJ sJ mJ aJ cJ sa base L xs ca D 13 7 code) (hB : sJ.heap.size = base) (F : Nat → pcell) (k : wlw pJ lJ eJ sJ mJ aJ bJ tJ cJ QJ sa base ca D L xs (lawB.getD 1 []) [some (vR 0), some (vR 32), some (vR 94), some (vR 130), some (vI 0), none, none] [] (99, 6816, updC F 130 (.inl (3, 1, fun _ => 0))) 0) : wlw pJ lJ eJ sJ mJ aJ bJ tJ cJ QJ sa base ca D L xs [(0, [], 1), (70, [3], 0), (8, [3], 0), (0, [], 0), (6, [4], 0), (107, [1], 0)] [some (vR 0), some (vR 32), some (vR 94), none, none, none, none] [] (98, 6815, F) 0 := by
  refine y_ci C ?_
  refine wl_gs1 C hB (by decide) (99, 6816, updC F 130 (.inl (3, 1, fun _ => 0))) rfl (Nat.le_of_ble_eq_true rfl) (Nat.le_of_ble_eq_true rfl) rfl (Nat.le_of_ble_eq_true rfl) (Nat.le_of_ble_eq_true rfl) ?_
  refine wl_s0 C (ls' := [some (vR 0), some (vR 32), some (vR 94), some (vR 130), none, none, none]) (by decide) rfl ?_
  refine y_ci C ?_
  refine wl_s0 C (ls' := [some (vR 0), some (vR 32), some (vR 94), some (vR 130), some (vI 0), none, none]) (by decide) rfl ?_
  exact y_fall C k
theorem mG0 (F : Nat → pcell) : modelG F 0 = F 0 := rfl
theorem bl_b (C : CX pJ sJ mJ aJ cJ sa base L xs ca D 13 7 code) (hB : sJ.heap.size = base) (F : Nat → pcell) (k : wlw pJ lJ eJ sJ mJ aJ bJ tJ cJ QJ sa base ca D L xs [(0, [], 1), (70, [3], 0), (8, [3], 0), (0, [], 0), (6, [4], 0), (107, [1], 0)] [some (vR 0), some (vR 32), some (vR 94), none, none, none, none] [] (98, 6815, modelG F) 0) : wlw pJ lJ eJ sJ mJ aJ bJ tJ cJ QJ sa base ca D L xs [(69, [11, 18, 0, 3, 0, 3, 3, 3, 3, 3, 3, 3, 3, 0, 0, 0, 0, 0, 0, 0, 0, 0, 0, 0, 0, 0, 3, 3, 0, 3, 3, 3, 3, 3, 3, 3, 3, 1, 0, 3, 3, 3, 3, 0, 3, 3, 3, 0, 3, 0, 3, 3, 0, 0, 3, 3, 3, 3, 3, 3], 0), (10, [], 0), (120, [57, 1], 0), (8, [2], 0), (0, [], 1), (70, [3], 0), (8, [3], 0), (0, [], 0), (6, [4], 0), (107, [1], 0)] [some (vR 0), some (vR 32), none, none, none, none, none] [] (62, 2875, F) 0 := by
  refine wl_gs1 C hB (by decide) (63, 2933, updC F 94 (.inr (11, [vI 0, vN, vI 0, vN, vN, vN, vN, vN, vN, vN, vN, vI 0, vI 0, vI 0, vI 0, vI 0, vI 0, vI 0, vI 0, vI 0, vI 0, vI 0, vI 0, vI 0, vN, vN, vI 0, vN, vN, vN, vN, vN, vN, vN, vN, vI 0, vI 0, vN, vN, vN, vN, vI 0, vN, vN, vN, vI 0, vN, vI 0, vN, vN, vI 0, vI 0, vN, vN, vN, vN, vN, vN]))) rfl (Nat.le_of_ble_eq_true rfl) (Nat.le_of_ble_eq_true rfl) rfl (Nat.le_of_ble_eq_true rfl) (Nat.le_of_ble_eq_true rfl) ?_
  refine wl_s0 C (by decide) rfl ?_
  refine wl_gcall C hB [vR 94] [vR 94] (by omega) (Nat.le_of_ble_eq_true rfl) rfl rfl (Nat.le_of_ble_eq_true rfl) ?_
  refine ct_model F (by omega) ⟨⟨⟨Nat.le_of_ble_eq_true rfl, Nat.le_of_ble_eq_true rfl, mG0 F⟩, Nat.le_of_ble_eq_true rfl, Nat.le_of_ble_eq_true rfl⟩, ?_⟩
  exact wl_s0 C (ls' := [some (vR 0), some (vR 32), some (vR 94), none, none, none, none]) (by decide) rfl k
set_option maxRecDepth 100000 in
theorem mF0 (F : Nat → pcell) : mainF F 0 = F 0 := rfl
theorem wm_main (f : Nat → pcell) {Q : Option pv → pheap → Prop} (k : Q none (62, 2875, mainF f)) : wpM PP 2000 6 [vR 32] (1, 16, updC f 32 (.inr (10, [vN, vN, vN, vN, vI 0, vI 0, vN, vN, vI 0, vN, vN, vN, vN, vN, vN, vN]))) Q :=
  ⟨2, 10, mr6.2.2.2.1, mb6, PP_at (q := mr6) (k := (2, 1)) rfl rfl, ⟨rfl, Nat.le_of_ble_eq_true rfl⟩, 1000, none, (62, 2875, mainF f), ct_main f, k⟩
set_option maxRecDepth 100000 in
theorem bl_a (C : CX pJ sJ mJ aJ cJ sa base L xs ca D 13 7 code) (hB : sJ.heap.size = base) (f : Nat → pcell) (k : wlw pJ lJ eJ sJ mJ aJ bJ tJ cJ QJ sa base ca D L xs [(69, [11, 18, 0, 3, 0, 3, 3, 3, 3, 3, 3, 3, 3, 0, 0, 0, 0, 0, 0, 0, 0, 0, 0, 0, 0, 0, 3, 3, 0, 3, 3, 3, 3, 3, 3, 3, 3, 1, 0, 3, 3, 3, 3, 0, 3, 3, 3, 0, 3, 0, 3, 3, 0, 0, 3, 3, 3, 3, 3, 3], 0), (10, [], 0), (120, [57, 1], 0), (8, [2], 0), (0, [], 1), (70, [3], 0), (8, [3], 0), (0, [], 0), (6, [4], 0), (107, [1], 0)] [some (vR 0), some (vR 32), none, none, none, none, none] [] (62, 2875, mainF f) 0) : wlw pJ lJ eJ sJ mJ aJ bJ tJ cJ QJ sa base ca D L xs (lawB.getD 0 []) [some (vR 0), none, none, none, none, none, none] [] (0, 0, f) 0 := by
  refine wl_gs1 C hB (by decide) (1, 16, updC f 32 (.inr (10, [vN, vN, vN, vN, vI 0, vI 0, vN, vN, vI 0, vN, vN, vN, vN, vN, vN, vN]))) rfl (Nat.le_of_ble_eq_true rfl) (Nat.le_of_ble_eq_true rfl) rfl (Nat.le_of_ble_eq_true rfl) (Nat.le_of_ble_eq_true rfl) ?_
  refine wl_s0 C (by decide) rfl ?_
  refine wl_gcall C hB [vR 32] [vR 32] (by omega) (Nat.le_of_ble_eq_true rfl) rfl rfl (Nat.le_of_ble_eq_true rfl) ?_
  refine wm_main f ⟨⟨⟨Nat.le_of_ble_eq_true rfl, Nat.le_of_ble_eq_true rfl, mF0 f⟩, Nat.le_of_ble_eq_true rfl, Nat.le_of_ble_eq_true rfl⟩, ?_⟩
  exact wl_s0 C (ls' := [some (vR 0), some (vR 32), none, none, none, none, none]) (by decide) rfl k
theorem y_block0 (C : CX pJ sJ mJ aJ cJ sa base L xs ca D 13 7 code) (hB : sJ.heap.size = base) (k : ∀ f : Nat → pcell, f = (fun _ => .inl (0, L, xs)) → wlw pJ lJ eJ sJ mJ aJ bJ tJ cJ QJ sa base ca D L xs (lawB.getD 1 []) [some (vR 0), some (vR 32), some (vR 94), some (vR 130), some (vI 0), none, none] [] (HP (0, 6816, endF f) st0) 0) : wlw pJ lJ eJ sJ mJ aJ bJ tJ cJ QJ sa base ca D L xs (lawB.getD 0 []) [some (vR 0), none, none, none, none, none, none] [] (0, 0, fun _ => .inl (0, L, xs)) 0 := by
  have k2 := k _ rfl
  rw [← hp_end] at k2
  exact bl_a C hB _ (bl_b C hB _ (bl_c C hB _ k2))
end BLK
