/-! THE CONSTRUCTOR of the reference -/
section CTM
variable {d : Nat} {bt : List (List PI)} {r : List PI} {F : Nat → pcell} {Q : Option pv → pheap → Prop} {a nc sl c : Nat} {fs : List pv}
theorem upd_in (F : Nat → pcell) (a b : Nat) (x y z : pcell) (h : b ≠ a) : updC (updC (updC F a x) b y) a z = updC (updC F b y) a z := by
  funext j
  unfold updC
  by_cases h1 : j = a
  · simp [h1]
  · by_cases h2 : j = b <;> simp [h1, h2]
theorem upd_on (F : Nat → pcell) (a : Nat) (x z : pcell) : updC (updC F a x) a z = updC F a z := by
  funext j
  unfold updC
  by_cases h1 : j = a <;> simp [h1]
theorem c_arr {k t : Nat} {N z1 z2 z3 : Int} {as1 : List Nat} (h1 : 32 ≤ a ∧ a < 32 + nc) (hN : 0 ≤ N ∧ N ≤ 100000) (ht : t ≤ 3) (hk : k < fs.length)
    (K : wp PP d bt r [some (vR a)] [] (nc + 1, sl + N.toNat, updC (updC F (32 + nc) (.inl (t, N.toNat, fun _ => 0))) a (.inr (c, fs.set k (vR (32 + nc))))) Q) :
    wp PP d bt ((5, [0], z1) :: (0, as1, N) :: (70, [t], z2) :: (61, [k, 3, c], z3) :: r) [some (vR a)] [] (nc, sl, updC F a (.inr (c, fs))) Q := by
  refine x_aload rfl ?_
  refine x_ci ?_
  refine (wp_s1 (by decide) (ls' := [some (vR a)]) (st' := [vR (32 + nc), vR a]) (h' := (nc + 1, sl + N.toNat, updC (updC F a (.inr (c, fs))) (32 + nc) (.inl (t, N.toNat, fun _ => 0)))) ?_).mpr ?_
  · unfold s1 sE
    simp [hN, ht]
  · have o : Ob (nc + 1, sl + N.toNat, updC (updC F a (.inr (c, fs))) (32 + nc) (.inl (t, N.toNat, fun _ => 0))) a c fs := ⟨h1.1, by show a < 32 + (nc + 1); omega, by
      show updC (updC F a (.inr (c, fs))) (32 + nc) _ a = _
      unfold updC
      rw [if_neg (by omega), if_pos rfl]⟩
    refine x_put o hk rfl ?_
    have e : hput (nc + 1, sl + N.toNat, updC (updC F a (.inr (c, fs))) (32 + nc) (.inl (t, N.toNat, fun _ => 0))) a (.inr (c, fs.set k (vR (32 + nc)))) = (nc + 1, sl + N.toNat, updC (updC F (32 + nc) (.inl (t, N.toNat, fun _ => 0))) a (.inr (c, fs.set k (vR (32 + nc))))) := by
      unfold hput
      rw [upd_in _ _ _ _ _ _ (by omega)]
    rw [e]
    exact K
theorem c_int {k : Nat} {z z1 z3 : Int} {as1 : List Nat} (h1 : 32 ≤ a ∧ a < 32 + nc) (hk : k < fs.length)
    (K : wp PP d bt r [some (vR a)] [] (nc, sl, updC F a (.inr (c, fs.set k (vI z)))) Q) :
    wp PP d bt ((5, [0], z1) :: (0, as1, z) :: (61, [k, 0, c], z3) :: r) [some (vR a)] [] (nc, sl, updC F a (.inr (c, fs))) Q := by
  refine x_aload rfl ?_
  refine x_ci ?_
  have o : Ob (nc, sl, updC F a (.inr (c, fs))) a c fs := ⟨h1.1, h1.2, by
    show updC F a (.inr (c, fs)) a = _
    unfold updC
    rw [if_pos rfl]⟩
  refine x_put o hk rfl ?_
  have e : hput (nc, sl, updC F a (.inr (c, fs))) a (.inr (c, fs.set k (vI z))) = (nc, sl, updC F a (.inr (c, fs.set k (vI z)))) := by
    unfold hput
    rw [upd_on]
  rw [e]
  exact K
def modelF (f : Nat → pcell) : Nat → pcell := updC (updC (updC (updC (updC (updC (updC (updC (updC (updC (updC (updC (updC (updC (updC (updC (updC (updC (updC (updC (updC (updC (updC (updC (updC (updC (updC (updC (updC (updC (updC (updC (updC (updC (updC (updC (f) 95 (.inl (0, 700, fun _ => 0))) 96 (.inl (0, 10, fun _ => 0))) 97 (.inl (0, 12, fun _ => 0))) 98 (.inl (0, 48, fun _ => 0))) 99 (.inl (0, 48, fun _ => 0))) 100 (.inl (0, 6, fun _ => 0))) 101 (.inl (0, 6, fun _ => 0))) 102 (.inl (0, 128, fun _ => 0))) 103 (.inl (0, 128, fun _ => 0))) 104 (.inl (3, 7, fun _ => 0))) 105 (.inl (3, 64, fun _ => 0))) 106 (.inl (0, 23, fun _ => 0))) 107 (.inl (0, 23, fun _ => 0))) 108 (.inl (0, 23, fun _ => 0))) 109 (.inl (0, 23, fun _ => 0))) 110 (.inl (0, 23, fun _ => 0))) 111 (.inl (0, 23, fun _ => 0))) 112 (.inl (0, 23, fun _ => 0))) 113 (.inl (0, 1104, fun _ => 0))) 114 (.inl (0, 6, fun _ => 0))) 115 (.inl (0, 36, fun _ => 0))) 116 (.inl (0, 6, fun _ => 0))) 117 (.inl (0, 6, fun _ => 0))) 118 (.inl (0, 2, fun _ => 0))) 119 (.inl (0, 2, fun _ => 0))) 120 (.inl (0, 1200, fun _ => 0))) 121 (.inl (2, 48, fun _ => 0))) 122 (.inl (0, 4, fun _ => 0))) 123 (.inl (0, 6, fun _ => 0))) 124 (.inl (0, 24, fun _ => 0))) 125 (.inl (0, 24, fun _ => 0))) 126 (.inl (0, 24, fun _ => 0))) 127 (.inl (0, 24, fun _ => 0))) 128 (.inl (2, 24, fun _ => 0))) 129 (.inl (2, 24, fun _ => 0))) 94 (.inr (11, [vI 0, vR 95, vI 0, vR 96, vR 97, vR 98, vR 99, vR 100, vR 101, vR 102, vR 103, vI 0, vI 0, vI 0, vI 0, vI 0, vI 0, vI 0, vI 0, vI 0, vI 0, vI (-1), vI 0, vI 0, vR 104, vR 105, vI 0, vR 106, vR 107, vR 108, vR 109, vR 110, vR 111, vR 112, vR 113, vI 0, vI 0, vR 114, vR 115, vR 116, vR 117, vI 0, vR 118, vR 119, vR 120, vI 0, vR 121, vI 0, vR 122, vR 123, vI 0, vI (-1), vR 124, vR 125, vR 126, vR 127, vR 128, vR 129]))
def modelG (f : Nat → pcell) : Nat → pcell := updC (updC (updC (updC (updC (updC (updC (modelF f) 106 (.inl (0, 23, updI (fun _ => 0) 0 0))) 107 (.inl (0, 23, updI (fun _ => 0) 0 0))) 108 (.inl (0, 23, updI (fun _ => 0) 0 0))) 109 (.inl (0, 23, updI (fun _ => 0) 0 0))) 110 (.inl (0, 23, updI (fun _ => 0) 0 0))) 111 (.inl (0, 23, updI (fun _ => 0) 0 0))) 112 (.inl (0, 23, updI (fun _ => 0) 0 0))
theorem ct_model (f : Nat → pcell) (hd : 10 ≤ d) (k : Q none (98, 6815, modelG f)) : wpM PP d 57 [vR 94] (63, 2933, updC f 94 (.inr (11, [vI 0, vN, vI 0, vN, vN, vN, vN, vN, vN, vN, vN, vI 0, vI 0, vI 0, vI 0, vI 0, vI 0, vI 0, vI 0, vI 0, vI 0, vI 0, vI 0, vI 0, vN, vN, vI 0, vN, vN, vN, vN, vN, vN, vN, vN, vI 0, vI 0, vN, vN, vN, vN, vI 0, vN, vN, vN, vI 0, vN, vI 0, vN, vN, vI 0, vI 0, vN, vN, vN, vN, vN, vN]))) Q := by
  refine n_at (m := 57) (q := mr57) (kn := (2, 1)) [some (vR 94)] mb57 rfl rfl rfl (Nat.le_of_ble_eq_true rfl) rfl rfl ?_
  refine x_aload rfl ?_
  refine (wp_sM (vs := []) (st' := []) (by decide) (by omega) rfl (by decide)).mpr ?_
  refine c_arr ⟨by omega, by omega⟩ ⟨by omega, by omega⟩ (by omega) (Nat.le_of_ble_eq_true rfl) ?_
  refine c_arr ⟨by omega, by omega⟩ ⟨by omega, by omega⟩ (by omega) (Nat.le_of_ble_eq_true rfl) ?_
  refine c_arr ⟨by omega, by omega⟩ ⟨by omega, by omega⟩ (by omega) (Nat.le_of_ble_eq_true rfl) ?_
  refine c_arr ⟨by omega, by omega⟩ ⟨by omega, by omega⟩ (by omega) (Nat.le_of_ble_eq_true rfl) ?_
  refine c_arr ⟨by omega, by omega⟩ ⟨by omega, by omega⟩ (by omega) (Nat.le_of_ble_eq_true rfl) ?_
  refine c_arr ⟨by omega, by omega⟩ ⟨by omega, by omega⟩ (by omega) (Nat.le_of_ble_eq_true rfl) ?_
  refine c_arr ⟨by omega, by omega⟩ ⟨by omega, by omega⟩ (by omega) (Nat.le_of_ble_eq_true rfl) ?_
  refine c_arr ⟨by omega, by omega⟩ ⟨by omega, by omega⟩ (by omega) (Nat.le_of_ble_eq_true rfl) ?_
  refine c_arr ⟨by omega, by omega⟩ ⟨by omega, by omega⟩ (by omega) (Nat.le_of_ble_eq_true rfl) ?_
  refine c_int ⟨by omega, by omega⟩ (Nat.le_of_ble_eq_true rfl) ?_
  refine c_arr ⟨by omega, by omega⟩ ⟨by omega, by omega⟩ (by omega) (Nat.le_of_ble_eq_true rfl) ?_
  refine c_arr ⟨by omega, by omega⟩ ⟨by omega, by omega⟩ (by omega) (Nat.le_of_ble_eq_true rfl) ?_
  refine c_arr ⟨by omega, by omega⟩ ⟨by omega, by omega⟩ (by omega) (Nat.le_of_ble_eq_true rfl) ?_
  refine c_arr ⟨by omega, by omega⟩ ⟨by omega, by omega⟩ (by omega) (Nat.le_of_ble_eq_true rfl) ?_
  refine c_arr ⟨by omega, by omega⟩ ⟨by omega, by omega⟩ (by omega) (Nat.le_of_ble_eq_true rfl) ?_
  refine c_arr ⟨by omega, by omega⟩ ⟨by omega, by omega⟩ (by omega) (Nat.le_of_ble_eq_true rfl) ?_
  refine c_arr ⟨by omega, by omega⟩ ⟨by omega, by omega⟩ (by omega) (Nat.le_of_ble_eq_true rfl) ?_
  refine c_arr ⟨by omega, by omega⟩ ⟨by omega, by omega⟩ (by omega) (Nat.le_of_ble_eq_true rfl) ?_
  refine c_arr ⟨by omega, by omega⟩ ⟨by omega, by omega⟩ (by omega) (Nat.le_of_ble_eq_true rfl) ?_
  refine c_arr ⟨by omega, by omega⟩ ⟨by omega, by omega⟩ (by omega) (Nat.le_of_ble_eq_true rfl) ?_
  refine c_arr ⟨by omega, by omega⟩ ⟨by omega, by omega⟩ (by omega) (Nat.le_of_ble_eq_true rfl) ?_
  refine c_arr ⟨by omega, by omega⟩ ⟨by omega, by omega⟩ (by omega) (Nat.le_of_ble_eq_true rfl) ?_
  refine c_arr ⟨by omega, by omega⟩ ⟨by omega, by omega⟩ (by omega) (Nat.le_of_ble_eq_true rfl) ?_
  refine c_arr ⟨by omega, by omega⟩ ⟨by omega, by omega⟩ (by omega) (Nat.le_of_ble_eq_true rfl) ?_
  refine c_arr ⟨by omega, by omega⟩ ⟨by omega, by omega⟩ (by omega) (Nat.le_of_ble_eq_true rfl) ?_
  refine c_arr ⟨by omega, by omega⟩ ⟨by omega, by omega⟩ (by omega) (Nat.le_of_ble_eq_true rfl) ?_
  refine c_arr ⟨by omega, by omega⟩ ⟨by omega, by omega⟩ (by omega) (Nat.le_of_ble_eq_true rfl) ?_
  refine c_arr ⟨by omega, by omega⟩ ⟨by omega, by omega⟩ (by omega) (Nat.le_of_ble_eq_true rfl) ?_
  refine c_arr ⟨by omega, by omega⟩ ⟨by omega, by omega⟩ (by omega) (Nat.le_of_ble_eq_true rfl) ?_
  refine c_arr ⟨by omega, by omega⟩ ⟨by omega, by omega⟩ (by omega) (Nat.le_of_ble_eq_true rfl) ?_
  refine c_int ⟨by omega, by omega⟩ (Nat.le_of_ble_eq_true rfl) ?_
  refine c_arr ⟨by omega, by omega⟩ ⟨by omega, by omega⟩ (by omega) (Nat.le_of_ble_eq_true rfl) ?_
  refine c_arr ⟨by omega, by omega⟩ ⟨by omega, by omega⟩ (by omega) (Nat.le_of_ble_eq_true rfl) ?_
  refine c_arr ⟨by omega, by omega⟩ ⟨by omega, by omega⟩ (by omega) (Nat.le_of_ble_eq_true rfl) ?_
  refine c_arr ⟨by omega, by omega⟩ ⟨by omega, by omega⟩ (by omega) (Nat.le_of_ble_eq_true rfl) ?_
  refine c_arr ⟨by omega, by omega⟩ ⟨by omega, by omega⟩ (by omega) (Nat.le_of_ble_eq_true rfl) ?_
  refine c_arr ⟨by omega, by omega⟩ ⟨by omega, by omega⟩ (by omega) (Nat.le_of_ble_eq_true rfl) ?_
  refine (show wp PP _ _ _ _ _ (98, 6815, modelF f) Q from ?_)
  refine x_aload rfl ?_
  refine x_call (as0 := [vR 94]) (st2 := []) (by omega) (Nat.le_of_ble_eq_true rfl) rfl rfl (Nat.le_of_ble_eq_true rfl) ?_
  refine n_at (m := 96) (q := mr96) (kn := (0, 1)) [some (vR 94)] mb96 rfl rfl rfl (Nat.le_of_ble_eq_true rfl) rfl rfl ?_
  refine x_aload rfl ?_
  refine x_ci ?_
  refine x_call (as0 := [vR 94, vI 0]) (st2 := []) (by omega) (Nat.le_of_ble_eq_true rfl) rfl rfl (Nat.le_of_ble_eq_true rfl) ?_
  refine n_at (m := 95) (q := mr95) (kn := (0, 2)) [some (vR 94), some (vI 0)] mb95 rfl rfl rfl (Nat.le_of_ble_eq_true rfl) rfl rfl ?_
  refine x_aload rfl ?_
  refine x_get (a := 94) ⟨Nat.le_of_ble_eq_true rfl, Nat.le_of_ble_eq_true rfl, rfl⟩ (show _ = some (vR 106) from rfl) ?_
  refine x_iload rfl ?_
  refine x_ci ?_
  refine x_iast (a := 106) (f := fun _ => 0) ⟨Nat.le_of_ble_eq_true rfl, Nat.le_of_ble_eq_true rfl, rfl⟩ (by decide) (by decide) (by decide) ?_
  refine x_aload rfl ?_
  refine x_get (a := 94) ⟨Nat.le_of_ble_eq_true rfl, Nat.le_of_ble_eq_true rfl, rfl⟩ (show _ = some (vR 107) from rfl) ?_
  refine x_iload rfl ?_
  refine x_aload rfl ?_
  refine x_get (a := 94) ⟨Nat.le_of_ble_eq_true rfl, Nat.le_of_ble_eq_true rfl, rfl⟩ (show _ = some (vR 96) from rfl) ?_
  refine x_ci ?_
  refine x_iald (a := 96) (f := fun _ => 0) ⟨Nat.le_of_ble_eq_true rfl, Nat.le_of_ble_eq_true rfl, rfl⟩ (by decide) (by decide) (by decide) ?_
  refine x_iast (a := 107) (f := fun _ => 0) ⟨Nat.le_of_ble_eq_true rfl, Nat.le_of_ble_eq_true rfl, rfl⟩ (by decide) (by decide) (by decide) ?_
  refine x_aload rfl ?_
  refine x_get (a := 94) ⟨Nat.le_of_ble_eq_true rfl, Nat.le_of_ble_eq_true rfl, rfl⟩ (show _ = some (vR 108) from rfl) ?_
  refine x_iload rfl ?_
  refine x_ci ?_
  refine x_iast (a := 108) (f := fun _ => 0) ⟨Nat.le_of_ble_eq_true rfl, Nat.le_of_ble_eq_true rfl, rfl⟩ (by decide) (by decide) (by decide) ?_
  refine x_aload rfl ?_
  refine x_get (a := 94) ⟨Nat.le_of_ble_eq_true rfl, Nat.le_of_ble_eq_true rfl, rfl⟩ (show _ = some (vR 109) from rfl) ?_
  refine x_iload rfl ?_
  refine x_ci ?_
  refine x_iast (a := 109) (f := fun _ => 0) ⟨Nat.le_of_ble_eq_true rfl, Nat.le_of_ble_eq_true rfl, rfl⟩ (by decide) (by decide) (by decide) ?_
  refine x_aload rfl ?_
  refine x_get (a := 94) ⟨Nat.le_of_ble_eq_true rfl, Nat.le_of_ble_eq_true rfl, rfl⟩ (show _ = some (vR 110) from rfl) ?_
  refine x_iload rfl ?_
  refine x_ci ?_
  refine x_iast (a := 110) (f := fun _ => 0) ⟨Nat.le_of_ble_eq_true rfl, Nat.le_of_ble_eq_true rfl, rfl⟩ (by decide) (by decide) (by decide) ?_
  refine x_aload rfl ?_
  refine x_get (a := 94) ⟨Nat.le_of_ble_eq_true rfl, Nat.le_of_ble_eq_true rfl, rfl⟩ (show _ = some (vR 111) from rfl) ?_
  refine x_iload rfl ?_
  refine x_ci ?_
  refine x_aload rfl ?_
  refine x_get (a := 94) ⟨Nat.le_of_ble_eq_true rfl, Nat.le_of_ble_eq_true rfl, rfl⟩ (show _ = some (vR 96) from rfl) ?_
  refine x_ci ?_
  refine x_iald (a := 96) (f := fun _ => 0) ⟨Nat.le_of_ble_eq_true rfl, Nat.le_of_ble_eq_true rfl, rfl⟩ (by decide) (by decide) (by decide) ?_
  refine x_ishl ?_
  refine x_ci ?_
  refine x_isub ?_
  refine t_I 0 (by decide) ?_
  refine x_iast (a := 111) (f := fun _ => 0) ⟨Nat.le_of_ble_eq_true rfl, Nat.le_of_ble_eq_true rfl, rfl⟩ (by decide) (by decide) (by decide) ?_
  refine x_aload rfl ?_
  refine x_get (a := 94) ⟨Nat.le_of_ble_eq_true rfl, Nat.le_of_ble_eq_true rfl, rfl⟩ (show _ = some (vR 112) from rfl) ?_
  refine x_iload rfl ?_
  refine x_ci ?_
  refine x_iast (a := 112) (f := fun _ => 0) ⟨Nat.le_of_ble_eq_true rfl, Nat.le_of_ble_eq_true rfl, rfl⟩ (by decide) (by decide) (by decide) ?_
  refine x_ret ?_
  refine x_ret ?_
  refine x_ret ?_
  exact k
end CTM
