/-! INV: the dancer: what the class runs on, and the reference's answer by case -/
section INVA
variable {d : Nat} {h0 : pheap} {s : St}
theorem d_cases (hI : INV s) (hd : 200 ≤ d) {x y : Int} (hx : iR x) (hy : iR y) : ∃ (tp : Nat) (D ll : Int) (n : Nat) (c : Int → Int), (PL 54 ll n c s ∧ isSc tp ∧ s 32 2 = (tp : Int) + 1 ∧ s tp 1 = D ∧ 0 ≤ D ∧ D ≤ 6) ∧ (¬ (0 ≤ x ∧ x < D) → wpM PP d 131 [vR 94, vI x, vI y] (HP h0 s) (fun vqq h' => ∃ uqq, h' = HP h0 uqq ∧ INV uqq ∧ vqq = some (vI 0) ∧ uqq 94 0 = 1)) ∧ (0 ≤ x ∧ x < D → ¬ (0 ≤ y ∧ y ≤ 5) → wpM PP d 131 [vR 94, vI x, vI y] (HP h0 s) (fun vqq h' => ∃ uqq, h' = HP h0 uqq ∧ INV uqq ∧ vqq = some (vI 0) ∧ uqq 94 0 = 2)) ∧ (0 ≤ x ∧ x < D → 0 ≤ y ∧ y ≤ 5 → wpM PP d 131 [vR 94, vI x, vI y] (HP h0 s) (fun vqq h' => ∃ uqq, h' = HP h0 uqq ∧ INV uqq ∧ vqq = some (vI (dnA ll n c x y)) ∧ uqq 94 0 = 0)) := by
  obtain ⟨tp, hI⟩ := hI
  have tt := hI.told.1
  have hS := hI.told.2.1
  have hT := hI.told.2.2
  obtain ⟨sp, D, T, S, E, K, L, sz, vw, rf, sl, yr, la, ll, n, c, zqq, Hs, ia, zr, kf, kd, on, ot, mu, ab, h1, h2, h3, h4, h5, h6, h7⟩ := id hI
  refine ⟨tp, D.1, ll, n, c, ⟨h4.pl, hS, hT, h3.dc, h3.dr2.1, h3.dr2.2⟩, fun q => ?_, fun q1 q2 => ?_, fun q1 q2 => ?_⟩
  · exact r_dancer (by omega) h4.rd0 h3.dn h3.dr2 hx hy (fun _ wqq e lk => ⟨wqq, rfl, ⟨tp, hI.of (lk.rs tt)⟩, rfl, e⟩) (fun a => absurd a q) (fun a => absurd a q)
  · exact r_dancer (by omega) h4.rd0 h3.dn h3.dr2 hx hy (fun a => absurd q1 a) (fun _ _ wqq e lk => ⟨wqq, rfl, ⟨tp, hI.of (lk.rs tt)⟩, rfl, e⟩) (fun _ a => absurd a q2)
  · exact r_dancer (by omega) h4.rd0 h3.dn h3.dr2 hx hy (fun a => absurd q1 a) (fun _ a => absurd q2 a) (fun _ _ wqq e lk => ⟨wqq, rfl, ⟨tp, hI.of (lk.rs tt)⟩, rfl, e⟩)
end INVA
