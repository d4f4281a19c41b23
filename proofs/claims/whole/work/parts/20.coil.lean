/-! COIL: what a crossing does to the coordinates of two neighbours -/
def ovz (x y X Y : Int) : Int := x - min 0 y - X + max 0 Y
def ov1 (x y X Y : Int) : Int := x + max 0 y + max 0 (max 0 Y - ovz x y X Y)
def ov2 (x y X Y : Int) : Int := Y - max 0 (ovz x y X Y)
def ov3 (x y X Y : Int) : Int := X + min 0 Y + min 0 (min 0 y + ovz x y X Y)
def ov4 (x y X Y : Int) : Int := y + max 0 (ovz x y X Y)
def unz (x y X Y : Int) : Int := x + min 0 y - X - max 0 Y
def un1 (x y X Y : Int) : Int := x - max 0 y - max 0 (max 0 Y + unz x y X Y)
def un2 (x y X Y : Int) : Int := Y + min 0 (unz x y X Y)
def un3 (x y X Y : Int) : Int := X - min 0 Y - min 0 (min 0 y - unz x y X Y)
def un4 (x y X Y : Int) : Int := y - min 0 (unz x y X Y)
/-- one strand that goes past others: what its last move leaves behind -/
theorem pp_RR (x y X Y : Int) (h : 0 ≤ y) : 0 ≤ ov1 x y X Y - ov3 x y X Y ∧ 0 ≤ ov4 x y X Y := by
  unfold ov1 ov3 ov4 ovz; omega
theorem pp_RL (x y X Y : Int) (hD : 0 ≤ x - X) (h : 0 ≤ Y) : 0 ≤ ov1 x y X Y - ov3 x y X Y ∧ ov2 x y X Y ≤ 0 := by
  unfold ov1 ov3 ov2 ovz; omega
theorem pp_LL (x y X Y : Int) (h : Y ≤ 0) : 0 ≤ ov1 x y X Y - ov3 x y X Y ∧ ov2 x y X Y ≤ 0 := by
  unfold ov1 ov3 ov2 ovz; omega
theorem pp_LR (x y X Y : Int) (hD : 0 ≤ x - X) (h : y ≤ 0) : 0 ≤ ov1 x y X Y - ov3 x y X Y ∧ 0 ≤ ov4 x y X Y := by
  unfold ov1 ov3 ov4 ovz; omega
theorem pn_RR (x y X Y : Int) (h : 0 ≤ y) : un1 x y X Y - un3 x y X Y ≤ 0 ∧ 0 ≤ un4 x y X Y := by
  unfold un1 un3 un4 unz; omega
theorem pn_RL (x y X Y : Int) (hD : x - X ≤ 0) (h : 0 ≤ Y) : un1 x y X Y - un3 x y X Y ≤ 0 ∧ un2 x y X Y ≤ 0 := by
  unfold un1 un3 un2 unz; omega
theorem pn_LL (x y X Y : Int) (h : Y ≤ 0) : un1 x y X Y - un3 x y X Y ≤ 0 ∧ un2 x y X Y ≤ 0 := by
  unfold un1 un3 un2 unz; omega
theorem pn_LR (x y X Y : Int) (hD : x - X ≤ 0) (h : y ≤ 0) : un1 x y X Y - un3 x y X Y ≤ 0 ∧ 0 ≤ un4 x y X Y := by
  unfold un1 un3 un4 unz; omega
/-- under undoes over -/
theorem ovun (x y X Y : Int) : un1 (ov1 x y X Y) (ov2 x y X Y) (ov3 x y X Y) (ov4 x y X Y) = x ∧ un2 (ov1 x y X Y) (ov2 x y X Y) (ov3 x y X Y) (ov4 x y X Y) = y ∧ un3 (ov1 x y X Y) (ov2 x y X Y) (ov3 x y X Y) (ov4 x y X Y) = X ∧ un4 (ov1 x y X Y) (ov2 x y X Y) (ov3 x y X Y) (ov4 x y X Y) = Y := by
  unfold un1 un2 un3 un4 unz ov1 ov2 ov3 ov4 ovz; omega
theorem unov (x y X Y : Int) : ov1 (un1 x y X Y) (un2 x y X Y) (un3 x y X Y) (un4 x y X Y) = x ∧ ov2 (un1 x y X Y) (un2 x y X Y) (un3 x y X Y) (un4 x y X Y) = y ∧ ov3 (un1 x y X Y) (un2 x y X Y) (un3 x y X Y) (un4 x y X Y) = X ∧ ov4 (un1 x y X Y) (un2 x y X Y) (un3 x y X Y) (un4 x y X Y) = Y := by
  unfold un1 un2 un3 un4 unz ov1 ov2 ov3 ov4 ovz; omega
theorem ov1_eq (x y X Y : Int) : ov1 x y X Y = max 0 y + max x (X + min 0 y) := by
  unfold ov1 ovz; omega
theorem ov3_eq (x y X Y : Int) : ov3 x y X Y = min 0 Y + min X (x + max 0 Y) := by
  unfold ov3 ovz; omega
theorem ov_sum (x y X Y : Int) : ov2 x y X Y + ov4 x y X Y = y + Y := by
  unfold ov2 ov4; omega
theorem un1_eq (x y X Y : Int) : un1 x y X Y = min x (X - min 0 y) - max 0 y := by
  unfold un1 unz; omega
theorem un3_eq (x y X Y : Int) : un3 x y X Y = max X (x - max 0 Y) - min 0 Y := by
  unfold un3 unz; omega
theorem un_sum (x y X Y : Int) : un2 x y X Y + un4 x y X Y = y + Y := by
  unfold un2 un4; omega
/-- under is over in the mirror -/
theorem un_ov (x y X Y : Int) : un1 x y X Y = - ov1 (-x) y (-X) Y ∧ un2 x y X Y = ov2 (-x) y (-X) Y ∧ un3 x y X Y = - ov3 (-x) y (-X) Y ∧ un4 x y X Y = ov4 (-x) y (-X) Y := by
  unfold un1 un2 un3 un4 unz ov1 ov2 ov3 ov4 ovz; omega
