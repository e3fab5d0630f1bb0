/-! cells -/
theorem gr_i9 (s i : Nat) : nI s * 9 + nI i = nI (9 * s + i) := by
  show nI s * nI 9 + nI i = _
  rw [pk_mul, nI_add, Nat.mul_comm]
theorem gr_i9p {d : Nat} (hd : 0 < d) (i : Nat) : (nI d - 1) * 9 + nI i = nI (9 * (d - 1) + i) := by
  have e : nI d - 1 = nI (d - 1) := pk_sub (b := 1) hd
  rw [e, gr_i9]
theorem gr_i81 (s i j : Nat) : 81 * nI s + 9 * nI i + nI j = nI (81 * s + 9 * i + j) := by
  show nI 81 * nI s + nI 9 * nI i + nI j = _
  rw [pk_mul, pk_mul, nI_add, nI_add]
theorem gr_d81 {r : Nat} (hr : r < 729) : nI r / 81 = nI (r / 81) := pk_div (d := 81) (by omega) (by decide) (by decide)
theorem gr_d9 {r : Nat} (hr : r < 729) : nI r / 9 = nI (r / 9) := pk_div (d := 9) (by omega) (by decide) (by decide)
theorem gr_m9 {r : Nat} (hr : r < 729) : nI r - nI r / 9 * 9 = nI (r % 9) := pk_rem (d := 9) (by omega) (by decide) (by decide)
theorem gr_dm9 {r : Nat} (hr : r < 729) : nI r / 9 - nI r / 9 / 9 * 9 = nI (r / 9 % 9) := by
  rw [gr_d9 hr]
  exact pk_rem (d := 9) (by omega) (by decide) (by decide)
theorem gr_m3 {w : Nat} (hw : w < 2 ^ 31) : nI w - nI w / 3 * 3 = nI (w % 3) := pk_rem (d := 3) hw (by decide) (by decide)
theorem gr_d3 {w : Nat} (hw : w < 2 ^ 31) : nI w / 3 = nI (w / 3) := pk_div (d := 3) hw (by decide) (by decide)
theorem gr_p1 {d : Nat} (hd : 0 < d) : nI d - 1 = nI (d - 1) := pk_sub (b := 1) hd
theorem gr_5p (w : Nat) : 5 + nI w = nI (5 + w) := nI_add 5 w
/-! the two truth values are truth values -/
theorem gr_nb (b : Bool) : narrow .boolean (.int (gr_vb b)) = .int (gr_vb b) := by cases b <;> rfl
theorem gr_nb0 : vp_nar .boolean 0 = 0 := rfl
theorem gr_nb1 : vp_nar .boolean 1 = 1 := rfl
