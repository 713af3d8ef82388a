/-! plain numbers: sides, weights, means -/
theorem tr_nat {x : Int32} {n : Nat} (h : 0 ≤ x.toInt ∧ x.toInt ≤ (n : Int)) : ∃ j : Nat, j ≤ n ∧ x = nI j := by
  have hx := Int32.toInt_lt x
  refine ⟨x.toInt.toNat, by omega, Int32.toInt_inj.mp ?_⟩
  rw [nI_toInt (by omega)]
  omega
theorem tr_subI {x y : Int32} (h : -2147483648 ≤ x.toInt - y.toInt ∧ x.toInt - y.toInt ≤ 2147483647) : (x - y).toInt = x.toInt - y.toInt := by
  rw [Int32.toInt_sub]
  exact Int.bmod_eq_of_le (by omega) (by omega)
theorem tr_mulI {x y : Int32} (h : -2147483648 ≤ x.toInt * y.toInt ∧ x.toInt * y.toInt ≤ 2147483647) : (x * y).toInt = x.toInt * y.toInt := by
  rw [Int32.toInt_mul]
  exact Int.bmod_eq_of_le (by omega) (by omega)
theorem tr_negI {x : Int32} (h : -2147483647 ≤ x.toInt) : (-x).toInt = -x.toInt := by
  have hx := Int32.toInt_lt x
  rw [Int32.toInt_neg]
  exact Int.bmod_eq_of_le (by omega) (by omega)
theorem tr_mulb {a b : Int} (ha : -383 ≤ a ∧ a ≤ 383) (hb : -383 ≤ b ∧ b ≤ 383) : -146689 ≤ a * b ∧ a * b ≤ 146689 := by
  have h : (a * b).natAbs = a.natAbs * b.natAbs := Int.natAbs_mul a b
  have h2 : a.natAbs * b.natAbs ≤ 383 * 383 := Nat.mul_le_mul (by omega) (by omega)
  omega
def tr_side (px py qx qy rx ry : Int32) : Int32 := (qx - px) * (ry - py) - (qy - py) * (rx - px)
theorem tr_sum (a1 a2 b1 b2 c1 c2 p1 p2 : Int32) : tr_side b1 b2 c1 c2 p1 p2 + tr_side c1 c2 a1 a2 p1 p2 + tr_side a1 a2 b1 b2 p1 p2 = tr_side a1 a2 b1 b2 c1 c2 := by
  unfold tr_side
  grind
theorem tr_swap (a1 a2 b1 b2 c1 c2 : Int32) : tr_side a1 a2 c1 c2 b1 b2 = -tr_side a1 a2 b1 b2 c1 c2 := by
  unfold tr_side
  grind
def tr_co (x : Int32) : Prop := -64 ≤ x.toInt ∧ x.toInt ≤ 319
theorem tr_sideb {px py qx qy rx ry : Int32} (h1 : tr_co px) (h2 : tr_co py) (h3 : tr_co qx) (h4 : tr_co qy) (h5 : tr_co rx) (h6 : tr_co ry) :
    -293378 ≤ (tr_side px py qx qy rx ry).toInt ∧ (tr_side px py qx qy rx ry).toInt ≤ 293378 := by
  unfold tr_co at h1 h2 h3 h4 h5 h6
  have e1 : (qx - px).toInt = qx.toInt - px.toInt := tr_subI (by omega)
  have e2 : (ry - py).toInt = ry.toInt - py.toInt := tr_subI (by omega)
  have e3 : (qy - py).toInt = qy.toInt - py.toInt := tr_subI (by omega)
  have e4 : (rx - px).toInt = rx.toInt - px.toInt := tr_subI (by omega)
  have m1 := tr_mulb (a := (qx - px).toInt) (b := (ry - py).toInt) (by omega) (by omega)
  have m2 := tr_mulb (a := (qy - py).toInt) (b := (rx - px).toInt) (by omega) (by omega)
  have f1 : ((qx - px) * (ry - py)).toInt = (qx - px).toInt * (ry - py).toInt := tr_mulI (by omega)
  have f2 : ((qy - py) * (rx - px)).toInt = (qy - py).toInt * (rx - px).toInt := tr_mulI (by omega)
  have g : (tr_side px py qx qy rx ry).toInt = ((qx - px) * (ry - py)).toInt - ((qy - py) * (rx - px)).toInt := tr_subI (by omega)
  rw [g, f1, f2]
  omega
theorem tr_mean {wa wb wc na nb nc ar : Int32} {N : Nat} (hN : N ≤ 255) (ha : 0 ≤ wa.toInt ∧ wa.toInt ≤ 293378) (hb : 0 ≤ wb.toInt ∧ wb.toInt ≤ 293378) (hc : 0 ≤ wc.toInt ∧ wc.toInt ≤ 293378) (hs : wa + wb + wc = ar) (h0 : 0 < ar.toInt)
    (ka : ∃ m : Nat, m ≤ N ∧ na = nI m) (kb : ∃ m : Nat, m ≤ N ∧ nb = nI m) (kc : ∃ m : Nat, m ≤ N ∧ nc = nI m) :
    ∃ m : Nat, m ≤ N ∧ (wa * na + wb * nb + wc * nc) / ar = nI m := by
  obtain ⟨p, hp, rfl⟩ := tr_nat (x := wa) (n := 293378) (by omega)
  obtain ⟨q, hq, rfl⟩ := tr_nat (x := wb) (n := 293378) (by omega)
  obtain ⟨r, hr, rfl⟩ := tr_nat (x := wc) (n := 293378) (by omega)
  obtain ⟨d, hd, rfl⟩ := ka
  obtain ⟨e, he, rfl⟩ := kb
  obtain ⟨f, hf, rfl⟩ := kc
  rw [nI_add, nI_add] at hs
  subst hs
  rw [nI_toInt (by omega)] at h0
  rw [pk_mul, pk_mul, pk_mul, nI_add, nI_add]
  have b1 : p * d ≤ p * N := Nat.mul_le_mul_left p hd
  have b2 : q * e ≤ q * N := Nat.mul_le_mul_left q he
  have b3 : r * f ≤ r * N := Nat.mul_le_mul_left r hf
  have c1 : p * N ≤ 293378 * 255 := Nat.mul_le_mul hp hN
  have c2 : q * N ≤ 293378 * 255 := Nat.mul_le_mul hq hN
  have c3 : r * N ≤ 293378 * 255 := Nat.mul_le_mul hr hN
  rw [pk_div (by omega) (by omega) (by omega)]
  refine ⟨_, ?_, rfl⟩
  apply Nat.div_le_of_le_mul
  rw [Nat.add_mul, Nat.add_mul]
  omega
/-! bounded tables -/
def tr_b (n : Nat) (f : Nat → Int32) : Prop := ∀ j, ∃ m : Nat, m ≤ n ∧ f j = nI m
def tr_bc (f : Nat → Int32) : Prop := ∀ j, tr_co (f j)
theorem tr_b_upd {n : Nat} {f : Nat → Int32} {k : Nat} {x : Int32} (h : tr_b n f) (hx : ∃ m : Nat, m ≤ n ∧ x = nI m) : tr_b n (upd f k x) := by
  intro j
  by_cases e : j = k
  · subst e
    rw [pk_us]
    exact hx
  · rw [pk_un e]
    exact h j
theorem tr_bc_upd {f : Nat → Int32} {k : Nat} {x : Int32} (h : tr_bc f) (hx : tr_co x) : tr_bc (upd f k x) := by
  intro j
  by_cases e : j = k
  · subst e
    rw [pk_us]
    exact hx
  · rw [pk_un e]
    exact h j
theorem tr_upd_id (f : Nat → Int32) (k : Nat) : upd f k (f k) = f := by
  funext j
  by_cases e : j = k
  · subst e
    rw [pk_us]
  · rw [pk_un e]
/-- the first n filled with v -/
def tr_fill (f : Nat → Int32) (v : Int32) (n : Nat) : Nat → Int32 := fun j => if j < n then v else f j
theorem tr_fill_0 (f : Nat → Int32) (v : Int32) : tr_fill f v 0 = f := by
  funext j
  exact if_neg (Nat.not_lt_zero j)
theorem tr_fill_s (f : Nat → Int32) (v : Int32) (n : Nat) : upd (tr_fill f v n) n v = tr_fill f v (n + 1) := by
  funext j
  unfold tr_fill
  by_cases e : j = n
  · subst e
    rw [pk_us, if_pos (Nat.lt_succ_self j)]
  · rw [pk_un e]
    by_cases h : j < n
    · rw [if_pos h, if_pos (by omega)]
    · rw [if_neg h, if_neg (by omega)]
theorem tr_fill_k (v : Int32) (n : Nat) : tr_fill (fun _ => v) v n = fun _ => v := by
  funext j
  unfold tr_fill
  by_cases h : j < n
  · rw [if_pos h]
  · rw [if_neg h]
theorem tr_b_fill {n : Nat} {f : Nat → Int32} {v : Int32} {k : Nat} (h : tr_b n f) (hx : ∃ m : Nat, m ≤ n ∧ v = nI m) : tr_b n (tr_fill f v k) := by
  intro j
  unfold tr_fill
  by_cases e : j < k
  · rw [if_pos e]
    exact hx
  · rw [if_neg e]
    exact h j
theorem tr_bc_fill {f : Nat → Int32} {v : Int32} {k : Nat} (h : tr_bc f) (hx : tr_co v) : tr_bc (tr_fill f v k) := by
  intro j
  unfold tr_fill
  by_cases e : j < k
  · rw [if_pos e]
    exact hx
  · rw [if_neg e]
    exact h j
theorem tr_b_0 (n : Nat) : tr_b n (fun _ => 0) := fun _ => ⟨0, Nat.zero_le n, rfl⟩
theorem tr_co_0 : tr_co 0 := by unfold tr_co; decide
theorem tr_bc_0 : tr_bc (fun _ => 0) := fun _ => tr_co_0
/-- the part of a colour behind a shift -/
def tr_part (x s : Int32) : Int32 := (x >>> (s &&& 31)) &&& 255
theorem tr_part_b (x s : Int32) : ∃ m : Nat, m ≤ 255 ∧ tr_part x s = nI m := by
  obtain ⟨j, hj, e⟩ := pk_andE (x >>> (s &&& 31)) (m := 255) 8 (by decide)
  exact ⟨j, by omega, e⟩
def tr_pt (f : Nat → Int32) (s : Int32) : Nat → Int32 := fun k => tr_part (f k) s
theorem tr_pt_b (f : Nat → Int32) (s : Int32) : tr_b 255 (tr_pt f s) := fun j => tr_part_b (f j) s
theorem tr_pt_upd (f : Nat → Int32) (s : Int32) (k : Nat) (x : Int32) : upd (tr_pt f s) k (tr_part x s) = tr_pt (upd f k x) s := by
  funext j
  unfold tr_pt
  by_cases e : j = k
  · subst e
    rw [pk_us, pk_us]
  · rw [pk_un e, pk_un e]
theorem tr_part_0 : tr_part 0 16 = 0 ∧ tr_part 0 8 = 0 ∧ tr_part 0 0 = 0 := by decide +kernel
theorem tr_part_w : tr_part 16777215 16 = 255 ∧ tr_part 16777215 8 = 255 ∧ tr_part 16777215 0 = 255 := by decide +kernel
theorem tr_pt_fill (f : Nat → Int32) (s : Int32) (h : tr_part 0 s = 0) (n : Nat) : tr_fill (tr_pt f s) 0 n = tr_pt (tr_fill f 0 n) s := by
  funext j
  show (if j < n then 0 else tr_part (f j) s) = tr_part (if j < n then 0 else f j) s
  by_cases e : j < n
  · rw [if_pos e, if_pos e, h]
  · rw [if_neg e, if_neg e]
theorem tr_255 {m : Nat} (h : m ≤ 255) : nI m * 255 / 255 = nI m := by
  show nI m * nI 255 / nI 255 = nI m
  rw [pk_mul, pk_div (by omega) (by decide) (by decide), Nat.mul_div_cancel m (by decide)]
