section
theorem pk_us {f : Nat → Int32} {k : Nat} {x : Int32} : upd f k x k = x := if_pos rfl
theorem pk_un {f : Nat → Int32} {k j : Nat} {x : Int32} (h : j ≠ k) : upd f k x j = f j := if_neg h
theorem pk_sub {a b : Nat} (h : b ≤ a) : nI a - nI b = nI (a - b) := by
  obtain ⟨c, rfl⟩ : ∃ c, a = c + b := ⟨a - b, by omega⟩
  rw [← nI_add, Int32.add_sub_cancel, Nat.add_sub_cancel]
theorem pk_m1 (n : Nat) : nI (n + 1) + (-1) = nI n := by
  rw [← nI_1, Int32.add_assoc, show (1 : Int32) + (-1) = 0 from rfl, Int32.add_zero]
theorem pk_mul (a b : Nat) : nI a * nI b = nI (a * b) := (Int32.ofNat_mul a b).symm
theorem pk_div {a d : Nat} (ha : a < 2 ^ 31) (h0 : 0 < d) (hd : d < 2 ^ 31) : nI a / nI d = nI (a / d) := by
  apply Int32.toInt_inj.mp
  rw [lg_idiv_nonneg (by rw [nI_toInt ha]; omega) (by rw [nI_toInt hd]; omega), nI_toInt ha, nI_toInt hd, nI_toInt (Nat.lt_of_le_of_lt (Nat.div_le_self a d) ha)]
  first | rfl | exact (Int.natCast_ediv _ _).symm
theorem pk_rem {a d : Nat} (ha : a < 2 ^ 31) (h0 : 0 < d) (hd : d < 2 ^ 31) : nI a - nI a / nI d * nI d = nI (a % d) := by
  rw [pk_div ha h0 hd, pk_mul, pk_sub (Nat.div_mul_le_self a d)]
  exact congrArg nI (by have := Nat.div_add_mod' a d; omega)
theorem pk_ix (x : Int32) {n : Nat} (hn : n < 2 ^ 31) : x < 0 ∨ nI n ≤ x ∨ ∃ j : Nat, j < n ∧ x = nI j := by
  by_cases h : x < 0
  · exact Or.inl h
  · obtain ⟨j, hj, rfl⟩ := nI_of h
    by_cases h2 : j < n
    · exact Or.inr (Or.inr ⟨j, h2, rfl⟩)
    · exact Or.inr (Or.inl (nI_le (by omega) hj))
theorem pk_le {x y : Int32} {A B : Prop} (a b : Nat) (f : a ≤ b → A) (g : b < a → B) (hx : x = nI a := by rfl) (hy : y = nI b := by rfl) (ha : a < 2 ^ 31 := by omega) (hb : b < 2 ^ 31 := by omega) : (x ≤ y → A) ∧ (¬ x ≤ y → B) := by
  subst hx hy
  rw [nI_leI ha hb]
  exact ⟨f, fun z => g (by omega)⟩
theorem pk_lt {x y : Int32} {A B : Prop} (a b : Nat) (f : a < b → A) (g : b ≤ a → B) (hx : x = nI a := by rfl) (hy : y = nI b := by rfl) (ha : a < 2 ^ 31 := by omega) (hb : b < 2 ^ 31 := by omega) : (x < y → A) ∧ (¬ x < y → B) := by
  subst hx hy
  rw [nI_ltI ha hb]
  exact ⟨f, fun z => g (by omega)⟩
theorem pk_eq {x y : Int32} {A B : Prop} (a b : Nat) (f : a = b → A) (g : a ≠ b → B) (hx : x = nI a := by rfl) (hy : y = nI b := by rfl) (ha : a < 2 ^ 31 := by omega) (hb : b < 2 ^ 31 := by omega) : (x = y → A) ∧ (¬ x = y → B) := by
  subst hx hy
  rw [nI_eq ha hb]
  exact ⟨f, g⟩
theorem pk_in {x : Int32} (n N : Nat) (h : n < N) (hx : x = nI n := by rfl) (hN : N < 2 ^ 31 := by omega) : vp_in x N := by
  subst hx
  exact vp_in_nI h hN
theorem pk_cl {x : Int32} (n : Nat) (hx : x = nI n := by rfl) (h : n < 2 ^ 31 := by omega) : x.toNatClampNeg = n := by
  subst hx
  exact nI_clamp h
theorem pk_tn {n : Nat} (h : n < 2 ^ 32) : (nI n).toBitVec.toNat = n := Nat.mod_eq_of_lt h
theorem pk_and (x : Int32) {m : Int32} (k : Nat) (hm : m.toBitVec.toNat = 2 ^ k - 1) : x &&& m = nI (x.toBitVec.toNat % 2 ^ k) := by
  apply Int32.toBitVec_inj.mp
  apply BitVec.eq_of_toNat_eq
  rw [Int32.toBitVec_and, BitVec.toNat_and, hm, Nat.and_two_pow_sub_one_eq_mod]
  show _ = (BitVec.ofNat 32 _).toNat
  rw [BitVec.toNat_ofNat]
  exact (Nat.mod_eq_of_lt (Nat.lt_of_le_of_lt (Nat.mod_le _ _) x.toBitVec.isLt)).symm
theorem pk_andN {n : Nat} (h : n < 2 ^ 32) {m : Int32} (k : Nat) (hm : m.toBitVec.toNat = 2 ^ k - 1) : nI n &&& m = nI (n % 2 ^ k) := by
  rw [pk_and _ k hm, pk_tn h]
theorem pk_andE (x : Int32) {m : Int32} (k : Nat) (hm : m.toBitVec.toNat = 2 ^ k - 1) : ∃ j : Nat, j < 2 ^ k ∧ x &&& m = nI j := ⟨_, Nat.mod_lt _ (Nat.two_pow_pos k), pk_and x k hm⟩
theorem pk_shr (a s : Int32) (k : Nat) (hs : (s.toBitVec.smod 32).toNat = k) : (a >>> s).toInt = a.toInt >>> k := by
  show (a.toBitVec.sshiftRight (s.toBitVec.smod 32).toNat).toInt = _
  rw [hs, BitVec.toInt_sshiftRight]
  rfl
theorem pk_shrN {n : Nat} (h : n < 2 ^ 31) (s : Int32) (k : Nat) (hs : (s.toBitVec.smod 32).toNat = k) : nI n >>> s = nI (n / 2 ^ k) := by
  apply Int32.toInt_inj.mp
  have h2 : n / 2 ^ k ≤ n := Nat.div_le_self _ _
  rw [pk_shr _ _ k hs, nI_toInt h, nI_toInt (by omega), Int.shiftRight_eq_div_pow]
  rfl
theorem sb_shr0 (x : Int32) : x >>> ((0 : Int32) &&& 31) = x := by
  rw [show ((0 : Int32) &&& 31) = 0 by decide]
  simp
theorem nx_xor (a b : Nat) : nI a ^^^ nI b = nI (a ^^^ b) := by
  apply Int32.toBitVec_inj.1
  show BitVec.ofNat 32 a ^^^ BitVec.ofNat 32 b = BitVec.ofNat 32 (a ^^^ b)
  apply BitVec.eq_of_getLsbD_eq
  intro i hi
  simp [hi]
end
section
/-! plain numbers: sides, weights, means -/
theorem tr_nat {x : Int32} {n : Nat} (h : 0 ≤ x.toInt ∧ x.toInt ≤ (n : Int)) : ∃ j : Nat, j ≤ n ∧ x = nI j := by
  have hx := Int32.toInt_lt x
  refine ⟨x.toInt.toNat, by omega, Int32.toInt_inj.mp ?_⟩
  rw [nI_toInt (by omega)]
  omega
theorem tr_subI {x y : Int32} (h : -2147483648 ≤ x.toInt - y.toInt ∧ x.toInt - y.toInt ≤ 2147483647) : (x - y).toInt = x.toInt - y.toInt := by
  rw [Int32.toInt_sub]
  exact Int.bmod_eq_of_le (by omega) (by omega)
theorem tr_mulI {x y : Int32} (h : -2147483648 ≤ x.toInt * y.toInt ∧ x.toInt * y.toInt ≤ 2147483647) : (x * y).toInt = x.toInt * y.toInt := by
  rw [Int32.toInt_mul]
  exact Int.bmod_eq_of_le (by omega) (by omega)
theorem tr_negI {x : Int32} (h : -2147483647 ≤ x.toInt) : (-x).toInt = -x.toInt := by
  have hx := Int32.toInt_lt x
  rw [Int32.toInt_neg]
  exact Int.bmod_eq_of_le (by omega) (by omega)
theorem tr_mulb {a b : Int} (ha : -383 ≤ a ∧ a ≤ 383) (hb : -383 ≤ b ∧ b ≤ 383) : -146689 ≤ a * b ∧ a * b ≤ 146689 := by
  have h : (a * b).natAbs = a.natAbs * b.natAbs := Int.natAbs_mul a b
  have h2 : a.natAbs * b.natAbs ≤ 383 * 383 := Nat.mul_le_mul (by omega) (by omega)
  omega
def tr_side (px py qx qy rx ry : Int32) : Int32 := (qx - px) * (ry - py) - (qy - py) * (rx - px)
theorem tr_sum (a1 a2 b1 b2 c1 c2 p1 p2 : Int32) : tr_side b1 b2 c1 c2 p1 p2 + tr_side c1 c2 a1 a2 p1 p2 + tr_side a1 a2 b1 b2 p1 p2 = tr_side a1 a2 b1 b2 c1 c2 := by
  unfold tr_side
  grind
theorem tr_swap (a1 a2 b1 b2 c1 c2 : Int32) : tr_side a1 a2 c1 c2 b1 b2 = -tr_side a1 a2 b1 b2 c1 c2 := by
  unfold tr_side
  grind
def tr_co (x : Int32) : Prop := -64 ≤ x.toInt ∧ x.toInt ≤ 319
theorem tr_sideb {px py qx qy rx ry : Int32} (h1 : tr_co px) (h2 : tr_co py) (h3 : tr_co qx) (h4 : tr_co qy) (h5 : tr_co rx) (h6 : tr_co ry) :
    -293378 ≤ (tr_side px py qx qy rx ry).toInt ∧ (tr_side px py qx qy rx ry).toInt ≤ 293378 := by
  unfold tr_co at h1 h2 h3 h4 h5 h6
  have e1 : (qx - px).toInt = qx.toInt - px.toInt := tr_subI (by omega)
  have e2 : (ry - py).toInt = ry.toInt - py.toInt := tr_subI (by omega)
  have e3 : (qy - py).toInt = qy.toInt - py.toInt := tr_subI (by omega)
  have e4 : (rx - px).toInt = rx.toInt - px.toInt := tr_subI (by omega)
  have m1 := tr_mulb (a := (qx - px).toInt) (b := (ry - py).toInt) (by omega) (by omega)
  have m2 := tr_mulb (a := (qy - py).toInt) (b := (rx - px).toInt) (by omega) (by omega)
  have f1 : ((qx - px) * (ry - py)).toInt = (qx - px).toInt * (ry - py).toInt := tr_mulI (by omega)
  have f2 : ((qy - py) * (rx - px)).toInt = (qy - py).toInt * (rx - px).toInt := tr_mulI (by omega)
  have g : (tr_side px py qx qy rx ry).toInt = ((qx - px) * (ry - py)).toInt - ((qy - py) * (rx - px)).toInt := tr_subI (by omega)
  rw [g, f1, f2]
  omega
theorem tr_mean {wa wb wc na nb nc ar : Int32} {N : Nat} (hN : N ≤ 255) (ha : 0 ≤ wa.toInt ∧ wa.toInt ≤ 293378) (hb : 0 ≤ wb.toInt ∧ wb.toInt ≤ 293378) (hc : 0 ≤ wc.toInt ∧ wc.toInt ≤ 293378) (hs : wa + wb + wc = ar) (h0 : 0 < ar.toInt)
    (ka : ∃ m : Nat, m ≤ N ∧ na = nI m) (kb : ∃ m : Nat, m ≤ N ∧ nb = nI m) (kc : ∃ m : Nat, m ≤ N ∧ nc = nI m) :
    ∃ m : Nat, m ≤ N ∧ (wa * na + wb * nb + wc * nc) / ar = nI m := by
  obtain ⟨p, hp, rfl⟩ := tr_nat (x := wa) (n := 293378) (by omega)
  obtain ⟨q, hq, rfl⟩ := tr_nat (x := wb) (n := 293378) (by omega)
  obtain ⟨r, hr, rfl⟩ := tr_nat (x := wc) (n := 293378) (by omega)
  obtain ⟨d, hd, rfl⟩ := ka
  obtain ⟨e, he, rfl⟩ := kb
  obtain ⟨f, hf, rfl⟩ := kc
  rw [nI_add, nI_add] at hs
  subst hs
  rw [nI_toInt (by omega)] at h0
  rw [pk_mul, pk_mul, pk_mul, nI_add, nI_add]
  have b1 : p * d ≤ p * N := Nat.mul_le_mul_left p hd
  have b2 : q * e ≤ q * N := Nat.mul_le_mul_left q he
  have b3 : r * f ≤ r * N := Nat.mul_le_mul_left r hf
  have c1 : p * N ≤ 293378 * 255 := Nat.mul_le_mul hp hN
  have c2 : q * N ≤ 293378 * 255 := Nat.mul_le_mul hq hN
  have c3 : r * N ≤ 293378 * 255 := Nat.mul_le_mul hr hN
  rw [pk_div (by omega) (by omega) (by omega)]
  refine ⟨_, ?_, rfl⟩
  apply Nat.div_le_of_le_mul
  rw [Nat.add_mul, Nat.add_mul]
  omega
/-! bounded tables -/
def tr_b (n : Nat) (f : Nat → Int32) : Prop := ∀ j, ∃ m : Nat, m ≤ n ∧ f j = nI m
def tr_bc (f : Nat → Int32) : Prop := ∀ j, tr_co (f j)
theorem tr_b_upd {n : Nat} {f : Nat → Int32} {k : Nat} {x : Int32} (h : tr_b n f) (hx : ∃ m : Nat, m ≤ n ∧ x = nI m) : tr_b n (upd f k x) := by
  intro j
  by_cases e : j = k
  · subst e
    rw [pk_us]
    exact hx
  · rw [pk_un e]
    exact h j
theorem tr_bc_upd {f : Nat → Int32} {k : Nat} {x : Int32} (h : tr_bc f) (hx : tr_co x) : tr_bc (upd f k x) := by
  intro j
  by_cases e : j = k
  · subst e
    rw [pk_us]
    exact hx
  · rw [pk_un e]
    exact h j
theorem tr_upd_id (f : Nat → Int32) (k : Nat) : upd f k (f k) = f := by
  funext j
  by_cases e : j = k
  · subst e
    rw [pk_us]
  · rw [pk_un e]
/-- the first n filled with v -/
def tr_fill (f : Nat → Int32) (v : Int32) (n : Nat) : Nat → Int32 := fun j => if j < n then v else f j
theorem tr_fill_0 (f : Nat → Int32) (v : Int32) : tr_fill f v 0 = f := by
  funext j
  exact if_neg (Nat.not_lt_zero j)
theorem tr_fill_s (f : Nat → Int32) (v : Int32) (n : Nat) : upd (tr_fill f v n) n v = tr_fill f v (n + 1) := by
  funext j
  unfold tr_fill
  by_cases e : j = n
  · subst e
    rw [pk_us, if_pos (Nat.lt_succ_self j)]
  · rw [pk_un e]
    by_cases h : j < n
    · rw [if_pos h, if_pos (by omega)]
    · rw [if_neg h, if_neg (by omega)]
theorem tr_fill_k (v : Int32) (n : Nat) : tr_fill (fun _ => v) v n = fun _ => v := by
  funext j
  unfold tr_fill
  by_cases h : j < n
  · rw [if_pos h]
  · rw [if_neg h]
theorem tr_b_fill {n : Nat} {f : Nat → Int32} {v : Int32} {k : Nat} (h : tr_b n f) (hx : ∃ m : Nat, m ≤ n ∧ v = nI m) : tr_b n (tr_fill f v k) := by
  intro j
  unfold tr_fill
  by_cases e : j < k
  · rw [if_pos e]
    exact hx
  · rw [if_neg e]
    exact h j
theorem tr_bc_fill {f : Nat → Int32} {v : Int32} {k : Nat} (h : tr_bc f) (hx : tr_co v) : tr_bc (tr_fill f v k) := by
  intro j
  unfold tr_fill
  by_cases e : j < k
  · rw [if_pos e]
    exact hx
  · rw [if_neg e]
    exact h j
theorem tr_b_0 (n : Nat) : tr_b n (fun _ => 0) := fun _ => ⟨0, Nat.zero_le n, rfl⟩
theorem tr_co_0 : tr_co 0 := by unfold tr_co; decide
theorem tr_bc_0 : tr_bc (fun _ => 0) := fun _ => tr_co_0
/-- the part of a colour behind a shift -/
def tr_part (x s : Int32) : Int32 := (x >>> (s &&& 31)) &&& 255
theorem tr_part_b (x s : Int32) : ∃ m : Nat, m ≤ 255 ∧ tr_part x s = nI m := by
  obtain ⟨j, hj, e⟩ := pk_andE (x >>> (s &&& 31)) (m := 255) 8 (by decide)
  exact ⟨j, by omega, e⟩
def tr_pt (f : Nat → Int32) (s : Int32) : Nat → Int32 := fun k => tr_part (f k) s
theorem tr_pt_b (f : Nat → Int32) (s : Int32) : tr_b 255 (tr_pt f s) := fun j => tr_part_b (f j) s
theorem tr_pt_upd (f : Nat → Int32) (s : Int32) (k : Nat) (x : Int32) : upd (tr_pt f s) k (tr_part x s) = tr_pt (upd f k x) s := by
  funext j
  unfold tr_pt
  by_cases e : j = k
  · subst e
    rw [pk_us, pk_us]
  · rw [pk_un e, pk_un e]
theorem tr_part_0 : tr_part 0 16 = 0 ∧ tr_part 0 8 = 0 ∧ tr_part 0 0 = 0 := by decide +kernel
theorem tr_part_w : tr_part 16777215 16 = 255 ∧ tr_part 16777215 8 = 255 ∧ tr_part 16777215 0 = 255 := by decide +kernel
theorem tr_pt_fill (f : Nat → Int32) (s : Int32) (h : tr_part 0 s = 0) (n : Nat) : tr_fill (tr_pt f s) 0 n = tr_pt (tr_fill f 0 n) s := by
  funext j
  show (if j < n then 0 else tr_part (f j) s) = tr_part (if j < n then 0 else f j) s
  by_cases e : j < n
  · rw [if_pos e, if_pos e, h]
  · rw [if_neg e, if_neg e]
theorem tr_255 {m : Nat} (h : m ≤ 255) : nI m * 255 / 255 = nI m := by
  show nI m * nI 255 / nI 255 = nI m
  rw [pk_mul, pk_div (by omega) (by decide) (by decide), Nat.mul_div_cancel m (by decide)]
end
section
/-! what one pixel does, as a pure function -/
section
variable (cX cY : Nat → Int32)
def tr_w (p q x y : Int32) : Int32 := tr_side (cX p.toNatClampNeg) (cY p.toNatClampNeg) (cX q.toNatClampNeg) (cY q.toNatClampNeg) (16 * x + 8) (16 * y + 8)
def tr_ar (a b c : Int32) : Int32 := tr_side (cX a.toNatClampNeg) (cY a.toNatClampNeg) (cX b.toNatClampNeg) (cY b.toNatClampNeg) (cX c.toNatClampNeg) (cY c.toNatClampNeg)
def tr_in (p q w : Int32) : Int32 := if w = 0 then (if cY q.toNatClampNeg = cY p.toNatClampNeg then (if cX q.toNatClampNeg ≤ cX p.toNatClampNeg then 0 else 1) else (if cY p.toNatClampNeg ≤ cY q.toNatClampNeg then 0 else 1)) else (if w ≤ 0 then 0 else 1)
def tr_cov (a b c x y : Int32) : Int32 := if tr_in cX cY b c (tr_w cX cY b c x y) = 0 then 0 else if tr_in cX cY c a (tr_w cX cY c a x y) = 0 then 0 else if tr_in cX cY a b (tr_w cX cY a b x y) = 0 then 0 else 1
def tr_num (f : Nat → Int32) (a b c x y : Int32) : Int32 := (tr_w cX cY b c x y * f a.toNatClampNeg + tr_w cX cY c a x y * f b.toNatClampNeg + tr_w cX cY a b x y * f c.toNatClampNeg) / tr_ar cX cY a b c
theorem tr_wsum (a b c x y : Int32) : tr_w cX cY b c x y + tr_w cX cY c a x y + tr_w cX cY a b x y = tr_ar cX cY a b c := tr_sum _ _ _ _ _ _ _ _
theorem tr_arswap (a b c : Int32) : tr_ar cX cY a c b = -tr_ar cX cY a b c := tr_swap _ _ _ _ _ _
theorem tr_mid {k : Nat} (h : k < 16) : tr_co (16 * nI k + 8) := by
  have e : (16 : Int32) * nI k + 8 = nI (16 * k + 8) := by
    show nI 16 * nI k + nI 8 = _
    rw [pk_mul, nI_add]
  unfold tr_co
  rw [e, nI_toInt (by omega)]
  omega
theorem tr_in_01 (p q w : Int32) : tr_in cX cY p q w = 0 ∨ tr_in cX cY p q w = 1 := by
  unfold tr_in
  repeat' split
  all_goals first | exact Or.inl rfl | exact Or.inr rfl
theorem tr_in_p {p q w : Int32} (h : ¬ tr_in cX cY p q w = 0) : 0 ≤ w.toInt := by
  unfold tr_in at h
  by_cases e : w = 0
  · subst e
    decide
  · rw [if_neg e] at h
    by_cases g : w ≤ 0
    · rw [if_pos g] at h
      exact absurd rfl h
    · have z : (0 : Int32).toInt = 0 := by decide
      rw [Int32.le_iff_toInt_le, z] at g
      omega
end
section
variable {cX cY : Nat → Int32}
theorem tr_wb {p q : Int32} {x y : Nat} (hX : tr_bc cX) (hY : tr_bc cY) (hx : x < 16) (hy : y < 16) : -293378 ≤ (tr_w cX cY p q (nI x) (nI y)).toInt ∧ (tr_w cX cY p q (nI x) (nI y)).toInt ≤ 293378 :=
  tr_sideb (hX _) (hY _) (hX _) (hY _) (tr_mid hx) (tr_mid hy)
theorem tr_arb {a b c : Int32} (hX : tr_bc cX) (hY : tr_bc cY) : -293378 ≤ (tr_ar cX cY a b c).toInt ∧ (tr_ar cX cY a b c).toInt ≤ 293378 :=
  tr_sideb (hX _) (hY _) (hX _) (hY _) (hX _) (hY _)
theorem tr_cov_p {a b c : Int32} {x y : Nat} (hX : tr_bc cX) (hY : tr_bc cY) (hx : x < 16) (hy : y < 16) (h : ¬ tr_cov cX cY a b c (nI x) (nI y) = 0) :
    (0 ≤ (tr_w cX cY b c (nI x) (nI y)).toInt ∧ (tr_w cX cY b c (nI x) (nI y)).toInt ≤ 293378) ∧ (0 ≤ (tr_w cX cY c a (nI x) (nI y)).toInt ∧ (tr_w cX cY c a (nI x) (nI y)).toInt ≤ 293378) ∧ (0 ≤ (tr_w cX cY a b (nI x) (nI y)).toInt ∧ (tr_w cX cY a b (nI x) (nI y)).toInt ≤ 293378) := by
  unfold tr_cov at h
  by_cases h1 : tr_in cX cY b c (tr_w cX cY b c (nI x) (nI y)) = 0
  · rw [if_pos h1] at h
    exact absurd rfl h
  rw [if_neg h1] at h
  by_cases h2 : tr_in cX cY c a (tr_w cX cY c a (nI x) (nI y)) = 0
  · rw [if_pos h2] at h
    exact absurd rfl h
  rw [if_neg h2] at h
  by_cases h3 : tr_in cX cY a b (tr_w cX cY a b (nI x) (nI y)) = 0
  · rw [if_pos h3] at h
    exact absurd rfl h
  exact ⟨⟨tr_in_p cX cY h1, (tr_wb hX hY hx hy).2⟩, ⟨tr_in_p cX cY h2, (tr_wb hX hY hx hy).2⟩, ⟨tr_in_p cX cY h3, (tr_wb hX hY hx hy).2⟩⟩
theorem tr_num_b {a b c : Int32} {x y : Nat} {f : Nat → Int32} {N : Nat} (hX : tr_bc cX) (hY : tr_bc cY) (hx : x < 16) (hy : y < 16) (h : ¬ tr_cov cX cY a b c (nI x) (nI y) = 0) (ha : 0 < (tr_ar cX cY a b c).toInt) (hN : N ≤ 255) (hf : tr_b N f) :
    ∃ m : Nat, m ≤ N ∧ tr_num cX cY f a b c (nI x) (nI y) = nI m := by
  obtain ⟨h1, h2, h3⟩ := tr_cov_p hX hY hx hy h
  exact tr_mean hN h1 h2 h3 (tr_wsum cX cY a b c (nI x) (nI y)) ha (hf _) (hf _) (hf _)
end
/-! the tests and changes -/
def tr_win (l r t b x y : Int32) : Int32 := if x < l then 0 else if r < x then 0 else if y < t then 0 else if b < y then 0 else 1
def tr_pm (r3 r5 m : Int32) : Int32 := if r3 = 1 then (if m = r5 then 1 else 0) else if r3 = 2 then (if m = r5 then 0 else 1) else 1
def tr_pd (r0 e d : Int32) : Int32 := if r0 = 2 then (if d ≤ e then 0 else 1) else if r0 = 3 then (if d < e then 0 else 1) else if r0 = 1 then 1 else 0
def tr_chm (r4 r5 m : Int32) : Int32 := if r4 = 1 then r5 else if r4 = 2 then (if m = 15 then 0 else m + 1) else if r4 = 3 then m ^^^ r5 else m
def tr_mix (r2 s t : Int32) : Int32 := if r2 = 1 then (if s + t ≤ 255 then s + t else 255) else if r2 = 2 then (s + t) / 2 else if r2 = 3 then s * t / 255 else if r2 = 4 then t else s
theorem tr_inc : ∀ q : Fin 16, (nI q.val + 1) &&& 15 = if nI q.val = 15 then 0 else nI q.val + 1 := by decide +kernel
theorem tr_inc2 : ∀ q : Fin 16, ∃ m : Fin 16, (if nI q.val = 15 then 0 else nI q.val + 1) = nI m.val := by decide +kernel
theorem tr_inc' {m : Int32} (h : ∃ q : Nat, q ≤ 15 ∧ m = nI q) : (m + 1) &&& 15 = if m = 15 then 0 else m + 1 := by
  obtain ⟨q, hq, rfl⟩ := h
  exact tr_inc ⟨q, by omega⟩
theorem tr_chm_b {r4 r5 m : Int32} (h5 : ∃ q : Nat, q ≤ 15 ∧ r5 = nI q) (h : ∃ q : Nat, q ≤ 15 ∧ m = nI q) : ∃ q : Nat, q ≤ 15 ∧ tr_chm r4 r5 m = nI q := by
  unfold tr_chm
  by_cases e1 : r4 = 1
  · rw [if_pos e1]
    exact h5
  rw [if_neg e1]
  obtain ⟨q, hq, rfl⟩ := h
  by_cases e2 : r4 = 2
  · rw [if_pos e2]
    obtain ⟨w, hw⟩ := tr_inc2 ⟨q, by omega⟩
    exact ⟨w.val, by have := w.isLt; omega, hw⟩
  rw [if_neg e2]
  by_cases e3 : r4 = 3
  · rw [if_pos e3]
    obtain ⟨p, hp, rfl⟩ := h5
    refine ⟨q ^^^ p, ?_, nx_xor q p⟩
    have := Nat.xor_lt_two_pow (x := q) (y := p) (n := 4) (by omega) (by omega)
    omega
  · rw [if_neg e3]
    exact ⟨q, hq, rfl⟩
/-! the state of the picture: colours, depths, marks, hits -/
abbrev tr_S : Type := (Nat → Int32) × (Nat → Int32) × (Nat → Int32) × Int32
section
variable (cX cY cD cC cU cV ce ru : Nat → Int32) (l r t b : Int32) (a1 a2 a3 : Int32)
def tr_cell (x y : Int32) : Int32 := if ru 7 = 1 then ce (8 * (tr_num cX cY cV a1 a2 a3 x y / 16) + tr_num cX cY cU a1 a2 a3 x y / 16).toNatClampNeg else 16777215
def tr_one (x y s old : Int32) : Int32 := tr_mix (ru 2) (tr_num cX cY (tr_pt cC s) a1 a2 a3 x y * tr_part (tr_cell cX cY cU cV ce ru a1 a2 a3 x y) s / 255) (tr_part old s)
def tr_col (x y old : Int32) : Int32 := 65536 * tr_one cX cY cC cU cV ce ru a1 a2 a3 x y 16 old + 256 * tr_one cX cY cC cU cV ce ru a1 a2 a3 x y 8 old + tr_one cX cY cC cU cV ce ru a1 a2 a3 x y 0 old
/-- the pixel is within and covered: its tests and its change -/
def tr_px (i : Nat) (x y : Int32) (s : tr_S) : tr_S :=
  if tr_pm (ru 3) (ru 5) (s.2.2.1 i) = 0 then s
  else if tr_pd (ru 0) (tr_num cX cY cD a1 a2 a3 x y) (s.2.1 i) = 0 then s
  else (upd s.1 i (tr_col cX cY cC cU cV ce ru a1 a2 a3 x y (s.1 i)), (if ru 1 = 1 then upd s.2.1 i (tr_num cX cY cD a1 a2 a3 x y) else s.2.1), upd s.2.2.1 i (tr_chm (ru 4) (ru 5) (s.2.2.1 i)), s.2.2.2 + 1)
def tr_step (i : Nat) (s : tr_S) : tr_S :=
  if tr_win l r t b (nI (i % 16)) (nI (i / 16)) = 0 then s
  else if tr_cov cX cY a1 a2 a3 (nI (i % 16)) (nI (i / 16)) = 0 then s
  else tr_px cX cY cD cC cU cV ce ru a1 a2 a3 i (nI (i % 16)) (nI (i / 16)) s
def tr_run (s : tr_S) : Nat → tr_S
  | 0 => s
  | n + 1 => tr_step cX cY cD cC cU cV ce ru l r t b a1 a2 a3 n (tr_run s n)
theorem tr_px_m (h5 : ∃ q : Nat, q ≤ 15 ∧ ru 5 = nI q) (i : Nat) (x y : Int32) (s : tr_S) (h : tr_b 15 s.2.2.1) : tr_b 15 (tr_px cX cY cD cC cU cV ce ru a1 a2 a3 i x y s).2.2.1 := by
  unfold tr_px
  split
  · exact h
  · split
    · exact h
    · exact tr_b_upd h (tr_chm_b h5 (h i))
theorem tr_step_m (h5 : ∃ q : Nat, q ≤ 15 ∧ ru 5 = nI q) (i : Nat) (s : tr_S) (h : tr_b 15 s.2.2.1) : tr_b 15 (tr_step cX cY cD cC cU cV ce ru l r t b a1 a2 a3 i s).2.2.1 := by
  unfold tr_step
  split
  · exact h
  · split
    · exact h
    · exact tr_px_m cX cY cD cC cU cV ce ru a1 a2 a3 h5 _ _ _ s h
theorem tr_run_m (h5 : ∃ q : Nat, q ≤ 15 ∧ ru 5 = nI q) (s : tr_S) (h : tr_b 15 s.2.2.1) : ∀ n, tr_b 15 (tr_run cX cY cD cC cU cV ce ru l r t b a1 a2 a3 s n).2.2.1 := by
  intro n
  induction n with
  | zero => exact h
  | succ n ih => exact tr_step_m cX cY cD cC cU cV ce ru l r t b a1 a2 a3 h5 n _ ih
end
/-- how many of the first n pixels are covered -/
def tr_cnt (cX cY : Nat → Int32) (a b c : Int32) : Nat → Int32
  | 0 => 0
  | n + 1 => if tr_cov cX cY a b c (nI (n % 16)) (nI (n / 16)) = 0 then tr_cnt cX cY a b c n else tr_cnt cX cY a b c n + 1
/-- the digest of the first n pixels -/
def tr_dig (C D M : Nat → Int32) : Nat → Int32
  | 0 => 0
  | n + 1 => tr_dig C D M n + (nI n + 1) * (C n + 3 * D n + 7 * M n)
/-! the first rules -/
def tr_ru0 (f : Nat → Int32) (n : Nat) : Nat → Int32 := fun j => if j < n then (if j = 0 then 2 else if j = 1 then 1 else 0) else f j
theorem tr_ru0_s (f : Nat → Int32) (n : Nat) : upd (tr_ru0 f n) n (if n = 0 then 2 else if n = 1 then 1 else 0) = tr_ru0 f (n + 1) := by
  funext j
  unfold tr_ru0
  by_cases e : j = n
  · subst e
    rw [pk_us, if_pos (Nat.lt_succ_self j)]
  · rw [pk_un e]
    by_cases h : j < n
    · rw [if_pos h, if_pos (show j < n + 1 by omega)]
    · rw [if_neg h, if_neg (show ¬ j < n + 1 by omega)]
theorem tr_ru0_0 (f : Nat → Int32) : tr_ru0 f 0 = f := by
  funext j
  exact if_neg (Nat.not_lt_zero j)
theorem tr_ru0_8 (f : Nat → Int32) : upd (upd (upd (upd (upd (upd (upd (upd f 0 2) 1 1) 2 0) 3 0) 4 0) 5 0) 6 0) 7 0 = tr_ru0 f 8 := by
  have h0 := tr_ru0_s f 0
  have h1 := tr_ru0_s f 1
  have h2 := tr_ru0_s f 2
  have h3 := tr_ru0_s f 3
  have h4 := tr_ru0_s f 4
  have h5 := tr_ru0_s f 5
  have h6 := tr_ru0_s f 6
  have h7 := tr_ru0_s f 7
  rw [tr_ru0_0] at h0
  rw [← h0] at h1
  rw [← h1] at h2
  rw [← h2] at h3
  rw [← h3] at h4
  rw [← h4] at h5
  rw [← h5] at h6
  rw [← h6] at h7
  exact h7
/-! the pattern taken from the picture -/
def tr_gr (f C : Nat → Int32) (x y : Nat) : Nat → Int32 := fun j => if j < 64 then C (16 * (y + j / 8) + x + j % 8) else f j
def tr_grX (f C : Nat → Int32) (x y n : Nat) : Nat → Int32 := fun j => if j < n then C (16 * (y + j / 8) + x + j % 8) else f j
def tr_grY (f C : Nat → Int32) (x y u v : Nat) : Nat → Int32 := fun j => if j < 64 ∧ (j % 8 < u ∨ (j % 8 = u ∧ j / 8 < v)) then C (16 * (y + j / 8) + x + j % 8) else f j
theorem tr_grX_0 (f C : Nat → Int32) (x y : Nat) : tr_grX f C x y 0 = f := by
  funext j
  exact if_neg (Nat.not_lt_zero j)
theorem tr_grX_s (f C : Nat → Int32) (x y u v : Nat) (hu : u < 8) : upd (tr_grX f C x y (8 * v + u)) (8 * v + u) (C (16 * (y + v) + x + u)) = tr_grX f C x y (8 * v + u + 1) := by
  funext j
  unfold tr_grX
  by_cases e : j = 8 * v + u
  · subst e
    rw [pk_us, if_pos (Nat.lt_succ_self _), show (8 * v + u) / 8 = v by omega, show (8 * v + u) % 8 = u by omega]
  · rw [pk_un e]
    by_cases h : j < 8 * v + u
    · rw [if_pos h, if_pos (by omega)]
    · rw [if_neg h, if_neg (by omega)]
theorem tr_grY_0 (f C : Nat → Int32) (x y : Nat) : tr_grY f C x y 0 0 = f := by
  funext j
  exact if_neg (by omega)
theorem tr_grY_s (f C : Nat → Int32) (x y u v : Nat) (hu : u < 8) (hv : v < 8) : upd (tr_grY f C x y u v) (8 * v + u) (C (16 * (y + v) + x + u)) = tr_grY f C x y u (v + 1) := by
  funext j
  unfold tr_grY
  by_cases e : j = 8 * v + u
  · subst e
    rw [pk_us, if_pos (by omega), show (8 * v + u) / 8 = v by omega, show (8 * v + u) % 8 = u by omega]
  · rw [pk_un e]
    by_cases h : j < 64 ∧ (j % 8 < u ∨ (j % 8 = u ∧ j / 8 < v))
    · rw [if_pos h, if_pos (by omega)]
    · rw [if_neg h, if_neg (by omega)]
theorem tr_grY_n (f C : Nat → Int32) (x y u : Nat) : tr_grY f C x y u 8 = tr_grY f C x y (u + 1) 0 := by
  funext j
  unfold tr_grY
  by_cases h : j < 64 ∧ (j % 8 < u ∨ (j % 8 = u ∧ j / 8 < 8))
  · rw [if_pos h, if_pos (by omega)]
  · rw [if_neg h, if_neg (by omega)]
theorem tr_grXY (f C : Nat → Int32) (x y : Nat) : tr_grX f C x y 64 = tr_grY f C x y 8 0 := by
  funext j
  unfold tr_grX tr_grY
  by_cases h : j < 64
  · rw [if_pos h, if_pos (by omega)]
  · rw [if_neg h, if_neg (by omega)]
/-! the numbers of a call -/
theorem tr_c1 {n : Nat} (h : n < 216) : nI n / 36 = nI (n / 36) := pk_div (d := 36) (by omega) (by decide) (by decide)
theorem tr_c2 {n : Nat} (h : n < 216) : nI n / 6 - nI n / 6 / 6 * 6 = nI (n / 6 % 6) := by
  have e : nI n / 6 = nI (n / 6) := pk_div (d := 6) (by omega) (by decide) (by decide)
  rw [e]
  exact pk_rem (d := 6) (by omega) (by decide) (by decide)
theorem tr_c3 {n : Nat} (h : n < 216) : nI n - nI n / 6 * 6 = nI (n % 6) := pk_rem (d := 6) (by omega) (by decide) (by decide)
theorem tr_x16 {i : Nat} (h : i < 256) : nI i - nI i / 16 * 16 = nI (i % 16) := pk_rem (d := 16) (by omega) (by decide) (by decide)
theorem tr_y16 {i : Nat} (h : i < 256) : nI i / 16 = nI (i / 16) := pk_div (d := 16) (by omega) (by decide) (by decide)
theorem tr_co_of {m : Nat} (h : m < 384) : tr_co (nI m - 64) := by
  have e : (64 : Int32).toInt = 64 := by decide
  have f : (nI m - 64).toInt = (nI m).toInt - (64 : Int32).toInt := tr_subI (by rw [nI_toInt (by omega), e]; omega)
  unfold tr_co
  rw [f, nI_toInt (by omega), e]
  omega
theorem tr_px384 {n : Nat} (h : n ≤ 147455) : nI n - nI n / 384 * 384 = nI (n % 384) := pk_rem (d := 384) (by omega) (by decide) (by decide)
theorem tr_py384 {n : Nat} (h : n ≤ 147455) : nI n / 384 = nI (n / 384) := pk_div (d := 384) (by omega) (by decide) (by decide)
theorem tr_sub64 (x : Int32) : x + (-64) = x - 64 := (Int32.sub_eq_add_neg x 64).symm
/-- between 0 and a literal -/
theorem tr_rng {v g : Int32} {n : Nat} (hg : g.toInt = (n : Int)) (h : 0 ≤ v ∧ v ≤ g) : ∃ j : Nat, j ≤ n ∧ v = nI j := by
  have z : (0 : Int32).toInt = 0 := by decide
  have h1 := Int32.le_iff_toInt_le.mp h.1
  have h2 := Int32.le_iff_toInt_le.mp h.2
  rw [z] at h1
  rw [hg] at h2
  exact tr_nat ⟨h1, h2⟩
section
variable {cX cY cD cC cU cV ce ru C D M : Nat → Int32} {l r t b hc : Int32} {a1 a2 a3 x y : Int32} {i : Nat} {s : tr_S}
theorem tr_px_0 (h : tr_pm (ru 3) (ru 5) (M i) = 0) : tr_px cX cY cD cC cU cV ce ru a1 a2 a3 i x y (C, D, M, hc) = (C, D, M, hc) := by
  unfold tr_px
  exact if_pos h
theorem tr_px_1 (h : ¬ tr_pm (ru 3) (ru 5) (M i) = 0) (h2 : tr_pd (ru 0) (tr_num cX cY cD a1 a2 a3 x y) (D i) = 0) : tr_px cX cY cD cC cU cV ce ru a1 a2 a3 i x y (C, D, M, hc) = (C, D, M, hc) := by
  unfold tr_px
  exact (if_neg h).trans (if_pos h2)
theorem tr_px_2 (h : ¬ tr_pm (ru 3) (ru 5) (M i) = 0) (h2 : ¬ tr_pd (ru 0) (tr_num cX cY cD a1 a2 a3 x y) (D i) = 0) : tr_px cX cY cD cC cU cV ce ru a1 a2 a3 i x y (C, D, M, hc) = (upd C i (tr_col cX cY cC cU cV ce ru a1 a2 a3 x y (C i)), (if ru 1 = 1 then upd D i (tr_num cX cY cD a1 a2 a3 x y) else D), upd M i (tr_chm (ru 4) (ru 5) (M i)), hc + 1) := by
  unfold tr_px
  exact (if_neg h).trans (if_neg h2)
theorem tr_step_0 {p q : Nat} (ex : i % 16 = p) (ey : i / 16 = q) (h : tr_win l r t b (nI p) (nI q) = 0) : tr_step cX cY cD cC cU cV ce ru l r t b a1 a2 a3 i s = s := by
  subst ex ey
  unfold tr_step
  exact if_pos h
theorem tr_step_1 {p q : Nat} (ex : i % 16 = p) (ey : i / 16 = q) (h : ¬ tr_win l r t b (nI p) (nI q) = 0) (h2 : tr_cov cX cY a1 a2 a3 (nI p) (nI q) = 0) : tr_step cX cY cD cC cU cV ce ru l r t b a1 a2 a3 i s = s := by
  subst ex ey
  unfold tr_step
  exact (if_neg h).trans (if_pos h2)
theorem tr_step_2 {p q : Nat} (ex : i % 16 = p) (ey : i / 16 = q) (h : ¬ tr_win l r t b (nI p) (nI q) = 0) (h2 : ¬ tr_cov cX cY a1 a2 a3 (nI p) (nI q) = 0) : tr_step cX cY cD cC cU cV ce ru l r t b a1 a2 a3 i s = tr_px cX cY cD cC cU cV ce ru a1 a2 a3 i (nI p) (nI q) s := by
  subst ex ey
  unfold tr_step
  exact (if_neg h).trans (if_neg h2)
end
theorem tr_uv {u v : Int32} (hu : ∃ m : Nat, m ≤ 127 ∧ u = nI m) (hv : ∃ m : Nat, m ≤ 127 ∧ v = nI m) : vp_in (8 * (v / 16) + u / 16) 64 ∧ (0 ≤ u ∧ u ≤ 127) ∧ (0 ≤ v ∧ v ≤ 127) := by
  obtain ⟨m, hm, rfl⟩ := hu
  obtain ⟨n, hn, rfl⟩ := hv
  have e : (8 : Int32) * (nI n / 16) + nI m / 16 = nI (8 * (n / 16) + m / 16) := by
    show nI 8 * (nI n / nI 16) + nI m / nI 16 = _
    rw [pk_div (by omega) (by decide) (by decide), pk_div (by omega) (by decide) (by decide), pk_mul, nI_add]
  rw [e]
  exact ⟨vp_in_nI (by omega) (by decide), ⟨nI_pos' (by omega), nI_le (b := 127) (by omega) (by decide)⟩, ⟨nI_pos' (by omega), nI_le (b := 127) (by omega) (by decide)⟩⟩
theorem tr_ix {x y : Nat} (hx : x < 16) (hy : y < 16) : (16 : Int32) * nI y + nI x = nI (16 * y + x) := by
  show nI 16 * nI y + nI x = _
  rw [pk_mul, nI_add]
end
section
/-! X: small methods -/
theorem tr_i {c A B : Prop} {h0 : Decidable c} {P : Int32 → Prop} {x y : Int32} (h : P (if c then x else y)) (hA : P x → A) (hB : P y → B) : (c → A) ∧ (¬ c → B) :=
  ⟨fun z => hA (by rw [if_pos z] at h; exact h), fun z => hB (by rw [if_neg z] at h; exact h)⟩
theorem tr_v {P : Int32 → Prop} {a b : Int32} (e : a = b) (h : P a) : P b := e ▸ h
theorem tr_10 : ¬ (1 : Int32) = 0 := by decide
theorem tr_n36 : ¬ (36 : Int32) = 0 := by decide
theorem tr_n6 : ¬ (6 : Int32) = 0 := by decide
theorem tr_n16 : ¬ (16 : Int32) = 0 := by decide
theorem tr_n2 : ¬ (2 : Int32) = 0 := by decide
theorem tr_n255 : ¬ (255 : Int32) = 0 := by decide
theorem tr_n256 : ¬ (256 : Int32) = 0 := by decide
theorem tr_n384 : ¬ (384 : Int32) = 0 := by decide
theorem tr_n4096 : ¬ (4096 : Int32) = 0 := by decide
def tr_bt (v g : Int32) : Prop := 0 ≤ v ∧ v ≤ g
theorem tr_bt_n {v g : Int32} {n : Nat} (h : tr_bt v g) (hg : g.toInt = (n : Int) := by decide) : ∃ j : Nat, j ≤ n ∧ v = nI j := tr_rng hg h
theorem tx_w {v g : Int32} {A K : Prop} (h1 : tr_bt v g → K) (h0 : ¬ tr_bt v g → A) : wpX_isWithin (fun r => (r = 0 → A) ∧ (¬ r = 0 → K)) v g := by
  unfold wpX_isWithin
  exact ⟨fun c => br_t rfl (h0 fun z => Int32.not_lt.mpr z.1 c), fun c => ⟨fun d => br_t rfl (h0 fun z => Int32.not_lt.mpr z.2 d), fun d => br_f tr_10 (h1 ⟨Int32.not_lt.mp c, Int32.not_lt.mp d⟩)⟩⟩
theorem tx_part {post : Int32 → Prop} {x s : Int32} (h : post (tr_part x s)) : wpX_part post x s := h
theorem tr_lo {k j : Int32} (c : k < 1) (h : ¬ j < 1) : ¬ k = j := fun e => h (e ▸ c)
theorem tr_hi {k j m : Int32} (c : m < k) (h : ¬ m < j) : ¬ k = j := fun e => h (e ▸ c)
section
variable {post : Int32 → Prop} {fl fr ft fb hc : Int32} {C D M ce cX cY cD cR cG cB cU cV ru : Nat → Int32}
theorem tx_side {p q x y : Int32} (hp : vp_in p 6) (hq : vp_in q 6) (h : post (tr_side (cX p.toNatClampNeg) (cY p.toNatClampNeg) (cX q.toNatClampNeg) (cY q.toNatClampNeg) x y)) : wpX_sideOf post (fl, fr, ft, fb, hc, C, D, M, ce, cX, cY, cD, cR, cG, cB, cU, cV, ru) p q x y := by
  unfold wpX_sideOf
  exact ⟨hp, nm_e ⟨hp, nm_e ⟨hq, hq, h⟩⟩⟩
theorem tx_weight {p q x y : Int32} (hp : vp_in p 6) (hq : vp_in q 6) (h : post (tr_w cX cY p q x y)) : wpX_weightAt post (fl, fr, ft, fb, hc, C, D, M, ce, cX, cY, cD, cR, cG, cB, cU, cV, ru) p q x y := by
  unfold wpX_weightAt
  exact tx_side hp hq h
theorem tx_area {a b c : Int32} (ha : vp_in a 6) (hb : vp_in b 6) (h3 : vp_in c 6) (h : post (tr_ar cX cY a b c)) : wpX_areaOf post (fl, fr, ft, fb, hc, C, D, M, ce, cX, cY, cD, cR, cG, cB, cU, cV, ru) a b c := by
  unfold wpX_areaOf
  exact ⟨h3, h3, tx_side ha hb h⟩
theorem tx_inside {p q w : Int32} (hp : vp_in p 6) (hq : vp_in q 6) (h : post (tr_in cX cY p q w)) : wpX_isInside post (fl, fr, ft, fb, hc, C, D, M, ce, cX, cY, cD, cR, cG, cB, cU, cV, ru) p q w := by
  unfold tr_in at h
  unfold wpX_isInside
  exact tr_i h (fun h => ⟨hq, hp, tr_i h (fun h => ⟨hq, hp, tr_i h id id⟩) (fun h => ⟨hq, hp, tr_i h id id⟩)⟩) (fun h => tr_i h id id)
theorem tx_covers {a b c x y : Int32} (ha : vp_in a 6) (hb : vp_in b 6) (h3 : vp_in c 6) (h : post (tr_cov cX cY a b c x y)) : wpX_covers post (fl, fr, ft, fb, hc, C, D, M, ce, cX, cY, cD, cR, cG, cB, cU, cV, ru) a b c x y := by
  unfold tr_cov at h
  unfold wpX_covers
  refine tx_weight hb h3 (tx_weight h3 ha (tx_weight ha hb (tx_inside hb h3 ?_)))
  exact tr_i h id (fun h => tx_inside h3 ha (tr_i h id (fun h => tx_inside ha hb (tr_i h id id))))
theorem tx_win {x y : Int32} (h : post (tr_win fl fr ft fb x y)) : wpX_isInWindow post (fl, fr, ft, fb, hc, C, D, M, ce, cX, cY, cD, cR, cG, cB, cU, cV, ru) x y := by
  unfold tr_win at h
  unfold wpX_isInWindow
  exact tr_i h id (fun h => tr_i h id (fun h => tr_i h id (fun h => tr_i h id id)))
theorem tx_pm {m : Int32} (h : post (tr_pm (ru 3) (ru 5) m)) : wpX_passesMarkTest post (fl, fr, ft, fb, hc, C, D, M, ce, cX, cY, cD, cR, cG, cB, cU, cV, ru) m := by
  unfold tr_pm at h
  unfold wpX_passesMarkTest
  exact nm_e (tr_i h (fun h => tr_i h id id) (fun h => tr_i h (fun h => tr_i h id id) id))
theorem tr_pd_o {k e d : Int32} (h1 : ¬ k = 1) (h2 : ¬ k = 2) (h3 : ¬ k = 3) : tr_pd k e d = 0 := by
  unfold tr_pd
  rw [if_neg h2, if_neg h3, if_neg h1]
theorem tr_pd_1 {k e d : Int32} (h1 : k = 1) : tr_pd k e d = 1 := by
  subst h1
  rfl
theorem tr_pd_2 {k e d : Int32} (h1 : k = 2) : tr_pd k e d = if d ≤ e then 0 else 1 := by
  subst h1
  rfl
theorem tr_pd_3 {k e d : Int32} (h1 : k = 3) : tr_pd k e d = if d < e then 0 else 1 := by
  subst h1
  rfl
theorem tx_pd {e d : Int32} (h : post (tr_pd (ru 0) e d)) : wpX_passesDepthTest post (fl, fr, ft, fb, hc, C, D, M, ce, cX, cY, cD, cR, cG, cB, cU, cV, ru) e d := by
  unfold wpX_passesDepthTest
  refine nm_e ⟨fun c => ?_, fun _ => ⟨fun c => ?_, fun _ => ⟨fun c => ?_, fun _ => ⟨fun c => ?_, fun _ => ⟨fun c => ?_, fun _ => trivial⟩⟩⟩⟩⟩
  · exact tr_v (tr_pd_o (tr_lo c (by decide)) (tr_lo c (by decide)) (tr_lo c (by decide))) h
  · exact tr_v (tr_pd_o (tr_hi c (by decide)) (tr_hi c (by decide)) (tr_hi c (by decide))) h
  · exact tr_v (tr_pd_1 c) h
  · exact tr_i (tr_v (tr_pd_2 c) h) id id
  · exact tr_i (tr_v (tr_pd_3 c) h) id id
theorem tr_chm_o {k r5 m : Int32} (h1 : ¬ k = 1) (h2 : ¬ k = 2) (h3 : ¬ k = 3) : tr_chm k r5 m = m := by
  unfold tr_chm
  rw [if_neg h1, if_neg h2, if_neg h3]
theorem tr_chm_1 {k r5 m : Int32} (h1 : k = 1) : tr_chm k r5 m = r5 := by
  subst h1
  rfl
theorem tr_chm_2 {k r5 m : Int32} (h1 : k = 2) : tr_chm k r5 m = if m = 15 then 0 else m + 1 := by
  subst h1
  rfl
theorem tr_chm_3 {k r5 m : Int32} (h1 : k = 3) : tr_chm k r5 m = m ^^^ r5 := by
  subst h1
  rfl
theorem tx_chm {m : Int32} (h : post (tr_chm (ru 4) (ru 5) m)) : wpX_changedMark post (fl, fr, ft, fb, hc, C, D, M, ce, cX, cY, cD, cR, cG, cB, cU, cV, ru) m := by
  unfold wpX_changedMark
  refine nm_e ⟨fun c => ?_, fun _ => ⟨fun c => ?_, fun _ => ⟨fun c => ?_, fun _ => ⟨fun c => ?_, fun _ => ⟨fun c => ?_, fun _ => trivial⟩⟩⟩⟩⟩
  · exact tr_v (tr_chm_o (tr_lo c (by decide)) (tr_lo c (by decide)) (tr_lo c (by decide))) h
  · exact tr_v (tr_chm_o (tr_hi c (by decide)) (tr_hi c (by decide)) (tr_hi c (by decide))) h
  · exact tr_v (tr_chm_1 c) h
  · exact tr_i (tr_v (tr_chm_2 c) h) id id
  · exact tr_v (tr_chm_3 c) h
theorem tr_mix_o {k s t : Int32} (h1 : ¬ k = 1) (h2 : ¬ k = 2) (h3 : ¬ k = 3) (h4 : ¬ k = 4) : tr_mix k s t = s := by
  unfold tr_mix
  rw [if_neg h1, if_neg h2, if_neg h3, if_neg h4]
theorem tr_mix_1 {k s t : Int32} (h1 : k = 1) : tr_mix k s t = if s + t ≤ 255 then s + t else 255 := by
  subst h1
  rfl
theorem tr_mix_2 {k s t : Int32} (h1 : k = 2) : tr_mix k s t = (s + t) / 2 := by
  subst h1
  rfl
theorem tr_mix_3 {k s t : Int32} (h1 : k = 3) : tr_mix k s t = s * t / 255 := by
  subst h1
  rfl
theorem tr_mix_4 {k s t : Int32} (h1 : k = 4) : tr_mix k s t = t := by
  subst h1
  rfl
theorem tx_mix {n ce1 old s : Int32} (h : post (tr_mix (ru 2) (n * tr_part ce1 s / 255) (tr_part old s))) : wpX_mixedPart post (fl, fr, ft, fb, hc, C, D, M, ce, cX, cY, cD, cR, cG, cB, cU, cV, ru) n ce1 old s := by
  unfold wpX_mixedPart
  refine tx_part (tx_part ⟨tr_n255, nm_e (nm_e ⟨fun c => ?_, fun _ => ⟨fun c => ?_, fun _ => ⟨fun c => ?_, fun _ => ⟨fun c => ?_, fun _ => ⟨fun c => ?_, fun _ => ⟨fun c => ?_, fun _ => trivial⟩⟩⟩⟩⟩⟩)⟩)
  · exact tr_v (tr_mix_o (tr_lo c (by decide)) (tr_lo c (by decide)) (tr_lo c (by decide)) (tr_lo c (by decide))) h
  · exact tr_v (tr_mix_o (tr_hi c (by decide)) (tr_hi c (by decide)) (tr_hi c (by decide)) (tr_hi c (by decide))) h
  · exact tr_i (tr_v (tr_mix_1 c) h) id id
  · exact ⟨tr_n2, tr_v (tr_mix_2 c) h⟩
  · exact ⟨tr_n255, tr_v (tr_mix_3 c) h⟩
  · exact tr_v (tr_mix_4 c) h
theorem tr_ne0 {x : Int32} (h : 0 < x) : ¬ x = 0 := fun e => by
  rw [e] at h
  exact absurd h (by decide)
theorem tx_numRed {a b c x y : Int32} (ha : vp_in a 6) (hb : vp_in b 6) (h3 : vp_in c 6) (hs : 0 < tr_ar cX cY a b c) (h : post (tr_num cX cY cR a b c x y)) : wpX_numberAt__cornerRed post (fl, fr, ft, fb, hc, C, D, M, ce, cX, cY, cD, cR, cG, cB, cU, cV, ru) a b c (tr_w cX cY b c x y) (tr_w cX cY c a x y) (tr_w cX cY a b x y) := by
  unfold wpX_numberAt__cornerRed
  exact nm_r (tr_wsum cX cY a b c x y) (br_t hs ⟨ha, hb, h3, tr_ne0 hs, h⟩)
theorem tx_numGreen {a b c x y : Int32} (ha : vp_in a 6) (hb : vp_in b 6) (h3 : vp_in c 6) (hs : 0 < tr_ar cX cY a b c) (h : post (tr_num cX cY cG a b c x y)) : wpX_numberAt__cornerGreen post (fl, fr, ft, fb, hc, C, D, M, ce, cX, cY, cD, cR, cG, cB, cU, cV, ru) a b c (tr_w cX cY b c x y) (tr_w cX cY c a x y) (tr_w cX cY a b x y) := by
  unfold wpX_numberAt__cornerGreen
  exact nm_r (tr_wsum cX cY a b c x y) (br_t hs ⟨ha, hb, h3, tr_ne0 hs, h⟩)
theorem tx_numBlue {a b c x y : Int32} (ha : vp_in a 6) (hb : vp_in b 6) (h3 : vp_in c 6) (hs : 0 < tr_ar cX cY a b c) (h : post (tr_num cX cY cB a b c x y)) : wpX_numberAt__cornerBlue post (fl, fr, ft, fb, hc, C, D, M, ce, cX, cY, cD, cR, cG, cB, cU, cV, ru) a b c (tr_w cX cY b c x y) (tr_w cX cY c a x y) (tr_w cX cY a b x y) := by
  unfold wpX_numberAt__cornerBlue
  exact nm_r (tr_wsum cX cY a b c x y) (br_t hs ⟨ha, hb, h3, tr_ne0 hs, h⟩)
theorem tx_numU {a b c x y : Int32} (ha : vp_in a 6) (hb : vp_in b 6) (h3 : vp_in c 6) (hs : 0 < tr_ar cX cY a b c) (h : post (tr_num cX cY cU a b c x y)) : wpX_numberAt__cornerU post (fl, fr, ft, fb, hc, C, D, M, ce, cX, cY, cD, cR, cG, cB, cU, cV, ru) a b c (tr_w cX cY b c x y) (tr_w cX cY c a x y) (tr_w cX cY a b x y) := by
  unfold wpX_numberAt__cornerU
  exact nm_r (tr_wsum cX cY a b c x y) (br_t hs ⟨ha, hb, h3, tr_ne0 hs, h⟩)
theorem tx_numV {a b c x y : Int32} (ha : vp_in a 6) (hb : vp_in b 6) (h3 : vp_in c 6) (hs : 0 < tr_ar cX cY a b c) (h : post (tr_num cX cY cV a b c x y)) : wpX_numberAt__cornerV post (fl, fr, ft, fb, hc, C, D, M, ce, cX, cY, cD, cR, cG, cB, cU, cV, ru) a b c (tr_w cX cY b c x y) (tr_w cX cY c a x y) (tr_w cX cY a b x y) := by
  unfold wpX_numberAt__cornerV
  exact nm_r (tr_wsum cX cY a b c x y) (br_t hs ⟨ha, hb, h3, tr_ne0 hs, h⟩)
theorem tx_numDepth {a b c x y : Int32} (ha : vp_in a 6) (hb : vp_in b 6) (h3 : vp_in c 6) (hs : 0 < tr_ar cX cY a b c) (h : post (tr_num cX cY cD a b c x y)) : wpX_numberAt__cornerDepth post (fl, fr, ft, fb, hc, C, D, M, ce, cX, cY, cD, cR, cG, cB, cU, cV, ru) a b c (tr_w cX cY b c x y) (tr_w cX cY c a x y) (tr_w cX cY a b x y) := by
  unfold wpX_numberAt__cornerDepth
  exact nm_r (tr_wsum cX cY a b c x y) (br_t hs ⟨ha, hb, h3, tr_ne0 hs, h⟩)
end
end
section
/-! Y: small methods -/
section
variable {post : Int32 → Prop} {hc bx o1 o2 o3 ar w1 w2 w3 : Int32} {C D M ce cX cY cD cC cU cV ru : Nat → Int32}
theorem ty_side {a b c d e f : Int32} (h : post (tr_side a b c d e f)) : wpY_side post (hc, bx, o1, o2, o3, ar, w1, w2, w3, C, D, M, ce, cX, cY, cD, cC, cU, cV, ru) a b c d e f := by
  unfold wpY_side
  exact h
theorem ty_sideOf {p q x y : Int32} (hp : vp_in p 6) (hq : vp_in q 6) (h : post (tr_w cX cY p q x y)) : wpY_sideOf post (hc, bx, o1, o2, o3, ar, w1, w2, w3, C, D, M, ce, cX, cY, cD, cC, cU, cV, ru) p q x y := by
  unfold wpY_sideOf
  exact ⟨hp, hp, hq, hq, ty_side h⟩
theorem ty_inside {p q w : Int32} (hp : vp_in p 6) (hq : vp_in q 6) (h : post (tr_in cX cY p q w)) : wpY_isInside post (hc, bx, o1, o2, o3, ar, w1, w2, w3, C, D, M, ce, cX, cY, cD, cC, cU, cV, ru) p q w := by
  unfold tr_in at h
  unfold wpY_isInside
  exact tr_i h (fun h => ⟨hq, hp, tr_i h (fun h => ⟨hq, hp, tr_i h id id⟩) (fun h => ⟨hq, hp, tr_i h id id⟩)⟩) (fun h => tr_i h id id)
theorem ty_win {x y : Int32} (h : post (tr_win (bx / 4096) (bx / 256 - bx / 256 / 16 * 16) (bx / 16 - bx / 16 / 16 * 16) (bx - bx / 16 * 16) x y)) : wpY_isInWindow post (hc, bx, o1, o2, o3, ar, w1, w2, w3, C, D, M, ce, cX, cY, cD, cC, cU, cV, ru) x y := by
  unfold tr_win at h
  unfold wpY_isInWindow
  exact ⟨tr_n4096, tr_i h id (fun h => ⟨tr_n256, tr_n16, tr_i h id (fun h => ⟨tr_n16, tr_n16, tr_i h id (fun h => ⟨tr_n16, tr_i h id id⟩)⟩)⟩)⟩
theorem ty_mean {a b c : Int32} (h0 : ¬ ar = 0) (h : post ((w1 * a + w2 * b + w3 * c) / ar)) : wpY_mean post (hc, bx, o1, o2, o3, ar, w1, w2, w3, C, D, M, ce, cX, cY, cD, cC, cU, cV, ru) a b c := by
  unfold wpY_mean wY_mean_15
  exact br_f h0 ⟨h0, h⟩
theorem ty_54 {i e : Int32} (hi : vp_in i 256) (h : post (tr_pd (ru 0) e (D i.toNatClampNeg))) : wY_passes_54 post i e hc bx o1 o2 o3 ar w1 w2 w3 C D M ce cX cY cD cC cU cV ru := by
  unfold tr_pd at h
  unfold wY_passes_54
  exact tr_i h (fun h => ⟨hi, tr_i h id id⟩) (fun h => tr_i h (fun h => ⟨hi, tr_i h id id⟩) (fun h => tr_i h id id))
theorem ty_passes {i e : Int32} (hi : vp_in i 256) (h : post (if tr_pm (ru 3) (ru 5) (M i.toNatClampNeg) = 0 then 0 else tr_pd (ru 0) e (D i.toNatClampNeg))) : wpY_passes post (hc, bx, o1, o2, o3, ar, w1, w2, w3, C, D, M, ce, cX, cY, cD, cC, cU, cV, ru) i e := by
  unfold wpY_passes
  by_cases c1 : ru 3 = 1
  · by_cases c2 : M i.toNatClampNeg = ru 5
    · have e1 : ¬ tr_pm (ru 3) (ru 5) (M i.toNatClampNeg) = 0 := by
        unfold tr_pm
        rw [if_pos c1, if_pos c2]
        exact tr_10
      rw [if_neg e1] at h
      have c3 : ¬ ru 3 = 2 := by rw [c1]; decide
      exact br_t c1 ⟨hi, br_t c2 (br_f c3 (ty_54 hi h))⟩
    · have e1 : tr_pm (ru 3) (ru 5) (M i.toNatClampNeg) = 0 := by
        unfold tr_pm
        rw [if_pos c1, if_neg c2]
      rw [if_pos e1] at h
      exact br_t c1 ⟨hi, br_f c2 h⟩
  · refine br_f c1 ?_
    unfold wY_passes_27
    by_cases c3 : ru 3 = 2
    · by_cases c2 : M i.toNatClampNeg = ru 5
      · have e1 : tr_pm (ru 3) (ru 5) (M i.toNatClampNeg) = 0 := by
          unfold tr_pm
          rw [if_neg c1, if_pos c3, if_pos c2]
        rw [if_pos e1] at h
        exact br_t c3 ⟨hi, br_t c2 h⟩
      · have e1 : ¬ tr_pm (ru 3) (ru 5) (M i.toNatClampNeg) = 0 := by
          unfold tr_pm
          rw [if_neg c1, if_pos c3, if_neg c2]
          exact tr_10
        rw [if_neg e1] at h
        exact br_t c3 ⟨hi, br_f c2 (ty_54 hi h)⟩
    · have e1 : ¬ tr_pm (ru 3) (ru 5) (M i.toNatClampNeg) = 0 := by
        unfold tr_pm
        rw [if_neg c1, if_neg c3]
        exact tr_10
      rw [if_neg e1] at h
      exact br_f c3 (ty_54 hi h)
theorem tr_mix_0 {k s t : Int32} (h : k = 0) : tr_mix k s t = s := by
  subst h
  rfl
theorem tr_q4 {k : Int32} (hk : ∃ q : Nat, q ≤ 4 ∧ k = nI q) (h0 : ¬ k = 0) (h1 : ¬ k = 1) (h2 : ¬ k = 2) (h3 : ¬ k = 3) : k = 4 := by
  obtain ⟨q, hq, rfl⟩ := hk
  match q, hq with
  | 0, _ => exact absurd rfl h0
  | 1, _ => exact absurd rfl h1
  | 2, _ => exact absurd rfl h2
  | 3, _ => exact absurd rfl h3
  | 4, _ => rfl
theorem ty_mix {s t : Int32} (hk : ∃ q : Nat, q ≤ 4 ∧ ru 2 = nI q) (h : post (tr_mix (ru 2) s t)) : wpY_mix post (hc, bx, o1, o2, o3, ar, w1, w2, w3, C, D, M, ce, cX, cY, cD, cC, cU, cV, ru) s t := by
  unfold wpY_mix
  refine ⟨fun c => ?_, fun c0 => ⟨fun c => ?_, fun c1 => ⟨fun c => ?_, fun c2 => ⟨fun c => ?_, fun c3 => ?_⟩⟩⟩⟩
  · exact tr_v (tr_mix_0 c) h
  · exact tr_i (tr_v (tr_mix_1 c) h) id id
  · exact ⟨tr_n2, tr_v (tr_mix_2 c) h⟩
  · exact ⟨tr_n255, tr_v (tr_mix_3 c) h⟩
  · exact tr_v (tr_mix_4 (tr_q4 hk c0 c1 c2 c3)) h
theorem ty_159 {i s v : Int32} (hi : vp_in i 256) (hk : ∃ q : Nat, q ≤ 4 ∧ ru 2 = nI q) (h : post (tr_mix (ru 2) v (tr_part (C i.toNatClampNeg) s))) : wY_part_159 post i s v hc bx o1 o2 o3 ar w1 w2 w3 C D M ce cX cY cD cC cU cV ru := by
  unfold wY_part_159
  exact ⟨hi, ty_mix hk h⟩
end
theorem ty_covers0 {post : Int32 → SY → Prop} {hc bx o1 o2 o3 ar w1 w2 w3 : Int32} {C D M ce cX cY cD cC cU cV ru : Nat → Int32} {x y : Int32} (h0 : ar = 0) (h : post 0 (hc, bx, o1, o2, o3, ar, w1, w2, w3, C, D, M, ce, cX, cY, cD, cC, cU, cV, ru)) : wpY_covers post (hc, bx, o1, o2, o3, ar, w1, w2, w3, C, D, M, ce, cX, cY, cD, cC, cU, cV, ru) x y := by
  unfold wpY_covers
  exact br_t h0 h
theorem ty_covers {post : Int32 → SY → Prop} {hc bx o1 o2 o3 ar w1 w2 w3 : Int32} {C D M ce cX cY cD cC cU cV ru : Nat → Int32} {x y : Int32} (h1 : vp_in o1 6) (h2 : vp_in o2 6) (h3 : vp_in o3 6) (h0 : ¬ ar = 0)
    (h : post (tr_cov cX cY o1 o2 o3 x y) (hc, bx, o1, o2, o3, ar, (tr_w cX cY o2 o3 x y), (tr_w cX cY o3 o1 x y), (tr_w cX cY o1 o2 x y), C, D, M, ce, cX, cY, cD, cC, cU, cV, ru)) : wpY_covers post (hc, bx, o1, o2, o3, ar, w1, w2, w3, C, D, M, ce, cX, cY, cD, cC, cU, cV, ru) x y := by
  unfold tr_cov at h
  unfold wpY_covers
  refine br_f h0 (ty_sideOf h2 h3 (ty_sideOf h3 h1 (ty_sideOf h1 h2 (ty_inside h2 h3 ?_))))
  refine tr_i (P := fun r => post r (hc, bx, o1, o2, o3, ar, (tr_w cX cY o2 o3 x y), (tr_w cX cY o3 o1 x y), (tr_w cX cY o1 o2 x y), C, D, M, ce, cX, cY, cD, cC, cU, cV, ru)) h id (fun h => ty_inside h3 h1 ?_)
  refine tr_i (P := fun r => post r (hc, bx, o1, o2, o3, ar, (tr_w cX cY o2 o3 x y), (tr_w cX cY o3 o1 x y), (tr_w cX cY o1 o2 x y), C, D, M, ce, cX, cY, cD, cC, cU, cV, ru)) h id (fun h => ty_inside h1 h2 ?_)
  exact tr_i (P := fun r => post r (hc, bx, o1, o2, o3, ar, (tr_w cX cY o2 o3 x y), (tr_w cX cY o3 o1 x y), (tr_w cX cY o1 o2 x y), C, D, M, ce, cX, cY, cD, cC, cU, cV, ru)) h id id
end
section
/-! X: one pixel -/
section
variable {fl fr ft fb hc : Int32} {C D M ce cX cY cD cR cG cB cU cV ru : Nat → Int32} {cC : Nat → Int32} {a b c : Int32} {x y : Nat}
theorem tr_pos {k : Int32} (h : 0 < k) : 0 < k.toInt := by
  have z : (0 : Int32).toInt = 0 := by decide
  have := Int32.lt_iff_toInt_lt.mp h
  omega
theorem tx_115 {post : Int32 → Prop} {u v old ce1 : Int32} (he : ce1 = tr_cell cX cY cU cV ce ru a b c u v) (h : post (tr_col cX cY cC cU cV ce ru a b c u v old)) :
    wX_paintedColour_115 post old (tr_num cX cY (tr_pt cC 16) a b c u v) (tr_num cX cY (tr_pt cC 8) a b c u v) (tr_num cX cY (tr_pt cC 0) a b c u v) ce1 fl fr ft fb hc C D M ce cX cY cD (tr_pt cC 16) (tr_pt cC 8) (tr_pt cC 0) cU cV ru := by
  subst he
  unfold tr_col tr_one at h
  unfold wX_paintedColour_115
  exact tx_mix (tx_mix (tx_mix h))
theorem tx_paint {post : Int32 → Prop} {old : Int32} (hX : tr_bc cX) (hY : tr_bc cY) (hU : tr_b 127 cU) (hV : tr_b 127 cV) (ha : vp_in a 6) (hb : vp_in b 6) (h3 : vp_in c 6) (hx : x < 16) (hy : y < 16) (hs : 0 < tr_ar cX cY a b c) (hv : ¬ tr_cov cX cY a b c (nI x) (nI y) = 0)
    (h : post (tr_col cX cY cC cU cV ce ru a b c (nI x) (nI y) old)) :
    wpX_paintedColour post (fl, fr, ft, fb, hc, C, D, M, ce, cX, cY, cD, (tr_pt cC 16), (tr_pt cC 8), (tr_pt cC 0), cU, cV, ru) a b c (tr_w cX cY b c (nI x) (nI y)) (tr_w cX cY c a (nI x) (nI y)) (tr_w cX cY a b (nI x) (nI y)) old := by
  unfold wpX_paintedColour
  refine tx_numRed ha hb h3 hs (tx_numGreen ha hb h3 hs (tx_numBlue ha hb h3 hs ?_))
  by_cases c7 : ru 7 = 1
  · refine br_t c7 (tx_numU ha hb h3 hs (tx_numV ha hb h3 hs ?_))
    obtain ⟨g1, g2, g3⟩ := tr_uv (tr_num_b hX hY hx hy hv (tr_pos hs) (N := 127) (by decide) hU) (tr_num_b hX hY hx hy hv (tr_pos hs) (N := 127) (by decide) hV)
    unfold wpX_cellColourAt
    refine tx_w (fun _ => tx_w (fun _ => ⟨tr_n16, tr_n16, g1, tx_115 ?_ h⟩) (fun z => absurd g3 z)) (fun z => absurd g2 z)
    unfold tr_cell
    rw [if_pos c7]
  · refine br_f c7 (tx_115 ?_ h)
    unfold tr_cell
    rw [if_neg c7]
theorem tx_pixel {post : SX → Prop} (hX : tr_bc cX) (hY : tr_bc cY) (hU : tr_b 127 cU) (hV : tr_b 127 cV) (ha : vp_in a 6) (hb : vp_in b 6) (h3 : vp_in c 6) (hx : x < 16) (hy : y < 16) (hs : 0 < tr_ar cX cY a b c) (hv : ¬ tr_cov cX cY a b c (nI x) (nI y) = 0)
    (K : ∀ (C' D' M' : Nat → Int32) (h' : Int32), (C', D', M', h') = tr_px cX cY cD cC cU cV ce ru a b c (16 * y + x) (nI x) (nI y) (C, D, M, hc) → post (fl, fr, ft, fb, h', C', D', M', ce, cX, cY, cD, (tr_pt cC 16), (tr_pt cC 8), (tr_pt cC 0), cU, cV, ru)) :
    wpX_drawPixel post (fl, fr, ft, fb, hc, C, D, M, ce, cX, cY, cD, (tr_pt cC 16), (tr_pt cC 8), (tr_pt cC 0), cU, cV, ru) a b c (nI x) (nI y) := by
  have hi : vp_in (nI (16 * y + x)) 256 := vp_in_nI (by omega) (by decide)
  have ei : (nI (16 * y + x)).toNatClampNeg = 16 * y + x := nI_clamp (by omega)
  unfold wpX_drawPixel
  refine tx_weight hb h3 (tx_weight h3 ha (tx_weight ha hb (nm_r (tr_ix hx hy) (tx_numDepth ha hb h3 hs ⟨hi, tx_pm ?_⟩))))
  rw [ei]
  by_cases c1 : tr_pm (ru 3) (ru 5) (M (16 * y + x)) = 0
  · exact br_t c1 (K _ _ _ _ (tr_px_0 c1).symm)
  refine br_f c1 ⟨hi, tx_pd ?_⟩
  by_cases c2 : tr_pd (ru 0) (tr_num cX cY cD a b c (nI x) (nI y)) (D (16 * y + x)) = 0
  · exact br_t c2 (K _ _ _ _ (tr_px_1 c1 c2).symm)
  have Q : ∀ D', D' = (if ru 1 = 1 then upd D (16 * y + x) (tr_num cX cY cD a b c (nI x) (nI y)) else D) → wX_drawPixel_142 post a b c (tr_w cX cY b c (nI x) (nI y)) (tr_w cX cY c a (nI x) (nI y)) (tr_w cX cY a b (nI x) (nI y)) (nI (16 * y + x)) fl fr ft fb (hc + 1) C D' (upd M (16 * y + x) (tr_chm (ru 4) (ru 5) (M (16 * y + x)))) ce cX cY cD (tr_pt cC 16) (tr_pt cC 8) (tr_pt cC 0) cU cV ru := by
    intro D' hD
    unfold wX_drawPixel_142
    rw [ei]
    refine ⟨hi, tx_paint hX hY hU hV ha hb h3 hx hy hs hv ⟨hi, nm_e (K _ _ _ _ ?_)⟩⟩
    rw [hD]
    exact (tr_px_2 c1 c2).symm
  refine br_f c2 (nm_e ⟨hi, tx_chm ⟨hi, nm_e ?_⟩⟩)
  by_cases c3 : ru 1 = 1
  · exact br_t c3 ⟨hi, nm_e (Q _ (if_pos c3).symm)⟩
  · exact br_f c3 (Q _ (if_neg c3).symm)
end
end
section
/-! X: loops -/
section
variable {fl fr ft fb hc : Int32} {C D M ce cX cY cD cR cG cB cU cV ru : Nat → Int32} {cC : Nat → Int32} {a b c : Int32}
theorem tx_13 {post : SX → Prop} {J3 : Int32 → Int32 → Int32 → Int32 → Int32 → Int32 → (Nat → Int32) → (Nat → Int32) → (Nat → Int32) → (Nat → Int32) → (Nat → Int32) → (Nat → Int32) → (Nat → Int32) → (Nat → Int32) → (Nat → Int32) → (Nat → Int32) → (Nat → Int32) → (Nat → Int32) → (Nat → Int32) → Prop} (hX : tr_bc cX) (hY : tr_bc cY) (hU : tr_b 127 cU) (hV : tr_b 127 cV) (ha : vp_in a 6) (hb : vp_in b 6) (h3 : vp_in c 6) (hs : 0 < tr_ar cX cY a b c) (s0 : tr_S) {y : Nat} (hy : y < 16)
    (HJ : ∀ (C D M : Nat → Int32) (hc : Int32), (C, D, M, hc) = tr_run cX cY cD cC cU cV ce ru fl fr ft fb a b c s0 (16 * (y + 1)) → J3 (nI (y + 1)) fl fr ft fb hc C D M ce cX cY cD (tr_pt cC 16) (tr_pt cC 8) (tr_pt cC 0) cU cV ru) :
    ∀ (d x : Nat), x + d = 16 → ∀ (C D M : Nat → Int32) (hc : Int32), (C, D, M, hc) = tr_run cX cY cD cC cU cV ce ru fl fr ft fb a b c s0 (16 * y + x) → wX_drawFromFront_13 post J3 a b c (nI y) (d + 1) (nI x) fl fr ft fb hc C D M ce cX cY cD (tr_pt cC 16) (tr_pt cC 8) (tr_pt cC 0) cU cV ru := by
  intro d
  induction d with
  | zero =>
    intro x hx C D M hc he
    obtain rfl : x = 16 := by omega
    exact br_t (nI_le (a := 16) (b := 16) (Nat.le_refl _) (by decide)) (nm_r (nI_1 y) (HJ _ _ _ _ he))
  | succ d ih =>
    intro x hx C D M hc he
    have hx' : x < 16 := by omega
    have c0 : ¬ (16 : Int32) ≤ nI x := nI_ge (b := 16) hx' (by decide)
    have ex : (16 * y + x) % 16 = x := by omega
    have ey : (16 * y + x) / 16 = y := by omega
    have E : ∀ s : tr_S, tr_step cX cY cD cC cU cV ce ru fl fr ft fb a b c (16 * y + x) (C, D, M, hc) = s → s = tr_run cX cY cD cC cU cV ce ru fl fr ft fb a b c s0 (16 * y + (x + 1)) := by
      intro s e
      show s = tr_step cX cY cD cC cU cV ce ru fl fr ft fb a b c (16 * y + x) (tr_run cX cY cD cC cU cV ce ru fl fr ft fb a b c s0 (16 * y + x))
      rw [← he, e]
    refine br_f c0 (tx_win ?_)
    by_cases cw : tr_win fl fr ft fb (nI x) (nI y) = 0
    · exact br_t cw (nm_r (nI_1 x) (ih (x + 1) (by omega) _ _ _ _ (E _ (tr_step_0 ex ey cw))))
    refine br_f cw (tx_covers ha hb h3 ?_)
    by_cases cv : tr_cov cX cY a b c (nI x) (nI y) = 0
    · exact br_t cv (nm_r (nI_1 x) (ih (x + 1) (by omega) _ _ _ _ (E _ (tr_step_1 ex ey cw cv))))
    refine br_f cv (tx_pixel hX hY hU hV ha hb h3 hx' hy hs cv ?_)
    intro C' D' M' h' e
    exact nm_r (nI_1 x) (ih (x + 1) (by omega) _ _ _ _ (E _ ((tr_step_2 ex ey cw cv).trans e.symm)))
theorem tx_3 {post : SX → Prop} (hX : tr_bc cX) (hY : tr_bc cY) (hU : tr_b 127 cU) (hV : tr_b 127 cV) (ha : vp_in a 6) (hb : vp_in b 6) (h3 : vp_in c 6) (hs : 0 < tr_ar cX cY a b c) (s0 : tr_S)
    (H : ∀ (C D M : Nat → Int32) (hc : Int32), (C, D, M, hc) = tr_run cX cY cD cC cU cV ce ru fl fr ft fb a b c s0 256 → post (fl, fr, ft, fb, hc, C, D, M, ce, cX, cY, cD, (tr_pt cC 16), (tr_pt cC 8), (tr_pt cC 0), cU, cV, ru)) :
    ∀ (d y : Nat), y + d = 16 → ∀ (C D M : Nat → Int32) (hc : Int32), (C, D, M, hc) = tr_run cX cY cD cC cU cV ce ru fl fr ft fb a b c s0 (16 * y) → wX_drawFromFront_3 post a b c (d + 1) (nI y) fl fr ft fb hc C D M ce cX cY cD (tr_pt cC 16) (tr_pt cC 8) (tr_pt cC 0) cU cV ru := by
  intro d
  induction d with
  | zero =>
    intro y hy C D M hc he
    obtain rfl : y = 16 := by omega
    exact br_t (nI_le (a := 16) (b := 16) (Nat.le_refl _) (by decide)) (H _ _ _ _ he)
  | succ d ih =>
    intro y hy C D M hc he
    have c0 : ¬ (16 : Int32) ≤ nI y := nI_ge (b := 16) (by omega) (by decide)
    exact br_f c0 ⟨17, tx_13 hX hY hU hV ha hb h3 hs s0 (by omega) (fun C D M hc e => ih (y + 1) (by omega) C D M hc e) 16 0 rfl C D M hc he⟩
theorem tx_front {post : SX → Prop} (hX : tr_bc cX) (hY : tr_bc cY) (hU : tr_b 127 cU) (hV : tr_b 127 cV) (ha : vp_in a 6) (hb : vp_in b 6) (h3 : vp_in c 6) (hs : 0 < tr_ar cX cY a b c)
    (H : ∀ (C' D' M' : Nat → Int32) (h' : Int32), (C', D', M', h') = tr_run cX cY cD cC cU cV ce ru fl fr ft fb a b c (C, D, M, hc) 256 → post (fl, fr, ft, fb, h', C', D', M', ce, cX, cY, cD, (tr_pt cC 16), (tr_pt cC 8), (tr_pt cC 0), cU, cV, ru)) :
    wpX_drawFromFront post (fl, fr, ft, fb, hc, C, D, M, ce, cX, cY, cD, (tr_pt cC 16), (tr_pt cC 8), (tr_pt cC 0), cU, cV, ru) a b c := by
  unfold wpX_drawFromFront
  exact ⟨17, tx_3 hX hY hU hV ha hb h3 hs (C, D, M, hc) H 16 0 rfl C D M hc rfl⟩
theorem tx_16 {post : Int32 → Prop} {J6 : Int32 → Int32 → Prop} (ha : vp_in a 6) (hb : vp_in b 6) (h3 : vp_in c 6) {y : Nat} (hy : y < 16) (HJ : J6 (tr_cnt cX cY a b c (16 * (y + 1))) (nI (y + 1))) :
    ∀ (d x : Nat), x + d = 16 → wX_countFromFront_16 post J6 a b c (nI y) fl fr ft fb hc C D M ce cX cY cD cR cG cB cU cV ru (d + 1) (tr_cnt cX cY a b c (16 * y + x)) (nI x) := by
  intro d
  induction d with
  | zero =>
    intro x hx
    obtain rfl : x = 16 := by omega
    exact br_t (nI_le (a := 16) (b := 16) (Nat.le_refl _) (by decide)) (nm_r (nI_1 y) HJ)
  | succ d ih =>
    intro x hx
    have c0 : ¬ (16 : Int32) ≤ nI x := nI_ge (b := 16) (by omega) (by decide)
    have ex : (16 * y + x) % 16 = x := by omega
    have ey : (16 * y + x) / 16 = y := by omega
    have E : tr_cnt cX cY a b c (16 * y + (x + 1)) = if tr_cov cX cY a b c (nI x) (nI y) = 0 then tr_cnt cX cY a b c (16 * y + x) else tr_cnt cX cY a b c (16 * y + x) + 1 := by
      show (if tr_cov cX cY a b c (nI ((16 * y + x) % 16)) (nI ((16 * y + x) / 16)) = 0 then _ else _) = _
      rw [ex, ey]
      rfl
    have K := ih (x + 1) (by omega)
    refine br_f c0 (tx_covers ha hb h3 ?_)
    by_cases cv : tr_cov cX cY a b c (nI x) (nI y) = 0
    · rw [E, if_pos cv] at K
      exact br_t cv (nm_r (nI_1 x) K)
    · rw [E, if_neg cv] at K
      exact br_f cv (nm_e (nm_r (nI_1 x) K))
theorem tx_6 {post : Int32 → Prop} (ha : vp_in a 6) (hb : vp_in b 6) (h3 : vp_in c 6) (H : post (tr_cnt cX cY a b c 256)) :
    ∀ (d y : Nat), y + d = 16 → wX_countFromFront_6 post a b c fl fr ft fb hc C D M ce cX cY cD cR cG cB cU cV ru (d + 1) (tr_cnt cX cY a b c (16 * y)) (nI y) := by
  intro d
  induction d with
  | zero =>
    intro y hy
    obtain rfl : y = 16 := by omega
    exact br_t (nI_le (a := 16) (b := 16) (Nat.le_refl _) (by decide)) H
  | succ d ih =>
    intro y hy
    have c0 : ¬ (16 : Int32) ≤ nI y := nI_ge (b := 16) (by omega) (by decide)
    exact br_f c0 ⟨17, tx_16 ha hb h3 (by omega) (ih (y + 1) (by omega)) 16 0 rfl⟩
theorem tx_count {post : Int32 → Prop} (ha : vp_in a 6) (hb : vp_in b 6) (h3 : vp_in c 6) (H : post (tr_cnt cX cY a b c 256)) : wpX_countFromFront post (fl, fr, ft, fb, hc, C, D, M, ce, cX, cY, cD, cR, cG, cB, cU, cV, ru) a b c := by
  unfold wpX_countFromFront
  exact ⟨17, tx_6 ha hb h3 H 16 0 rfl⟩
theorem tx_dig {post : Int32 → Prop} (H : post (tr_dig C D M 256)) : ∀ (d i : Nat), i + d = 256 → wX_digest_4 post fl fr ft fb hc C D M ce cX cY cD cR cG cB cU cV ru (d + 1) (tr_dig C D M i) (nI i) := by
  intro d
  induction d with
  | zero =>
    intro i hi
    obtain rfl : i = 256 := by omega
    exact br_t (nI_le (a := 256) (b := 256) (Nat.le_refl _) (by decide)) H
  | succ d ih =>
    intro i hi
    have c0 : ¬ (256 : Int32) ≤ nI i := nI_ge (b := 256) (by omega) (by decide)
    have w : vp_in (nI i) 256 := vp_in_nI (by omega) (by decide)
    have e : (nI i).toNatClampNeg = i := nI_clamp (by omega)
    have K := ih (i + 1) (by omega)
    refine br_f c0 ⟨w, w, w, nm_r ?_ (nm_r (nI_1 i) K)⟩
    rw [e]
    rfl
/-! fills -/
theorem tr_fu {i : Nat} (hi : i < 2147483648) (f : Nat → Int32) (v : Int32) : upd (tr_fill f v i) (nI i).toNatClampNeg v = tr_fill f v (i + 1) := by
  rw [nI_clamp hi]
  exact tr_fill_s f v i
theorem tx_fill3 {post : SX → Prop} {x1 x2 x3 : Int32} (H : post (fl, fr, ft, fb, hc, (tr_fill C x1 256), (tr_fill D x2 256), (tr_fill M x3 256), ce, cX, cY, cD, cR, cG, cB, cU, cV, ru)) :
    ∀ (d i : Nat), i + d = 256 → wX_fillPicture_3 post x1 x2 x3 fl fr ft fb hc (d + 1) (nI i) (tr_fill C x1 i) (tr_fill D x2 i) (tr_fill M x3 i) ce cX cY cD cR cG cB cU cV ru := by
  intro d
  induction d with
  | zero =>
    intro i hi
    obtain rfl : i = 256 := by omega
    exact br_t (nI_le (a := 256) (b := 256) (Nat.le_refl _) (by decide)) H
  | succ d ih =>
    intro i hi
    have c0 : ¬ (256 : Int32) ≤ nI i := nI_ge (b := 256) (by omega) (by decide)
    have w : vp_in (nI i) 256 := vp_in_nI (by omega) (by decide)
    have q : i < 2147483648 := by omega
    exact br_f c0 ⟨w, nm_r (tr_fu q _ _) ⟨w, nm_r (tr_fu q _ _) ⟨w, nm_r (tr_fu q _ _) (nm_r (nI_1 i) (ih (i + 1) (by omega)))⟩⟩⟩
theorem tx_fill {post : SX → Prop} {x1 x2 x3 : Int32} (H : post (fl, fr, ft, fb, hc, (tr_fill C x1 256), (tr_fill D x2 256), (tr_fill M x3 256), ce, cX, cY, cD, cR, cG, cB, cU, cV, ru)) : wpX_fillPicture post (fl, fr, ft, fb, hc, C, D, M, ce, cX, cY, cD, cR, cG, cB, cU, cV, ru) x1 x2 x3 := by
  unfold wpX_fillPicture
  have K := tx_fill3 H 256 0 rfl
  rw [tr_fill_0, tr_fill_0, tr_fill_0] at K
  exact ⟨257, K⟩
theorem tx_corners2 {post : SX → Prop} (H : post (fl, fr, ft, fb, hc, C, D, M, ce, (tr_fill cX 0 6), (tr_fill cY 0 6), (tr_fill cD 0 6), (tr_fill cR 0 6), (tr_fill cG 0 6), (tr_fill cB 0 6), (tr_fill cU 0 6), (tr_fill cV 0 6), ru)) :
    ∀ (d i : Nat), i + d = 6 → wX_startCorners_2 post fl fr ft fb hc (d + 1) (nI i) C D M ce (tr_fill cX 0 i) (tr_fill cY 0 i) (tr_fill cD 0 i) (tr_fill cR 0 i) (tr_fill cG 0 i) (tr_fill cB 0 i) (tr_fill cU 0 i) (tr_fill cV 0 i) ru := by
  intro d
  induction d with
  | zero =>
    intro i hi
    obtain rfl : i = 6 := by omega
    exact br_t (nI_le (a := 6) (b := 6) (Nat.le_refl _) (by decide)) H
  | succ d ih =>
    intro i hi
    have c0 : ¬ (6 : Int32) ≤ nI i := nI_ge (b := 6) (by omega) (by decide)
    have w : vp_in (nI i) 6 := vp_in_nI (by omega) (by decide)
    have q : i < 2147483648 := by omega
    exact br_f c0 ⟨w, nm_r (tr_fu q _ _) ⟨w, nm_r (tr_fu q _ _) ⟨w, nm_r (tr_fu q _ _) ⟨w, nm_r (tr_fu q _ _) ⟨w, nm_r (tr_fu q _ _) ⟨w, nm_r (tr_fu q _ _) ⟨w, nm_r (tr_fu q _ _) ⟨w, nm_r (tr_fu q _ _) (nm_r (nI_1 i) (ih (i + 1) (by omega)))⟩⟩⟩⟩⟩⟩⟩⟩
theorem tx_pattern2 {post : SX → Prop} (H : post (fl, fr, ft, fb, hc, C, D, M, (tr_fill ce 0 64), cX, cY, cD, cR, cG, cB, cU, cV, ru)) :
    ∀ (d i : Nat), i + d = 64 → wX_startPattern_2 post fl fr ft fb hc (d + 1) (nI i) C D M (tr_fill ce 0 i) cX cY cD cR cG cB cU cV ru := by
  intro d
  induction d with
  | zero =>
    intro i hi
    obtain rfl : i = 64 := by omega
    exact br_t (nI_le (a := 64) (b := 64) (Nat.le_refl _) (by decide)) H
  | succ d ih =>
    intro i hi
    have c0 : ¬ (64 : Int32) ≤ nI i := nI_ge (b := 64) (by omega) (by decide)
    have w : vp_in (nI i) 64 := vp_in_nI (by omega) (by decide)
    have q : i < 2147483648 := by omega
    exact br_f c0 ⟨w, nm_r (tr_fu q _ _) (nm_r (nI_1 i) (ih (i + 1) (by omega)))⟩
theorem tx_settings {post : SX → Prop} (H : post (0, 15, 0, 15, hc, C, D, M, (tr_fill ce 0 64), (tr_fill cX 0 6), (tr_fill cY 0 6), (tr_fill cD 0 6), (tr_fill cR 0 6), (tr_fill cG 0 6), (tr_fill cB 0 6), (tr_fill cU 0 6), (tr_fill cV 0 6), (tr_ru0 ru 8))) : wpX_startSettings post (fl, fr, ft, fb, hc, C, D, M, ce, cX, cY, cD, cR, cG, cB, cU, cV, ru) := by
  unfold wpX_startSettings
  have K1 : wpX_startRules post (fl, fr, ft, fb, hc, C, D, M, (tr_fill ce 0 64), (tr_fill cX 0 6), (tr_fill cY 0 6), (tr_fill cD 0 6), (tr_fill cR 0 6), (tr_fill cG 0 6), (tr_fill cB 0 6), (tr_fill cU 0 6), (tr_fill cV 0 6), ru) := by
    unfold wpX_startRules
    refine nm_e (nm_e (nm_e (nm_e (nm_e (nm_e (nm_e (nm_r (tr_ru0_8 ru) H)))))))
  have K2 : wpX_startPattern (fun u => wpX_startRules post u) (fl, fr, ft, fb, hc, C, D, M, ce, (tr_fill cX 0 6), (tr_fill cY 0 6), (tr_fill cD 0 6), (tr_fill cR 0 6), (tr_fill cG 0 6), (tr_fill cB 0 6), (tr_fill cU 0 6), (tr_fill cV 0 6), ru) := by
    unfold wpX_startPattern
    have K := tx_pattern2 (post := fun u => wpX_startRules post u) K1 64 0 rfl
    rw [tr_fill_0] at K
    exact ⟨65, K⟩
  have K3 := tx_corners2 (post := fun u => wpX_startPattern (fun u => wpX_startRules post u) u) K2 6 0 rfl
  rw [tr_fill_0, tr_fill_0, tr_fill_0, tr_fill_0, tr_fill_0, tr_fill_0, tr_fill_0, tr_fill_0] at K3
  unfold wpX_startCorners
  exact ⟨7, K3⟩
/-! grab -/
theorem tx_31 {post : Int32 → SX → Prop} {J22 : Int32 → (Nat → Int32) → (Nat → Int32) → (Nat → Int32) → (Nat → Int32) → (Nat → Int32) → (Nat → Int32) → (Nat → Int32) → (Nat → Int32) → (Nat → Int32) → (Nat → Int32) → (Nat → Int32) → (Nat → Int32) → (Nat → Int32) → Prop} {x y v : Nat} (hx : x ≤ 8) (hy : y ≤ 8) (hv : v < 8)
    (HJ : J22 (nI (v + 1)) C D M (tr_grX ce C x y (8 * (v + 1))) cX cY cD cR cG cB cU cV ru) : ∀ (d u : Nat), u + d = 8 → wX_grab_31 post J22 (nI x) (nI y) (nI v) fl fr ft fb hc (d + 1) (nI u) C D M (tr_grX ce C x y (8 * v + u)) cX cY cD cR cG cB cU cV ru := by
  intro d
  induction d with
  | zero =>
    intro u hu
    obtain rfl : u = 8 := by omega
    exact br_t (nI_le (a := 8) (b := 8) (Nat.le_refl _) (by decide)) (nm_r (nI_1 v) HJ)
  | succ d ih =>
    intro u hu
    have c0 : ¬ (8 : Int32) ≤ nI u := nI_ge (b := 8) (by omega) (by decide)
    have e1 : (16 : Int32) * (nI y + nI v) + nI x + nI u = nI (16 * (y + v) + x + u) := by
      show nI 16 * (nI y + nI v) + nI x + nI u = _
      rw [nI_add, pk_mul, nI_add, nI_add]
    have e2 : (8 : Int32) * nI v + nI u = nI (8 * v + u) := by
      show nI 8 * nI v + nI u = _
      rw [pk_mul, nI_add]
    have w1 : vp_in ((16 : Int32) * (nI y + nI v) + nI x + nI u) 256 := by
      rw [e1]
      exact vp_in_nI (by omega) (by decide)
    have w2 : vp_in ((8 : Int32) * nI v + nI u) 64 := by
      rw [e2]
      exact vp_in_nI (by omega) (by decide)
    refine br_f c0 ⟨w1, w2, nm_r ?_ (nm_r (nI_1 u) (ih (u + 1) (by omega)))⟩
    rw [e1, e2, nI_clamp (by omega), nI_clamp (by omega)]
    exact tr_grX_s ce C x y u v (by omega)
theorem tx_22 {post : Int32 → SX → Prop} {x y : Nat} (hx : x ≤ 8) (hy : y ≤ 8) (H : post 0 (fl, fr, ft, fb, hc, C, D, M, (tr_grX ce C x y 64), cX, cY, cD, cR, cG, cB, cU, cV, ru)) :
    ∀ (d v : Nat), v + d = 8 → wX_grab_22 post (nI x) (nI y) fl fr ft fb hc (d + 1) (nI v) C D M (tr_grX ce C x y (8 * v)) cX cY cD cR cG cB cU cV ru := by
  intro d
  induction d with
  | zero =>
    intro v hv
    obtain rfl : v = 8 := by omega
    exact br_t (nI_le (a := 8) (b := 8) (Nat.le_refl _) (by decide)) H
  | succ d ih =>
    intro v hv
    have c0 : ¬ (8 : Int32) ≤ nI v := nI_ge (b := 8) (by omega) (by decide)
    exact br_f c0 ⟨9, tx_31 hx hy (by omega) (ih (v + 1) (by omega)) 8 0 rfl⟩
end
end
section
/-! Y: one pixel, loops -/
section
variable {hc bx o1 o2 o3 ar w1 w2 w3 : Int32} {C D M ce cX cY cD cC cU cV ru : Nat → Int32} {x y : Nat}
theorem ty_part {post : Int32 → Prop} {i s : Int32} (hX : tr_bc cX) (hY : tr_bc cY) (hU : tr_b 127 cU) (hV : tr_b 127 cV) (h1 : vp_in o1 6) (h2 : vp_in o2 6) (h3 : vp_in o3 6) (hi : vp_in i 256) (hk : ∃ q : Nat, q ≤ 4 ∧ ru 2 = nI q) (hx : x < 16) (hy : y < 16) (hs : 0 < tr_ar cX cY o1 o2 o3) (hv : ¬ tr_cov cX cY o1 o2 o3 (nI x) (nI y) = 0) (hw : tr_part 16777215 s = 255)
    (h : post (tr_one cX cY cC cU cV ce ru o1 o2 o3 (nI x) (nI y) s (C i.toNatClampNeg))) : wpY_part post (hc, bx, o1, o2, o3, (tr_ar cX cY o1 o2 o3), (tr_w cX cY o2 o3 (nI x) (nI y)), (tr_w cX cY o3 o1 (nI x) (nI y)), (tr_w cX cY o1 o2 (nI x) (nI y)), C, D, M, ce, cX, cY, cD, cC, cU, cV, ru) i s := by
  have h0 : ¬ tr_ar cX cY o1 o2 o3 = 0 := tr_ne0 hs
  unfold tr_one at h
  unfold wpY_part
  refine ⟨h1, h2, h3, ty_mean h0 ?_⟩
  by_cases c7 : ru 7 = 1
  · have g1 := (tr_uv (tr_num_b hX hY hx hy hv (tr_pos hs) (N := 127) (by decide) hU) (tr_num_b hX hY hx hy hv (tr_pos hs) (N := 127) (by decide) hV)).1
    have e : tr_cell cX cY cU cV ce ru o1 o2 o3 (nI x) (nI y) = ce (8 * (tr_num cX cY cV o1 o2 o3 (nI x) (nI y) / 16) + tr_num cX cY cU o1 o2 o3 (nI x) (nI y) / 16).toNatClampNeg := if_pos c7
    rw [e] at h
    exact br_t c7 ⟨h1, h2, h3, ty_mean h0 ⟨tr_n16, nm_e ⟨h1, h2, h3, ty_mean h0 ⟨tr_n16, nm_e ⟨g1, tr_n255, nm_e (ty_159 hi hk h)⟩⟩⟩⟩⟩
  · have e : tr_cell cX cY cU cV ce ru o1 o2 o3 (nI x) (nI y) = 16777215 := if_neg c7
    obtain ⟨m, hm, em⟩ := tr_num_b hX hY hx hy hv (tr_pos hs) (N := 255) (by decide) (tr_pt_b cC s)
    rw [e, hw, em, tr_255 hm, ← em] at h
    exact br_f c7 (ty_159 hi hk h)
theorem ty_113 {post : SY → Prop} {e p q r : Int32} {n : Nat} (hn : n < 256) (h : post (hc, bx, o1, o2, o3, ar, w1, w2, w3, (upd C n (65536 * p + 256 * q + r)), (if ru 1 = 1 then upd D n e else D), M, ce, cX, cY, cD, cC, cU, cV, ru)) : wY_hit_113 post (nI n) e p q r hc bx o1 o2 o3 ar w1 w2 w3 C D M ce cX cY cD cC cU cV ru := by
  have hi : vp_in (nI n) 256 := vp_in_nI hn (by decide)
  have ei : (nI n).toNatClampNeg = n := nI_clamp (by omega)
  have Q : ∀ D', D' = (if ru 1 = 1 then upd D n e else D) → wY_hit_130 post (nI n) p q r hc bx o1 o2 o3 ar w1 w2 w3 C D' M ce cX cY cD cC cU cV ru := by
    intro D' hD
    unfold wY_hit_130
    rw [ei, hD]
    exact ⟨hi, nm_e h⟩
  unfold wY_hit_113
  by_cases c : ru 1 = 1
  · exact br_t c ⟨hi, nm_e (Q _ (by rw [ei, if_pos c]))⟩
  · exact br_f c (Q _ (if_neg c).symm)
theorem ty_hit {post : SY → Prop} {e : Int32} {n : Nat} (hX : tr_bc cX) (hY : tr_bc cY) (hU : tr_b 127 cU) (hV : tr_b 127 cV) (h1 : vp_in o1 6) (h2 : vp_in o2 6) (h3 : vp_in o3 6) (hn : n < 256) (hk : ∃ q : Nat, q ≤ 4 ∧ ru 2 = nI q) (hM : ∃ q : Nat, q ≤ 15 ∧ M n = nI q) (hx : x < 16) (hy : y < 16) (hs : 0 < tr_ar cX cY o1 o2 o3) (hv : ¬ tr_cov cX cY o1 o2 o3 (nI x) (nI y) = 0)
    (h : post ((hc + 1), bx, o1, o2, o3, (tr_ar cX cY o1 o2 o3), (tr_w cX cY o2 o3 (nI x) (nI y)), (tr_w cX cY o3 o1 (nI x) (nI y)), (tr_w cX cY o1 o2 (nI x) (nI y)), (upd C n (tr_col cX cY cC cU cV ce ru o1 o2 o3 (nI x) (nI y) (C n))), (if ru 1 = 1 then upd D n e else D), (upd M n (tr_chm (ru 4) (ru 5) (M n))), ce, cX, cY, cD, cC, cU, cV, ru)) : wpY_hit post (hc, bx, o1, o2, o3, (tr_ar cX cY o1 o2 o3), (tr_w cX cY o2 o3 (nI x) (nI y)), (tr_w cX cY o3 o1 (nI x) (nI y)), (tr_w cX cY o1 o2 (nI x) (nI y)), C, D, M, ce, cX, cY, cD, cC, cU, cV, ru) (nI n) e := by
  have hi : vp_in (nI n) 256 := vp_in_nI hn (by decide)
  have ei : (nI n).toNatClampNeg = n := nI_clamp (by omega)
  have Q : ∀ M', M' = upd M n (tr_chm (ru 4) (ru 5) (M n)) → wY_hit_113 post (nI n) e (tr_one cX cY cC cU cV ce ru o1 o2 o3 (nI x) (nI y) 16 (C n)) (tr_one cX cY cC cU cV ce ru o1 o2 o3 (nI x) (nI y) 8 (C n)) (tr_one cX cY cC cU cV ce ru o1 o2 o3 (nI x) (nI y) 0 (C n)) (hc + 1) bx o1 o2 o3 (tr_ar cX cY o1 o2 o3) (tr_w cX cY o2 o3 (nI x) (nI y)) (tr_w cX cY o3 o1 (nI x) (nI y)) (tr_w cX cY o1 o2 (nI x) (nI y)) C D M' ce cX cY cD cC cU cV ru := by
    intro M' hM'
    rw [hM']
    exact ty_113 hn h
  unfold wpY_hit
  refine nm_e (ty_part hX hY hU hV h1 h2 h3 hi hk hx hy hs hv tr_part_w.1 (ty_part hX hY hU hV h1 h2 h3 hi hk hx hy hs hv tr_part_w.2.1 (ty_part hX hY hU hV h1 h2 h3 hi hk hx hy hs hv tr_part_w.2.2 ?_)))
  rw [ei]
  by_cases k1 : ru 4 = 1
  · have k2 : ¬ ru 4 = 2 := by rw [k1]; decide
    have k3 : ¬ ru 4 = 3 := by rw [k1]; decide
    exact br_t k1 ⟨hi, nm_e (br_f k2 (br_f k3 (Q _ (by rw [tr_chm_1 k1]))))⟩
  refine br_f k1 ?_
  unfold wY_hit_57
  by_cases k2 : ru 4 = 2
  · have k3 : ¬ ru 4 = 3 := by rw [k2]; decide
    exact br_t k2 ⟨hi, hi, nm_e (br_f k3 (Q _ (by rw [tr_chm_2 k2, ei, tr_inc' hM])))⟩
  refine br_f k2 ?_
  unfold wY_hit_84
  by_cases k3 : ru 4 = 3
  · exact br_t k3 ⟨hi, hi, nm_e (Q _ (by rw [tr_chm_3 k3, ei]))⟩
  · exact br_f k3 (Q _ (by rw [tr_chm_o k1 k2 k3, tr_upd_id]))
end
section
variable {hc bx o1 o2 o3 ar w1 w2 w3 : Int32} {C D M ce cX cY cD cC cU cV ru : Nat → Int32}
theorem ty_20 {post : Int32 → SY → Prop} (hX : tr_bc cX) (hY : tr_bc cY) (hU : tr_b 127 cU) (hV : tr_b 127 cV) (h1 : vp_in o1 6) (h2 : vp_in o2 6) (h3 : vp_in o3 6) (hk : ∃ q : Nat, q ≤ 4 ∧ ru 2 = nI q) (h5 : ∃ q : Nat, q ≤ 15 ∧ ru 5 = nI q) (hs : 0 < tr_ar cX cY o1 o2 o3) (s0 : tr_S) (hM : tr_b 15 s0.2.2.1)
    (H : ∀ (w1 w2 w3 : Int32) (C D M : Nat → Int32) (hc : Int32), (C, D, M, hc) = tr_run cX cY cD cC cU cV ce ru (bx / 4096) (bx / 256 - bx / 256 / 16 * 16) (bx / 16 - bx / 16 / 16 * 16) (bx - bx / 16 * 16) o1 o2 o3 s0 256 → post 0 (hc, bx, o1, o2, o3, (tr_ar cX cY o1 o2 o3), w1, w2, w3, C, D, M, ce, cX, cY, cD, cC, cU, cV, ru)) :
    ∀ (d i : Nat), i + d = 256 → ∀ (w1 w2 w3 : Int32) (C D M : Nat → Int32) (hc : Int32), (C, D, M, hc) = tr_run cX cY cD cC cU cV ce ru (bx / 4096) (bx / 256 - bx / 256 / 16 * 16) (bx / 16 - bx / 16 / 16 * 16) (bx - bx / 16 * 16) o1 o2 o3 s0 i → wY_draw_20 post (d + 1) (nI i) hc bx o1 o2 o3 (tr_ar cX cY o1 o2 o3) w1 w2 w3 C D M ce cX cY cD cC cU cV ru := by
  have h0 : ¬ tr_ar cX cY o1 o2 o3 = 0 := tr_ne0 hs
  intro d
  induction d with
  | zero =>
    intro i hi w1 w2 w3 C D M hc he
    obtain rfl : i = 256 := by omega
    exact br_t (nI_le (a := 256) (b := 256) (Nat.le_refl _) (by decide)) (H _ _ _ _ _ _ _ he)
  | succ d ih =>
    intro i hi w1 w2 w3 C D M hc he
    have hi' : i < 256 := by omega
    have c0 : ¬ (256 : Int32) ≤ nI i := nI_ge (b := 256) hi' (by decide)
    have hin : vp_in (nI i) 256 := vp_in_nI hi' (by decide)
    have ei : (nI i).toNatClampNeg = i := nI_clamp (by omega)
    have hMi : ∃ q : Nat, q ≤ 15 ∧ M i = nI q := by
      have z := tr_run_m cX cY cD cC cU cV ce ru (bx / 4096) (bx / 256 - bx / 256 / 16 * 16) (bx / 16 - bx / 16 / 16 * 16) (bx - bx / 16 * 16) o1 o2 o3 h5 s0 hM i
      rw [← he] at z
      exact z i
    have E : ∀ s : tr_S, tr_step cX cY cD cC cU cV ce ru (bx / 4096) (bx / 256 - bx / 256 / 16 * 16) (bx / 16 - bx / 16 / 16 * 16) (bx - bx / 16 * 16) o1 o2 o3 i (C, D, M, hc) = s → s = tr_run cX cY cD cC cU cV ce ru (bx / 4096) (bx / 256 - bx / 256 / 16 * 16) (bx / 16 - bx / 16 / 16 * 16) (bx - bx / 16 * 16) o1 o2 o3 s0 (i + 1) := by
      intro s e
      show s = tr_step cX cY cD cC cU cV ce ru (bx / 4096) (bx / 256 - bx / 256 / 16 * 16) (bx / 16 - bx / 16 / 16 * 16) (bx - bx / 16 * 16) o1 o2 o3 i (tr_run cX cY cD cC cU cV ce ru (bx / 4096) (bx / 256 - bx / 256 / 16 * 16) (bx / 16 - bx / 16 / 16 * 16) (bx - bx / 16 * 16) o1 o2 o3 s0 i)
      rw [← he, e]
    refine br_f c0 ⟨tr_n16, nm_r (tr_x16 hi') ⟨tr_n16, nm_r (tr_y16 hi') (ty_win ?_)⟩⟩
    by_cases cw : tr_win (bx / 4096) (bx / 256 - bx / 256 / 16 * 16) (bx / 16 - bx / 16 / 16 * 16) (bx - bx / 16 * 16) (nI (i % 16)) (nI (i / 16)) = 0
    · exact br_t cw (nm_r (nI_1 i) (ih (i + 1) (by omega) _ _ _ _ _ _ _ (E _ (tr_step_0 rfl rfl cw))))
    refine br_f cw (ty_covers h1 h2 h3 h0 ?_)
    by_cases cv : tr_cov cX cY o1 o2 o3 (nI (i % 16)) (nI (i / 16)) = 0
    · exact br_t cv (nm_r (nI_1 i) (ih (i + 1) (by omega) _ _ _ _ _ _ _ (E _ (tr_step_1 rfl rfl cw cv))))
    refine br_f cv ⟨h1, h2, h3, ty_mean h0 (ty_passes hin ?_)⟩
    rw [ei]
    by_cases c1 : tr_pm (ru 3) (ru 5) (M i) = 0
    · refine br_t (if_pos c1) (nm_r (nI_1 i) (ih (i + 1) (by omega) _ _ _ _ _ _ _ (E _ ((tr_step_2 rfl rfl cw cv).trans (tr_px_0 c1)))))
    by_cases c2 : tr_pd (ru 0) (tr_num cX cY cD o1 o2 o3 (nI (i % 16)) (nI (i / 16))) (D i) = 0
    · refine br_t ((if_neg c1).trans c2) (nm_r (nI_1 i) (ih (i + 1) (by omega) _ _ _ _ _ _ _ (E _ ((tr_step_2 rfl rfl cw cv).trans (tr_px_1 c1 c2)))))
    · refine br_f (fun z => c2 ((if_neg c1).symm.trans z)) (ty_hit hX hY hU hV h1 h2 h3 hi' hk hMi (by omega) (by omega) hs cv ?_)
      exact nm_r (nI_1 i) (ih (i + 1) (by omega) _ _ _ _ _ _ _ (E _ ((tr_step_2 rfl rfl cw cv).trans (tr_px_2 c1 c2))))
theorem ty_20z {post : Int32 → SY → Prop} (h0 : ar = 0) (H : post 0 (hc, bx, o1, o2, o3, ar, w1, w2, w3, C, D, M, ce, cX, cY, cD, cC, cU, cV, ru)) : ∀ (d i : Nat), i + d = 256 → wY_draw_20 post (d + 1) (nI i) hc bx o1 o2 o3 ar w1 w2 w3 C D M ce cX cY cD cC cU cV ru := by
  intro d
  induction d with
  | zero =>
    intro i hi
    obtain rfl : i = 256 := by omega
    exact br_t (nI_le (a := 256) (b := 256) (Nat.le_refl _) (by decide)) H
  | succ d ih =>
    intro i hi
    have hi' : i < 256 := by omega
    have c0 : ¬ (256 : Int32) ≤ nI i := nI_ge (b := 256) hi' (by decide)
    refine br_f c0 ⟨tr_n16, nm_e ⟨tr_n16, nm_e (ty_win ?_)⟩⟩
    exact ⟨fun _ => nm_r (nI_1 i) (ih (i + 1) (by omega)), fun _ => ty_covers0 h0 (br_t rfl (nm_r (nI_1 i) (ih (i + 1) (by omega))))⟩
theorem ty_22 {post : Int32 → SY → Prop} (h1 : vp_in o1 6) (h2 : vp_in o2 6) (h3 : vp_in o3 6) (h0 : ¬ ar = 0) (H : ∀ w1 w2 w3 : Int32, post (tr_cnt cX cY o1 o2 o3 256) (hc, bx, o1, o2, o3, ar, w1, w2, w3, C, D, M, ce, cX, cY, cD, cC, cU, cV, ru)) :
    ∀ (d i : Nat), i + d = 256 → ∀ w1 w2 w3 : Int32, wY_covered_22 post (d + 1) (tr_cnt cX cY o1 o2 o3 i) (nI i) hc bx o1 o2 o3 ar w1 w2 w3 C D M ce cX cY cD cC cU cV ru := by
  intro d
  induction d with
  | zero =>
    intro i hi w1 w2 w3
    obtain rfl : i = 256 := by omega
    exact br_t (nI_le (a := 256) (b := 256) (Nat.le_refl _) (by decide)) (H _ _ _)
  | succ d ih =>
    intro i hi w1 w2 w3
    have hi' : i < 256 := by omega
    have c0 : ¬ (256 : Int32) ≤ nI i := nI_ge (b := 256) hi' (by decide)
    have K := ih (i + 1) (by omega)
    refine br_f c0 ⟨tr_n16, tr_n16, ?_⟩
    rw [tr_x16 hi', tr_y16 hi']
    refine ty_covers h1 h2 h3 h0 ?_
    by_cases cv : tr_cov cX cY o1 o2 o3 (nI (i % 16)) (nI (i / 16)) = 0
    · have e : tr_cnt cX cY o1 o2 o3 (i + 1) = tr_cnt cX cY o1 o2 o3 i := if_pos cv
      rw [e] at K
      exact br_t cv (nm_r (nI_1 i) (K _ _ _))
    · have e : tr_cnt cX cY o1 o2 o3 (i + 1) = tr_cnt cX cY o1 o2 o3 i + 1 := if_neg cv
      rw [e] at K
      exact br_f cv (nm_e (nm_r (nI_1 i) (K _ _ _)))
theorem ty_22z {post : Int32 → SY → Prop} (h0 : ar = 0) (H : post 0 (hc, bx, o1, o2, o3, ar, w1, w2, w3, C, D, M, ce, cX, cY, cD, cC, cU, cV, ru)) : ∀ (d i : Nat), i + d = 256 → wY_covered_22 post (d + 1) 0 (nI i) hc bx o1 o2 o3 ar w1 w2 w3 C D M ce cX cY cD cC cU cV ru := by
  intro d
  induction d with
  | zero =>
    intro i hi
    obtain rfl : i = 256 := by omega
    exact br_t (nI_le (a := 256) (b := 256) (Nat.le_refl _) (by decide)) H
  | succ d ih =>
    intro i hi
    have hi' : i < 256 := by omega
    have c0 : ¬ (256 : Int32) ≤ nI i := nI_ge (b := 256) hi' (by decide)
    exact br_f c0 ⟨tr_n16, tr_n16, ty_covers0 h0 (br_t rfl (nm_r (nI_1 i) (ih (i + 1) (by omega))))⟩
theorem tr_i6 {m : Nat} (h : m < 6) : vp_in (nI m) 6 := vp_in_nI h (by decide)
theorem ty_take {post : SY → Prop} {n : Nat} (hn : n < 216)
    (hp : 0 ≤ tr_ar cX cY (nI (n / 36)) (nI (n / 6 % 6)) (nI (n % 6)) → post (hc, bx, (nI (n / 36)), (nI (n / 6 % 6)), (nI (n % 6)), (tr_ar cX cY (nI (n / 36)) (nI (n / 6 % 6)) (nI (n % 6))), w1, w2, w3, C, D, M, ce, cX, cY, cD, cC, cU, cV, ru))
    (hq : ¬ 0 ≤ tr_ar cX cY (nI (n / 36)) (nI (n / 6 % 6)) (nI (n % 6)) → ru 6 = 1 → post (hc, bx, (nI (n / 36)), (nI (n % 6)), (nI (n / 6 % 6)), 0, w1, w2, w3, C, D, M, ce, cX, cY, cD, cC, cU, cV, ru))
    (hr : ¬ 0 ≤ tr_ar cX cY (nI (n / 36)) (nI (n / 6 % 6)) (nI (n % 6)) → ¬ ru 6 = 1 → post (hc, bx, (nI (n / 36)), (nI (n % 6)), (nI (n / 6 % 6)), (tr_ar cX cY (nI (n / 36)) (nI (n % 6)) (nI (n / 6 % 6))), w1, w2, w3, C, D, M, ce, cX, cY, cD, cC, cU, cV, ru)) : wpY_take post (hc, bx, o1, o2, o3, ar, w1, w2, w3, C, D, M, ce, cX, cY, cD, cC, cU, cV, ru) (nI n) := by
  have i1 : vp_in (nI (n / 36)) 6 := tr_i6 (by omega)
  have i2 : vp_in (nI (n / 6 % 6)) 6 := tr_i6 (by omega)
  have i3 : vp_in (nI (n % 6)) 6 := tr_i6 (by omega)
  unfold wpY_take
  exact ⟨tr_n36, nm_r (tr_c1 hn) ⟨tr_n6, tr_n6, nm_r (tr_c2 hn) ⟨tr_n6, nm_r (tr_c3 hn) ⟨i1, i1, i2, i2, i3, i3, ty_side ⟨hp, fun z => ⟨hq z, fun z2 => nm_r (tr_arswap cX cY _ _ _).symm (hr z z2)⟩⟩⟩⟩⟩⟩
theorem ty_dig {post : Int32 → Prop} (H : post (tr_dig C D M 256)) : ∀ (d i : Nat), i + d = 256 → wY_digest_4 post hc bx o1 o2 o3 ar w1 w2 w3 C D M ce cX cY cD cC cU cV ru (d + 1) (tr_dig C D M i) (nI i) := by
  intro d
  induction d with
  | zero =>
    intro i hi
    obtain rfl : i = 256 := by omega
    exact br_t (nI_le (a := 256) (b := 256) (Nat.le_refl _) (by decide)) H
  | succ d ih =>
    intro i hi
    have c0 : ¬ (256 : Int32) ≤ nI i := nI_ge (b := 256) (by omega) (by decide)
    have w : vp_in (nI i) 256 := vp_in_nI (by omega) (by decide)
    have e : (nI i).toNatClampNeg = i := nI_clamp (by omega)
    have K := ih (i + 1) (by omega)
    refine br_f c0 ⟨w, w, w, nm_r ?_ (nm_r (nI_1 i) K)⟩
    rw [e]
    rfl
theorem ty_rules9 {post : SY → Prop} (H : post (hc, bx, o1, o2, o3, ar, w1, w2, w3, C, D, M, ce, cX, cY, cD, cC, cU, cV, (tr_ru0 ru 8))) : ∀ (d i : Nat), i + d = 8 → wY_firstRules_9 post hc bx o1 o2 o3 ar w1 w2 w3 (d + 1) (nI i) C D M ce cX cY cD cC cU cV (tr_ru0 ru i) := by
  intro d
  induction d with
  | zero =>
    intro i hi
    obtain rfl : i = 8 := by omega
    exact br_t (nI_le (a := 8) (b := 8) (Nat.le_refl _) (by decide)) H
  | succ d ih =>
    intro i hi
    have c0 : ¬ (8 : Int32) ≤ nI i := nI_ge (b := 8) (by omega) (by decide)
    have w : vp_in (nI i) 8 := vp_in_nI (by omega) (by decide)
    have e : (nI i).toNatClampNeg = i := nI_clamp (by omega)
    have K := ih (i + 1) (by omega)
    have u : ∀ v : Int32, (if i = 0 then (2 : Int32) else if i = 1 then 1 else 0) = v → upd (tr_ru0 ru i) (nI i).toNatClampNeg v = tr_ru0 ru (i + 1) := by
      intro v hv
      rw [e, ← hv]
      exact tr_ru0_s ru i
    refine br_f c0 ?_
    by_cases i0 : i = 0
    · have z : nI i = 0 := by rw [i0]; exact nI_0
      exact br_t z ⟨w, nm_r (u _ (if_pos i0)) (nm_r (nI_1 i) K)⟩
    have z : ¬ nI i = 0 := nI_ne0 (by omega) (by omega)
    refine br_f z ?_
    by_cases i1 : i = 1
    · have z1 : nI i = 1 := by rw [i1]; rfl
      exact br_t z1 ⟨w, nm_r (u _ ((if_neg i0).trans (if_pos i1))) (nm_r (nI_1 i) K)⟩
    · have z1 : ¬ nI i = 1 := fun q => i1 ((nI_eq (a := i) (b := 1) (by omega) (by decide)).mp q)
      exact br_f z1 ⟨w, nm_r (u _ ((if_neg i0).trans (if_neg i1))) (nm_r (nI_1 i) K)⟩
theorem ty_rules {post : SY → Prop} (H : post (hc, 3855, o1, o2, o3, ar, w1, w2, w3, C, D, M, ce, cX, cY, cD, cC, cU, cV, (tr_ru0 ru 8))) : wpY_firstRules post (hc, bx, o1, o2, o3, ar, w1, w2, w3, C, D, M, ce, cX, cY, cD, cC, cU, cV, ru) := by
  unfold wpY_firstRules
  have K := ty_rules9 H 8 0 rfl
  rw [tr_ru0_0] at K
  exact ⟨9, K⟩
theorem ty_97 {post : SY → Prop} (H : wpY_firstRules post (hc, bx, o1, o2, o3, ar, w1, w2, w3, C, (tr_fill D 255 256), M, ce, cX, cY, cD, cC, cU, cV, ru)) : ∀ (d i : Nat), i + d = 256 → wY_init_97 post hc bx o1 o2 o3 ar w1 w2 w3 (d + 1) (nI i) C (tr_fill D 255 i) M ce cX cY cD cC cU cV ru := by
  intro d
  induction d with
  | zero =>
    intro i hi
    obtain rfl : i = 256 := by omega
    exact br_t (nI_le (a := 256) (b := 256) (Nat.le_refl _) (by decide)) H
  | succ d ih =>
    intro i hi
    have c0 : ¬ (256 : Int32) ≤ nI i := nI_ge (b := 256) (by omega) (by decide)
    have w : vp_in (nI i) 256 := vp_in_nI (by omega) (by decide)
    have q : i < 2147483648 := by omega
    exact br_f c0 ⟨w, nm_r (tr_fu q _ _) (nm_r (nI_1 i) (ih (i + 1) (by omega)))⟩
theorem ty_31 {post : Int32 → SY → Prop} {x1 x2 x3 : Int32} (H : post 0 (hc, bx, o1, o2, o3, ar, w1, w2, w3, (tr_fill C x1 256), (tr_fill D x2 256), (tr_fill M x3 256), ce, cX, cY, cD, cC, cU, cV, ru)) :
    ∀ (d i : Nat), i + d = 256 → wY_clear_31 post x1 x2 x3 hc bx o1 o2 o3 ar w1 w2 w3 (d + 1) (nI i) (tr_fill C x1 i) (tr_fill D x2 i) (tr_fill M x3 i) ce cX cY cD cC cU cV ru := by
  intro d
  induction d with
  | zero =>
    intro i hi
    obtain rfl : i = 256 := by omega
    exact br_t (nI_le (a := 256) (b := 256) (Nat.le_refl _) (by decide)) H
  | succ d ih =>
    intro i hi
    have c0 : ¬ (256 : Int32) ≤ nI i := nI_ge (b := 256) (by omega) (by decide)
    have w : vp_in (nI i) 256 := vp_in_nI (by omega) (by decide)
    have q : i < 2147483648 := by omega
    exact br_f c0 ⟨w, nm_r (tr_fu q _ _) ⟨w, nm_r (tr_fu q _ _) ⟨w, nm_r (tr_fu q _ _) (nm_r (nI_1 i) (ih (i + 1) (by omega)))⟩⟩⟩
theorem ty_27 {post : SY → Prop} (H : post (hc, bx, o1, o2, o3, ar, w1, w2, w3, C, D, M, ce, (tr_fill cX 0 6), (tr_fill cY 0 6), (tr_fill cD 0 6), (tr_fill cC 0 6), (tr_fill cU 0 6), (tr_fill cV 0 6), ru)) :
    ∀ (d i : Nat), i + d = 6 → wY_reset_27 post hc bx o1 o2 o3 ar w1 w2 w3 (d + 1) (nI i) C D M ce (tr_fill cX 0 i) (tr_fill cY 0 i) (tr_fill cD 0 i) (tr_fill cC 0 i) (tr_fill cU 0 i) (tr_fill cV 0 i) ru := by
  intro d
  induction d with
  | zero =>
    intro i hi
    obtain rfl : i = 6 := by omega
    exact br_t (nI_le (a := 6) (b := 6) (Nat.le_refl _) (by decide)) H
  | succ d ih =>
    intro i hi
    have c0 : ¬ (6 : Int32) ≤ nI i := nI_ge (b := 6) (by omega) (by decide)
    have w : vp_in (nI i) 6 := vp_in_nI (by omega) (by decide)
    have q : i < 2147483648 := by omega
    exact br_f c0 ⟨w, nm_r (tr_fu q _ _) ⟨w, nm_r (tr_fu q _ _) ⟨w, nm_r (tr_fu q _ _) ⟨w, nm_r (tr_fu q _ _) ⟨w, nm_r (tr_fu q _ _) ⟨w, nm_r (tr_fu q _ _) (nm_r (nI_1 i) (ih (i + 1) (by omega)))⟩⟩⟩⟩⟩⟩
theorem ty_6 {post : SY → Prop} (H : post (hc, bx, o1, o2, o3, ar, w1, w2, w3, C, D, M, (tr_fill ce 0 64), (tr_fill cX 0 6), (tr_fill cY 0 6), (tr_fill cD 0 6), (tr_fill cC 0 6), (tr_fill cU 0 6), (tr_fill cV 0 6), ru)) :
    ∀ (d i : Nat), i + d = 64 → wY_reset_6 post hc bx o1 o2 o3 ar w1 w2 w3 (d + 1) (nI i) C D M (tr_fill ce 0 i) cX cY cD cC cU cV ru := by
  intro d
  induction d with
  | zero =>
    intro i hi
    obtain rfl : i = 64 := by omega
    have K := ty_27 H 6 0 rfl
    rw [tr_fill_0, tr_fill_0, tr_fill_0, tr_fill_0, tr_fill_0, tr_fill_0] at K
    exact br_t (nI_le (a := 64) (b := 64) (Nat.le_refl _) (by decide)) ⟨7, K⟩
  | succ d ih =>
    intro i hi
    have c0 : ¬ (64 : Int32) ≤ nI i := nI_ge (b := 64) (by omega) (by decide)
    have w : vp_in (nI i) 64 := vp_in_nI (by omega) (by decide)
    have q : i < 2147483648 := by omega
    exact br_f c0 ⟨w, nm_r (tr_fu q _ _) (nm_r (nI_1 i) (ih (i + 1) (by omega)))⟩
theorem ty_33 {post : Int32 → SY → Prop} {J24 : Int32 → (Nat → Int32) → (Nat → Int32) → (Nat → Int32) → (Nat → Int32) → (Nat → Int32) → (Nat → Int32) → (Nat → Int32) → (Nat → Int32) → (Nat → Int32) → (Nat → Int32) → (Nat → Int32) → Prop} {x y u : Nat} (hx : x ≤ 8) (hy : y ≤ 8) (hu : u < 8)
    (HJ : J24 (nI (u + 1)) C D M (tr_grY ce C x y (u + 1) 0) cX cY cD cC cU cV ru) : ∀ (d v : Nat), v + d = 8 → wY_grab_33 post J24 (nI x) (nI y) (nI u) hc bx o1 o2 o3 ar w1 w2 w3 (d + 1) (nI v) C D M (tr_grY ce C x y u v) cX cY cD cC cU cV ru := by
  intro d
  induction d with
  | zero =>
    intro v hv
    obtain rfl : v = 8 := by omega
    rw [tr_grY_n]
    exact br_t (nI_le (a := 8) (b := 8) (Nat.le_refl _) (by decide)) (nm_r (nI_1 u) HJ)
  | succ d ih =>
    intro v hv
    have c0 : ¬ (8 : Int32) ≤ nI v := nI_ge (b := 8) (by omega) (by decide)
    have e1 : (16 : Int32) * (nI y + nI v) + nI x + nI u = nI (16 * (y + v) + x + u) := by
      show nI 16 * (nI y + nI v) + nI x + nI u = _
      rw [nI_add, pk_mul, nI_add, nI_add]
    have e2 : (8 : Int32) * nI v + nI u = nI (8 * v + u) := by
      show nI 8 * nI v + nI u = _
      rw [pk_mul, nI_add]
    have w1 : vp_in ((16 : Int32) * (nI y + nI v) + nI x + nI u) 256 := by
      rw [e1]
      exact vp_in_nI (by omega) (by decide)
    have w2 : vp_in ((8 : Int32) * nI v + nI u) 64 := by
      rw [e2]
      exact vp_in_nI (by omega) (by decide)
    refine br_f c0 ⟨w1, w2, nm_r ?_ (nm_r (nI_1 v) (ih (v + 1) (by omega)))⟩
    rw [e1, e2, nI_clamp (by omega), nI_clamp (by omega)]
    exact tr_grY_s ce C x y u v hu (by omega)
theorem ty_24 {post : Int32 → SY → Prop} {x y : Nat} (hx : x ≤ 8) (hy : y ≤ 8) (H : post 0 (hc, bx, o1, o2, o3, ar, w1, w2, w3, C, D, M, (tr_grY ce C x y 8 0), cX, cY, cD, cC, cU, cV, ru)) :
    ∀ (d u : Nat), u + d = 8 → wY_grab_24 post (nI x) (nI y) hc bx o1 o2 o3 ar w1 w2 w3 (d + 1) (nI u) C D M (tr_grY ce C x y u 0) cX cY cD cC cU cV ru := by
  intro d
  induction d with
  | zero =>
    intro u hu
    obtain rfl : u = 8 := by omega
    exact br_t (nI_le (a := 8) (b := 8) (Nat.le_refl _) (by decide)) H
  | succ d ih =>
    intro u hu
    have c0 : ¬ (8 : Int32) ≤ nI u := nI_ge (b := 8) (by omega) (by decide)
    exact br_f c0 ⟨9, ty_33 hx hy (by omega) (ih (u + 1) (by omega)) 8 0 rfl⟩
end
end
section
/-! the calls' first tests; draw and covered -/
theorem ty_lt {v g : Int32} {A K : Prop} (h1 : tr_bt v g → K) (h0 : ¬ tr_bt v g → A) : (v < 0 → A) ∧ (¬ v < 0 → ((g < v → A) ∧ (¬ g < v → K))) :=
  ⟨fun c => h0 fun z => Int32.not_lt.mpr z.1 c, fun c => ⟨fun d => h0 fun z => Int32.not_lt.mpr z.2 d, fun d => h1 ⟨Int32.not_lt.mp c, Int32.not_lt.mp d⟩⟩⟩
theorem ty_le {v g : Int32} {A K : Prop} (h1 : tr_bt v g → K) (h0 : ¬ tr_bt v g → A) : (v < 0 → A) ∧ (¬ v < 0 → ((v ≤ g → K) ∧ (¬ v ≤ g → A))) :=
  ⟨fun c => h0 fun z => Int32.not_lt.mpr z.1 c, fun c => ⟨fun d => h1 ⟨Int32.not_lt.mp c, d⟩, fun d => h0 fun z => d z.2⟩⟩
section
variable {hc bx o1 o2 o3 ar w1 w2 w3 : Int32} {C D M ce cX cY cD cC cU cV ru : Nat → Int32} {v : Int32} {A K : Prop}
theorem ty_badCorner (h1 : tr_bt v 5 → K) (h0 : ¬ tr_bt v 5 → A) : wpY_badCorner (fun r => (r = 0 → K) ∧ (¬ r = 0 → A)) (hc, bx, o1, o2, o3, ar, w1, w2, w3, C, D, M, ce, cX, cY, cD, cC, cU, cV, ru) v := by
  unfold wpY_badCorner
  exact ty_le (fun z => br_t rfl (h1 z)) (fun z => br_f tr_10 (h0 z))
theorem ty_badByte (h1 : tr_bt v 255 → K) (h0 : ¬ tr_bt v 255 → A) : wpY_badByte (fun r => (r = 0 → K) ∧ (¬ r = 0 → A)) (hc, bx, o1, o2, o3, ar, w1, w2, w3, C, D, M, ce, cX, cY, cD, cC, cU, cV, ru) v := by
  unfold wpY_badByte
  exact ty_le (fun z => br_t rfl (h1 z)) (fun z => br_f tr_10 (h0 z))
theorem ty_badColour (h1 : tr_bt v 16777215 → K) (h0 : ¬ tr_bt v 16777215 → A) : wpY_badColour (fun r => (r = 0 → K) ∧ (¬ r = 0 → A)) (hc, bx, o1, o2, o3, ar, w1, w2, w3, C, D, M, ce, cX, cY, cD, cC, cU, cV, ru) v := by
  unfold wpY_badColour
  exact ty_le (fun z => br_t rfl (h1 z)) (fun z => br_f tr_10 (h0 z))
theorem ty_badPixel {x y : Int32} (h1 : tr_bt x 15 → tr_bt y 15 → K) (h0 : ¬ (tr_bt x 15 ∧ tr_bt y 15) → A) : wpY_badPixel (fun r => (r = 0 → K) ∧ (¬ r = 0 → A)) (hc, bx, o1, o2, o3, ar, w1, w2, w3, C, D, M, ce, cX, cY, cD, cC, cU, cV, ru) x y := by
  unfold wpY_badPixel
  exact ty_lt (fun a => ty_le (fun b => br_t rfl (h1 a b)) (fun z => br_f tr_10 (h0 fun y => z y.2))) (fun z => br_f tr_10 (h0 fun y => z y.1))
end
def tr_gv (p : Int32) : Int32 := if p = 0 then 3 else if p = 4 then 3 else if p = 2 then 4 else if p = 3 then 2 else if p = 5 then 15 else 1
theorem ty_most {post : Int32 → Prop} {hc bx o1 o2 o3 ar w1 w2 w3 : Int32} {C D M ce cX cY cD cC cU cV ru : Nat → Int32} {p : Int32} (h : post (tr_gv p)) : wpY_most post (hc, bx, o1, o2, o3, ar, w1, w2, w3, C, D, M, ce, cX, cY, cD, cC, cU, cV, ru) p := by
  unfold tr_gv at h
  unfold wpY_most
  exact tr_i h id (fun h => tr_i h id (fun h => tr_i h id (fun h => tr_i h id (fun h => tr_i h id id))))
theorem tr_gv_o {p : Int32} (c : 5 < p) : tr_gv p = 1 := by
  unfold tr_gv
  rw [if_neg (tr_hi c (by decide)), if_neg (tr_hi c (by decide)), if_neg (tr_hi c (by decide)), if_neg (tr_hi c (by decide)), if_neg (tr_hi c (by decide))]
theorem tr_gv_k {p k g : Int32} (c : p = k) (h : tr_gv k = g) : tr_gv p = g := by
  rw [c]
  exact h
theorem tx_gv {post : Int32 → Prop} {p : Int32} (hp : ¬ p < 0) (h : post (tr_gv p)) : wpX_greatestValue post p := by
  unfold wpX_greatestValue
  refine br_f hp ⟨fun c => ?_, fun _ => ⟨fun c => ?_, fun _ => ⟨fun c => ?_, fun _ => ⟨fun c => ?_, fun _ => ⟨fun c => ?_, fun _ => ⟨fun c => ?_, fun _ => ⟨fun c => ?_, fun _ => trivial⟩⟩⟩⟩⟩⟩⟩
  · exact tr_v (tr_gv_o c) h
  · exact tr_v (tr_gv_k c (by decide)) h
  · exact tr_v (tr_gv_k c (by decide)) h
  · exact tr_v (tr_gv_k c (by decide)) h
  · exact tr_v (tr_gv_k c (by decide)) h
  · exact tr_v (tr_gv_k c (by decide)) h
  · exact tr_v (tr_gv_k c (by decide)) h
theorem tr_lt_of {k : Int32} (c : ¬ k = 0) (d : 0 ≤ k) : 0 < k ∧ ¬ k ≤ 0 := by
  have z : (0 : Int32).toInt = 0 := by decide
  have n : ¬ k.toInt = 0 := fun e => c (Int32.toInt_inj.mp (e.trans z.symm))
  rw [Int32.le_iff_toInt_le, z] at d
  rw [Int32.lt_iff_toInt_lt, Int32.le_iff_toInt_le, z]
  omega
theorem tr_neg_of {k : Int32} (h : -293378 ≤ k.toInt) (d : ¬ 0 ≤ k) : 0 < -k ∧ k ≤ 0 := by
  have z : (0 : Int32).toInt = 0 := by decide
  rw [Int32.le_iff_toInt_le, z] at d
  have e := tr_negI (x := k) (by omega)
  rw [Int32.lt_iff_toInt_lt, Int32.le_iff_toInt_le, z]
  omega
section
variable {fl fr ft fb hc : Int32} {C D M ce cX cY cD cR cG cB cU cV ru : Nat → Int32} {cC : Nat → Int32} {n : Nat}
theorem tx_draw {post : Int32 → SX → Prop} (hX : tr_bc cX) (hY : tr_bc cY) (hU : tr_b 127 cU) (hV : tr_b 127 cV) (hn : n < 216)
    (hz : tr_ar cX cY (nI (n / 36)) (nI (n / 6 % 6)) (nI (n % 6)) = 0 → post 0 (fl, fr, ft, fb, hc, C, D, M, ce, cX, cY, cD, (tr_pt cC 16), (tr_pt cC 8), (tr_pt cC 0), cU, cV, ru))
    (hp : 0 < tr_ar cX cY (nI (n / 36)) (nI (n / 6 % 6)) (nI (n % 6)) → ∀ (C' D' M' : Nat → Int32) (h' : Int32), (C', D', M', h') = tr_run cX cY cD cC cU cV ce ru fl fr ft fb (nI (n / 36)) (nI (n / 6 % 6)) (nI (n % 6)) (C, D, M, hc) 256 → post 0 (fl, fr, ft, fb, h', C', D', M', ce, cX, cY, cD, (tr_pt cC 16), (tr_pt cC 8), (tr_pt cC 0), cU, cV, ru))
    (hq : ¬ 0 ≤ tr_ar cX cY (nI (n / 36)) (nI (n / 6 % 6)) (nI (n % 6)) → ru 6 = 1 → post 0 (fl, fr, ft, fb, hc, C, D, M, ce, cX, cY, cD, (tr_pt cC 16), (tr_pt cC 8), (tr_pt cC 0), cU, cV, ru))
    (hr : ¬ 0 ≤ tr_ar cX cY (nI (n / 36)) (nI (n / 6 % 6)) (nI (n % 6)) → ¬ ru 6 = 1 → ∀ (C' D' M' : Nat → Int32) (h' : Int32), (C', D', M', h') = tr_run cX cY cD cC cU cV ce ru fl fr ft fb (nI (n / 36)) (nI (n % 6)) (nI (n / 6 % 6)) (C, D, M, hc) 256 → post 0 (fl, fr, ft, fb, h', C', D', M', ce, cX, cY, cD, (tr_pt cC 16), (tr_pt cC 8), (tr_pt cC 0), cU, cV, ru)) :
    wpX_draw post (fl, fr, ft, fb, hc, C, D, M, ce, cX, cY, cD, (tr_pt cC 16), (tr_pt cC 8), (tr_pt cC 0), cU, cV, ru) (nI n) := by
  have V : tr_bt (nI n) 215 := ⟨nI_pos' (by omega), nI_le (b := 215) (by omega) (by decide)⟩
  have i1 : vp_in (nI (n / 36)) 6 := tr_i6 (by omega)
  have i2 : vp_in (nI (n / 6 % 6)) 6 := tr_i6 (by omega)
  have i3 : vp_in (nI (n % 6)) 6 := tr_i6 (by omega)
  unfold wpX_draw
  refine tx_w (fun _ => ⟨tr_n36, nm_r (tr_c1 hn) ⟨tr_n6, tr_n6, nm_r (tr_c2 hn) ⟨tr_n6, nm_r (tr_c3 hn) (tx_area i1 i2 i3 ?_)⟩⟩⟩) (fun z => (z V).elim)
  unfold wpX_isNotDrawn
  refine ⟨fun c => br_f tr_10 (hz c), fun c => ⟨fun d => br_t rfl (br_f (tr_lt_of c d).2 ?_), fun d => ⟨fun e => br_f tr_10 (hq d e), fun e => br_t rfl (br_t (tr_neg_of (tr_arb hX hY).1 d).2 ?_)⟩⟩⟩
  · exact tx_front hX hY hU hV i1 i2 i3 (tr_lt_of c d).1 (hp (tr_lt_of c d).1)
  · have hs : 0 < tr_ar cX cY (nI (n / 36)) (nI (n % 6)) (nI (n / 6 % 6)) := by
      rw [tr_arswap]
      exact (tr_neg_of (tr_arb hX hY).1 d).1
    exact tx_front hX hY hU hV i1 i3 i2 hs (hr d e)
theorem tx_covered {post : Int32 → Prop} (hX : tr_bc cX) (hY : tr_bc cY) (hn : n < 216)
    (hz : tr_ar cX cY (nI (n / 36)) (nI (n / 6 % 6)) (nI (n % 6)) = 0 → post 0)
    (hp : 0 < tr_ar cX cY (nI (n / 36)) (nI (n / 6 % 6)) (nI (n % 6)) → post (tr_cnt cX cY (nI (n / 36)) (nI (n / 6 % 6)) (nI (n % 6)) 256))
    (hq : ¬ 0 ≤ tr_ar cX cY (nI (n / 36)) (nI (n / 6 % 6)) (nI (n % 6)) → ru 6 = 1 → post 0)
    (hr : ¬ 0 ≤ tr_ar cX cY (nI (n / 36)) (nI (n / 6 % 6)) (nI (n % 6)) → ¬ ru 6 = 1 → post (tr_cnt cX cY (nI (n / 36)) (nI (n % 6)) (nI (n / 6 % 6)) 256)) :
    wpX_covered post (fl, fr, ft, fb, hc, C, D, M, ce, cX, cY, cD, cR, cG, cB, cU, cV, ru) (nI n) := by
  have V : tr_bt (nI n) 215 := ⟨nI_pos' (by omega), nI_le (b := 215) (by omega) (by decide)⟩
  have i1 : vp_in (nI (n / 36)) 6 := tr_i6 (by omega)
  have i2 : vp_in (nI (n / 6 % 6)) 6 := tr_i6 (by omega)
  have i3 : vp_in (nI (n % 6)) 6 := tr_i6 (by omega)
  unfold wpX_covered
  refine tx_w (fun _ => ⟨tr_n36, nm_r (tr_c1 hn) ⟨tr_n6, tr_n6, nm_r (tr_c2 hn) ⟨tr_n6, nm_r (tr_c3 hn) (tx_area i1 i2 i3 ?_)⟩⟩⟩) (fun z => (z V).elim)
  unfold wpX_isNotDrawn
  refine ⟨fun c => br_f tr_10 (hz c), fun c => ⟨fun d => br_t rfl (br_f (tr_lt_of c d).2 ?_), fun d => ⟨fun e => br_f tr_10 (hq d e), fun e => br_t rfl (br_t (tr_neg_of (tr_arb hX hY).1 d).2 ?_)⟩⟩⟩
  · exact tx_count i1 i2 i3 (hp (tr_lt_of c d).1)
  · exact tx_count i1 i3 i2 (hr d e)
end
section
variable {hc bx o1 o2 o3 ar w1 w2 w3 : Int32} {C D M ce cX cY cD cC cU cV ru : Nat → Int32} {n : Nat}
theorem ty_draw {post : Int32 → SY → Prop} (hX : tr_bc cX) (hY : tr_bc cY) (hU : tr_b 127 cU) (hV : tr_b 127 cV) (hk : ∃ q : Nat, q ≤ 4 ∧ ru 2 = nI q) (h5 : ∃ q : Nat, q ≤ 15 ∧ ru 5 = nI q) (hM : tr_b 15 M) (hn : n < 216)
    (hz : tr_ar cX cY (nI (n / 36)) (nI (n / 6 % 6)) (nI (n % 6)) = 0 → ∀ o1 o2 o3 ar w1 w2 w3 : Int32, post 0 (hc, bx, o1, o2, o3, ar, w1, w2, w3, C, D, M, ce, cX, cY, cD, cC, cU, cV, ru))
    (hp : 0 < tr_ar cX cY (nI (n / 36)) (nI (n / 6 % 6)) (nI (n % 6)) → ∀ (o1 o2 o3 ar w1 w2 w3 : Int32) (C' D' M' : Nat → Int32) (h' : Int32), (C', D', M', h') = tr_run cX cY cD cC cU cV ce ru (bx / 4096) (bx / 256 - bx / 256 / 16 * 16) (bx / 16 - bx / 16 / 16 * 16) (bx - bx / 16 * 16) (nI (n / 36)) (nI (n / 6 % 6)) (nI (n % 6)) (C, D, M, hc) 256 → post 0 (h', bx, o1, o2, o3, ar, w1, w2, w3, C', D', M', ce, cX, cY, cD, cC, cU, cV, ru))
    (hq : ¬ 0 ≤ tr_ar cX cY (nI (n / 36)) (nI (n / 6 % 6)) (nI (n % 6)) → ru 6 = 1 → ∀ o1 o2 o3 ar w1 w2 w3 : Int32, post 0 (hc, bx, o1, o2, o3, ar, w1, w2, w3, C, D, M, ce, cX, cY, cD, cC, cU, cV, ru))
    (hr : ¬ 0 ≤ tr_ar cX cY (nI (n / 36)) (nI (n / 6 % 6)) (nI (n % 6)) → ¬ ru 6 = 1 → ∀ (o1 o2 o3 ar w1 w2 w3 : Int32) (C' D' M' : Nat → Int32) (h' : Int32), (C', D', M', h') = tr_run cX cY cD cC cU cV ce ru (bx / 4096) (bx / 256 - bx / 256 / 16 * 16) (bx / 16 - bx / 16 / 16 * 16) (bx - bx / 16 * 16) (nI (n / 36)) (nI (n % 6)) (nI (n / 6 % 6)) (C, D, M, hc) 256 → post 0 (h', bx, o1, o2, o3, ar, w1, w2, w3, C', D', M', ce, cX, cY, cD, cC, cU, cV, ru)) :
    wpY_draw post (hc, bx, o1, o2, o3, ar, w1, w2, w3, C, D, M, ce, cX, cY, cD, cC, cU, cV, ru) (nI n) := by
  have V : tr_bt (nI n) 215 := ⟨nI_pos' (by omega), nI_le (b := 215) (by omega) (by decide)⟩
  have i1 : vp_in (nI (n / 36)) 6 := tr_i6 (by omega)
  have i2 : vp_in (nI (n / 6 % 6)) 6 := tr_i6 (by omega)
  have i3 : vp_in (nI (n % 6)) 6 := tr_i6 (by omega)
  unfold wpY_draw
  refine ty_le (fun _ => ty_take hn (fun d => ?_) (fun d e => ?_) (fun d e => ?_)) (fun z => (z V).elim)
  · by_cases c : tr_ar cX cY (nI (n / 36)) (nI (n / 6 % 6)) (nI (n % 6)) = 0
    · exact ⟨257, ty_20z c (hz c _ _ _ _ _ _ _) 256 0 rfl⟩
    · exact ⟨257, ty_20 hX hY hU hV i1 i2 i3 hk h5 (tr_lt_of c d).1 (C, D, M, hc) hM (fun w1 w2 w3 C' D' M' h' e => hp (tr_lt_of c d).1 _ _ _ _ _ _ _ C' D' M' h' e) 256 0 rfl _ _ _ C D M hc rfl⟩
  · exact ⟨257, ty_20z rfl (hq d e _ _ _ _ _ _ _) 256 0 rfl⟩
  · have hs : 0 < tr_ar cX cY (nI (n / 36)) (nI (n % 6)) (nI (n / 6 % 6)) := by
      rw [tr_arswap]
      exact (tr_neg_of (tr_arb hX hY).1 d).1
    exact ⟨257, ty_20 hX hY hU hV i1 i3 i2 hk h5 hs (C, D, M, hc) hM (fun w1 w2 w3 C' D' M' h' z => hr d e _ _ _ _ _ _ _ C' D' M' h' z) 256 0 rfl _ _ _ C D M hc rfl⟩
theorem ty_covered {post : Int32 → SY → Prop} (hX : tr_bc cX) (hY : tr_bc cY) (hn : n < 216)
    (hz : tr_ar cX cY (nI (n / 36)) (nI (n / 6 % 6)) (nI (n % 6)) = 0 → ∀ o1 o2 o3 ar w1 w2 w3 : Int32, post 0 (hc, bx, o1, o2, o3, ar, w1, w2, w3, C, D, M, ce, cX, cY, cD, cC, cU, cV, ru))
    (hp : 0 < tr_ar cX cY (nI (n / 36)) (nI (n / 6 % 6)) (nI (n % 6)) → ∀ o1 o2 o3 ar w1 w2 w3 : Int32, post (tr_cnt cX cY (nI (n / 36)) (nI (n / 6 % 6)) (nI (n % 6)) 256) (hc, bx, o1, o2, o3, ar, w1, w2, w3, C, D, M, ce, cX, cY, cD, cC, cU, cV, ru))
    (hq : ¬ 0 ≤ tr_ar cX cY (nI (n / 36)) (nI (n / 6 % 6)) (nI (n % 6)) → ru 6 = 1 → ∀ o1 o2 o3 ar w1 w2 w3 : Int32, post 0 (hc, bx, o1, o2, o3, ar, w1, w2, w3, C, D, M, ce, cX, cY, cD, cC, cU, cV, ru))
    (hr : ¬ 0 ≤ tr_ar cX cY (nI (n / 36)) (nI (n / 6 % 6)) (nI (n % 6)) → ¬ ru 6 = 1 → ∀ o1 o2 o3 ar w1 w2 w3 : Int32, post (tr_cnt cX cY (nI (n / 36)) (nI (n % 6)) (nI (n / 6 % 6)) 256) (hc, bx, o1, o2, o3, ar, w1, w2, w3, C, D, M, ce, cX, cY, cD, cC, cU, cV, ru)) :
    wpY_covered post (hc, bx, o1, o2, o3, ar, w1, w2, w3, C, D, M, ce, cX, cY, cD, cC, cU, cV, ru) (nI n) := by
  have V : tr_bt (nI n) 215 := ⟨nI_pos' (by omega), nI_le (b := 215) (by omega) (by decide)⟩
  have i1 : vp_in (nI (n / 36)) 6 := tr_i6 (by omega)
  have i2 : vp_in (nI (n / 6 % 6)) 6 := tr_i6 (by omega)
  have i3 : vp_in (nI (n % 6)) 6 := tr_i6 (by omega)
  unfold wpY_covered
  refine ty_le (fun _ => ty_take hn (fun d => ?_) (fun d e => ?_) (fun d e => ?_)) (fun z => (z V).elim)
  · by_cases c : tr_ar cX cY (nI (n / 36)) (nI (n / 6 % 6)) (nI (n % 6)) = 0
    · exact ⟨257, ty_22z c (hz c _ _ _ _ _ _ _) 256 0 rfl⟩
    · exact ⟨257, ty_22 i1 i2 i3 c (fun _ _ _ => hp (tr_lt_of c d).1 _ _ _ _ _ _ _) 256 0 rfl _ _ _⟩
  · exact ⟨257, ty_22z rfl (hq d e _ _ _ _ _ _ _) 256 0 rfl⟩
  · have hs : 0 < tr_ar cX cY (nI (n / 36)) (nI (n % 6)) (nI (n / 6 % 6)) := by
      rw [tr_arswap]
      exact (tr_neg_of (tr_arb hX hY).1 d).1
    exact ⟨257, ty_22 i1 i3 i2 (tr_ne0 hs) (fun _ _ _ => hr d e _ _ _ _ _ _ _) 256 0 rfl _ _ _⟩
end
end
section
/-! the relation, and what is owed -/
def tr_inv (M cX cY cD cU cV ru : Nat → Int32) : Prop :=
  tr_b 15 M ∧ tr_bc cX ∧ tr_bc cY ∧ tr_b 255 cD ∧ tr_b 127 cU ∧ tr_b 127 cV ∧ (∃ q : Nat, q ≤ 4 ∧ ru 2 = nI q) ∧ (∃ q : Nat, q ≤ 15 ∧ ru 5 = nI q)
def i_Rel (_ : Nat) (u : SX) (v : SY) : Prop :=
  ∃ (bx hc : Int32) (C D M ce cX cY cD cC cU cV ru : Nat → Int32) (o1 o2 o3 ar w1 w2 w3 : Int32), u = (bx / 4096, bx / 256 - bx / 256 / 16 * 16, bx / 16 - bx / 16 / 16 * 16, bx - bx / 16 * 16, hc, C, D, M, ce, cX, cY, cD, tr_pt cC 16, tr_pt cC 8, tr_pt cC 0, cU, cV, ru) ∧ v = (hc, bx, o1, o2, o3, ar, w1, w2, w3, C, D, M, ce, cX, cY, cD, cC, cU, cV, ru) ∧ tr_inv M cX cY cD cU cV ru
theorem tr_mk {k : Nat} {hc bx o1 o2 o3 ar w1 w2 w3 : Int32} {C D M ce cX cY cD cC cU cV ru : Nat → Int32} (h : tr_inv M cX cY cD cU cV ru) : i_Rel k (bx / 4096, bx / 256 - bx / 256 / 16 * 16, bx / 16 - bx / 16 / 16 * 16, bx - bx / 16 * 16, hc, C, D, M, ce, cX, cY, cD, tr_pt cC 16, tr_pt cC 8, tr_pt cC 0, cU, cV, ru) (hc, bx, o1, o2, o3, ar, w1, w2, w3, C, D, M, ce, cX, cY, cD, cC, cU, cV, ru) :=
  ⟨bx, hc, C, D, M, ce, cX, cY, cD, cC, cU, cV, ru, o1, o2, o3, ar, w1, w2, w3, rfl, rfl, h⟩
theorem tr_mk2 {k : Nat} {hc bx o1 o2 o3 ar w1 w2 w3 : Int32} {C D M ce cX cY cD cC cU cV ru : Nat → Int32} {fl fr ft fb : Int32} {cR cG cB : Nat → Int32} (e1 : fl = bx / 4096) (e2 : fr = bx / 256 - bx / 256 / 16 * 16) (e3 : ft = bx / 16 - bx / 16 / 16 * 16) (e4 : fb = bx - bx / 16 * 16) (e5 : cR = tr_pt cC 16) (e6 : cG = tr_pt cC 8) (e7 : cB = tr_pt cC 0) (h : tr_inv M cX cY cD cU cV ru) : i_Rel k (fl, fr, ft, fb, hc, C, D, M, ce, cX, cY, cD, cR, cG, cB, cU, cV, ru) (hc, bx, o1, o2, o3, ar, w1, w2, w3, C, D, M, ce, cX, cY, cD, cC, cU, cV, ru) := by
  subst e1 e2 e3 e4 e5 e6 e7
  exact tr_mk h
theorem i_up {k : Nat} {u : SX} {v : SY} (h : i_Rel k u v) : i_Rel (k + 5) u v := h
theorem tr_pt0 {s : Int32} (h : tr_part 0 s = 0) : (fun _ => 0) = tr_pt (fun _ => 0) s := by
  funext j
  exact h.symm
theorem tr_inv0 : tr_inv (fun _ => 0) (fun _ => 0) (fun _ => 0) (fun _ => 0) (fun _ => 0) (fun _ => 0) (tr_ru0 (fun _ => 0) 8) :=
  ⟨tr_b_0 15, tr_bc_0, tr_bc_0, tr_b_0 255, tr_b_0 127, tr_b_0 127, ⟨0, by decide, rfl⟩, ⟨0, by decide, rfl⟩⟩
theorem i_vc0 : wpX_init (fun u => wpY_init (fun v => i_Rel 0 u v)) := by
  unfold wpX_init
  refine tx_fill (tx_settings ?_)
  rw [tr_fill_k, tr_fill_k, tr_fill_k]
  unfold wpY_init
  have K : i_Rel 0 (0, 15, 0, 15, 0, (fun _ => 0), tr_fill (fun _ => 0) 255 256, (fun _ => 0), (fun _ => 0), (fun _ => 0), (fun _ => 0), (fun _ => 0), (fun _ => 0), (fun _ => 0), (fun _ => 0), (fun _ => 0), (fun _ => 0), tr_ru0 (fun _ => 0) 8) (0, 3855, 0, 0, 0, 0, 0, 0, 0, (fun _ => 0), tr_fill (fun _ => 0) 255 256, (fun _ => 0), (fun _ => 0), (fun _ => 0), (fun _ => 0), (fun _ => 0), (fun _ => 0), (fun _ => 0), (fun _ => 0), tr_ru0 (fun _ => 0) 8) :=
    tr_mk2 (by decide) (by decide) (by decide) (by decide) (tr_pt0 tr_part_0.1) (tr_pt0 tr_part_0.2.1) (tr_pt0 tr_part_0.2.2) tr_inv0
  have Q := ty_97 (ty_rules (bx := 0) K) 256 0 rfl
  rw [tr_fill_0] at Q
  exact ⟨257, Q⟩
theorem i_vc_corner {k : Nat} {u : SX} {v : SY} (I : i_Rel k u v) (hk : k + 5 ≤ 2560) (v1 : Int32) (v2 : Int32) (v3 : Int32) (v4 : Int32) : wpX_corner (fun r u' => wpY_corner (fun r' v' => r' = r ∧ i_Rel (k + 5) u' v') v v1 v2 v3 v4) u v1 v2 v3 v4 := by
  obtain ⟨bx, hc, C, D, M, ce, cX, cY, cD, cC, cU, cV, ru, o1, o2, o3, ar, w1, w2, w3, rfl, rfl, h⟩ := I
  have J := h
  obtain ⟨hM, hX, hY, hD, hU, hV, hk4, h5⟩ := h
  have Bad : ¬ (tr_bt v1 5 ∧ tr_bt v2 147455 ∧ tr_bt v3 255 ∧ tr_bt v4 16777215) → wpY_corner (fun r' v' => r' = -1 ∧ i_Rel (k + 5) (bx / 4096, bx / 256 - bx / 256 / 16 * 16, bx / 16 - bx / 16 / 16 * 16, bx - bx / 16 * 16, hc, C, D, M, ce, cX, cY, cD, tr_pt cC 16, tr_pt cC 8, tr_pt cC 0, cU, cV, ru) v') (hc, bx, o1, o2, o3, ar, w1, w2, w3, C, D, M, ce, cX, cY, cD, cC, cU, cV, ru) v1 v2 v3 v4 := by
    intro z
    unfold wpY_corner
    exact ty_badCorner (fun a => ty_lt (fun b => ty_badByte (fun c => ty_badColour (fun d => (z ⟨a, b, c, d⟩).elim) (fun _ => ⟨rfl, tr_mk J⟩)) (fun _ => ⟨rfl, tr_mk J⟩)) (fun _ => ⟨rfl, tr_mk J⟩)) (fun _ => ⟨rfl, tr_mk J⟩)
  unfold wpX_corner
  refine tx_w (fun a => tx_w (fun b => tx_w (fun c => tx_w (fun d => ?_) (fun z => Bad fun y => z y.2.2.2)) (fun z => Bad fun y => z y.2.2.1)) (fun z => Bad fun y => z y.2.1)) (fun z => Bad fun y => z y.1)
  have a' := a
  have b' := b
  obtain ⟨n1, l1, rfl⟩ := tr_bt_n a' (n := 5)
  obtain ⟨n2, l2, rfl⟩ := tr_bt_n b' (n := 147455)
  have hin : vp_in (nI n1) 6 := tr_i6 (by omega)
  have q1 : tr_co (nI n2 - nI n2 / 384 * 384 - 64) := by
    rw [tr_px384 l2]
    exact tr_co_of (by omega)
  have q2 : tr_co (nI n2 / 384 - 64) := by
    rw [tr_py384 l2]
    exact tr_co_of (by omega)
  refine ⟨tr_n384, hin, nm_r (congrArg (upd cX (nI n1).toNatClampNeg) (tr_sub64 _)) ⟨tr_n384, hin, nm_r (congrArg (upd cY (nI n1).toNatClampNeg) (tr_sub64 _)) ⟨hin, nm_e (tx_part ⟨hin, nm_r (tr_pt_upd cC 16 _ v4) (tx_part ⟨hin, nm_r (tr_pt_upd cC 8 _ v4) (tx_part ⟨hin, nm_r (tr_pt_upd cC 0 _ v4) ?_⟩)⟩)⟩)⟩⟩⟩
  unfold wpY_corner
  exact ty_badCorner (fun _ => ty_lt (fun _ => ty_badByte (fun _ => ty_badColour (fun _ => ⟨tr_n384, hin, nm_e ⟨tr_n384, hin, nm_e ⟨hin, nm_e ⟨hin, nm_e ⟨rfl, tr_mk ⟨hM, tr_bc_upd hX q1, tr_bc_upd hY q2, tr_b_upd hD (tr_bt_n c (n := 255)), hU, hV, hk4, h5⟩⟩⟩⟩⟩⟩) (fun z => (z d).elim)) (fun z => (z c).elim)) (fun z => (z b).elim)) (fun z => (z a).elim)
theorem i_vc_aim {k : Nat} {u : SX} {v : SY} (I : i_Rel k u v) (hk : k + 5 ≤ 2560) (v1 : Int32) (v2 : Int32) (v3 : Int32) : wpX_aim (fun r u' => wpY_aim (fun r' v' => r' = r ∧ i_Rel (k + 5) u' v') v v1 v2 v3) u v1 v2 v3 := by
  obtain ⟨bx, hc, C, D, M, ce, cX, cY, cD, cC, cU, cV, ru, o1, o2, o3, ar, w1, w2, w3, rfl, rfl, h⟩ := I
  have J := h
  obtain ⟨hM, hX, hY, hD, hU, hV, hk4, h5⟩ := h
  have Bad : ¬ (tr_bt v1 5 ∧ tr_bt v2 127 ∧ tr_bt v3 127) → wpY_aim (fun r' v' => r' = -1 ∧ i_Rel (k + 5) (bx / 4096, bx / 256 - bx / 256 / 16 * 16, bx / 16 - bx / 16 / 16 * 16, bx - bx / 16 * 16, hc, C, D, M, ce, cX, cY, cD, tr_pt cC 16, tr_pt cC 8, tr_pt cC 0, cU, cV, ru) v') (hc, bx, o1, o2, o3, ar, w1, w2, w3, C, D, M, ce, cX, cY, cD, cC, cU, cV, ru) v1 v2 v3 := by
    intro z
    unfold wpY_aim
    exact ty_badCorner (fun a => ty_lt (fun b => ty_le (fun c => (z ⟨a, b, c⟩).elim) (fun _ => ⟨rfl, tr_mk J⟩)) (fun _ => ⟨rfl, tr_mk J⟩)) (fun _ => ⟨rfl, tr_mk J⟩)
  unfold wpX_aim
  refine tx_w (fun a => tx_w (fun b => tx_w (fun c => ?_) (fun z => Bad fun y => z y.2.2)) (fun z => Bad fun y => z y.2.1)) (fun z => Bad fun y => z y.1)
  have hin : vp_in v1 6 := by
    obtain ⟨n1, l1, rfl⟩ := tr_bt_n a (n := 5)
    exact tr_i6 (by omega)
  refine ⟨hin, nm_e ⟨hin, nm_e ?_⟩⟩
  unfold wpY_aim
  exact ty_badCorner (fun _ => ty_lt (fun _ => ty_le (fun _ => ⟨hin, nm_e ⟨hin, nm_e ⟨rfl, tr_mk ⟨hM, hX, hY, hD, tr_b_upd hU (tr_bt_n b (n := 127)), tr_b_upd hV (tr_bt_n c (n := 127)), hk4, h5⟩⟩⟩⟩) (fun z => (z c).elim)) (fun z => (z b).elim)) (fun z => (z a).elim)
theorem i_vc_cell {k : Nat} {u : SX} {v : SY} (I : i_Rel k u v) (hk : k + 5 ≤ 2560) (v1 : Int32) (v2 : Int32) (v3 : Int32) : wpX_cell (fun r u' => wpY_cell (fun r' v' => r' = r ∧ i_Rel (k + 5) u' v') v v1 v2 v3) u v1 v2 v3 := by
  obtain ⟨bx, hc, C, D, M, ce, cX, cY, cD, cC, cU, cV, ru, o1, o2, o3, ar, w1, w2, w3, rfl, rfl, h⟩ := I
  have J := h
  obtain ⟨hM, hX, hY, hD, hU, hV, hk4, h5⟩ := h
  have Bad : ¬ (tr_bt v1 7 ∧ tr_bt v2 7 ∧ tr_bt v3 16777215) → wpY_cell (fun r' v' => r' = -1 ∧ i_Rel (k + 5) (bx / 4096, bx / 256 - bx / 256 / 16 * 16, bx / 16 - bx / 16 / 16 * 16, bx - bx / 16 * 16, hc, C, D, M, ce, cX, cY, cD, tr_pt cC 16, tr_pt cC 8, tr_pt cC 0, cU, cV, ru) v') (hc, bx, o1, o2, o3, ar, w1, w2, w3, C, D, M, ce, cX, cY, cD, cC, cU, cV, ru) v1 v2 v3 := by
    intro z
    unfold wpY_cell
    exact ty_lt (fun a => ty_lt (fun b => ty_badColour (fun c => (z ⟨a, b, c⟩).elim) (fun _ => ⟨rfl, tr_mk J⟩)) (fun _ => ⟨rfl, tr_mk J⟩)) (fun _ => ⟨rfl, tr_mk J⟩)
  unfold wpX_cell
  refine tx_w (fun a => tx_w (fun b => tx_w (fun c => ?_) (fun z => Bad fun y => z y.2.2)) (fun z => Bad fun y => z y.2.1)) (fun z => Bad fun y => z y.1)
  have hin : vp_in (8 * v2 + v1) 64 := by
    obtain ⟨n1, l1, rfl⟩ := tr_bt_n a (n := 7)
    obtain ⟨n2, l2, rfl⟩ := tr_bt_n b (n := 7)
    have e : (8 : Int32) * nI n2 + nI n1 = nI (8 * n2 + n1) := by
      show nI 8 * nI n2 + nI n1 = _
      rw [pk_mul, nI_add]
    rw [e]
    exact vp_in_nI (by omega) (by decide)
  refine nm_e ⟨hin, nm_e ⟨hin, nm_e ?_⟩⟩
  unfold wpY_cell
  exact ty_lt (fun _ => ty_lt (fun _ => ty_badColour (fun _ => ⟨hin, nm_e ⟨hin, nm_e ⟨rfl, tr_mk J⟩⟩⟩) (fun z => (z c).elim)) (fun z => (z b).elim)) (fun z => (z a).elim)
theorem i_vc_grab {k : Nat} {u : SX} {v : SY} (I : i_Rel k u v) (hk : k + 5 ≤ 2560) (v1 : Int32) (v2 : Int32) : wpX_grab (fun r u' => wpY_grab (fun r' v' => r' = r ∧ i_Rel (k + 5) u' v') v v1 v2) u v1 v2 := by
  obtain ⟨bx, hc, C, D, M, ce, cX, cY, cD, cC, cU, cV, ru, o1, o2, o3, ar, w1, w2, w3, rfl, rfl, h⟩ := I
  have J := h
  obtain ⟨hM, hX, hY, hD, hU, hV, hk4, h5⟩ := h
  have Bad : ¬ (tr_bt v1 8 ∧ tr_bt v2 8) → wpY_grab (fun r' v' => r' = -1 ∧ i_Rel (k + 5) (bx / 4096, bx / 256 - bx / 256 / 16 * 16, bx / 16 - bx / 16 / 16 * 16, bx - bx / 16 * 16, hc, C, D, M, ce, cX, cY, cD, tr_pt cC 16, tr_pt cC 8, tr_pt cC 0, cU, cV, ru) v') (hc, bx, o1, o2, o3, ar, w1, w2, w3, C, D, M, ce, cX, cY, cD, cC, cU, cV, ru) v1 v2 := by
    intro z
    unfold wpY_grab
    exact ty_lt (fun a => ty_le (fun b => (z ⟨a, b⟩).elim) (fun _ => ⟨rfl, tr_mk J⟩)) (fun _ => ⟨rfl, tr_mk J⟩)
  unfold wpX_grab
  refine tx_w (fun a => tx_w (fun b => ?_) (fun z => Bad fun y => z y.2)) (fun z => Bad fun y => z y.1)
  have a' := a
  have b' := b
  obtain ⟨n1, l1, rfl⟩ := tr_bt_n a' (n := 8)
  obtain ⟨n2, l2, rfl⟩ := tr_bt_n b' (n := 8)
  have HY : wpY_grab (fun r' v' => r' = 0 ∧ i_Rel (k + 5) (bx / 4096, bx / 256 - bx / 256 / 16 * 16, bx / 16 - bx / 16 / 16 * 16, bx - bx / 16 * 16, hc, C, D, M, (tr_grX ce C n1 n2 64), cX, cY, cD, tr_pt cC 16, tr_pt cC 8, tr_pt cC 0, cU, cV, ru) v') (hc, bx, o1, o2, o3, ar, w1, w2, w3, C, D, M, ce, cX, cY, cD, cC, cU, cV, ru) (nI n1) (nI n2) := by
    unfold wpY_grab
    refine ty_lt (fun _ => ty_le (fun _ => ?_) (fun z => (z b).elim)) (fun z => (z a).elim)
    have K := ty_24 (post := fun r' v' => r' = 0 ∧ i_Rel (k + 5) (bx / 4096, bx / 256 - bx / 256 / 16 * 16, bx / 16 - bx / 16 / 16 * 16, bx - bx / 16 * 16, hc, C, D, M, (tr_grX ce C n1 n2 64), cX, cY, cD, tr_pt cC 16, tr_pt cC 8, tr_pt cC 0, cU, cV, ru) v') (hc := hc) (bx := bx) (o1 := o1) (o2 := o2) (o3 := o3) (ar := ar) (w1 := w1) (w2 := w2) (w3 := w3) (C := C) (D := D) (M := M) (ce := ce) (cX := cX) (cY := cY) (cD := cD) (cC := cC) (cU := cU) (cV := cV) (ru := ru) l1 l2 ⟨rfl, by rw [tr_grXY]; exact tr_mk J⟩ 8 0 rfl
    rw [tr_grY_0] at K
    exact ⟨9, K⟩
  have K := tx_22 (post := fun r u' => wpY_grab (fun r' v' => r' = r ∧ i_Rel (k + 5) u' v') (hc, bx, o1, o2, o3, ar, w1, w2, w3, C, D, M, ce, cX, cY, cD, cC, cU, cV, ru) (nI n1) (nI n2))  l1 l2 HY 8 0 rfl
  rw [Nat.mul_zero, tr_grX_0] at K
  exact ⟨9, K⟩
theorem i_vc_window {k : Nat} {u : SX} {v : SY} (I : i_Rel k u v) (hk : k + 5 ≤ 2560) (v1 : Int32) : wpX_window (fun r u' => wpY_window (fun r' v' => r' = r ∧ i_Rel (k + 5) u' v') v v1) u v1 := by
  obtain ⟨bx, hc, C, D, M, ce, cX, cY, cD, cC, cU, cV, ru, o1, o2, o3, ar, w1, w2, w3, rfl, rfl, h⟩ := I
  have J := h
  obtain ⟨hM, hX, hY, hD, hU, hV, hk4, h5⟩ := h
  unfold wpX_window
  refine tx_w (fun a => ⟨tr_n4096, nm_e ⟨tr_n256, tr_n16, nm_e ⟨tr_n16, tr_n16, nm_e ⟨tr_n16, nm_e ?_⟩⟩⟩⟩) (fun a => ?_)
  · unfold wpY_window
    exact ty_le (fun _ => ⟨rfl, tr_mk J⟩) (fun z => (z a).elim)
  · unfold wpY_window
    exact ty_le (fun z => (a z).elim) (fun _ => ⟨rfl, tr_mk J⟩)
theorem i_vc_rule {k : Nat} {u : SX} {v : SY} (I : i_Rel k u v) (hk : k + 5 ≤ 2560) (v1 : Int32) (v2 : Int32) : wpX_rule (fun r u' => wpY_rule (fun r' v' => r' = r ∧ i_Rel (k + 5) u' v') v v1 v2) u v1 v2 := by
  obtain ⟨bx, hc, C, D, M, ce, cX, cY, cD, cC, cU, cV, ru, o1, o2, o3, ar, w1, w2, w3, rfl, rfl, h⟩ := I
  have J := h
  obtain ⟨hM, hX, hY, hD, hU, hV, hk4, h5⟩ := h
  have Bad : ¬ (tr_bt v1 7 ∧ tr_bt v2 (tr_gv v1)) → wpY_rule (fun r' v' => r' = -1 ∧ i_Rel (k + 5) (bx / 4096, bx / 256 - bx / 256 / 16 * 16, bx / 16 - bx / 16 / 16 * 16, bx - bx / 16 * 16, hc, C, D, M, ce, cX, cY, cD, tr_pt cC 16, tr_pt cC 8, tr_pt cC 0, cU, cV, ru) v') (hc, bx, o1, o2, o3, ar, w1, w2, w3, C, D, M, ce, cX, cY, cD, cC, cU, cV, ru) v1 v2 := by
    intro z
    unfold wpY_rule
    exact ty_lt (fun a => ⟨fun _ => ⟨rfl, tr_mk J⟩, fun c => ty_most ⟨fun d => (z ⟨a, Int32.not_lt.mp c, d⟩).elim, fun _ => ⟨rfl, tr_mk J⟩⟩⟩) (fun _ => ⟨rfl, tr_mk J⟩)
  unfold wpX_rule
  refine tx_w (fun a => tx_gv (Int32.not_lt.mpr a.1) (tx_w (fun b => ?_) (fun z => Bad fun y => z y.2))) (fun z => Bad fun y => z y.1)
  have a' := a
  obtain ⟨n1, l1, rfl⟩ := tr_bt_n a' (n := 7)
  have hin : vp_in (nI n1) 8 := vp_in_nI (by omega) (by decide)
  have e1 : (nI n1).toNatClampNeg = n1 := nI_clamp (by omega)
  have q2 : ∃ q : Nat, q ≤ 4 ∧ upd ru (nI n1).toNatClampNeg v2 2 = nI q := by
    rw [e1]
    by_cases z : 2 = n1
    · subst z
      rw [pk_us]
      exact tr_bt_n b (n := 4)
    · rw [pk_un z]
      exact hk4
  have q5 : ∃ q : Nat, q ≤ 15 ∧ upd ru (nI n1).toNatClampNeg v2 5 = nI q := by
    rw [e1]
    by_cases z : 5 = n1
    · subst z
      rw [pk_us]
      exact tr_bt_n b (n := 15)
    · rw [pk_un z]
      exact h5
  refine ⟨hin, nm_e ⟨hin, nm_e ?_⟩⟩
  unfold wpY_rule
  exact ty_lt (fun _ => br_f (Int32.not_lt.mpr b.1) (ty_most (br_t b.2 ⟨hin, nm_e ⟨hin, nm_e ⟨rfl, tr_mk ⟨hM, hX, hY, hD, hU, hV, q2, q5⟩⟩⟩⟩))) (fun z => (z a).elim)
theorem i_vc_draw {k : Nat} {u : SX} {v : SY} (I : i_Rel k u v) (hk : k + 5 ≤ 2560) (v1 : Int32) : wpX_draw (fun r u' => wpY_draw (fun r' v' => r' = r ∧ i_Rel (k + 5) u' v') v v1) u v1 := by
  obtain ⟨bx, hc, C, D, M, ce, cX, cY, cD, cC, cU, cV, ru, o1, o2, o3, ar, w1, w2, w3, rfl, rfl, h⟩ := I
  have J := h
  obtain ⟨hM, hX, hY, hD, hU, hV, hk4, h5⟩ := h
  by_cases V : tr_bt v1 215
  · obtain ⟨n, ln, rfl⟩ := tr_bt_n V (n := 215)
    have hn : n < 216 := by omega
    have hr : ∀ (p q r : Int32) (C' D' M' : Nat → Int32) (h' : Int32), (C', D', M', h') = tr_run cX cY cD cC cU cV ce ru (bx / 4096) (bx / 256 - bx / 256 / 16 * 16) (bx / 16 - bx / 16 / 16 * 16) (bx - bx / 16 * 16) p q r (C, D, M, hc) 256 → tr_b 15 M' := by
      intro p q r C' D' M' h' e
      have z := tr_run_m cX cY cD cC cU cV ce ru (bx / 4096) (bx / 256 - bx / 256 / 16 * 16) (bx / 16 - bx / 16 / 16 * 16) (bx - bx / 16 * 16) p q r h5 (C, D, M, hc) hM 256
      rw [← e] at z
      exact z
    refine tx_draw hX hY hU hV hn (fun c => ?_) (fun c C' D' M' h' e => ?_) (fun c d => ?_) (fun c d C' D' M' h' e => ?_)
    · refine ty_draw hX hY hU hV hk4 h5 hM hn (fun _ _ _ _ _ _ _ _ => ⟨rfl, tr_mk J⟩) (fun c2 => ?_) (fun c2 => ?_) (fun c2 => ?_)
      · rw [c] at c2
        exact absurd c2 (by decide)
      · rw [c] at c2
        exact absurd (by decide) c2
      · rw [c] at c2
        exact absurd (by decide) c2
    · refine ty_draw hX hY hU hV hk4 h5 hM hn (fun c2 => ?_) (fun _ _ _ _ _ _ _ _ C2 D2 M2 h2 e2 => ?_) (fun c2 => ?_) (fun c2 => ?_)
      · rw [c2] at c
        exact absurd c (by decide)
      · cases e.trans e2.symm
        exact ⟨rfl, tr_mk ⟨hr _ _ _ _ _ _ _ e, hX, hY, hD, hU, hV, hk4, h5⟩⟩
      · exact absurd (Int32.le_of_lt c) c2
      · exact absurd (Int32.le_of_lt c) c2
    · refine ty_draw hX hY hU hV hk4 h5 hM hn (fun c2 => ?_) (fun c2 => ?_) (fun _ _ _ _ _ _ _ _ _ => ⟨rfl, tr_mk J⟩) (fun _ d2 => absurd d d2)
      · rw [c2] at c
        exact absurd (by decide) c
      · exact absurd (Int32.le_of_lt c2) c
    · refine ty_draw hX hY hU hV hk4 h5 hM hn (fun c2 => ?_) (fun c2 => ?_) (fun _ d2 => absurd d2 d) (fun _ _ _ _ _ _ _ _ _ C2 D2 M2 h2 e2 => ?_)
      · rw [c2] at c
        exact absurd (by decide) c
      · exact absurd (Int32.le_of_lt c2) c
      · cases e.trans e2.symm
        exact ⟨rfl, tr_mk ⟨hr _ _ _ _ _ _ _ e, hX, hY, hD, hU, hV, hk4, h5⟩⟩
  · unfold wpX_draw
    refine tx_w (fun z => (V z).elim) (fun _ => ?_)
    unfold wpY_draw
    exact ty_le (fun z => (V z).elim) (fun _ => ⟨rfl, tr_mk J⟩)
theorem i_vc_clear {k : Nat} {u : SX} {v : SY} (I : i_Rel k u v) (hk : k + 5 ≤ 2560) (v1 : Int32) (v2 : Int32) (v3 : Int32) : wpX_clear (fun r u' => wpY_clear (fun r' v' => r' = r ∧ i_Rel (k + 5) u' v') v v1 v2 v3) u v1 v2 v3 := by
  obtain ⟨bx, hc, C, D, M, ce, cX, cY, cD, cC, cU, cV, ru, o1, o2, o3, ar, w1, w2, w3, rfl, rfl, h⟩ := I
  have J := h
  obtain ⟨hM, hX, hY, hD, hU, hV, hk4, h5⟩ := h
  have Bad : ¬ (tr_bt v1 16777215 ∧ tr_bt v2 255 ∧ tr_bt v3 15) → wpY_clear (fun r' v' => r' = -1 ∧ i_Rel (k + 5) (bx / 4096, bx / 256 - bx / 256 / 16 * 16, bx / 16 - bx / 16 / 16 * 16, bx - bx / 16 * 16, hc, C, D, M, ce, cX, cY, cD, tr_pt cC 16, tr_pt cC 8, tr_pt cC 0, cU, cV, ru) v') (hc, bx, o1, o2, o3, ar, w1, w2, w3, C, D, M, ce, cX, cY, cD, cC, cU, cV, ru) v1 v2 v3 := by
    intro z
    unfold wpY_clear
    exact ty_badColour (fun a => ty_badByte (fun b => ty_le (fun c => (z ⟨a, b, c⟩).elim) (fun _ => ⟨rfl, tr_mk J⟩)) (fun _ => ⟨rfl, tr_mk J⟩)) (fun _ => ⟨rfl, tr_mk J⟩)
  unfold wpX_clear
  refine tx_w (fun a => tx_w (fun b => tx_w (fun c => tx_fill ?_) (fun z => Bad fun y => z y.2.2)) (fun z => Bad fun y => z y.2.1)) (fun z => Bad fun y => z y.1)
  unfold wpY_clear
  refine ty_badColour (fun _ => ty_badByte (fun _ => ty_le (fun _ => ?_) (fun z => (z c).elim)) (fun z => (z b).elim)) (fun z => (z a).elim)
  have K := ty_31 (post := fun r' v' => r' = 0 ∧ i_Rel (k + 5) (bx / 4096, bx / 256 - bx / 256 / 16 * 16, bx / 16 - bx / 16 / 16 * 16, bx - bx / 16 * 16, hc, (tr_fill C v1 256), (tr_fill D v2 256), (tr_fill M v3 256), ce, cX, cY, cD, tr_pt cC 16, tr_pt cC 8, tr_pt cC 0, cU, cV, ru) v') (x1 := v1) (x2 := v2) (x3 := v3) (hc := hc) (bx := bx) (o1 := o1) (o2 := o2) (o3 := o3) (ar := ar) (w1 := w1) (w2 := w2) (w3 := w3) (C := C) (D := D) (M := M) (ce := ce) (cX := cX) (cY := cY) (cD := cD) (cC := cC) (cU := cU) (cV := cV) (ru := ru) ⟨rfl, tr_mk ⟨tr_b_fill hM (tr_bt_n c (n := 15)), hX, hY, hD, hU, hV, hk4, h5⟩⟩ 256 0 rfl
  rw [tr_fill_0, tr_fill_0, tr_fill_0] at K
  exact ⟨257, K⟩
theorem i_vc_reset {k : Nat} {u : SX} {v : SY} (I : i_Rel k u v) (hk : k + 5 ≤ 2560) : wpX_reset (fun u' => wpY_reset (fun v' => i_Rel (k + 5) u' v') v) u := by
  obtain ⟨bx, hc, C, D, M, ce, cX, cY, cD, cC, cU, cV, ru, o1, o2, o3, ar, w1, w2, w3, rfl, rfl, h⟩ := I
  have J := h
  obtain ⟨hM, hX, hY, hD, hU, hV, hk4, h5⟩ := h
  unfold wpX_reset
  refine tx_settings ?_
  unfold wpY_reset
  refine ty_rules ?_
  have K := ty_6 (post := fun v' => i_Rel (k + 5) (0, 15, 0, 15, hc, C, D, M, (tr_fill ce 0 64), (tr_fill cX 0 6), (tr_fill cY 0 6), (tr_fill cD 0 6), (tr_fill (tr_pt cC 16) 0 6), (tr_fill (tr_pt cC 8) 0 6), (tr_fill (tr_pt cC 0) 0 6), (tr_fill cU 0 6), (tr_fill cV 0 6), (tr_ru0 ru 8)) v') (hc := hc) (bx := 3855) (o1 := o1) (o2 := o2) (o3 := o3) (ar := ar) (w1 := w1) (w2 := w2) (w3 := w3) (C := C) (D := D) (M := M) (ce := ce) (cX := cX) (cY := cY) (cD := cD) (cC := cC) (cU := cU) (cV := cV) (ru := (tr_ru0 ru 8))
    (tr_mk2 (by decide) (by decide) (by decide) (by decide) (tr_pt_fill cC 16 tr_part_0.1 6) (tr_pt_fill cC 8 tr_part_0.2.1 6) (tr_pt_fill cC 0 tr_part_0.2.2 6) ⟨hM, tr_bc_fill hX tr_co_0, tr_bc_fill hY tr_co_0, tr_b_fill hD ⟨0, by decide, rfl⟩, tr_b_fill hU ⟨0, by decide, rfl⟩, tr_b_fill hV ⟨0, by decide, rfl⟩, ⟨0, by decide, rfl⟩, ⟨0, by decide, rfl⟩⟩) 64 0 rfl
  rw [tr_fill_0] at K
  exact ⟨65, K⟩
theorem i_vc_colour {k : Nat} {u : SX} {v : SY} (I : i_Rel k u v) (hk : k + 5 ≤ 2560) (v1 : Int32) (v2 : Int32) : wpX_colour (fun r => wpY_colour (fun r' => r' = r ∧ i_Rel (k + 5) u v) v v1 v2) u v1 v2 := by
  obtain ⟨bx, hc, C, D, M, ce, cX, cY, cD, cC, cU, cV, ru, o1, o2, o3, ar, w1, w2, w3, rfl, rfl, h⟩ := I
  have J := h
  obtain ⟨hM, hX, hY, hD, hU, hV, hk4, h5⟩ := h
  have Bad : ¬ (tr_bt v1 15 ∧ tr_bt v2 15) → wpY_colour (fun r' => r' = -1 ∧ i_Rel (k + 5) (bx / 4096, bx / 256 - bx / 256 / 16 * 16, bx / 16 - bx / 16 / 16 * 16, bx - bx / 16 * 16, hc, C, D, M, ce, cX, cY, cD, tr_pt cC 16, tr_pt cC 8, tr_pt cC 0, cU, cV, ru) (hc, bx, o1, o2, o3, ar, w1, w2, w3, C, D, M, ce, cX, cY, cD, cC, cU, cV, ru)) (hc, bx, o1, o2, o3, ar, w1, w2, w3, C, D, M, ce, cX, cY, cD, cC, cU, cV, ru) v1 v2 := by
    intro z
    unfold wpY_colour
    exact ty_badPixel (fun a b => (z ⟨a, b⟩).elim) (fun _ => ⟨rfl, tr_mk J⟩)
  unfold wpX_colour
  refine tx_w (fun a => tx_w (fun b => ?_) (fun z => Bad fun y => z y.2)) (fun z => Bad fun y => z y.1)
  have hin : vp_in (16 * v2 + v1) 256 := by
    obtain ⟨n1, l1, rfl⟩ := tr_bt_n a (n := 15)
    obtain ⟨n2, l2, rfl⟩ := tr_bt_n b (n := 15)
    rw [tr_ix (by omega) (by omega)]
    exact vp_in_nI (by omega) (by decide)
  refine ⟨hin, ?_⟩
  unfold wpY_colour
  exact ty_badPixel (fun _ _ => ⟨hin, rfl, tr_mk J⟩) (fun z => (z ⟨a, b⟩).elim)
theorem i_vc_depth {k : Nat} {u : SX} {v : SY} (I : i_Rel k u v) (hk : k + 5 ≤ 2560) (v1 : Int32) (v2 : Int32) : wpX_depth (fun r => wpY_depth (fun r' => r' = r ∧ i_Rel (k + 5) u v) v v1 v2) u v1 v2 := by
  obtain ⟨bx, hc, C, D, M, ce, cX, cY, cD, cC, cU, cV, ru, o1, o2, o3, ar, w1, w2, w3, rfl, rfl, h⟩ := I
  have J := h
  obtain ⟨hM, hX, hY, hD, hU, hV, hk4, h5⟩ := h
  have Bad : ¬ (tr_bt v1 15 ∧ tr_bt v2 15) → wpY_depth (fun r' => r' = -1 ∧ i_Rel (k + 5) (bx / 4096, bx / 256 - bx / 256 / 16 * 16, bx / 16 - bx / 16 / 16 * 16, bx - bx / 16 * 16, hc, C, D, M, ce, cX, cY, cD, tr_pt cC 16, tr_pt cC 8, tr_pt cC 0, cU, cV, ru) (hc, bx, o1, o2, o3, ar, w1, w2, w3, C, D, M, ce, cX, cY, cD, cC, cU, cV, ru)) (hc, bx, o1, o2, o3, ar, w1, w2, w3, C, D, M, ce, cX, cY, cD, cC, cU, cV, ru) v1 v2 := by
    intro z
    unfold wpY_depth
    exact ty_badPixel (fun a b => (z ⟨a, b⟩).elim) (fun _ => ⟨rfl, tr_mk J⟩)
  unfold wpX_depth
  refine tx_w (fun a => tx_w (fun b => ?_) (fun z => Bad fun y => z y.2)) (fun z => Bad fun y => z y.1)
  have hin : vp_in (16 * v2 + v1) 256 := by
    obtain ⟨n1, l1, rfl⟩ := tr_bt_n a (n := 15)
    obtain ⟨n2, l2, rfl⟩ := tr_bt_n b (n := 15)
    rw [tr_ix (by omega) (by omega)]
    exact vp_in_nI (by omega) (by decide)
  refine ⟨hin, ?_⟩
  unfold wpY_depth
  exact ty_badPixel (fun _ _ => ⟨hin, rfl, tr_mk J⟩) (fun z => (z ⟨a, b⟩).elim)
theorem i_vc_mark {k : Nat} {u : SX} {v : SY} (I : i_Rel k u v) (hk : k + 5 ≤ 2560) (v1 : Int32) (v2 : Int32) : wpX_mark (fun r => wpY_mark (fun r' => r' = r ∧ i_Rel (k + 5) u v) v v1 v2) u v1 v2 := by
  obtain ⟨bx, hc, C, D, M, ce, cX, cY, cD, cC, cU, cV, ru, o1, o2, o3, ar, w1, w2, w3, rfl, rfl, h⟩ := I
  have J := h
  obtain ⟨hM, hX, hY, hD, hU, hV, hk4, h5⟩ := h
  have Bad : ¬ (tr_bt v1 15 ∧ tr_bt v2 15) → wpY_mark (fun r' => r' = -1 ∧ i_Rel (k + 5) (bx / 4096, bx / 256 - bx / 256 / 16 * 16, bx / 16 - bx / 16 / 16 * 16, bx - bx / 16 * 16, hc, C, D, M, ce, cX, cY, cD, tr_pt cC 16, tr_pt cC 8, tr_pt cC 0, cU, cV, ru) (hc, bx, o1, o2, o3, ar, w1, w2, w3, C, D, M, ce, cX, cY, cD, cC, cU, cV, ru)) (hc, bx, o1, o2, o3, ar, w1, w2, w3, C, D, M, ce, cX, cY, cD, cC, cU, cV, ru) v1 v2 := by
    intro z
    unfold wpY_mark
    exact ty_badPixel (fun a b => (z ⟨a, b⟩).elim) (fun _ => ⟨rfl, tr_mk J⟩)
  unfold wpX_mark
  refine tx_w (fun a => tx_w (fun b => ?_) (fun z => Bad fun y => z y.2)) (fun z => Bad fun y => z y.1)
  have hin : vp_in (16 * v2 + v1) 256 := by
    obtain ⟨n1, l1, rfl⟩ := tr_bt_n a (n := 15)
    obtain ⟨n2, l2, rfl⟩ := tr_bt_n b (n := 15)
    rw [tr_ix (by omega) (by omega)]
    exact vp_in_nI (by omega) (by decide)
  refine ⟨hin, ?_⟩
  unfold wpY_mark
  exact ty_badPixel (fun _ _ => ⟨hin, rfl, tr_mk J⟩) (fun z => (z ⟨a, b⟩).elim)
theorem i_vc_digest {k : Nat} {u : SX} {v : SY} (I : i_Rel k u v) (hk : k + 5 ≤ 2560) : wpX_digest (fun r => wpY_digest (fun r' => r' = r ∧ i_Rel (k + 5) u v) v) u := by
  obtain ⟨bx, hc, C, D, M, ce, cX, cY, cD, cC, cU, cV, ru, o1, o2, o3, ar, w1, w2, w3, rfl, rfl, h⟩ := I
  have J := h
  obtain ⟨hM, hX, hY, hD, hU, hV, hk4, h5⟩ := h
  unfold wpX_digest
  refine ⟨257, tx_dig ?_ 256 0 rfl⟩
  unfold wpY_digest
  exact ⟨257, ty_dig ⟨rfl, tr_mk J⟩ 256 0 rfl⟩
theorem i_vc_hits {k : Nat} {u : SX} {v : SY} (I : i_Rel k u v) (hk : k + 5 ≤ 2560) : wpX_hits (fun r => wpY_hits (fun r' => r' = r ∧ i_Rel (k + 5) u v) v) u := by
  obtain ⟨bx, hc, C, D, M, ce, cX, cY, cD, cC, cU, cV, ru, o1, o2, o3, ar, w1, w2, w3, rfl, rfl, h⟩ := I
  have J := h
  obtain ⟨hM, hX, hY, hD, hU, hV, hk4, h5⟩ := h
  exact ⟨rfl, tr_mk J⟩
theorem i_vc_covered {k : Nat} {u : SX} {v : SY} (I : i_Rel k u v) (hk : k + 5 ≤ 2560) (v1 : Int32) : wpX_covered (fun r => wpY_covered (fun r' v' => r' = r ∧ i_Rel (k + 5) u v') v v1) u v1 := by
  obtain ⟨bx, hc, C, D, M, ce, cX, cY, cD, cC, cU, cV, ru, o1, o2, o3, ar, w1, w2, w3, rfl, rfl, h⟩ := I
  have J := h
  obtain ⟨hM, hX, hY, hD, hU, hV, hk4, h5⟩ := h
  by_cases V : tr_bt v1 215
  · obtain ⟨n, ln, rfl⟩ := tr_bt_n V (n := 215)
    have hn : n < 216 := by omega
    refine tx_covered hX hY hn (fun c => ?_) (fun c => ?_) (fun c d => ?_) (fun c d => ?_)
    · refine ty_covered hX hY hn (fun _ _ _ _ _ _ _ _ => ⟨rfl, tr_mk J⟩) (fun c2 => ?_) (fun c2 => ?_) (fun c2 => ?_)
      · rw [c] at c2
        exact absurd c2 (by decide)
      · rw [c] at c2
        exact absurd (by decide) c2
      · rw [c] at c2
        exact absurd (by decide) c2
    · refine ty_covered hX hY hn (fun c2 => ?_) (fun _ _ _ _ _ _ _ _ => ⟨rfl, tr_mk J⟩) (fun c2 => ?_) (fun c2 => ?_)
      · rw [c2] at c
        exact absurd c (by decide)
      · exact absurd (Int32.le_of_lt c) c2
      · exact absurd (Int32.le_of_lt c) c2
    · refine ty_covered hX hY hn (fun c2 => ?_) (fun c2 => ?_) (fun _ _ _ _ _ _ _ _ _ => ⟨rfl, tr_mk J⟩) (fun _ d2 => absurd d d2)
      · rw [c2] at c
        exact absurd (by decide) c
      · exact absurd (Int32.le_of_lt c2) c
    · refine ty_covered hX hY hn (fun c2 => ?_) (fun c2 => ?_) (fun _ d2 => absurd d2 d) (fun _ _ _ _ _ _ _ _ _ => ⟨rfl, tr_mk J⟩)
      · rw [c2] at c
        exact absurd (by decide) c
      · exact absurd (Int32.le_of_lt c2) c
  · unfold wpX_covered
    refine tx_w (fun z => (V z).elim) (fun _ => ?_)
    unfold wpY_covered
    exact ty_le (fun z => (V z).elim) (fun _ => ⟨rfl, tr_mk J⟩)
end
