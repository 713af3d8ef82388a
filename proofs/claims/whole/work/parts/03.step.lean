/-! what one pixel does, as a pure function -/
section
variable (cX cY : Nat → Int32)
def tr_w (p q x y : Int32) : Int32 := tr_side (cX p.toNatClampNeg) (cY p.toNatClampNeg) (cX q.toNatClampNeg) (cY q.toNatClampNeg) (16 * x + 8) (16 * y + 8)
def tr_ar (a b c : Int32) : Int32 := tr_side (cX a.toNatClampNeg) (cY a.toNatClampNeg) (cX b.toNatClampNeg) (cY b.toNatClampNeg) (cX c.toNatClampNeg) (cY c.toNatClampNeg)
def tr_in (p q w : Int32) : Int32 := if w = 0 then (if cY q.toNatClampNeg = cY p.toNatClampNeg then (if cX q.toNatClampNeg ≤ cX p.toNatClampNeg then 0 else 1) else (if cY p.toNatClampNeg ≤ cY q.toNatClampNeg then 0 else 1)) else (if w ≤ 0 then 0 else 1)
def tr_cov (a b c x y : Int32) : Int32 := if tr_in cX cY b c (tr_w cX cY b c x y) = 0 then 0 else if tr_in cX cY c a (tr_w cX cY c a x y) = 0 then 0 else if tr_in cX cY a b (tr_w cX cY a b x y) = 0 then 0 else 1
def tr_num (f : Nat → Int32) (a b c x y : Int32) : Int32 := (tr_w cX cY b c x y * f a.toNatClampNeg + tr_w cX cY c a x y * f b.toNatClampNeg + tr_w cX cY a b x y * f c.toNatClampNeg) / tr_ar cX cY a b c
theorem tr_wsum (a b c x y : Int32) : tr_w cX cY b c x y + tr_w cX cY c a x y + tr_w cX cY a b x y = tr_ar cX cY a b c := tr_sum _ _ _ _ _ _ _ _
theorem tr_arswap (a b c : Int32) : tr_ar cX cY a c b = -tr_ar cX cY a b c := tr_swap _ _ _ _ _ _
theorem tr_mid {k : Nat} (h : k < 16) : tr_co (16 * nI k + 8) := by
  have e : (16 : Int32) * nI k + 8 = nI (16 * k + 8) := by
    show nI 16 * nI k + nI 8 = _
    rw [pk_mul, nI_add]
  unfold tr_co
  rw [e, nI_toInt (by omega)]
  omega
theorem tr_in_01 (p q w : Int32) : tr_in cX cY p q w = 0 ∨ tr_in cX cY p q w = 1 := by
  unfold tr_in
  repeat' split
  all_goals first | exact Or.inl rfl | exact Or.inr rfl
theorem tr_in_p {p q w : Int32} (h : ¬ tr_in cX cY p q w = 0) : 0 ≤ w.toInt := by
  unfold tr_in at h
  by_cases e : w = 0
  · subst e
    decide
  · rw [if_neg e] at h
    by_cases g : w ≤ 0
    · rw [if_pos g] at h
      exact absurd rfl h
    · have z : (0 : Int32).toInt = 0 := by decide
      rw [Int32.le_iff_toInt_le, z] at g
      omega
end
section
variable {cX cY : Nat → Int32}
theorem tr_wb {p q : Int32} {x y : Nat} (hX : tr_bc cX) (hY : tr_bc cY) (hx : x < 16) (hy : y < 16) : -293378 ≤ (tr_w cX cY p q (nI x) (nI y)).toInt ∧ (tr_w cX cY p q (nI x) (nI y)).toInt ≤ 293378 :=
  tr_sideb (hX _) (hY _) (hX _) (hY _) (tr_mid hx) (tr_mid hy)
theorem tr_arb {a b c : Int32} (hX : tr_bc cX) (hY : tr_bc cY) : -293378 ≤ (tr_ar cX cY a b c).toInt ∧ (tr_ar cX cY a b c).toInt ≤ 293378 :=
  tr_sideb (hX _) (hY _) (hX _) (hY _) (hX _) (hY _)
theorem tr_cov_p {a b c : Int32} {x y : Nat} (hX : tr_bc cX) (hY : tr_bc cY) (hx : x < 16) (hy : y < 16) (h : ¬ tr_cov cX cY a b c (nI x) (nI y) = 0) :
    (0 ≤ (tr_w cX cY b c (nI x) (nI y)).toInt ∧ (tr_w cX cY b c (nI x) (nI y)).toInt ≤ 293378) ∧ (0 ≤ (tr_w cX cY c a (nI x) (nI y)).toInt ∧ (tr_w cX cY c a (nI x) (nI y)).toInt ≤ 293378) ∧ (0 ≤ (tr_w cX cY a b (nI x) (nI y)).toInt ∧ (tr_w cX cY a b (nI x) (nI y)).toInt ≤ 293378) := by
  unfold tr_cov at h
  by_cases h1 : tr_in cX cY b c (tr_w cX cY b c (nI x) (nI y)) = 0
  · rw [if_pos h1] at h
    exact absurd rfl h
  rw [if_neg h1] at h
  by_cases h2 : tr_in cX cY c a (tr_w cX cY c a (nI x) (nI y)) = 0
  · rw [if_pos h2] at h
    exact absurd rfl h
  rw [if_neg h2] at h
  by_cases h3 : tr_in cX cY a b (tr_w cX cY a b (nI x) (nI y)) = 0
  · rw [if_pos h3] at h
    exact absurd rfl h
  exact ⟨⟨tr_in_p cX cY h1, (tr_wb hX hY hx hy).2⟩, ⟨tr_in_p cX cY h2, (tr_wb hX hY hx hy).2⟩, ⟨tr_in_p cX cY h3, (tr_wb hX hY hx hy).2⟩⟩
theorem tr_num_b {a b c : Int32} {x y : Nat} {f : Nat → Int32} {N : Nat} (hX : tr_bc cX) (hY : tr_bc cY) (hx : x < 16) (hy : y < 16) (h : ¬ tr_cov cX cY a b c (nI x) (nI y) = 0) (ha : 0 < (tr_ar cX cY a b c).toInt) (hN : N ≤ 255) (hf : tr_b N f) :
    ∃ m : Nat, m ≤ N ∧ tr_num cX cY f a b c (nI x) (nI y) = nI m := by
  obtain ⟨h1, h2, h3⟩ := tr_cov_p hX hY hx hy h
  exact tr_mean hN h1 h2 h3 (tr_wsum cX cY a b c (nI x) (nI y)) ha (hf _) (hf _) (hf _)
end
/-! the tests and changes -/
def tr_win (l r t b x y : Int32) : Int32 := if x < l then 0 else if r < x then 0 else if y < t then 0 else if b < y then 0 else 1
def tr_pm (r3 r5 m : Int32) : Int32 := if r3 = 1 then (if m = r5 then 1 else 0) else if r3 = 2 then (if m = r5 then 0 else 1) else 1
def tr_pd (r0 e d : Int32) : Int32 := if r0 = 2 then (if d ≤ e then 0 else 1) else if r0 = 3 then (if d < e then 0 else 1) else if r0 = 1 then 1 else 0
def tr_chm (r4 r5 m : Int32) : Int32 := if r4 = 1 then r5 else if r4 = 2 then (if m = 15 then 0 else m + 1) else if r4 = 3 then m ^^^ r5 else m
def tr_mix (r2 s t : Int32) : Int32 := if r2 = 1 then (if s + t ≤ 255 then s + t else 255) else if r2 = 2 then (s + t) / 2 else if r2 = 3 then s * t / 255 else if r2 = 4 then t else s
theorem tr_inc : ∀ q : Fin 16, (nI q.val + 1) &&& 15 = if nI q.val = 15 then 0 else nI q.val + 1 := by decide +kernel
theorem tr_inc2 : ∀ q : Fin 16, ∃ m : Fin 16, (if nI q.val = 15 then 0 else nI q.val + 1) = nI m.val := by decide +kernel
theorem tr_inc' {m : Int32} (h : ∃ q : Nat, q ≤ 15 ∧ m = nI q) : (m + 1) &&& 15 = if m = 15 then 0 else m + 1 := by
  obtain ⟨q, hq, rfl⟩ := h
  exact tr_inc ⟨q, by omega⟩
theorem tr_chm_b {r4 r5 m : Int32} (h5 : ∃ q : Nat, q ≤ 15 ∧ r5 = nI q) (h : ∃ q : Nat, q ≤ 15 ∧ m = nI q) : ∃ q : Nat, q ≤ 15 ∧ tr_chm r4 r5 m = nI q := by
  unfold tr_chm
  by_cases e1 : r4 = 1
  · rw [if_pos e1]
    exact h5
  rw [if_neg e1]
  obtain ⟨q, hq, rfl⟩ := h
  by_cases e2 : r4 = 2
  · rw [if_pos e2]
    obtain ⟨w, hw⟩ := tr_inc2 ⟨q, by omega⟩
    exact ⟨w.val, by have := w.isLt; omega, hw⟩
  rw [if_neg e2]
  by_cases e3 : r4 = 3
  · rw [if_pos e3]
    obtain ⟨p, hp, rfl⟩ := h5
    refine ⟨q ^^^ p, ?_, nx_xor q p⟩
    have := Nat.xor_lt_two_pow (x := q) (y := p) (n := 4) (by omega) (by omega)
    omega
  · rw [if_neg e3]
    exact ⟨q, hq, rfl⟩
/-! the state of the picture: colours, depths, marks, hits -/
abbrev tr_S : Type := (Nat → Int32) × (Nat → Int32) × (Nat → Int32) × Int32
section
variable (cX cY cD cC cU cV ce ru : Nat → Int32) (l r t b : Int32) (a1 a2 a3 : Int32)
def tr_cell (x y : Int32) : Int32 := if ru 7 = 1 then ce (8 * (tr_num cX cY cV a1 a2 a3 x y / 16) + tr_num cX cY cU a1 a2 a3 x y / 16).toNatClampNeg else 16777215
def tr_one (x y s old : Int32) : Int32 := tr_mix (ru 2) (tr_num cX cY (tr_pt cC s) a1 a2 a3 x y * tr_part (tr_cell cX cY cU cV ce ru a1 a2 a3 x y) s / 255) (tr_part old s)
def tr_col (x y old : Int32) : Int32 := 65536 * tr_one cX cY cC cU cV ce ru a1 a2 a3 x y 16 old + 256 * tr_one cX cY cC cU cV ce ru a1 a2 a3 x y 8 old + tr_one cX cY cC cU cV ce ru a1 a2 a3 x y 0 old
/-- the pixel is within and covered: its tests and its change -/
def tr_px (i : Nat) (x y : Int32) (s : tr_S) : tr_S :=
  if tr_pm (ru 3) (ru 5) (s.2.2.1 i) = 0 then s
  else if tr_pd (ru 0) (tr_num cX cY cD a1 a2 a3 x y) (s.2.1 i) = 0 then s
  else (upd s.1 i (tr_col cX cY cC cU cV ce ru a1 a2 a3 x y (s.1 i)), (if ru 1 = 1 then upd s.2.1 i (tr_num cX cY cD a1 a2 a3 x y) else s.2.1), upd s.2.2.1 i (tr_chm (ru 4) (ru 5) (s.2.2.1 i)), s.2.2.2 + 1)
def tr_step (i : Nat) (s : tr_S) : tr_S :=
  if tr_win l r t b (nI (i % 16)) (nI (i / 16)) = 0 then s
  else if tr_cov cX cY a1 a2 a3 (nI (i % 16)) (nI (i / 16)) = 0 then s
  else tr_px cX cY cD cC cU cV ce ru a1 a2 a3 i (nI (i % 16)) (nI (i / 16)) s
def tr_run (s : tr_S) : Nat → tr_S
  | 0 => s
  | n + 1 => tr_step cX cY cD cC cU cV ce ru l r t b a1 a2 a3 n (tr_run s n)
theorem tr_px_m (h5 : ∃ q : Nat, q ≤ 15 ∧ ru 5 = nI q) (i : Nat) (x y : Int32) (s : tr_S) (h : tr_b 15 s.2.2.1) : tr_b 15 (tr_px cX cY cD cC cU cV ce ru a1 a2 a3 i x y s).2.2.1 := by
  unfold tr_px
  split
  · exact h
  · split
    · exact h
    · exact tr_b_upd h (tr_chm_b h5 (h i))
theorem tr_step_m (h5 : ∃ q : Nat, q ≤ 15 ∧ ru 5 = nI q) (i : Nat) (s : tr_S) (h : tr_b 15 s.2.2.1) : tr_b 15 (tr_step cX cY cD cC cU cV ce ru l r t b a1 a2 a3 i s).2.2.1 := by
  unfold tr_step
  split
  · exact h
  · split
    · exact h
    · exact tr_px_m cX cY cD cC cU cV ce ru a1 a2 a3 h5 _ _ _ s h
theorem tr_run_m (h5 : ∃ q : Nat, q ≤ 15 ∧ ru 5 = nI q) (s : tr_S) (h : tr_b 15 s.2.2.1) : ∀ n, tr_b 15 (tr_run cX cY cD cC cU cV ce ru l r t b a1 a2 a3 s n).2.2.1 := by
  intro n
  induction n with
  | zero => exact h
  | succ n ih => exact tr_step_m cX cY cD cC cU cV ce ru l r t b a1 a2 a3 h5 n _ ih
end
/-- how many of the first n pixels are covered -/
def tr_cnt (cX cY : Nat → Int32) (a b c : Int32) : Nat → Int32
  | 0 => 0
  | n + 1 => if tr_cov cX cY a b c (nI (n % 16)) (nI (n / 16)) = 0 then tr_cnt cX cY a b c n else tr_cnt cX cY a b c n + 1
/-- the digest of the first n pixels -/
def tr_dig (C D M : Nat → Int32) : Nat → Int32
  | 0 => 0
  | n + 1 => tr_dig C D M n + (nI n + 1) * (C n + 3 * D n + 7 * M n)
/-! the first rules -/
def tr_ru0 (f : Nat → Int32) (n : Nat) : Nat → Int32 := fun j => if j < n then (if j = 0 then 2 else if j = 1 then 1 else 0) else f j
theorem tr_ru0_s (f : Nat → Int32) (n : Nat) : upd (tr_ru0 f n) n (if n = 0 then 2 else if n = 1 then 1 else 0) = tr_ru0 f (n + 1) := by
  funext j
  unfold tr_ru0
  by_cases e : j = n
  · subst e
    rw [pk_us, if_pos (Nat.lt_succ_self j)]
  · rw [pk_un e]
    by_cases h : j < n
    · rw [if_pos h, if_pos (show j < n + 1 by omega)]
    · rw [if_neg h, if_neg (show ¬ j < n + 1 by omega)]
theorem tr_ru0_0 (f : Nat → Int32) : tr_ru0 f 0 = f := by
  funext j
  exact if_neg (Nat.not_lt_zero j)
theorem tr_ru0_8 (f : Nat → Int32) : upd (upd (upd (upd (upd (upd (upd (upd f 0 2) 1 1) 2 0) 3 0) 4 0) 5 0) 6 0) 7 0 = tr_ru0 f 8 := by
  have h0 := tr_ru0_s f 0
  have h1 := tr_ru0_s f 1
  have h2 := tr_ru0_s f 2
  have h3 := tr_ru0_s f 3
  have h4 := tr_ru0_s f 4
  have h5 := tr_ru0_s f 5
  have h6 := tr_ru0_s f 6
  have h7 := tr_ru0_s f 7
  rw [tr_ru0_0] at h0
  rw [← h0] at h1
  rw [← h1] at h2
  rw [← h2] at h3
  rw [← h3] at h4
  rw [← h4] at h5
  rw [← h5] at h6
  rw [← h6] at h7
  exact h7
/-! the pattern taken from the picture -/
def tr_gr (f C : Nat → Int32) (x y : Nat) : Nat → Int32 := fun j => if j < 64 then C (16 * (y + j / 8) + x + j % 8) else f j
def tr_grX (f C : Nat → Int32) (x y n : Nat) : Nat → Int32 := fun j => if j < n then C (16 * (y + j / 8) + x + j % 8) else f j
def tr_grY (f C : Nat → Int32) (x y u v : Nat) : Nat → Int32 := fun j => if j < 64 ∧ (j % 8 < u ∨ (j % 8 = u ∧ j / 8 < v)) then C (16 * (y + j / 8) + x + j % 8) else f j
theorem tr_grX_0 (f C : Nat → Int32) (x y : Nat) : tr_grX f C x y 0 = f := by
  funext j
  exact if_neg (Nat.not_lt_zero j)
theorem tr_grX_s (f C : Nat → Int32) (x y u v : Nat) (hu : u < 8) : upd (tr_grX f C x y (8 * v + u)) (8 * v + u) (C (16 * (y + v) + x + u)) = tr_grX f C x y (8 * v + u + 1) := by
  funext j
  unfold tr_grX
  by_cases e : j = 8 * v + u
  · subst e
    rw [pk_us, if_pos (Nat.lt_succ_self _), show (8 * v + u) / 8 = v by omega, show (8 * v + u) % 8 = u by omega]
  · rw [pk_un e]
    by_cases h : j < 8 * v + u
    · rw [if_pos h, if_pos (by omega)]
    · rw [if_neg h, if_neg (by omega)]
theorem tr_grY_0 (f C : Nat → Int32) (x y : Nat) : tr_grY f C x y 0 0 = f := by
  funext j
  exact if_neg (by omega)
theorem tr_grY_s (f C : Nat → Int32) (x y u v : Nat) (hu : u < 8) (hv : v < 8) : upd (tr_grY f C x y u v) (8 * v + u) (C (16 * (y + v) + x + u)) = tr_grY f C x y u (v + 1) := by
  funext j
  unfold tr_grY
  by_cases e : j = 8 * v + u
  · subst e
    rw [pk_us, if_pos (by omega), show (8 * v + u) / 8 = v by omega, show (8 * v + u) % 8 = u by omega]
  · rw [pk_un e]
    by_cases h : j < 64 ∧ (j % 8 < u ∨ (j % 8 = u ∧ j / 8 < v))
    · rw [if_pos h, if_pos (by omega)]
    · rw [if_neg h, if_neg (by omega)]
theorem tr_grY_n (f C : Nat → Int32) (x y u : Nat) : tr_grY f C x y u 8 = tr_grY f C x y (u + 1) 0 := by
  funext j
  unfold tr_grY
  by_cases h : j < 64 ∧ (j % 8 < u ∨ (j % 8 = u ∧ j / 8 < 8))
  · rw [if_pos h, if_pos (by omega)]
  · rw [if_neg h, if_neg (by omega)]
theorem tr_grXY (f C : Nat → Int32) (x y : Nat) : tr_grX f C x y 64 = tr_grY f C x y 8 0 := by
  funext j
  unfold tr_grX tr_grY
  by_cases h : j < 64
  · rw [if_pos h, if_pos (by omega)]
  · rw [if_neg h, if_neg (by omega)]
/-! the numbers of a call -/
theorem tr_c1 {n : Nat} (h : n < 216) : nI n / 36 = nI (n / 36) := pk_div (d := 36) (by omega) (by decide) (by decide)
theorem tr_c2 {n : Nat} (h : n < 216) : nI n / 6 - nI n / 6 / 6 * 6 = nI (n / 6 % 6) := by
  have e : nI n / 6 = nI (n / 6) := pk_div (d := 6) (by omega) (by decide) (by decide)
  rw [e]
  exact pk_rem (d := 6) (by omega) (by decide) (by decide)
theorem tr_c3 {n : Nat} (h : n < 216) : nI n - nI n / 6 * 6 = nI (n % 6) := pk_rem (d := 6) (by omega) (by decide) (by decide)
theorem tr_x16 {i : Nat} (h : i < 256) : nI i - nI i / 16 * 16 = nI (i % 16) := pk_rem (d := 16) (by omega) (by decide) (by decide)
theorem tr_y16 {i : Nat} (h : i < 256) : nI i / 16 = nI (i / 16) := pk_div (d := 16) (by omega) (by decide) (by decide)
theorem tr_co_of {m : Nat} (h : m < 384) : tr_co (nI m - 64) := by
  have e : (64 : Int32).toInt = 64 := by decide
  have f : (nI m - 64).toInt = (nI m).toInt - (64 : Int32).toInt := tr_subI (by rw [nI_toInt (by omega), e]; omega)
  unfold tr_co
  rw [f, nI_toInt (by omega), e]
  omega
theorem tr_px384 {n : Nat} (h : n ≤ 147455) : nI n - nI n / 384 * 384 = nI (n % 384) := pk_rem (d := 384) (by omega) (by decide) (by decide)
theorem tr_py384 {n : Nat} (h : n ≤ 147455) : nI n / 384 = nI (n / 384) := pk_div (d := 384) (by omega) (by decide) (by decide)
theorem tr_sub64 (x : Int32) : x + (-64) = x - 64 := (Int32.sub_eq_add_neg x 64).symm
/-- between 0 and a literal -/
theorem tr_rng {v g : Int32} {n : Nat} (hg : g.toInt = (n : Int)) (h : 0 ≤ v ∧ v ≤ g) : ∃ j : Nat, j ≤ n ∧ v = nI j := by
  have z : (0 : Int32).toInt = 0 := by decide
  have h1 := Int32.le_iff_toInt_le.mp h.1
  have h2 := Int32.le_iff_toInt_le.mp h.2
  rw [z] at h1
  rw [hg] at h2
  exact tr_nat ⟨h1, h2⟩
section
variable {cX cY cD cC cU cV ce ru C D M : Nat → Int32} {l r t b hc : Int32} {a1 a2 a3 x y : Int32} {i : Nat} {s : tr_S}
theorem tr_px_0 (h : tr_pm (ru 3) (ru 5) (M i) = 0) : tr_px cX cY cD cC cU cV ce ru a1 a2 a3 i x y (C, D, M, hc) = (C, D, M, hc) := by
  unfold tr_px
  exact if_pos h
theorem tr_px_1 (h : ¬ tr_pm (ru 3) (ru 5) (M i) = 0) (h2 : tr_pd (ru 0) (tr_num cX cY cD a1 a2 a3 x y) (D i) = 0) : tr_px cX cY cD cC cU cV ce ru a1 a2 a3 i x y (C, D, M, hc) = (C, D, M, hc) := by
  unfold tr_px
  exact (if_neg h).trans (if_pos h2)
theorem tr_px_2 (h : ¬ tr_pm (ru 3) (ru 5) (M i) = 0) (h2 : ¬ tr_pd (ru 0) (tr_num cX cY cD a1 a2 a3 x y) (D i) = 0) : tr_px cX cY cD cC cU cV ce ru a1 a2 a3 i x y (C, D, M, hc) = (upd C i (tr_col cX cY cC cU cV ce ru a1 a2 a3 x y (C i)), (if ru 1 = 1 then upd D i (tr_num cX cY cD a1 a2 a3 x y) else D), upd M i (tr_chm (ru 4) (ru 5) (M i)), hc + 1) := by
  unfold tr_px
  exact (if_neg h).trans (if_neg h2)
theorem tr_step_0 {p q : Nat} (ex : i % 16 = p) (ey : i / 16 = q) (h : tr_win l r t b (nI p) (nI q) = 0) : tr_step cX cY cD cC cU cV ce ru l r t b a1 a2 a3 i s = s := by
  subst ex ey
  unfold tr_step
  exact if_pos h
theorem tr_step_1 {p q : Nat} (ex : i % 16 = p) (ey : i / 16 = q) (h : ¬ tr_win l r t b (nI p) (nI q) = 0) (h2 : tr_cov cX cY a1 a2 a3 (nI p) (nI q) = 0) : tr_step cX cY cD cC cU cV ce ru l r t b a1 a2 a3 i s = s := by
  subst ex ey
  unfold tr_step
  exact (if_neg h).trans (if_pos h2)
theorem tr_step_2 {p q : Nat} (ex : i % 16 = p) (ey : i / 16 = q) (h : ¬ tr_win l r t b (nI p) (nI q) = 0) (h2 : ¬ tr_cov cX cY a1 a2 a3 (nI p) (nI q) = 0) : tr_step cX cY cD cC cU cV ce ru l r t b a1 a2 a3 i s = tr_px cX cY cD cC cU cV ce ru a1 a2 a3 i (nI p) (nI q) s := by
  subst ex ey
  unfold tr_step
  exact (if_neg h).trans (if_neg h2)
end
theorem tr_uv {u v : Int32} (hu : ∃ m : Nat, m ≤ 127 ∧ u = nI m) (hv : ∃ m : Nat, m ≤ 127 ∧ v = nI m) : vp_in (8 * (v / 16) + u / 16) 64 ∧ (0 ≤ u ∧ u ≤ 127) ∧ (0 ≤ v ∧ v ≤ 127) := by
  obtain ⟨m, hm, rfl⟩ := hu
  obtain ⟨n, hn, rfl⟩ := hv
  have e : (8 : Int32) * (nI n / 16) + nI m / 16 = nI (8 * (n / 16) + m / 16) := by
    show nI 8 * (nI n / nI 16) + nI m / nI 16 = _
    rw [pk_div (by omega) (by decide) (by decide), pk_div (by omega) (by decide) (by decide), pk_mul, nI_add]
  rw [e]
  exact ⟨vp_in_nI (by omega) (by decide), ⟨nI_pos' (by omega), nI_le (b := 127) (by omega) (by decide)⟩, ⟨nI_pos' (by omega), nI_le (b := 127) (by omega) (by decide)⟩⟩
theorem tr_ix {x y : Nat} (hx : x < 16) (hy : y < 16) : (16 : Int32) * nI y + nI x = nI (16 * y + x) := by
  show nI 16 * nI y + nI x = _
  rw [pk_mul, nI_add]
