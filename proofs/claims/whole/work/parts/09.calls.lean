/-! the calls' first tests; draw and covered -/
theorem ty_lt {v g : Int32} {A K : Prop} (h1 : tr_bt v g → K) (h0 : ¬ tr_bt v g → A) : (v < 0 → A) ∧ (¬ v < 0 → ((g < v → A) ∧ (¬ g < v → K))) :=
  ⟨fun c => h0 fun z => Int32.not_lt.mpr z.1 c, fun c => ⟨fun d => h0 fun z => Int32.not_lt.mpr z.2 d, fun d => h1 ⟨Int32.not_lt.mp c, Int32.not_lt.mp d⟩⟩⟩
theorem ty_le {v g : Int32} {A K : Prop} (h1 : tr_bt v g → K) (h0 : ¬ tr_bt v g → A) : (v < 0 → A) ∧ (¬ v < 0 → ((v ≤ g → K) ∧ (¬ v ≤ g → A))) :=
  ⟨fun c => h0 fun z => Int32.not_lt.mpr z.1 c, fun c => ⟨fun d => h1 ⟨Int32.not_lt.mp c, d⟩, fun d => h0 fun z => d z.2⟩⟩
section
variable {hc bx o1 o2 o3 ar w1 w2 w3 : Int32} {C D M ce cX cY cD cC cU cV ru : Nat → Int32} {v : Int32} {A K : Prop}
theorem ty_badCorner (h1 : tr_bt v 5 → K) (h0 : ¬ tr_bt v 5 → A) : wpY_badCorner (fun r => (r = 0 → K) ∧ (¬ r = 0 → A)) (hc, bx, o1, o2, o3, ar, w1, w2, w3, C, D, M, ce, cX, cY, cD, cC, cU, cV, ru) v := by
  unfold wpY_badCorner
  exact ty_le (fun z => br_t rfl (h1 z)) (fun z => br_f tr_10 (h0 z))
theorem ty_badByte (h1 : tr_bt v 255 → K) (h0 : ¬ tr_bt v 255 → A) : wpY_badByte (fun r => (r = 0 → K) ∧ (¬ r = 0 → A)) (hc, bx, o1, o2, o3, ar, w1, w2, w3, C, D, M, ce, cX, cY, cD, cC, cU, cV, ru) v := by
  unfold wpY_badByte
  exact ty_le (fun z => br_t rfl (h1 z)) (fun z => br_f tr_10 (h0 z))
theorem ty_badColour (h1 : tr_bt v 16777215 → K) (h0 : ¬ tr_bt v 16777215 → A) : wpY_badColour (fun r => (r = 0 → K) ∧ (¬ r = 0 → A)) (hc, bx, o1, o2, o3, ar, w1, w2, w3, C, D, M, ce, cX, cY, cD, cC, cU, cV, ru) v := by
  unfold wpY_badColour
  exact ty_le (fun z => br_t rfl (h1 z)) (fun z => br_f tr_10 (h0 z))
theorem ty_badPixel {x y : Int32} (h1 : tr_bt x 15 → tr_bt y 15 → K) (h0 : ¬ (tr_bt x 15 ∧ tr_bt y 15) → A) : wpY_badPixel (fun r => (r = 0 → K) ∧ (¬ r = 0 → A)) (hc, bx, o1, o2, o3, ar, w1, w2, w3, C, D, M, ce, cX, cY, cD, cC, cU, cV, ru) x y := by
  unfold wpY_badPixel
  exact ty_lt (fun a => ty_le (fun b => br_t rfl (h1 a b)) (fun z => br_f tr_10 (h0 fun y => z y.2))) (fun z => br_f tr_10 (h0 fun y => z y.1))
end
def tr_gv (p : Int32) : Int32 := if p = 0 then 3 else if p = 4 then 3 else if p = 2 then 4 else if p = 3 then 2 else if p = 5 then 15 else 1
theorem ty_most {post : Int32 → Prop} {hc bx o1 o2 o3 ar w1 w2 w3 : Int32} {C D M ce cX cY cD cC cU cV ru : Nat → Int32} {p : Int32} (h : post (tr_gv p)) : wpY_most post (hc, bx, o1, o2, o3, ar, w1, w2, w3, C, D, M, ce, cX, cY, cD, cC, cU, cV, ru) p := by
  unfold tr_gv at h
  unfold wpY_most
  exact tr_i h id (fun h => tr_i h id (fun h => tr_i h id (fun h => tr_i h id (fun h => tr_i h id id))))
theorem tr_gv_o {p : Int32} (c : 5 < p) : tr_gv p = 1 := by
  unfold tr_gv
  rw [if_neg (tr_hi c (by decide)), if_neg (tr_hi c (by decide)), if_neg (tr_hi c (by decide)), if_neg (tr_hi c (by decide)), if_neg (tr_hi c (by decide))]
theorem tr_gv_k {p k g : Int32} (c : p = k) (h : tr_gv k = g) : tr_gv p = g := by
  rw [c]
  exact h
theorem tx_gv {post : Int32 → Prop} {p : Int32} (hp : ¬ p < 0) (h : post (tr_gv p)) : wpX_greatestValue post p := by
  unfold wpX_greatestValue
  refine br_f hp ⟨fun c => ?_, fun _ => ⟨fun c => ?_, fun _ => ⟨fun c => ?_, fun _ => ⟨fun c => ?_, fun _ => ⟨fun c => ?_, fun _ => ⟨fun c => ?_, fun _ => ⟨fun c => ?_, fun _ => trivial⟩⟩⟩⟩⟩⟩⟩
  · exact tr_v (tr_gv_o c) h
  · exact tr_v (tr_gv_k c (by decide)) h
  · exact tr_v (tr_gv_k c (by decide)) h
  · exact tr_v (tr_gv_k c (by decide)) h
  · exact tr_v (tr_gv_k c (by decide)) h
  · exact tr_v (tr_gv_k c (by decide)) h
  · exact tr_v (tr_gv_k c (by decide)) h
theorem tr_lt_of {k : Int32} (c : ¬ k = 0) (d : 0 ≤ k) : 0 < k ∧ ¬ k ≤ 0 := by
  have z : (0 : Int32).toInt = 0 := by decide
  have n : ¬ k.toInt = 0 := fun e => c (Int32.toInt_inj.mp (e.trans z.symm))
  rw [Int32.le_iff_toInt_le, z] at d
  rw [Int32.lt_iff_toInt_lt, Int32.le_iff_toInt_le, z]
  omega
theorem tr_neg_of {k : Int32} (h : -293378 ≤ k.toInt) (d : ¬ 0 ≤ k) : 0 < -k ∧ k ≤ 0 := by
  have z : (0 : Int32).toInt = 0 := by decide
  rw [Int32.le_iff_toInt_le, z] at d
  have e := tr_negI (x := k) (by omega)
  rw [Int32.lt_iff_toInt_lt, Int32.le_iff_toInt_le, z]
  omega
section
variable {fl fr ft fb hc : Int32} {C D M ce cX cY cD cR cG cB cU cV ru : Nat → Int32} {cC : Nat → Int32} {n : Nat}
theorem tx_draw {post : Int32 → SX → Prop} (hX : tr_bc cX) (hY : tr_bc cY) (hU : tr_b 127 cU) (hV : tr_b 127 cV) (hn : n < 216)
    (hz : tr_ar cX cY (nI (n / 36)) (nI (n / 6 % 6)) (nI (n % 6)) = 0 → post 0 (fl, fr, ft, fb, hc, C, D, M, ce, cX, cY, cD, (tr_pt cC 16), (tr_pt cC 8), (tr_pt cC 0), cU, cV, ru))
    (hp : 0 < tr_ar cX cY (nI (n / 36)) (nI (n / 6 % 6)) (nI (n % 6)) → ∀ (C' D' M' : Nat → Int32) (h' : Int32), (C', D', M', h') = tr_run cX cY cD cC cU cV ce ru fl fr ft fb (nI (n / 36)) (nI (n / 6 % 6)) (nI (n % 6)) (C, D, M, hc) 256 → post 0 (fl, fr, ft, fb, h', C', D', M', ce, cX, cY, cD, (tr_pt cC 16), (tr_pt cC 8), (tr_pt cC 0), cU, cV, ru))
    (hq : ¬ 0 ≤ tr_ar cX cY (nI (n / 36)) (nI (n / 6 % 6)) (nI (n % 6)) → ru 6 = 1 → post 0 (fl, fr, ft, fb, hc, C, D, M, ce, cX, cY, cD, (tr_pt cC 16), (tr_pt cC 8), (tr_pt cC 0), cU, cV, ru))
    (hr : ¬ 0 ≤ tr_ar cX cY (nI (n / 36)) (nI (n / 6 % 6)) (nI (n % 6)) → ¬ ru 6 = 1 → ∀ (C' D' M' : Nat → Int32) (h' : Int32), (C', D', M', h') = tr_run cX cY cD cC cU cV ce ru fl fr ft fb (nI (n / 36)) (nI (n % 6)) (nI (n / 6 % 6)) (C, D, M, hc) 256 → post 0 (fl, fr, ft, fb, h', C', D', M', ce, cX, cY, cD, (tr_pt cC 16), (tr_pt cC 8), (tr_pt cC 0), cU, cV, ru)) :
    wpX_draw post (fl, fr, ft, fb, hc, C, D, M, ce, cX, cY, cD, (tr_pt cC 16), (tr_pt cC 8), (tr_pt cC 0), cU, cV, ru) (nI n) := by
  have V : tr_bt (nI n) 215 := ⟨nI_pos' (by omega), nI_le (b := 215) (by omega) (by decide)⟩
  have i1 : vp_in (nI (n / 36)) 6 := tr_i6 (by omega)
  have i2 : vp_in (nI (n / 6 % 6)) 6 := tr_i6 (by omega)
  have i3 : vp_in (nI (n % 6)) 6 := tr_i6 (by omega)
  unfold wpX_draw
  refine tx_w (fun _ => ⟨tr_n36, nm_r (tr_c1 hn) ⟨tr_n6, tr_n6, nm_r (tr_c2 hn) ⟨tr_n6, nm_r (tr_c3 hn) (tx_area i1 i2 i3 ?_)⟩⟩⟩) (fun z => (z V).elim)
  unfold wpX_isNotDrawn
  refine ⟨fun c => br_f tr_10 (hz c), fun c => ⟨fun d => br_t rfl (br_f (tr_lt_of c d).2 ?_), fun d => ⟨fun e => br_f tr_10 (hq d e), fun e => br_t rfl (br_t (tr_neg_of (tr_arb hX hY).1 d).2 ?_)⟩⟩⟩
  · exact tx_front hX hY hU hV i1 i2 i3 (tr_lt_of c d).1 (hp (tr_lt_of c d).1)
  · have hs : 0 < tr_ar cX cY (nI (n / 36)) (nI (n % 6)) (nI (n / 6 % 6)) := by
      rw [tr_arswap]
      exact (tr_neg_of (tr_arb hX hY).1 d).1
    exact tx_front hX hY hU hV i1 i3 i2 hs (hr d e)
theorem tx_covered {post : Int32 → Prop} (hX : tr_bc cX) (hY : tr_bc cY) (hn : n < 216)
    (hz : tr_ar cX cY (nI (n / 36)) (nI (n / 6 % 6)) (nI (n % 6)) = 0 → post 0)
    (hp : 0 < tr_ar cX cY (nI (n / 36)) (nI (n / 6 % 6)) (nI (n % 6)) → post (tr_cnt cX cY (nI (n / 36)) (nI (n / 6 % 6)) (nI (n % 6)) 256))
    (hq : ¬ 0 ≤ tr_ar cX cY (nI (n / 36)) (nI (n / 6 % 6)) (nI (n % 6)) → ru 6 = 1 → post 0)
    (hr : ¬ 0 ≤ tr_ar cX cY (nI (n / 36)) (nI (n / 6 % 6)) (nI (n % 6)) → ¬ ru 6 = 1 → post (tr_cnt cX cY (nI (n / 36)) (nI (n % 6)) (nI (n / 6 % 6)) 256)) :
    wpX_covered post (fl, fr, ft, fb, hc, C, D, M, ce, cX, cY, cD, cR, cG, cB, cU, cV, ru) (nI n) := by
  have V : tr_bt (nI n) 215 := ⟨nI_pos' (by omega), nI_le (b := 215) (by omega) (by decide)⟩
  have i1 : vp_in (nI (n / 36)) 6 := tr_i6 (by omega)
  have i2 : vp_in (nI (n / 6 % 6)) 6 := tr_i6 (by omega)
  have i3 : vp_in (nI (n % 6)) 6 := tr_i6 (by omega)
  unfold wpX_covered
  refine tx_w (fun _ => ⟨tr_n36, nm_r (tr_c1 hn) ⟨tr_n6, tr_n6, nm_r (tr_c2 hn) ⟨tr_n6, nm_r (tr_c3 hn) (tx_area i1 i2 i3 ?_)⟩⟩⟩) (fun z => (z V).elim)
  unfold wpX_isNotDrawn
  refine ⟨fun c => br_f tr_10 (hz c), fun c => ⟨fun d => br_t rfl (br_f (tr_lt_of c d).2 ?_), fun d => ⟨fun e => br_f tr_10 (hq d e), fun e => br_t rfl (br_t (tr_neg_of (tr_arb hX hY).1 d).2 ?_)⟩⟩⟩
  · exact tx_count i1 i2 i3 (hp (tr_lt_of c d).1)
  · exact tx_count i1 i3 i2 (hr d e)
end
section
variable {hc bx o1 o2 o3 ar w1 w2 w3 : Int32} {C D M ce cX cY cD cC cU cV ru : Nat → Int32} {n : Nat}
theorem ty_draw {post : Int32 → SY → Prop} (hX : tr_bc cX) (hY : tr_bc cY) (hU : tr_b 127 cU) (hV : tr_b 127 cV) (hk : ∃ q : Nat, q ≤ 4 ∧ ru 2 = nI q) (h5 : ∃ q : Nat, q ≤ 15 ∧ ru 5 = nI q) (hM : tr_b 15 M) (hn : n < 216)
    (hz : tr_ar cX cY (nI (n / 36)) (nI (n / 6 % 6)) (nI (n % 6)) = 0 → ∀ o1 o2 o3 ar w1 w2 w3 : Int32, post 0 (hc, bx, o1, o2, o3, ar, w1, w2, w3, C, D, M, ce, cX, cY, cD, cC, cU, cV, ru))
    (hp : 0 < tr_ar cX cY (nI (n / 36)) (nI (n / 6 % 6)) (nI (n % 6)) → ∀ (o1 o2 o3 ar w1 w2 w3 : Int32) (C' D' M' : Nat → Int32) (h' : Int32), (C', D', M', h') = tr_run cX cY cD cC cU cV ce ru (bx / 4096) (bx / 256 - bx / 256 / 16 * 16) (bx / 16 - bx / 16 / 16 * 16) (bx - bx / 16 * 16) (nI (n / 36)) (nI (n / 6 % 6)) (nI (n % 6)) (C, D, M, hc) 256 → post 0 (h', bx, o1, o2, o3, ar, w1, w2, w3, C', D', M', ce, cX, cY, cD, cC, cU, cV, ru))
    (hq : ¬ 0 ≤ tr_ar cX cY (nI (n / 36)) (nI (n / 6 % 6)) (nI (n % 6)) → ru 6 = 1 → ∀ o1 o2 o3 ar w1 w2 w3 : Int32, post 0 (hc, bx, o1, o2, o3, ar, w1, w2, w3, C, D, M, ce, cX, cY, cD, cC, cU, cV, ru))
    (hr : ¬ 0 ≤ tr_ar cX cY (nI (n / 36)) (nI (n / 6 % 6)) (nI (n % 6)) → ¬ ru 6 = 1 → ∀ (o1 o2 o3 ar w1 w2 w3 : Int32) (C' D' M' : Nat → Int32) (h' : Int32), (C', D', M', h') = tr_run cX cY cD cC cU cV ce ru (bx / 4096) (bx / 256 - bx / 256 / 16 * 16) (bx / 16 - bx / 16 / 16 * 16) (bx - bx / 16 * 16) (nI (n / 36)) (nI (n % 6)) (nI (n / 6 % 6)) (C, D, M, hc) 256 → post 0 (h', bx, o1, o2, o3, ar, w1, w2, w3, C', D', M', ce, cX, cY, cD, cC, cU, cV, ru)) :
    wpY_draw post (hc, bx, o1, o2, o3, ar, w1, w2, w3, C, D, M, ce, cX, cY, cD, cC, cU, cV, ru) (nI n) := by
  have V : tr_bt (nI n) 215 := ⟨nI_pos' (by omega), nI_le (b := 215) (by omega) (by decide)⟩
  have i1 : vp_in (nI (n / 36)) 6 := tr_i6 (by omega)
  have i2 : vp_in (nI (n / 6 % 6)) 6 := tr_i6 (by omega)
  have i3 : vp_in (nI (n % 6)) 6 := tr_i6 (by omega)
  unfold wpY_draw
  refine ty_le (fun _ => ty_take hn (fun d => ?_) (fun d e => ?_) (fun d e => ?_)) (fun z => (z V).elim)
  · by_cases c : tr_ar cX cY (nI (n / 36)) (nI (n / 6 % 6)) (nI (n % 6)) = 0
    · exact ⟨257, ty_20z c (hz c _ _ _ _ _ _ _) 256 0 rfl⟩
    · exact ⟨257, ty_20 hX hY hU hV i1 i2 i3 hk h5 (tr_lt_of c d).1 (C, D, M, hc) hM (fun w1 w2 w3 C' D' M' h' e => hp (tr_lt_of c d).1 _ _ _ _ _ _ _ C' D' M' h' e) 256 0 rfl _ _ _ C D M hc rfl⟩
  · exact ⟨257, ty_20z rfl (hq d e _ _ _ _ _ _ _) 256 0 rfl⟩
  · have hs : 0 < tr_ar cX cY (nI (n / 36)) (nI (n % 6)) (nI (n / 6 % 6)) := by
      rw [tr_arswap]
      exact (tr_neg_of (tr_arb hX hY).1 d).1
    exact ⟨257, ty_20 hX hY hU hV i1 i3 i2 hk h5 hs (C, D, M, hc) hM (fun w1 w2 w3 C' D' M' h' z => hr d e _ _ _ _ _ _ _ C' D' M' h' z) 256 0 rfl _ _ _ C D M hc rfl⟩
theorem ty_covered {post : Int32 → SY → Prop} (hX : tr_bc cX) (hY : tr_bc cY) (hn : n < 216)
    (hz : tr_ar cX cY (nI (n / 36)) (nI (n / 6 % 6)) (nI (n % 6)) = 0 → ∀ o1 o2 o3 ar w1 w2 w3 : Int32, post 0 (hc, bx, o1, o2, o3, ar, w1, w2, w3, C, D, M, ce, cX, cY, cD, cC, cU, cV, ru))
    (hp : 0 < tr_ar cX cY (nI (n / 36)) (nI (n / 6 % 6)) (nI (n % 6)) → ∀ o1 o2 o3 ar w1 w2 w3 : Int32, post (tr_cnt cX cY (nI (n / 36)) (nI (n / 6 % 6)) (nI (n % 6)) 256) (hc, bx, o1, o2, o3, ar, w1, w2, w3, C, D, M, ce, cX, cY, cD, cC, cU, cV, ru))
    (hq : ¬ 0 ≤ tr_ar cX cY (nI (n / 36)) (nI (n / 6 % 6)) (nI (n % 6)) → ru 6 = 1 → ∀ o1 o2 o3 ar w1 w2 w3 : Int32, post 0 (hc, bx, o1, o2, o3, ar, w1, w2, w3, C, D, M, ce, cX, cY, cD, cC, cU, cV, ru))
    (hr : ¬ 0 ≤ tr_ar cX cY (nI (n / 36)) (nI (n / 6 % 6)) (nI (n % 6)) → ¬ ru 6 = 1 → ∀ o1 o2 o3 ar w1 w2 w3 : Int32, post (tr_cnt cX cY (nI (n / 36)) (nI (n % 6)) (nI (n / 6 % 6)) 256) (hc, bx, o1, o2, o3, ar, w1, w2, w3, C, D, M, ce, cX, cY, cD, cC, cU, cV, ru)) :
    wpY_covered post (hc, bx, o1, o2, o3, ar, w1, w2, w3, C, D, M, ce, cX, cY, cD, cC, cU, cV, ru) (nI n) := by
  have V : tr_bt (nI n) 215 := ⟨nI_pos' (by omega), nI_le (b := 215) (by omega) (by decide)⟩
  have i1 : vp_in (nI (n / 36)) 6 := tr_i6 (by omega)
  have i2 : vp_in (nI (n / 6 % 6)) 6 := tr_i6 (by omega)
  have i3 : vp_in (nI (n % 6)) 6 := tr_i6 (by omega)
  unfold wpY_covered
  refine ty_le (fun _ => ty_take hn (fun d => ?_) (fun d e => ?_) (fun d e => ?_)) (fun z => (z V).elim)
  · by_cases c : tr_ar cX cY (nI (n / 36)) (nI (n / 6 % 6)) (nI (n % 6)) = 0
    · exact ⟨257, ty_22z c (hz c _ _ _ _ _ _ _) 256 0 rfl⟩
    · exact ⟨257, ty_22 i1 i2 i3 c (fun _ _ _ => hp (tr_lt_of c d).1 _ _ _ _ _ _ _) 256 0 rfl _ _ _⟩
  · exact ⟨257, ty_22z rfl (hq d e _ _ _ _ _ _ _) 256 0 rfl⟩
  · have hs : 0 < tr_ar cX cY (nI (n / 36)) (nI (n % 6)) (nI (n / 6 % 6)) := by
      rw [tr_arswap]
      exact (tr_neg_of (tr_arb hX hY).1 d).1
    exact ⟨257, ty_22 i1 i3 i2 (tr_ne0 hs) (fun _ _ _ => hr d e _ _ _ _ _ _ _) 256 0 rfl _ _ _⟩
end
