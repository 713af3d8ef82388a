/-! Y: one pixel, loops -/
section
variable {hc bx o1 o2 o3 ar w1 w2 w3 : Int32} {C D M ce cX cY cD cC cU cV ru : Nat → Int32} {x y : Nat}
theorem ty_part {post : Int32 → Prop} {i s : Int32} (hX : tr_bc cX) (hY : tr_bc cY) (hU : tr_b 127 cU) (hV : tr_b 127 cV) (h1 : vp_in o1 6) (h2 : vp_in o2 6) (h3 : vp_in o3 6) (hi : vp_in i 256) (hk : ∃ q : Nat, q ≤ 4 ∧ ru 2 = nI q) (hx : x < 16) (hy : y < 16) (hs : 0 < tr_ar cX cY o1 o2 o3) (hv : ¬ tr_cov cX cY o1 o2 o3 (nI x) (nI y) = 0) (hw : tr_part 16777215 s = 255)
    (h : post (tr_one cX cY cC cU cV ce ru o1 o2 o3 (nI x) (nI y) s (C i.toNatClampNeg))) : wpY_part post (hc, bx, o1, o2, o3, (tr_ar cX cY o1 o2 o3), (tr_w cX cY o2 o3 (nI x) (nI y)), (tr_w cX cY o3 o1 (nI x) (nI y)), (tr_w cX cY o1 o2 (nI x) (nI y)), C, D, M, ce, cX, cY, cD, cC, cU, cV, ru) i s := by
  have h0 : ¬ tr_ar cX cY o1 o2 o3 = 0 := tr_ne0 hs
  unfold tr_one at h
  unfold wpY_part
  refine ⟨h1, h2, h3, ty_mean h0 ?_⟩
  by_cases c7 : ru 7 = 1
  · have g1 := (tr_uv (tr_num_b hX hY hx hy hv (tr_pos hs) (N := 127) (by decide) hU) (tr_num_b hX hY hx hy hv (tr_pos hs) (N := 127) (by decide) hV)).1
    have e : tr_cell cX cY cU cV ce ru o1 o2 o3 (nI x) (nI y) = ce (8 * (tr_num cX cY cV o1 o2 o3 (nI x) (nI y) / 16) + tr_num cX cY cU o1 o2 o3 (nI x) (nI y) / 16).toNatClampNeg := if_pos c7
    rw [e] at h
    exact br_t c7 ⟨h1, h2, h3, ty_mean h0 ⟨tr_n16, nm_e ⟨h1, h2, h3, ty_mean h0 ⟨tr_n16, nm_e ⟨g1, tr_n255, nm_e (ty_159 hi hk h)⟩⟩⟩⟩⟩
  · have e : tr_cell cX cY cU cV ce ru o1 o2 o3 (nI x) (nI y) = 16777215 := if_neg c7
    obtain ⟨m, hm, em⟩ := tr_num_b hX hY hx hy hv (tr_pos hs) (N := 255) (by decide) (tr_pt_b cC s)
    rw [e, hw, em, tr_255 hm, ← em] at h
    exact br_f c7 (ty_159 hi hk h)
theorem ty_113 {post : SY → Prop} {e p q r : Int32} {n : Nat} (hn : n < 256) (h : post (hc, bx, o1, o2, o3, ar, w1, w2, w3, (upd C n (65536 * p + 256 * q + r)), (if ru 1 = 1 then upd D n e else D), M, ce, cX, cY, cD, cC, cU, cV, ru)) : wY_hit_113 post (nI n) e p q r hc bx o1 o2 o3 ar w1 w2 w3 C D M ce cX cY cD cC cU cV ru := by
  have hi : vp_in (nI n) 256 := vp_in_nI hn (by decide)
  have ei : (nI n).toNatClampNeg = n := nI_clamp (by omega)
  have Q : ∀ D', D' = (if ru 1 = 1 then upd D n e else D) → wY_hit_130 post (nI n) p q r hc bx o1 o2 o3 ar w1 w2 w3 C D' M ce cX cY cD cC cU cV ru := by
    intro D' hD
    unfold wY_hit_130
    rw [ei, hD]
    exact ⟨hi, nm_e h⟩
  unfold wY_hit_113
  by_cases c : ru 1 = 1
  · exact br_t c ⟨hi, nm_e (Q _ (by rw [ei, if_pos c]))⟩
  · exact br_f c (Q _ (if_neg c).symm)
theorem ty_hit {post : SY → Prop} {e : Int32} {n : Nat} (hX : tr_bc cX) (hY : tr_bc cY) (hU : tr_b 127 cU) (hV : tr_b 127 cV) (h1 : vp_in o1 6) (h2 : vp_in o2 6) (h3 : vp_in o3 6) (hn : n < 256) (hk : ∃ q : Nat, q ≤ 4 ∧ ru 2 = nI q) (hM : ∃ q : Nat, q ≤ 15 ∧ M n = nI q) (hx : x < 16) (hy : y < 16) (hs : 0 < tr_ar cX cY o1 o2 o3) (hv : ¬ tr_cov cX cY o1 o2 o3 (nI x) (nI y) = 0)
    (h : post ((hc + 1), bx, o1, o2, o3, (tr_ar cX cY o1 o2 o3), (tr_w cX cY o2 o3 (nI x) (nI y)), (tr_w cX cY o3 o1 (nI x) (nI y)), (tr_w cX cY o1 o2 (nI x) (nI y)), (upd C n (tr_col cX cY cC cU cV ce ru o1 o2 o3 (nI x) (nI y) (C n))), (if ru 1 = 1 then upd D n e else D), (upd M n (tr_chm (ru 4) (ru 5) (M n))), ce, cX, cY, cD, cC, cU, cV, ru)) : wpY_hit post (hc, bx, o1, o2, o3, (tr_ar cX cY o1 o2 o3), (tr_w cX cY o2 o3 (nI x) (nI y)), (tr_w cX cY o3 o1 (nI x) (nI y)), (tr_w cX cY o1 o2 (nI x) (nI y)), C, D, M, ce, cX, cY, cD, cC, cU, cV, ru) (nI n) e := by
  have hi : vp_in (nI n) 256 := vp_in_nI hn (by decide)
  have ei : (nI n).toNatClampNeg = n := nI_clamp (by omega)
  have Q : ∀ M', M' = upd M n (tr_chm (ru 4) (ru 5) (M n)) → wY_hit_113 post (nI n) e (tr_one cX cY cC cU cV ce ru o1 o2 o3 (nI x) (nI y) 16 (C n)) (tr_one cX cY cC cU cV ce ru o1 o2 o3 (nI x) (nI y) 8 (C n)) (tr_one cX cY cC cU cV ce ru o1 o2 o3 (nI x) (nI y) 0 (C n)) (hc + 1) bx o1 o2 o3 (tr_ar cX cY o1 o2 o3) (tr_w cX cY o2 o3 (nI x) (nI y)) (tr_w cX cY o3 o1 (nI x) (nI y)) (tr_w cX cY o1 o2 (nI x) (nI y)) C D M' ce cX cY cD cC cU cV ru := by
    intro M' hM'
    rw [hM']
    exact ty_113 hn h
  unfold wpY_hit
  refine nm_e (ty_part hX hY hU hV h1 h2 h3 hi hk hx hy hs hv tr_part_w.1 (ty_part hX hY hU hV h1 h2 h3 hi hk hx hy hs hv tr_part_w.2.1 (ty_part hX hY hU hV h1 h2 h3 hi hk hx hy hs hv tr_part_w.2.2 ?_)))
  rw [ei]
  by_cases k1 : ru 4 = 1
  · have k2 : ¬ ru 4 = 2 := by rw [k1]; decide
    have k3 : ¬ ru 4 = 3 := by rw [k1]; decide
    exact br_t k1 ⟨hi, nm_e (br_f k2 (br_f k3 (Q _ (by rw [tr_chm_1 k1]))))⟩
  refine br_f k1 ?_
  unfold wY_hit_57
  by_cases k2 : ru 4 = 2
  · have k3 : ¬ ru 4 = 3 := by rw [k2]; decide
    exact br_t k2 ⟨hi, hi, nm_e (br_f k3 (Q _ (by rw [tr_chm_2 k2, ei, tr_inc' hM])))⟩
  refine br_f k2 ?_
  unfold wY_hit_84
  by_cases k3 : ru 4 = 3
  · exact br_t k3 ⟨hi, hi, nm_e (Q _ (by rw [tr_chm_3 k3, ei]))⟩
  · exact br_f k3 (Q _ (by rw [tr_chm_o k1 k2 k3, tr_upd_id]))
end
section
variable {hc bx o1 o2 o3 ar w1 w2 w3 : Int32} {C D M ce cX cY cD cC cU cV ru : Nat → Int32}
theorem ty_20 {post : Int32 → SY → Prop} (hX : tr_bc cX) (hY : tr_bc cY) (hU : tr_b 127 cU) (hV : tr_b 127 cV) (h1 : vp_in o1 6) (h2 : vp_in o2 6) (h3 : vp_in o3 6) (hk : ∃ q : Nat, q ≤ 4 ∧ ru 2 = nI q) (h5 : ∃ q : Nat, q ≤ 15 ∧ ru 5 = nI q) (hs : 0 < tr_ar cX cY o1 o2 o3) (s0 : tr_S) (hM : tr_b 15 s0.2.2.1)
    (H : ∀ (w1 w2 w3 : Int32) (C D M : Nat → Int32) (hc : Int32), (C, D, M, hc) = tr_run cX cY cD cC cU cV ce ru (bx / 4096) (bx / 256 - bx / 256 / 16 * 16) (bx / 16 - bx / 16 / 16 * 16) (bx - bx / 16 * 16) o1 o2 o3 s0 256 → post 0 (hc, bx, o1, o2, o3, (tr_ar cX cY o1 o2 o3), w1, w2, w3, C, D, M, ce, cX, cY, cD, cC, cU, cV, ru)) :
    ∀ (d i : Nat), i + d = 256 → ∀ (w1 w2 w3 : Int32) (C D M : Nat → Int32) (hc : Int32), (C, D, M, hc) = tr_run cX cY cD cC cU cV ce ru (bx / 4096) (bx / 256 - bx / 256 / 16 * 16) (bx / 16 - bx / 16 / 16 * 16) (bx - bx / 16 * 16) o1 o2 o3 s0 i → wY_draw_20 post (d + 1) (nI i) hc bx o1 o2 o3 (tr_ar cX cY o1 o2 o3) w1 w2 w3 C D M ce cX cY cD cC cU cV ru := by
  have h0 : ¬ tr_ar cX cY o1 o2 o3 = 0 := tr_ne0 hs
  intro d
  induction d with
  | zero =>
    intro i hi w1 w2 w3 C D M hc he
    obtain rfl : i = 256 := by omega
    exact br_t (nI_le (a := 256) (b := 256) (Nat.le_refl _) (by decide)) (H _ _ _ _ _ _ _ he)
  | succ d ih =>
    intro i hi w1 w2 w3 C D M hc he
    have hi' : i < 256 := by omega
    have c0 : ¬ (256 : Int32) ≤ nI i := nI_ge (b := 256) hi' (by decide)
    have hin : vp_in (nI i) 256 := vp_in_nI hi' (by decide)
    have ei : (nI i).toNatClampNeg = i := nI_clamp (by omega)
    have hMi : ∃ q : Nat, q ≤ 15 ∧ M i = nI q := by
      have z := tr_run_m cX cY cD cC cU cV ce ru (bx / 4096) (bx / 256 - bx / 256 / 16 * 16) (bx / 16 - bx / 16 / 16 * 16) (bx - bx / 16 * 16) o1 o2 o3 h5 s0 hM i
      rw [← he] at z
      exact z i
    have E : ∀ s : tr_S, tr_step cX cY cD cC cU cV ce ru (bx / 4096) (bx / 256 - bx / 256 / 16 * 16) (bx / 16 - bx / 16 / 16 * 16) (bx - bx / 16 * 16) o1 o2 o3 i (C, D, M, hc) = s → s = tr_run cX cY cD cC cU cV ce ru (bx / 4096) (bx / 256 - bx / 256 / 16 * 16) (bx / 16 - bx / 16 / 16 * 16) (bx - bx / 16 * 16) o1 o2 o3 s0 (i + 1) := by
      intro s e
      show s = tr_step cX cY cD cC cU cV ce ru (bx / 4096) (bx / 256 - bx / 256 / 16 * 16) (bx / 16 - bx / 16 / 16 * 16) (bx - bx / 16 * 16) o1 o2 o3 i (tr_run cX cY cD cC cU cV ce ru (bx / 4096) (bx / 256 - bx / 256 / 16 * 16) (bx / 16 - bx / 16 / 16 * 16) (bx - bx / 16 * 16) o1 o2 o3 s0 i)
      rw [← he, e]
    refine br_f c0 ⟨tr_n16, nm_r (tr_x16 hi') ⟨tr_n16, nm_r (tr_y16 hi') (ty_win ?_)⟩⟩
    by_cases cw : tr_win (bx / 4096) (bx / 256 - bx / 256 / 16 * 16) (bx / 16 - bx / 16 / 16 * 16) (bx - bx / 16 * 16) (nI (i % 16)) (nI (i / 16)) = 0
    · exact br_t cw (nm_r (nI_1 i) (ih (i + 1) (by omega) _ _ _ _ _ _ _ (E _ (tr_step_0 rfl rfl cw))))
    refine br_f cw (ty_covers h1 h2 h3 h0 ?_)
    by_cases cv : tr_cov cX cY o1 o2 o3 (nI (i % 16)) (nI (i / 16)) = 0
    · exact br_t cv (nm_r (nI_1 i) (ih (i + 1) (by omega) _ _ _ _ _ _ _ (E _ (tr_step_1 rfl rfl cw cv))))
    refine br_f cv ⟨h1, h2, h3, ty_mean h0 (ty_passes hin ?_)⟩
    rw [ei]
    by_cases c1 : tr_pm (ru 3) (ru 5) (M i) = 0
    · refine br_t (if_pos c1) (nm_r (nI_1 i) (ih (i + 1) (by omega) _ _ _ _ _ _ _ (E _ ((tr_step_2 rfl rfl cw cv).trans (tr_px_0 c1)))))
    by_cases c2 : tr_pd (ru 0) (tr_num cX cY cD o1 o2 o3 (nI (i % 16)) (nI (i / 16))) (D i) = 0
    · refine br_t ((if_neg c1).trans c2) (nm_r (nI_1 i) (ih (i + 1) (by omega) _ _ _ _ _ _ _ (E _ ((tr_step_2 rfl rfl cw cv).trans (tr_px_1 c1 c2)))))
    · refine br_f (fun z => c2 ((if_neg c1).symm.trans z)) (ty_hit hX hY hU hV h1 h2 h3 hi' hk hMi (by omega) (by omega) hs cv ?_)
      exact nm_r (nI_1 i) (ih (i + 1) (by omega) _ _ _ _ _ _ _ (E _ ((tr_step_2 rfl rfl cw cv).trans (tr_px_2 c1 c2))))
theorem ty_20z {post : Int32 → SY → Prop} (h0 : ar = 0) (H : post 0 (hc, bx, o1, o2, o3, ar, w1, w2, w3, C, D, M, ce, cX, cY, cD, cC, cU, cV, ru)) : ∀ (d i : Nat), i + d = 256 → wY_draw_20 post (d + 1) (nI i) hc bx o1 o2 o3 ar w1 w2 w3 C D M ce cX cY cD cC cU cV ru := by
  intro d
  induction d with
  | zero =>
    intro i hi
    obtain rfl : i = 256 := by omega
    exact br_t (nI_le (a := 256) (b := 256) (Nat.le_refl _) (by decide)) H
  | succ d ih =>
    intro i hi
    have hi' : i < 256 := by omega
    have c0 : ¬ (256 : Int32) ≤ nI i := nI_ge (b := 256) hi' (by decide)
    refine br_f c0 ⟨tr_n16, nm_e ⟨tr_n16, nm_e (ty_win ?_)⟩⟩
    exact ⟨fun _ => nm_r (nI_1 i) (ih (i + 1) (by omega)), fun _ => ty_covers0 h0 (br_t rfl (nm_r (nI_1 i) (ih (i + 1) (by omega))))⟩
theorem ty_22 {post : Int32 → SY → Prop} (h1 : vp_in o1 6) (h2 : vp_in o2 6) (h3 : vp_in o3 6) (h0 : ¬ ar = 0) (H : ∀ w1 w2 w3 : Int32, post (tr_cnt cX cY o1 o2 o3 256) (hc, bx, o1, o2, o3, ar, w1, w2, w3, C, D, M, ce, cX, cY, cD, cC, cU, cV, ru)) :
    ∀ (d i : Nat), i + d = 256 → ∀ w1 w2 w3 : Int32, wY_covered_22 post (d + 1) (tr_cnt cX cY o1 o2 o3 i) (nI i) hc bx o1 o2 o3 ar w1 w2 w3 C D M ce cX cY cD cC cU cV ru := by
  intro d
  induction d with
  | zero =>
    intro i hi w1 w2 w3
    obtain rfl : i = 256 := by omega
    exact br_t (nI_le (a := 256) (b := 256) (Nat.le_refl _) (by decide)) (H _ _ _)
  | succ d ih =>
    intro i hi w1 w2 w3
    have hi' : i < 256 := by omega
    have c0 : ¬ (256 : Int32) ≤ nI i := nI_ge (b := 256) hi' (by decide)
    have K := ih (i + 1) (by omega)
    refine br_f c0 ⟨tr_n16, tr_n16, ?_⟩
    rw [tr_x16 hi', tr_y16 hi']
    refine ty_covers h1 h2 h3 h0 ?_
    by_cases cv : tr_cov cX cY o1 o2 o3 (nI (i % 16)) (nI (i / 16)) = 0
    · have e : tr_cnt cX cY o1 o2 o3 (i + 1) = tr_cnt cX cY o1 o2 o3 i := if_pos cv
      rw [e] at K
      exact br_t cv (nm_r (nI_1 i) (K _ _ _))
    · have e : tr_cnt cX cY o1 o2 o3 (i + 1) = tr_cnt cX cY o1 o2 o3 i + 1 := if_neg cv
      rw [e] at K
      exact br_f cv (nm_e (nm_r (nI_1 i) (K _ _ _)))
theorem ty_22z {post : Int32 → SY → Prop} (h0 : ar = 0) (H : post 0 (hc, bx, o1, o2, o3, ar, w1, w2, w3, C, D, M, ce, cX, cY, cD, cC, cU, cV, ru)) : ∀ (d i : Nat), i + d = 256 → wY_covered_22 post (d + 1) 0 (nI i) hc bx o1 o2 o3 ar w1 w2 w3 C D M ce cX cY cD cC cU cV ru := by
  intro d
  induction d with
  | zero =>
    intro i hi
    obtain rfl : i = 256 := by omega
    exact br_t (nI_le (a := 256) (b := 256) (Nat.le_refl _) (by decide)) H
  | succ d ih =>
    intro i hi
    have hi' : i < 256 := by omega
    have c0 : ¬ (256 : Int32) ≤ nI i := nI_ge (b := 256) hi' (by decide)
    exact br_f c0 ⟨tr_n16, tr_n16, ty_covers0 h0 (br_t rfl (nm_r (nI_1 i) (ih (i + 1) (by omega))))⟩
theorem tr_i6 {m : Nat} (h : m < 6) : vp_in (nI m) 6 := vp_in_nI h (by decide)
theorem ty_take {post : SY → Prop} {n : Nat} (hn : n < 216)
    (hp : 0 ≤ tr_ar cX cY (nI (n / 36)) (nI (n / 6 % 6)) (nI (n % 6)) → post (hc, bx, (nI (n / 36)), (nI (n / 6 % 6)), (nI (n % 6)), (tr_ar cX cY (nI (n / 36)) (nI (n / 6 % 6)) (nI (n % 6))), w1, w2, w3, C, D, M, ce, cX, cY, cD, cC, cU, cV, ru))
    (hq : ¬ 0 ≤ tr_ar cX cY (nI (n / 36)) (nI (n / 6 % 6)) (nI (n % 6)) → ru 6 = 1 → post (hc, bx, (nI (n / 36)), (nI (n % 6)), (nI (n / 6 % 6)), 0, w1, w2, w3, C, D, M, ce, cX, cY, cD, cC, cU, cV, ru))
    (hr : ¬ 0 ≤ tr_ar cX cY (nI (n / 36)) (nI (n / 6 % 6)) (nI (n % 6)) → ¬ ru 6 = 1 → post (hc, bx, (nI (n / 36)), (nI (n % 6)), (nI (n / 6 % 6)), (tr_ar cX cY (nI (n / 36)) (nI (n % 6)) (nI (n / 6 % 6))), w1, w2, w3, C, D, M, ce, cX, cY, cD, cC, cU, cV, ru)) : wpY_take post (hc, bx, o1, o2, o3, ar, w1, w2, w3, C, D, M, ce, cX, cY, cD, cC, cU, cV, ru) (nI n) := by
  have i1 : vp_in (nI (n / 36)) 6 := tr_i6 (by omega)
  have i2 : vp_in (nI (n / 6 % 6)) 6 := tr_i6 (by omega)
  have i3 : vp_in (nI (n % 6)) 6 := tr_i6 (by omega)
  unfold wpY_take
  exact ⟨tr_n36, nm_r (tr_c1 hn) ⟨tr_n6, tr_n6, nm_r (tr_c2 hn) ⟨tr_n6, nm_r (tr_c3 hn) ⟨i1, i1, i2, i2, i3, i3, ty_side ⟨hp, fun z => ⟨hq z, fun z2 => nm_r (tr_arswap cX cY _ _ _).symm (hr z z2)⟩⟩⟩⟩⟩⟩
theorem ty_dig {post : Int32 → Prop} (H : post (tr_dig C D M 256)) : ∀ (d i : Nat), i + d = 256 → wY_digest_4 post hc bx o1 o2 o3 ar w1 w2 w3 C D M ce cX cY cD cC cU cV ru (d + 1) (tr_dig C D M i) (nI i) := by
  intro d
  induction d with
  | zero =>
    intro i hi
    obtain rfl : i = 256 := by omega
    exact br_t (nI_le (a := 256) (b := 256) (Nat.le_refl _) (by decide)) H
  | succ d ih =>
    intro i hi
    have c0 : ¬ (256 : Int32) ≤ nI i := nI_ge (b := 256) (by omega) (by decide)
    have w : vp_in (nI i) 256 := vp_in_nI (by omega) (by decide)
    have e : (nI i).toNatClampNeg = i := nI_clamp (by omega)
    have K := ih (i + 1) (by omega)
    refine br_f c0 ⟨w, w, w, nm_r ?_ (nm_r (nI_1 i) K)⟩
    rw [e]
    rfl
theorem ty_rules9 {post : SY → Prop} (H : post (hc, bx, o1, o2, o3, ar, w1, w2, w3, C, D, M, ce, cX, cY, cD, cC, cU, cV, (tr_ru0 ru 8))) : ∀ (d i : Nat), i + d = 8 → wY_firstRules_9 post hc bx o1 o2 o3 ar w1 w2 w3 (d + 1) (nI i) C D M ce cX cY cD cC cU cV (tr_ru0 ru i) := by
  intro d
  induction d with
  | zero =>
    intro i hi
    obtain rfl : i = 8 := by omega
    exact br_t (nI_le (a := 8) (b := 8) (Nat.le_refl _) (by decide)) H
  | succ d ih =>
    intro i hi
    have c0 : ¬ (8 : Int32) ≤ nI i := nI_ge (b := 8) (by omega) (by decide)
    have w : vp_in (nI i) 8 := vp_in_nI (by omega) (by decide)
    have e : (nI i).toNatClampNeg = i := nI_clamp (by omega)
    have K := ih (i + 1) (by omega)
    have u : ∀ v : Int32, (if i = 0 then (2 : Int32) else if i = 1 then 1 else 0) = v → upd (tr_ru0 ru i) (nI i).toNatClampNeg v = tr_ru0 ru (i + 1) := by
      intro v hv
      rw [e, ← hv]
      exact tr_ru0_s ru i
    refine br_f c0 ?_
    by_cases i0 : i = 0
    · have z : nI i = 0 := by rw [i0]; exact nI_0
      exact br_t z ⟨w, nm_r (u _ (if_pos i0)) (nm_r (nI_1 i) K)⟩
    have z : ¬ nI i = 0 := nI_ne0 (by omega) (by omega)
    refine br_f z ?_
    by_cases i1 : i = 1
    · have z1 : nI i = 1 := by rw [i1]; rfl
      exact br_t z1 ⟨w, nm_r (u _ ((if_neg i0).trans (if_pos i1))) (nm_r (nI_1 i) K)⟩
    · have z1 : ¬ nI i = 1 := fun q => i1 ((nI_eq (a := i) (b := 1) (by omega) (by decide)).mp q)
      exact br_f z1 ⟨w, nm_r (u _ ((if_neg i0).trans (if_neg i1))) (nm_r (nI_1 i) K)⟩
theorem ty_rules {post : SY → Prop} (H : post (hc, 3855, o1, o2, o3, ar, w1, w2, w3, C, D, M, ce, cX, cY, cD, cC, cU, cV, (tr_ru0 ru 8))) : wpY_firstRules post (hc, bx, o1, o2, o3, ar, w1, w2, w3, C, D, M, ce, cX, cY, cD, cC, cU, cV, ru) := by
  unfold wpY_firstRules
  have K := ty_rules9 H 8 0 rfl
  rw [tr_ru0_0] at K
  exact ⟨9, K⟩
theorem ty_97 {post : SY → Prop} (H : wpY_firstRules post (hc, bx, o1, o2, o3, ar, w1, w2, w3, C, (tr_fill D 255 256), M, ce, cX, cY, cD, cC, cU, cV, ru)) : ∀ (d i : Nat), i + d = 256 → wY_init_97 post hc bx o1 o2 o3 ar w1 w2 w3 (d + 1) (nI i) C (tr_fill D 255 i) M ce cX cY cD cC cU cV ru := by
  intro d
  induction d with
  | zero =>
    intro i hi
    obtain rfl : i = 256 := by omega
    exact br_t (nI_le (a := 256) (b := 256) (Nat.le_refl _) (by decide)) H
  | succ d ih =>
    intro i hi
    have c0 : ¬ (256 : Int32) ≤ nI i := nI_ge (b := 256) (by omega) (by decide)
    have w : vp_in (nI i) 256 := vp_in_nI (by omega) (by decide)
    have q : i < 2147483648 := by omega
    exact br_f c0 ⟨w, nm_r (tr_fu q _ _) (nm_r (nI_1 i) (ih (i + 1) (by omega)))⟩
theorem ty_31 {post : Int32 → SY → Prop} {x1 x2 x3 : Int32} (H : post 0 (hc, bx, o1, o2, o3, ar, w1, w2, w3, (tr_fill C x1 256), (tr_fill D x2 256), (tr_fill M x3 256), ce, cX, cY, cD, cC, cU, cV, ru)) :
    ∀ (d i : Nat), i + d = 256 → wY_clear_31 post x1 x2 x3 hc bx o1 o2 o3 ar w1 w2 w3 (d + 1) (nI i) (tr_fill C x1 i) (tr_fill D x2 i) (tr_fill M x3 i) ce cX cY cD cC cU cV ru := by
  intro d
  induction d with
  | zero =>
    intro i hi
    obtain rfl : i = 256 := by omega
    exact br_t (nI_le (a := 256) (b := 256) (Nat.le_refl _) (by decide)) H
  | succ d ih =>
    intro i hi
    have c0 : ¬ (256 : Int32) ≤ nI i := nI_ge (b := 256) (by omega) (by decide)
    have w : vp_in (nI i) 256 := vp_in_nI (by omega) (by decide)
    have q : i < 2147483648 := by omega
    exact br_f c0 ⟨w, nm_r (tr_fu q _ _) ⟨w, nm_r (tr_fu q _ _) ⟨w, nm_r (tr_fu q _ _) (nm_r (nI_1 i) (ih (i + 1) (by omega)))⟩⟩⟩
theorem ty_27 {post : SY → Prop} (H : post (hc, bx, o1, o2, o3, ar, w1, w2, w3, C, D, M, ce, (tr_fill cX 0 6), (tr_fill cY 0 6), (tr_fill cD 0 6), (tr_fill cC 0 6), (tr_fill cU 0 6), (tr_fill cV 0 6), ru)) :
    ∀ (d i : Nat), i + d = 6 → wY_reset_27 post hc bx o1 o2 o3 ar w1 w2 w3 (d + 1) (nI i) C D M ce (tr_fill cX 0 i) (tr_fill cY 0 i) (tr_fill cD 0 i) (tr_fill cC 0 i) (tr_fill cU 0 i) (tr_fill cV 0 i) ru := by
  intro d
  induction d with
  | zero =>
    intro i hi
    obtain rfl : i = 6 := by omega
    exact br_t (nI_le (a := 6) (b := 6) (Nat.le_refl _) (by decide)) H
  | succ d ih =>
    intro i hi
    have c0 : ¬ (6 : Int32) ≤ nI i := nI_ge (b := 6) (by omega) (by decide)
    have w : vp_in (nI i) 6 := vp_in_nI (by omega) (by decide)
    have q : i < 2147483648 := by omega
    exact br_f c0 ⟨w, nm_r (tr_fu q _ _) ⟨w, nm_r (tr_fu q _ _) ⟨w, nm_r (tr_fu q _ _) ⟨w, nm_r (tr_fu q _ _) ⟨w, nm_r (tr_fu q _ _) ⟨w, nm_r (tr_fu q _ _) (nm_r (nI_1 i) (ih (i + 1) (by omega)))⟩⟩⟩⟩⟩⟩
theorem ty_6 {post : SY → Prop} (H : post (hc, bx, o1, o2, o3, ar, w1, w2, w3, C, D, M, (tr_fill ce 0 64), (tr_fill cX 0 6), (tr_fill cY 0 6), (tr_fill cD 0 6), (tr_fill cC 0 6), (tr_fill cU 0 6), (tr_fill cV 0 6), ru)) :
    ∀ (d i : Nat), i + d = 64 → wY_reset_6 post hc bx o1 o2 o3 ar w1 w2 w3 (d + 1) (nI i) C D M (tr_fill ce 0 i) cX cY cD cC cU cV ru := by
  intro d
  induction d with
  | zero =>
    intro i hi
    obtain rfl : i = 64 := by omega
    have K := ty_27 H 6 0 rfl
    rw [tr_fill_0, tr_fill_0, tr_fill_0, tr_fill_0, tr_fill_0, tr_fill_0] at K
    exact br_t (nI_le (a := 64) (b := 64) (Nat.le_refl _) (by decide)) ⟨7, K⟩
  | succ d ih =>
    intro i hi
    have c0 : ¬ (64 : Int32) ≤ nI i := nI_ge (b := 64) (by omega) (by decide)
    have w : vp_in (nI i) 64 := vp_in_nI (by omega) (by decide)
    have q : i < 2147483648 := by omega
    exact br_f c0 ⟨w, nm_r (tr_fu q _ _) (nm_r (nI_1 i) (ih (i + 1) (by omega)))⟩
theorem ty_33 {post : Int32 → SY → Prop} {J24 : Int32 → (Nat → Int32) → (Nat → Int32) → (Nat → Int32) → (Nat → Int32) → (Nat → Int32) → (Nat → Int32) → (Nat → Int32) → (Nat → Int32) → (Nat → Int32) → (Nat → Int32) → (Nat → Int32) → Prop} {x y u : Nat} (hx : x ≤ 8) (hy : y ≤ 8) (hu : u < 8)
    (HJ : J24 (nI (u + 1)) C D M (tr_grY ce C x y (u + 1) 0) cX cY cD cC cU cV ru) : ∀ (d v : Nat), v + d = 8 → wY_grab_33 post J24 (nI x) (nI y) (nI u) hc bx o1 o2 o3 ar w1 w2 w3 (d + 1) (nI v) C D M (tr_grY ce C x y u v) cX cY cD cC cU cV ru := by
  intro d
  induction d with
  | zero =>
    intro v hv
    obtain rfl : v = 8 := by omega
    rw [tr_grY_n]
    exact br_t (nI_le (a := 8) (b := 8) (Nat.le_refl _) (by decide)) (nm_r (nI_1 u) HJ)
  | succ d ih =>
    intro v hv
    have c0 : ¬ (8 : Int32) ≤ nI v := nI_ge (b := 8) (by omega) (by decide)
    have e1 : (16 : Int32) * (nI y + nI v) + nI x + nI u = nI (16 * (y + v) + x + u) := by
      show nI 16 * (nI y + nI v) + nI x + nI u = _
      rw [nI_add, pk_mul, nI_add, nI_add]
    have e2 : (8 : Int32) * nI v + nI u = nI (8 * v + u) := by
      show nI 8 * nI v + nI u = _
      rw [pk_mul, nI_add]
    have w1 : vp_in ((16 : Int32) * (nI y + nI v) + nI x + nI u) 256 := by
      rw [e1]
      exact vp_in_nI (by omega) (by decide)
    have w2 : vp_in ((8 : Int32) * nI v + nI u) 64 := by
      rw [e2]
      exact vp_in_nI (by omega) (by decide)
    refine br_f c0 ⟨w1, w2, nm_r ?_ (nm_r (nI_1 v) (ih (v + 1) (by omega)))⟩
    rw [e1, e2, nI_clamp (by omega), nI_clamp (by omega)]
    exact tr_grY_s ce C x y u v hu (by omega)
theorem ty_24 {post : Int32 → SY → Prop} {x y : Nat} (hx : x ≤ 8) (hy : y ≤ 8) (H : post 0 (hc, bx, o1, o2, o3, ar, w1, w2, w3, C, D, M, (tr_grY ce C x y 8 0), cX, cY, cD, cC, cU, cV, ru)) :
    ∀ (d u : Nat), u + d = 8 → wY_grab_24 post (nI x) (nI y) hc bx o1 o2 o3 ar w1 w2 w3 (d + 1) (nI u) C D M (tr_grY ce C x y u 0) cX cY cD cC cU cV ru := by
  intro d
  induction d with
  | zero =>
    intro u hu
    obtain rfl : u = 8 := by omega
    exact br_t (nI_le (a := 8) (b := 8) (Nat.le_refl _) (by decide)) H
  | succ d ih =>
    intro u hu
    have c0 : ¬ (8 : Int32) ≤ nI u := nI_ge (b := 8) (by omega) (by decide)
    exact br_f c0 ⟨9, ty_33 hx hy (by omega) (ih (u + 1) (by omega)) 8 0 rfl⟩
end
