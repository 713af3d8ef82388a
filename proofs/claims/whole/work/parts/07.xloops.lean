/-! X: loops -/
section
variable {fl fr ft fb hc : Int32} {C D M ce cX cY cD cR cG cB cU cV ru : Nat → Int32} {cC : Nat → Int32} {a b c : Int32}
theorem tx_13 {post : SX → Prop} {J3 : Int32 → Int32 → Int32 → Int32 → Int32 → Int32 → (Nat → Int32) → (Nat → Int32) → (Nat → Int32) → (Nat → Int32) → (Nat → Int32) → (Nat → Int32) → (Nat → Int32) → (Nat → Int32) → (Nat → Int32) → (Nat → Int32) → (Nat → Int32) → (Nat → Int32) → (Nat → Int32) → Prop} (hX : tr_bc cX) (hY : tr_bc cY) (hU : tr_b 127 cU) (hV : tr_b 127 cV) (ha : vp_in a 6) (hb : vp_in b 6) (h3 : vp_in c 6) (hs : 0 < tr_ar cX cY a b c) (s0 : tr_S) {y : Nat} (hy : y < 16)
    (HJ : ∀ (C D M : Nat → Int32) (hc : Int32), (C, D, M, hc) = tr_run cX cY cD cC cU cV ce ru fl fr ft fb a b c s0 (16 * (y + 1)) → J3 (nI (y + 1)) fl fr ft fb hc C D M ce cX cY cD (tr_pt cC 16) (tr_pt cC 8) (tr_pt cC 0) cU cV ru) :
    ∀ (d x : Nat), x + d = 16 → ∀ (C D M : Nat → Int32) (hc : Int32), (C, D, M, hc) = tr_run cX cY cD cC cU cV ce ru fl fr ft fb a b c s0 (16 * y + x) → wX_drawFromFront_13 post J3 a b c (nI y) (d + 1) (nI x) fl fr ft fb hc C D M ce cX cY cD (tr_pt cC 16) (tr_pt cC 8) (tr_pt cC 0) cU cV ru := by
  intro d
  induction d with
  | zero =>
    intro x hx C D M hc he
    obtain rfl : x = 16 := by omega
    exact br_t (nI_le (a := 16) (b := 16) (Nat.le_refl _) (by decide)) (nm_r (nI_1 y) (HJ _ _ _ _ he))
  | succ d ih =>
    intro x hx C D M hc he
    have hx' : x < 16 := by omega
    have c0 : ¬ (16 : Int32) ≤ nI x := nI_ge (b := 16) hx' (by decide)
    have ex : (16 * y + x) % 16 = x := by omega
    have ey : (16 * y + x) / 16 = y := by omega
    have E : ∀ s : tr_S, tr_step cX cY cD cC cU cV ce ru fl fr ft fb a b c (16 * y + x) (C, D, M, hc) = s → s = tr_run cX cY cD cC cU cV ce ru fl fr ft fb a b c s0 (16 * y + (x + 1)) := by
      intro s e
      show s = tr_step cX cY cD cC cU cV ce ru fl fr ft fb a b c (16 * y + x) (tr_run cX cY cD cC cU cV ce ru fl fr ft fb a b c s0 (16 * y + x))
      rw [← he, e]
    refine br_f c0 (tx_win ?_)
    by_cases cw : tr_win fl fr ft fb (nI x) (nI y) = 0
    · exact br_t cw (nm_r (nI_1 x) (ih (x + 1) (by omega) _ _ _ _ (E _ (tr_step_0 ex ey cw))))
    refine br_f cw (tx_covers ha hb h3 ?_)
    by_cases cv : tr_cov cX cY a b c (nI x) (nI y) = 0
    · exact br_t cv (nm_r (nI_1 x) (ih (x + 1) (by omega) _ _ _ _ (E _ (tr_step_1 ex ey cw cv))))
    refine br_f cv (tx_pixel hX hY hU hV ha hb h3 hx' hy hs cv ?_)
    intro C' D' M' h' e
    exact nm_r (nI_1 x) (ih (x + 1) (by omega) _ _ _ _ (E _ ((tr_step_2 ex ey cw cv).trans e.symm)))
theorem tx_3 {post : SX → Prop} (hX : tr_bc cX) (hY : tr_bc cY) (hU : tr_b 127 cU) (hV : tr_b 127 cV) (ha : vp_in a 6) (hb : vp_in b 6) (h3 : vp_in c 6) (hs : 0 < tr_ar cX cY a b c) (s0 : tr_S)
    (H : ∀ (C D M : Nat → Int32) (hc : Int32), (C, D, M, hc) = tr_run cX cY cD cC cU cV ce ru fl fr ft fb a b c s0 256 → post (fl, fr, ft, fb, hc, C, D, M, ce, cX, cY, cD, (tr_pt cC 16), (tr_pt cC 8), (tr_pt cC 0), cU, cV, ru)) :
    ∀ (d y : Nat), y + d = 16 → ∀ (C D M : Nat → Int32) (hc : Int32), (C, D, M, hc) = tr_run cX cY cD cC cU cV ce ru fl fr ft fb a b c s0 (16 * y) → wX_drawFromFront_3 post a b c (d + 1) (nI y) fl fr ft fb hc C D M ce cX cY cD (tr_pt cC 16) (tr_pt cC 8) (tr_pt cC 0) cU cV ru := by
  intro d
  induction d with
  | zero =>
    intro y hy C D M hc he
    obtain rfl : y = 16 := by omega
    exact br_t (nI_le (a := 16) (b := 16) (Nat.le_refl _) (by decide)) (H _ _ _ _ he)
  | succ d ih =>
    intro y hy C D M hc he
    have c0 : ¬ (16 : Int32) ≤ nI y := nI_ge (b := 16) (by omega) (by decide)
    exact br_f c0 ⟨17, tx_13 hX hY hU hV ha hb h3 hs s0 (by omega) (fun C D M hc e => ih (y + 1) (by omega) C D M hc e) 16 0 rfl C D M hc he⟩
theorem tx_front {post : SX → Prop} (hX : tr_bc cX) (hY : tr_bc cY) (hU : tr_b 127 cU) (hV : tr_b 127 cV) (ha : vp_in a 6) (hb : vp_in b 6) (h3 : vp_in c 6) (hs : 0 < tr_ar cX cY a b c)
    (H : ∀ (C' D' M' : Nat → Int32) (h' : Int32), (C', D', M', h') = tr_run cX cY cD cC cU cV ce ru fl fr ft fb a b c (C, D, M, hc) 256 → post (fl, fr, ft, fb, h', C', D', M', ce, cX, cY, cD, (tr_pt cC 16), (tr_pt cC 8), (tr_pt cC 0), cU, cV, ru)) :
    wpX_drawFromFront post (fl, fr, ft, fb, hc, C, D, M, ce, cX, cY, cD, (tr_pt cC 16), (tr_pt cC 8), (tr_pt cC 0), cU, cV, ru) a b c := by
  unfold wpX_drawFromFront
  exact ⟨17, tx_3 hX hY hU hV ha hb h3 hs (C, D, M, hc) H 16 0 rfl C D M hc rfl⟩
theorem tx_16 {post : Int32 → Prop} {J6 : Int32 → Int32 → Prop} (ha : vp_in a 6) (hb : vp_in b 6) (h3 : vp_in c 6) {y : Nat} (hy : y < 16) (HJ : J6 (tr_cnt cX cY a b c (16 * (y + 1))) (nI (y + 1))) :
    ∀ (d x : Nat), x + d = 16 → wX_countFromFront_16 post J6 a b c (nI y) fl fr ft fb hc C D M ce cX cY cD cR cG cB cU cV ru (d + 1) (tr_cnt cX cY a b c (16 * y + x)) (nI x) := by
  intro d
  induction d with
  | zero =>
    intro x hx
    obtain rfl : x = 16 := by omega
    exact br_t (nI_le (a := 16) (b := 16) (Nat.le_refl _) (by decide)) (nm_r (nI_1 y) HJ)
  | succ d ih =>
    intro x hx
    have c0 : ¬ (16 : Int32) ≤ nI x := nI_ge (b := 16) (by omega) (by decide)
    have ex : (16 * y + x) % 16 = x := by omega
    have ey : (16 * y + x) / 16 = y := by omega
    have E : tr_cnt cX cY a b c (16 * y + (x + 1)) = if tr_cov cX cY a b c (nI x) (nI y) = 0 then tr_cnt cX cY a b c (16 * y + x) else tr_cnt cX cY a b c (16 * y + x) + 1 := by
      show (if tr_cov cX cY a b c (nI ((16 * y + x) % 16)) (nI ((16 * y + x) / 16)) = 0 then _ else _) = _
      rw [ex, ey]
      rfl
    have K := ih (x + 1) (by omega)
    refine br_f c0 (tx_covers ha hb h3 ?_)
    by_cases cv : tr_cov cX cY a b c (nI x) (nI y) = 0
    · rw [E, if_pos cv] at K
      exact br_t cv (nm_r (nI_1 x) K)
    · rw [E, if_neg cv] at K
      exact br_f cv (nm_e (nm_r (nI_1 x) K))
theorem tx_6 {post : Int32 → Prop} (ha : vp_in a 6) (hb : vp_in b 6) (h3 : vp_in c 6) (H : post (tr_cnt cX cY a b c 256)) :
    ∀ (d y : Nat), y + d = 16 → wX_countFromFront_6 post a b c fl fr ft fb hc C D M ce cX cY cD cR cG cB cU cV ru (d + 1) (tr_cnt cX cY a b c (16 * y)) (nI y) := by
  intro d
  induction d with
  | zero =>
    intro y hy
    obtain rfl : y = 16 := by omega
    exact br_t (nI_le (a := 16) (b := 16) (Nat.le_refl _) (by decide)) H
  | succ d ih =>
    intro y hy
    have c0 : ¬ (16 : Int32) ≤ nI y := nI_ge (b := 16) (by omega) (by decide)
    exact br_f c0 ⟨17, tx_16 ha hb h3 (by omega) (ih (y + 1) (by omega)) 16 0 rfl⟩
theorem tx_count {post : Int32 → Prop} (ha : vp_in a 6) (hb : vp_in b 6) (h3 : vp_in c 6) (H : post (tr_cnt cX cY a b c 256)) : wpX_countFromFront post (fl, fr, ft, fb, hc, C, D, M, ce, cX, cY, cD, cR, cG, cB, cU, cV, ru) a b c := by
  unfold wpX_countFromFront
  exact ⟨17, tx_6 ha hb h3 H 16 0 rfl⟩
theorem tx_dig {post : Int32 → Prop} (H : post (tr_dig C D M 256)) : ∀ (d i : Nat), i + d = 256 → wX_digest_4 post fl fr ft fb hc C D M ce cX cY cD cR cG cB cU cV ru (d + 1) (tr_dig C D M i) (nI i) := by
  intro d
  induction d with
  | zero =>
    intro i hi
    obtain rfl : i = 256 := by omega
    exact br_t (nI_le (a := 256) (b := 256) (Nat.le_refl _) (by decide)) H
  | succ d ih =>
    intro i hi
    have c0 : ¬ (256 : Int32) ≤ nI i := nI_ge (b := 256) (by omega) (by decide)
    have w : vp_in (nI i) 256 := vp_in_nI (by omega) (by decide)
    have e : (nI i).toNatClampNeg = i := nI_clamp (by omega)
    have K := ih (i + 1) (by omega)
    refine br_f c0 ⟨w, w, w, nm_r ?_ (nm_r (nI_1 i) K)⟩
    rw [e]
    rfl
/-! fills -/
theorem tr_fu {i : Nat} (hi : i < 2147483648) (f : Nat → Int32) (v : Int32) : upd (tr_fill f v i) (nI i).toNatClampNeg v = tr_fill f v (i + 1) := by
  rw [nI_clamp hi]
  exact tr_fill_s f v i
theorem tx_fill3 {post : SX → Prop} {x1 x2 x3 : Int32} (H : post (fl, fr, ft, fb, hc, (tr_fill C x1 256), (tr_fill D x2 256), (tr_fill M x3 256), ce, cX, cY, cD, cR, cG, cB, cU, cV, ru)) :
    ∀ (d i : Nat), i + d = 256 → wX_fillPicture_3 post x1 x2 x3 fl fr ft fb hc (d + 1) (nI i) (tr_fill C x1 i) (tr_fill D x2 i) (tr_fill M x3 i) ce cX cY cD cR cG cB cU cV ru := by
  intro d
  induction d with
  | zero =>
    intro i hi
    obtain rfl : i = 256 := by omega
    exact br_t (nI_le (a := 256) (b := 256) (Nat.le_refl _) (by decide)) H
  | succ d ih =>
    intro i hi
    have c0 : ¬ (256 : Int32) ≤ nI i := nI_ge (b := 256) (by omega) (by decide)
    have w : vp_in (nI i) 256 := vp_in_nI (by omega) (by decide)
    have q : i < 2147483648 := by omega
    exact br_f c0 ⟨w, nm_r (tr_fu q _ _) ⟨w, nm_r (tr_fu q _ _) ⟨w, nm_r (tr_fu q _ _) (nm_r (nI_1 i) (ih (i + 1) (by omega)))⟩⟩⟩
theorem tx_fill {post : SX → Prop} {x1 x2 x3 : Int32} (H : post (fl, fr, ft, fb, hc, (tr_fill C x1 256), (tr_fill D x2 256), (tr_fill M x3 256), ce, cX, cY, cD, cR, cG, cB, cU, cV, ru)) : wpX_fillPicture post (fl, fr, ft, fb, hc, C, D, M, ce, cX, cY, cD, cR, cG, cB, cU, cV, ru) x1 x2 x3 := by
  unfold wpX_fillPicture
  have K := tx_fill3 H 256 0 rfl
  rw [tr_fill_0, tr_fill_0, tr_fill_0] at K
  exact ⟨257, K⟩
theorem tx_corners2 {post : SX → Prop} (H : post (fl, fr, ft, fb, hc, C, D, M, ce, (tr_fill cX 0 6), (tr_fill cY 0 6), (tr_fill cD 0 6), (tr_fill cR 0 6), (tr_fill cG 0 6), (tr_fill cB 0 6), (tr_fill cU 0 6), (tr_fill cV 0 6), ru)) :
    ∀ (d i : Nat), i + d = 6 → wX_startCorners_2 post fl fr ft fb hc (d + 1) (nI i) C D M ce (tr_fill cX 0 i) (tr_fill cY 0 i) (tr_fill cD 0 i) (tr_fill cR 0 i) (tr_fill cG 0 i) (tr_fill cB 0 i) (tr_fill cU 0 i) (tr_fill cV 0 i) ru := by
  intro d
  induction d with
  | zero =>
    intro i hi
    obtain rfl : i = 6 := by omega
    exact br_t (nI_le (a := 6) (b := 6) (Nat.le_refl _) (by decide)) H
  | succ d ih =>
    intro i hi
    have c0 : ¬ (6 : Int32) ≤ nI i := nI_ge (b := 6) (by omega) (by decide)
    have w : vp_in (nI i) 6 := vp_in_nI (by omega) (by decide)
    have q : i < 2147483648 := by omega
    exact br_f c0 ⟨w, nm_r (tr_fu q _ _) ⟨w, nm_r (tr_fu q _ _) ⟨w, nm_r (tr_fu q _ _) ⟨w, nm_r (tr_fu q _ _) ⟨w, nm_r (tr_fu q _ _) ⟨w, nm_r (tr_fu q _ _) ⟨w, nm_r (tr_fu q _ _) ⟨w, nm_r (tr_fu q _ _) (nm_r (nI_1 i) (ih (i + 1) (by omega)))⟩⟩⟩⟩⟩⟩⟩⟩
theorem tx_pattern2 {post : SX → Prop} (H : post (fl, fr, ft, fb, hc, C, D, M, (tr_fill ce 0 64), cX, cY, cD, cR, cG, cB, cU, cV, ru)) :
    ∀ (d i : Nat), i + d = 64 → wX_startPattern_2 post fl fr ft fb hc (d + 1) (nI i) C D M (tr_fill ce 0 i) cX cY cD cR cG cB cU cV ru := by
  intro d
  induction d with
  | zero =>
    intro i hi
    obtain rfl : i = 64 := by omega
    exact br_t (nI_le (a := 64) (b := 64) (Nat.le_refl _) (by decide)) H
  | succ d ih =>
    intro i hi
    have c0 : ¬ (64 : Int32) ≤ nI i := nI_ge (b := 64) (by omega) (by decide)
    have w : vp_in (nI i) 64 := vp_in_nI (by omega) (by decide)
    have q : i < 2147483648 := by omega
    exact br_f c0 ⟨w, nm_r (tr_fu q _ _) (nm_r (nI_1 i) (ih (i + 1) (by omega)))⟩
theorem tx_settings {post : SX → Prop} (H : post (0, 15, 0, 15, hc, C, D, M, (tr_fill ce 0 64), (tr_fill cX 0 6), (tr_fill cY 0 6), (tr_fill cD 0 6), (tr_fill cR 0 6), (tr_fill cG 0 6), (tr_fill cB 0 6), (tr_fill cU 0 6), (tr_fill cV 0 6), (tr_ru0 ru 8))) : wpX_startSettings post (fl, fr, ft, fb, hc, C, D, M, ce, cX, cY, cD, cR, cG, cB, cU, cV, ru) := by
  unfold wpX_startSettings
  have K1 : wpX_startRules post (fl, fr, ft, fb, hc, C, D, M, (tr_fill ce 0 64), (tr_fill cX 0 6), (tr_fill cY 0 6), (tr_fill cD 0 6), (tr_fill cR 0 6), (tr_fill cG 0 6), (tr_fill cB 0 6), (tr_fill cU 0 6), (tr_fill cV 0 6), ru) := by
    unfold wpX_startRules
    refine nm_e (nm_e (nm_e (nm_e (nm_e (nm_e (nm_e (nm_r (tr_ru0_8 ru) H)))))))
  have K2 : wpX_startPattern (fun u => wpX_startRules post u) (fl, fr, ft, fb, hc, C, D, M, ce, (tr_fill cX 0 6), (tr_fill cY 0 6), (tr_fill cD 0 6), (tr_fill cR 0 6), (tr_fill cG 0 6), (tr_fill cB 0 6), (tr_fill cU 0 6), (tr_fill cV 0 6), ru) := by
    unfold wpX_startPattern
    have K := tx_pattern2 (post := fun u => wpX_startRules post u) K1 64 0 rfl
    rw [tr_fill_0] at K
    exact ⟨65, K⟩
  have K3 := tx_corners2 (post := fun u => wpX_startPattern (fun u => wpX_startRules post u) u) K2 6 0 rfl
  rw [tr_fill_0, tr_fill_0, tr_fill_0, tr_fill_0, tr_fill_0, tr_fill_0, tr_fill_0, tr_fill_0] at K3
  unfold wpX_startCorners
  exact ⟨7, K3⟩
/-! grab -/
theorem tx_31 {post : Int32 → SX → Prop} {J22 : Int32 → (Nat → Int32) → (Nat → Int32) → (Nat → Int32) → (Nat → Int32) → (Nat → Int32) → (Nat → Int32) → (Nat → Int32) → (Nat → Int32) → (Nat → Int32) → (Nat → Int32) → (Nat → Int32) → (Nat → Int32) → (Nat → Int32) → Prop} {x y v : Nat} (hx : x ≤ 8) (hy : y ≤ 8) (hv : v < 8)
    (HJ : J22 (nI (v + 1)) C D M (tr_grX ce C x y (8 * (v + 1))) cX cY cD cR cG cB cU cV ru) : ∀ (d u : Nat), u + d = 8 → wX_grab_31 post J22 (nI x) (nI y) (nI v) fl fr ft fb hc (d + 1) (nI u) C D M (tr_grX ce C x y (8 * v + u)) cX cY cD cR cG cB cU cV ru := by
  intro d
  induction d with
  | zero =>
    intro u hu
    obtain rfl : u = 8 := by omega
    exact br_t (nI_le (a := 8) (b := 8) (Nat.le_refl _) (by decide)) (nm_r (nI_1 v) HJ)
  | succ d ih =>
    intro u hu
    have c0 : ¬ (8 : Int32) ≤ nI u := nI_ge (b := 8) (by omega) (by decide)
    have e1 : (16 : Int32) * (nI y + nI v) + nI x + nI u = nI (16 * (y + v) + x + u) := by
      show nI 16 * (nI y + nI v) + nI x + nI u = _
      rw [nI_add, pk_mul, nI_add, nI_add]
    have e2 : (8 : Int32) * nI v + nI u = nI (8 * v + u) := by
      show nI 8 * nI v + nI u = _
      rw [pk_mul, nI_add]
    have w1 : vp_in ((16 : Int32) * (nI y + nI v) + nI x + nI u) 256 := by
      rw [e1]
      exact vp_in_nI (by omega) (by decide)
    have w2 : vp_in ((8 : Int32) * nI v + nI u) 64 := by
      rw [e2]
      exact vp_in_nI (by omega) (by decide)
    refine br_f c0 ⟨w1, w2, nm_r ?_ (nm_r (nI_1 u) (ih (u + 1) (by omega)))⟩
    rw [e1, e2, nI_clamp (by omega), nI_clamp (by omega)]
    exact tr_grX_s ce C x y u v (by omega)
theorem tx_22 {post : Int32 → SX → Prop} {x y : Nat} (hx : x ≤ 8) (hy : y ≤ 8) (H : post 0 (fl, fr, ft, fb, hc, C, D, M, (tr_grX ce C x y 64), cX, cY, cD, cR, cG, cB, cU, cV, ru)) :
    ∀ (d v : Nat), v + d = 8 → wX_grab_22 post (nI x) (nI y) fl fr ft fb hc (d + 1) (nI v) C D M (tr_grX ce C x y (8 * v)) cX cY cD cR cG cB cU cV ru := by
  intro d
  induction d with
  | zero =>
    intro v hv
    obtain rfl : v = 8 := by omega
    exact br_t (nI_le (a := 8) (b := 8) (Nat.le_refl _) (by decide)) H
  | succ d ih =>
    intro v hv
    have c0 : ¬ (8 : Int32) ≤ nI v := nI_ge (b := 8) (by omega) (by decide)
    exact br_f c0 ⟨9, tx_31 hx hy (by omega) (ih (v + 1) (by omega)) 8 0 rfl⟩
end
