/-! X: one pixel -/
section
variable {fl fr ft fb hc : Int32} {C D M ce cX cY cD cR cG cB cU cV ru : Nat → Int32} {cC : Nat → Int32} {a b c : Int32} {x y : Nat}
theorem tr_pos {k : Int32} (h : 0 < k) : 0 < k.toInt := by
  have z : (0 : Int32).toInt = 0 := by decide
  have := Int32.lt_iff_toInt_lt.mp h
  omega
theorem tx_115 {post : Int32 → Prop} {u v old ce1 : Int32} (he : ce1 = tr_cell cX cY cU cV ce ru a b c u v) (h : post (tr_col cX cY cC cU cV ce ru a b c u v old)) :
    wX_paintedColour_115 post old (tr_num cX cY (tr_pt cC 16) a b c u v) (tr_num cX cY (tr_pt cC 8) a b c u v) (tr_num cX cY (tr_pt cC 0) a b c u v) ce1 fl fr ft fb hc C D M ce cX cY cD (tr_pt cC 16) (tr_pt cC 8) (tr_pt cC 0) cU cV ru := by
  subst he
  unfold tr_col tr_one at h
  unfold wX_paintedColour_115
  exact tx_mix (tx_mix (tx_mix h))
theorem tx_paint {post : Int32 → Prop} {old : Int32} (hX : tr_bc cX) (hY : tr_bc cY) (hU : tr_b 127 cU) (hV : tr_b 127 cV) (ha : vp_in a 6) (hb : vp_in b 6) (h3 : vp_in c 6) (hx : x < 16) (hy : y < 16) (hs : 0 < tr_ar cX cY a b c) (hv : ¬ tr_cov cX cY a b c (nI x) (nI y) = 0)
    (h : post (tr_col cX cY cC cU cV ce ru a b c (nI x) (nI y) old)) :
    wpX_paintedColour post (fl, fr, ft, fb, hc, C, D, M, ce, cX, cY, cD, (tr_pt cC 16), (tr_pt cC 8), (tr_pt cC 0), cU, cV, ru) a b c (tr_w cX cY b c (nI x) (nI y)) (tr_w cX cY c a (nI x) (nI y)) (tr_w cX cY a b (nI x) (nI y)) old := by
  unfold wpX_paintedColour
  refine tx_numRed ha hb h3 hs (tx_numGreen ha hb h3 hs (tx_numBlue ha hb h3 hs ?_))
  by_cases c7 : ru 7 = 1
  · refine br_t c7 (tx_numU ha hb h3 hs (tx_numV ha hb h3 hs ?_))
    obtain ⟨g1, g2, g3⟩ := tr_uv (tr_num_b hX hY hx hy hv (tr_pos hs) (N := 127) (by decide) hU) (tr_num_b hX hY hx hy hv (tr_pos hs) (N := 127) (by decide) hV)
    unfold wpX_cellColourAt
    refine tx_w (fun _ => tx_w (fun _ => ⟨tr_n16, tr_n16, g1, tx_115 ?_ h⟩) (fun z => absurd g3 z)) (fun z => absurd g2 z)
    unfold tr_cell
    rw [if_pos c7]
  · refine br_f c7 (tx_115 ?_ h)
    unfold tr_cell
    rw [if_neg c7]
theorem tx_pixel {post : SX → Prop} (hX : tr_bc cX) (hY : tr_bc cY) (hU : tr_b 127 cU) (hV : tr_b 127 cV) (ha : vp_in a 6) (hb : vp_in b 6) (h3 : vp_in c 6) (hx : x < 16) (hy : y < 16) (hs : 0 < tr_ar cX cY a b c) (hv : ¬ tr_cov cX cY a b c (nI x) (nI y) = 0)
    (K : ∀ (C' D' M' : Nat → Int32) (h' : Int32), (C', D', M', h') = tr_px cX cY cD cC cU cV ce ru a b c (16 * y + x) (nI x) (nI y) (C, D, M, hc) → post (fl, fr, ft, fb, h', C', D', M', ce, cX, cY, cD, (tr_pt cC 16), (tr_pt cC 8), (tr_pt cC 0), cU, cV, ru)) :
    wpX_drawPixel post (fl, fr, ft, fb, hc, C, D, M, ce, cX, cY, cD, (tr_pt cC 16), (tr_pt cC 8), (tr_pt cC 0), cU, cV, ru) a b c (nI x) (nI y) := by
  have hi : vp_in (nI (16 * y + x)) 256 := vp_in_nI (by omega) (by decide)
  have ei : (nI (16 * y + x)).toNatClampNeg = 16 * y + x := nI_clamp (by omega)
  unfold wpX_drawPixel
  refine tx_weight hb h3 (tx_weight h3 ha (tx_weight ha hb (nm_r (tr_ix hx hy) (tx_numDepth ha hb h3 hs ⟨hi, tx_pm ?_⟩))))
  rw [ei]
  by_cases c1 : tr_pm (ru 3) (ru 5) (M (16 * y + x)) = 0
  · exact br_t c1 (K _ _ _ _ (tr_px_0 c1).symm)
  refine br_f c1 ⟨hi, tx_pd ?_⟩
  by_cases c2 : tr_pd (ru 0) (tr_num cX cY cD a b c (nI x) (nI y)) (D (16 * y + x)) = 0
  · exact br_t c2 (K _ _ _ _ (tr_px_1 c1 c2).symm)
  have Q : ∀ D', D' = (if ru 1 = 1 then upd D (16 * y + x) (tr_num cX cY cD a b c (nI x) (nI y)) else D) → wX_drawPixel_142 post a b c (tr_w cX cY b c (nI x) (nI y)) (tr_w cX cY c a (nI x) (nI y)) (tr_w cX cY a b (nI x) (nI y)) (nI (16 * y + x)) fl fr ft fb (hc + 1) C D' (upd M (16 * y + x) (tr_chm (ru 4) (ru 5) (M (16 * y + x)))) ce cX cY cD (tr_pt cC 16) (tr_pt cC 8) (tr_pt cC 0) cU cV ru := by
    intro D' hD
    unfold wX_drawPixel_142
    rw [ei]
    refine ⟨hi, tx_paint hX hY hU hV ha hb h3 hx hy hs hv ⟨hi, nm_e (K _ _ _ _ ?_)⟩⟩
    rw [hD]
    exact (tr_px_2 c1 c2).symm
  refine br_f c2 (nm_e ⟨hi, tx_chm ⟨hi, nm_e ?_⟩⟩)
  by_cases c3 : ru 1 = 1
  · exact br_t c3 ⟨hi, nm_e (Q _ (if_pos c3).symm)⟩
  · exact br_f c3 (Q _ (if_neg c3).symm)
end
