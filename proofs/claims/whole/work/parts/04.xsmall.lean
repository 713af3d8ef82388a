/-! X: small methods -/
theorem tr_i {c A B : Prop} {h0 : Decidable c} {P : Int32 → Prop} {x y : Int32} (h : P (if c then x else y)) (hA : P x → A) (hB : P y → B) : (c → A) ∧ (¬ c → B) :=
  ⟨fun z => hA (by rw [if_pos z] at h; exact h), fun z => hB (by rw [if_neg z] at h; exact h)⟩
theorem tr_v {P : Int32 → Prop} {a b : Int32} (e : a = b) (h : P a) : P b := e ▸ h
theorem tr_10 : ¬ (1 : Int32) = 0 := by decide
theorem tr_n36 : ¬ (36 : Int32) = 0 := by decide
theorem tr_n6 : ¬ (6 : Int32) = 0 := by decide
theorem tr_n16 : ¬ (16 : Int32) = 0 := by decide
theorem tr_n2 : ¬ (2 : Int32) = 0 := by decide
theorem tr_n255 : ¬ (255 : Int32) = 0 := by decide
theorem tr_n256 : ¬ (256 : Int32) = 0 := by decide
theorem tr_n384 : ¬ (384 : Int32) = 0 := by decide
theorem tr_n4096 : ¬ (4096 : Int32) = 0 := by decide
def tr_bt (v g : Int32) : Prop := 0 ≤ v ∧ v ≤ g
theorem tr_bt_n {v g : Int32} {n : Nat} (h : tr_bt v g) (hg : g.toInt = (n : Int) := by decide) : ∃ j : Nat, j ≤ n ∧ v = nI j := tr_rng hg h
theorem tx_w {v g : Int32} {A K : Prop} (h1 : tr_bt v g → K) (h0 : ¬ tr_bt v g → A) : wpX_isWithin (fun r => (r = 0 → A) ∧ (¬ r = 0 → K)) v g := by
  unfold wpX_isWithin
  exact ⟨fun c => br_t rfl (h0 fun z => Int32.not_lt.mpr z.1 c), fun c => ⟨fun d => br_t rfl (h0 fun z => Int32.not_lt.mpr z.2 d), fun d => br_f tr_10 (h1 ⟨Int32.not_lt.mp c, Int32.not_lt.mp d⟩)⟩⟩
theorem tx_part {post : Int32 → Prop} {x s : Int32} (h : post (tr_part x s)) : wpX_part post x s := h
theorem tr_lo {k j : Int32} (c : k < 1) (h : ¬ j < 1) : ¬ k = j := fun e => h (e ▸ c)
theorem tr_hi {k j m : Int32} (c : m < k) (h : ¬ m < j) : ¬ k = j := fun e => h (e ▸ c)
section
variable {post : Int32 → Prop} {fl fr ft fb hc : Int32} {C D M ce cX cY cD cR cG cB cU cV ru : Nat → Int32}
theorem tx_side {p q x y : Int32} (hp : vp_in p 6) (hq : vp_in q 6) (h : post (tr_side (cX p.toNatClampNeg) (cY p.toNatClampNeg) (cX q.toNatClampNeg) (cY q.toNatClampNeg) x y)) : wpX_sideOf post (fl, fr, ft, fb, hc, C, D, M, ce, cX, cY, cD, cR, cG, cB, cU, cV, ru) p q x y := by
  unfold wpX_sideOf
  exact ⟨hp, nm_e ⟨hp, nm_e ⟨hq, hq, h⟩⟩⟩
theorem tx_weight {p q x y : Int32} (hp : vp_in p 6) (hq : vp_in q 6) (h : post (tr_w cX cY p q x y)) : wpX_weightAt post (fl, fr, ft, fb, hc, C, D, M, ce, cX, cY, cD, cR, cG, cB, cU, cV, ru) p q x y := by
  unfold wpX_weightAt
  exact tx_side hp hq h
theorem tx_area {a b c : Int32} (ha : vp_in a 6) (hb : vp_in b 6) (h3 : vp_in c 6) (h : post (tr_ar cX cY a b c)) : wpX_areaOf post (fl, fr, ft, fb, hc, C, D, M, ce, cX, cY, cD, cR, cG, cB, cU, cV, ru) a b c := by
  unfold wpX_areaOf
  exact ⟨h3, h3, tx_side ha hb h⟩
theorem tx_inside {p q w : Int32} (hp : vp_in p 6) (hq : vp_in q 6) (h : post (tr_in cX cY p q w)) : wpX_isInside post (fl, fr, ft, fb, hc, C, D, M, ce, cX, cY, cD, cR, cG, cB, cU, cV, ru) p q w := by
  unfold tr_in at h
  unfold wpX_isInside
  exact tr_i h (fun h => ⟨hq, hp, tr_i h (fun h => ⟨hq, hp, tr_i h id id⟩) (fun h => ⟨hq, hp, tr_i h id id⟩)⟩) (fun h => tr_i h id id)
theorem tx_covers {a b c x y : Int32} (ha : vp_in a 6) (hb : vp_in b 6) (h3 : vp_in c 6) (h : post (tr_cov cX cY a b c x y)) : wpX_covers post (fl, fr, ft, fb, hc, C, D, M, ce, cX, cY, cD, cR, cG, cB, cU, cV, ru) a b c x y := by
  unfold tr_cov at h
  unfold wpX_covers
  refine tx_weight hb h3 (tx_weight h3 ha (tx_weight ha hb (tx_inside hb h3 ?_)))
  exact tr_i h id (fun h => tx_inside h3 ha (tr_i h id (fun h => tx_inside ha hb (tr_i h id id))))
theorem tx_win {x y : Int32} (h : post (tr_win fl fr ft fb x y)) : wpX_isInWindow post (fl, fr, ft, fb, hc, C, D, M, ce, cX, cY, cD, cR, cG, cB, cU, cV, ru) x y := by
  unfold tr_win at h
  unfold wpX_isInWindow
  exact tr_i h id (fun h => tr_i h id (fun h => tr_i h id (fun h => tr_i h id id)))
theorem tx_pm {m : Int32} (h : post (tr_pm (ru 3) (ru 5) m)) : wpX_passesMarkTest post (fl, fr, ft, fb, hc, C, D, M, ce, cX, cY, cD, cR, cG, cB, cU, cV, ru) m := by
  unfold tr_pm at h
  unfold wpX_passesMarkTest
  exact nm_e (tr_i h (fun h => tr_i h id id) (fun h => tr_i h (fun h => tr_i h id id) id))
theorem tr_pd_o {k e d : Int32} (h1 : ¬ k = 1) (h2 : ¬ k = 2) (h3 : ¬ k = 3) : tr_pd k e d = 0 := by
  unfold tr_pd
  rw [if_neg h2, if_neg h3, if_neg h1]
theorem tr_pd_1 {k e d : Int32} (h1 : k = 1) : tr_pd k e d = 1 := by
  subst h1
  rfl
theorem tr_pd_2 {k e d : Int32} (h1 : k = 2) : tr_pd k e d = if d ≤ e then 0 else 1 := by
  subst h1
  rfl
theorem tr_pd_3 {k e d : Int32} (h1 : k = 3) : tr_pd k e d = if d < e then 0 else 1 := by
  subst h1
  rfl
theorem tx_pd {e d : Int32} (h : post (tr_pd (ru 0) e d)) : wpX_passesDepthTest post (fl, fr, ft, fb, hc, C, D, M, ce, cX, cY, cD, cR, cG, cB, cU, cV, ru) e d := by
  unfold wpX_passesDepthTest
  refine nm_e ⟨fun c => ?_, fun _ => ⟨fun c => ?_, fun _ => ⟨fun c => ?_, fun _ => ⟨fun c => ?_, fun _ => ⟨fun c => ?_, fun _ => trivial⟩⟩⟩⟩⟩
  · exact tr_v (tr_pd_o (tr_lo c (by decide)) (tr_lo c (by decide)) (tr_lo c (by decide))) h
  · exact tr_v (tr_pd_o (tr_hi c (by decide)) (tr_hi c (by decide)) (tr_hi c (by decide))) h
  · exact tr_v (tr_pd_1 c) h
  · exact tr_i (tr_v (tr_pd_2 c) h) id id
  · exact tr_i (tr_v (tr_pd_3 c) h) id id
theorem tr_chm_o {k r5 m : Int32} (h1 : ¬ k = 1) (h2 : ¬ k = 2) (h3 : ¬ k = 3) : tr_chm k r5 m = m := by
  unfold tr_chm
  rw [if_neg h1, if_neg h2, if_neg h3]
theorem tr_chm_1 {k r5 m : Int32} (h1 : k = 1) : tr_chm k r5 m = r5 := by
  subst h1
  rfl
theorem tr_chm_2 {k r5 m : Int32} (h1 : k = 2) : tr_chm k r5 m = if m = 15 then 0 else m + 1 := by
  subst h1
  rfl
theorem tr_chm_3 {k r5 m : Int32} (h1 : k = 3) : tr_chm k r5 m = m ^^^ r5 := by
  subst h1
  rfl
theorem tx_chm {m : Int32} (h : post (tr_chm (ru 4) (ru 5) m)) : wpX_changedMark post (fl, fr, ft, fb, hc, C, D, M, ce, cX, cY, cD, cR, cG, cB, cU, cV, ru) m := by
  unfold wpX_changedMark
  refine nm_e ⟨fun c => ?_, fun _ => ⟨fun c => ?_, fun _ => ⟨fun c => ?_, fun _ => ⟨fun c => ?_, fun _ => ⟨fun c => ?_, fun _ => trivial⟩⟩⟩⟩⟩
  · exact tr_v (tr_chm_o (tr_lo c (by decide)) (tr_lo c (by decide)) (tr_lo c (by decide))) h
  · exact tr_v (tr_chm_o (tr_hi c (by decide)) (tr_hi c (by decide)) (tr_hi c (by decide))) h
  · exact tr_v (tr_chm_1 c) h
  · exact tr_i (tr_v (tr_chm_2 c) h) id id
  · exact tr_v (tr_chm_3 c) h
theorem tr_mix_o {k s t : Int32} (h1 : ¬ k = 1) (h2 : ¬ k = 2) (h3 : ¬ k = 3) (h4 : ¬ k = 4) : tr_mix k s t = s := by
  unfold tr_mix
  rw [if_neg h1, if_neg h2, if_neg h3, if_neg h4]
theorem tr_mix_1 {k s t : Int32} (h1 : k = 1) : tr_mix k s t = if s + t ≤ 255 then s + t else 255 := by
  subst h1
  rfl
theorem tr_mix_2 {k s t : Int32} (h1 : k = 2) : tr_mix k s t = (s + t) / 2 := by
  subst h1
  rfl
theorem tr_mix_3 {k s t : Int32} (h1 : k = 3) : tr_mix k s t = s * t / 255 := by
  subst h1
  rfl
theorem tr_mix_4 {k s t : Int32} (h1 : k = 4) : tr_mix k s t = t := by
  subst h1
  rfl
theorem tx_mix {n ce1 old s : Int32} (h : post (tr_mix (ru 2) (n * tr_part ce1 s / 255) (tr_part old s))) : wpX_mixedPart post (fl, fr, ft, fb, hc, C, D, M, ce, cX, cY, cD, cR, cG, cB, cU, cV, ru) n ce1 old s := by
  unfold wpX_mixedPart
  refine tx_part (tx_part ⟨tr_n255, nm_e (nm_e ⟨fun c => ?_, fun _ => ⟨fun c => ?_, fun _ => ⟨fun c => ?_, fun _ => ⟨fun c => ?_, fun _ => ⟨fun c => ?_, fun _ => ⟨fun c => ?_, fun _ => trivial⟩⟩⟩⟩⟩⟩)⟩)
  · exact tr_v (tr_mix_o (tr_lo c (by decide)) (tr_lo c (by decide)) (tr_lo c (by decide)) (tr_lo c (by decide))) h
  · exact tr_v (tr_mix_o (tr_hi c (by decide)) (tr_hi c (by decide)) (tr_hi c (by decide)) (tr_hi c (by decide))) h
  · exact tr_i (tr_v (tr_mix_1 c) h) id id
  · exact ⟨tr_n2, tr_v (tr_mix_2 c) h⟩
  · exact ⟨tr_n255, tr_v (tr_mix_3 c) h⟩
  · exact tr_v (tr_mix_4 c) h
theorem tr_ne0 {x : Int32} (h : 0 < x) : ¬ x = 0 := fun e => by
  rw [e] at h
  exact absurd h (by decide)
theorem tx_numRed {a b c x y : Int32} (ha : vp_in a 6) (hb : vp_in b 6) (h3 : vp_in c 6) (hs : 0 < tr_ar cX cY a b c) (h : post (tr_num cX cY cR a b c x y)) : wpX_numberAt__cornerRed post (fl, fr, ft, fb, hc, C, D, M, ce, cX, cY, cD, cR, cG, cB, cU, cV, ru) a b c (tr_w cX cY b c x y) (tr_w cX cY c a x y) (tr_w cX cY a b x y) := by
  unfold wpX_numberAt__cornerRed
  exact nm_r (tr_wsum cX cY a b c x y) (br_t hs ⟨ha, hb, h3, tr_ne0 hs, h⟩)
theorem tx_numGreen {a b c x y : Int32} (ha : vp_in a 6) (hb : vp_in b 6) (h3 : vp_in c 6) (hs : 0 < tr_ar cX cY a b c) (h : post (tr_num cX cY cG a b c x y)) : wpX_numberAt__cornerGreen post (fl, fr, ft, fb, hc, C, D, M, ce, cX, cY, cD, cR, cG, cB, cU, cV, ru) a b c (tr_w cX cY b c x y) (tr_w cX cY c a x y) (tr_w cX cY a b x y) := by
  unfold wpX_numberAt__cornerGreen
  exact nm_r (tr_wsum cX cY a b c x y) (br_t hs ⟨ha, hb, h3, tr_ne0 hs, h⟩)
theorem tx_numBlue {a b c x y : Int32} (ha : vp_in a 6) (hb : vp_in b 6) (h3 : vp_in c 6) (hs : 0 < tr_ar cX cY a b c) (h : post (tr_num cX cY cB a b c x y)) : wpX_numberAt__cornerBlue post (fl, fr, ft, fb, hc, C, D, M, ce, cX, cY, cD, cR, cG, cB, cU, cV, ru) a b c (tr_w cX cY b c x y) (tr_w cX cY c a x y) (tr_w cX cY a b x y) := by
  unfold wpX_numberAt__cornerBlue
  exact nm_r (tr_wsum cX cY a b c x y) (br_t hs ⟨ha, hb, h3, tr_ne0 hs, h⟩)
theorem tx_numU {a b c x y : Int32} (ha : vp_in a 6) (hb : vp_in b 6) (h3 : vp_in c 6) (hs : 0 < tr_ar cX cY a b c) (h : post (tr_num cX cY cU a b c x y)) : wpX_numberAt__cornerU post (fl, fr, ft, fb, hc, C, D, M, ce, cX, cY, cD, cR, cG, cB, cU, cV, ru) a b c (tr_w cX cY b c x y) (tr_w cX cY c a x y) (tr_w cX cY a b x y) := by
  unfold wpX_numberAt__cornerU
  exact nm_r (tr_wsum cX cY a b c x y) (br_t hs ⟨ha, hb, h3, tr_ne0 hs, h⟩)
theorem tx_numV {a b c x y : Int32} (ha : vp_in a 6) (hb : vp_in b 6) (h3 : vp_in c 6) (hs : 0 < tr_ar cX cY a b c) (h : post (tr_num cX cY cV a b c x y)) : wpX_numberAt__cornerV post (fl, fr, ft, fb, hc, C, D, M, ce, cX, cY, cD, cR, cG, cB, cU, cV, ru) a b c (tr_w cX cY b c x y) (tr_w cX cY c a x y) (tr_w cX cY a b x y) := by
  unfold wpX_numberAt__cornerV
  exact nm_r (tr_wsum cX cY a b c x y) (br_t hs ⟨ha, hb, h3, tr_ne0 hs, h⟩)
theorem tx_numDepth {a b c x y : Int32} (ha : vp_in a 6) (hb : vp_in b 6) (h3 : vp_in c 6) (hs : 0 < tr_ar cX cY a b c) (h : post (tr_num cX cY cD a b c x y)) : wpX_numberAt__cornerDepth post (fl, fr, ft, fb, hc, C, D, M, ce, cX, cY, cD, cR, cG, cB, cU, cV, ru) a b c (tr_w cX cY b c x y) (tr_w cX cY c a x y) (tr_w cX cY a b x y) := by
  unfold wpX_numberAt__cornerDepth
  exact nm_r (tr_wsum cX cY a b c x y) (br_t hs ⟨ha, hb, h3, tr_ne0 hs, h⟩)
end
