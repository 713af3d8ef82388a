/-! Y: small methods -/
section
variable {post : Int32 → Prop} {hc bx o1 o2 o3 ar w1 w2 w3 : Int32} {C D M ce cX cY cD cC cU cV ru : Nat → Int32}
theorem ty_side {a b c d e f : Int32} (h : post (tr_side a b c d e f)) : wpY_side post (hc, bx, o1, o2, o3, ar, w1, w2, w3, C, D, M, ce, cX, cY, cD, cC, cU, cV, ru) a b c d e f := by
  unfold wpY_side
  exact h
theorem ty_sideOf {p q x y : Int32} (hp : vp_in p 6) (hq : vp_in q 6) (h : post (tr_w cX cY p q x y)) : wpY_sideOf post (hc, bx, o1, o2, o3, ar, w1, w2, w3, C, D, M, ce, cX, cY, cD, cC, cU, cV, ru) p q x y := by
  unfold wpY_sideOf
  exact ⟨hp, hp, hq, hq, ty_side h⟩
theorem ty_inside {p q w : Int32} (hp : vp_in p 6) (hq : vp_in q 6) (h : post (tr_in cX cY p q w)) : wpY_isInside post (hc, bx, o1, o2, o3, ar, w1, w2, w3, C, D, M, ce, cX, cY, cD, cC, cU, cV, ru) p q w := by
  unfold tr_in at h
  unfold wpY_isInside
  exact tr_i h (fun h => ⟨hq, hp, tr_i h (fun h => ⟨hq, hp, tr_i h id id⟩) (fun h => ⟨hq, hp, tr_i h id id⟩)⟩) (fun h => tr_i h id id)
theorem ty_win {x y : Int32} (h : post (tr_win (bx / 4096) (bx / 256 - bx / 256 / 16 * 16) (bx / 16 - bx / 16 / 16 * 16) (bx - bx / 16 * 16) x y)) : wpY_isInWindow post (hc, bx, o1, o2, o3, ar, w1, w2, w3, C, D, M, ce, cX, cY, cD, cC, cU, cV, ru) x y := by
  unfold tr_win at h
  unfold wpY_isInWindow
  exact ⟨tr_n4096, tr_i h id (fun h => ⟨tr_n256, tr_n16, tr_i h id (fun h => ⟨tr_n16, tr_n16, tr_i h id (fun h => ⟨tr_n16, tr_i h id id⟩)⟩)⟩)⟩
theorem ty_mean {a b c : Int32} (h0 : ¬ ar = 0) (h : post ((w1 * a + w2 * b + w3 * c) / ar)) : wpY_mean post (hc, bx, o1, o2, o3, ar, w1, w2, w3, C, D, M, ce, cX, cY, cD, cC, cU, cV, ru) a b c := by
  unfold wpY_mean wY_mean_15
  exact br_f h0 ⟨h0, h⟩
theorem ty_54 {i e : Int32} (hi : vp_in i 256) (h : post (tr_pd (ru 0) e (D i.toNatClampNeg))) : wY_passes_54 post i e hc bx o1 o2 o3 ar w1 w2 w3 C D M ce cX cY cD cC cU cV ru := by
  unfold tr_pd at h
  unfold wY_passes_54
  exact tr_i h (fun h => ⟨hi, tr_i h id id⟩) (fun h => tr_i h (fun h => ⟨hi, tr_i h id id⟩) (fun h => tr_i h id id))
theorem ty_passes {i e : Int32} (hi : vp_in i 256) (h : post (if tr_pm (ru 3) (ru 5) (M i.toNatClampNeg) = 0 then 0 else tr_pd (ru 0) e (D i.toNatClampNeg))) : wpY_passes post (hc, bx, o1, o2, o3, ar, w1, w2, w3, C, D, M, ce, cX, cY, cD, cC, cU, cV, ru) i e := by
  unfold wpY_passes
  by_cases c1 : ru 3 = 1
  · by_cases c2 : M i.toNatClampNeg = ru 5
    · have e1 : ¬ tr_pm (ru 3) (ru 5) (M i.toNatClampNeg) = 0 := by
        unfold tr_pm
        rw [if_pos c1, if_pos c2]
        exact tr_10
      rw [if_neg e1] at h
      have c3 : ¬ ru 3 = 2 := by rw [c1]; decide
      exact br_t c1 ⟨hi, br_t c2 (br_f c3 (ty_54 hi h))⟩
    · have e1 : tr_pm (ru 3) (ru 5) (M i.toNatClampNeg) = 0 := by
        unfold tr_pm
        rw [if_pos c1, if_neg c2]
      rw [if_pos e1] at h
      exact br_t c1 ⟨hi, br_f c2 h⟩
  · refine br_f c1 ?_
    unfold wY_passes_27
    by_cases c3 : ru 3 = 2
    · by_cases c2 : M i.toNatClampNeg = ru 5
      · have e1 : tr_pm (ru 3) (ru 5) (M i.toNatClampNeg) = 0 := by
          unfold tr_pm
          rw [if_neg c1, if_pos c3, if_pos c2]
        rw [if_pos e1] at h
        exact br_t c3 ⟨hi, br_t c2 h⟩
      · have e1 : ¬ tr_pm (ru 3) (ru 5) (M i.toNatClampNeg) = 0 := by
          unfold tr_pm
          rw [if_neg c1, if_pos c3, if_neg c2]
          exact tr_10
        rw [if_neg e1] at h
        exact br_t c3 ⟨hi, br_f c2 (ty_54 hi h)⟩
    · have e1 : ¬ tr_pm (ru 3) (ru 5) (M i.toNatClampNeg) = 0 := by
        unfold tr_pm
        rw [if_neg c1, if_neg c3]
        exact tr_10
      rw [if_neg e1] at h
      exact br_f c3 (ty_54 hi h)
theorem tr_mix_0 {k s t : Int32} (h : k = 0) : tr_mix k s t = s := by
  subst h
  rfl
theorem tr_q4 {k : Int32} (hk : ∃ q : Nat, q ≤ 4 ∧ k = nI q) (h0 : ¬ k = 0) (h1 : ¬ k = 1) (h2 : ¬ k = 2) (h3 : ¬ k = 3) : k = 4 := by
  obtain ⟨q, hq, rfl⟩ := hk
  match q, hq with
  | 0, _ => exact absurd rfl h0
  | 1, _ => exact absurd rfl h1
  | 2, _ => exact absurd rfl h2
  | 3, _ => exact absurd rfl h3
  | 4, _ => rfl
theorem ty_mix {s t : Int32} (hk : ∃ q : Nat, q ≤ 4 ∧ ru 2 = nI q) (h : post (tr_mix (ru 2) s t)) : wpY_mix post (hc, bx, o1, o2, o3, ar, w1, w2, w3, C, D, M, ce, cX, cY, cD, cC, cU, cV, ru) s t := by
  unfold wpY_mix
  refine ⟨fun c => ?_, fun c0 => ⟨fun c => ?_, fun c1 => ⟨fun c => ?_, fun c2 => ⟨fun c => ?_, fun c3 => ?_⟩⟩⟩⟩
  · exact tr_v (tr_mix_0 c) h
  · exact tr_i (tr_v (tr_mix_1 c) h) id id
  · exact ⟨tr_n2, tr_v (tr_mix_2 c) h⟩
  · exact ⟨tr_n255, tr_v (tr_mix_3 c) h⟩
  · exact tr_v (tr_mix_4 (tr_q4 hk c0 c1 c2 c3)) h
theorem ty_159 {i s v : Int32} (hi : vp_in i 256) (hk : ∃ q : Nat, q ≤ 4 ∧ ru 2 = nI q) (h : post (tr_mix (ru 2) v (tr_part (C i.toNatClampNeg) s))) : wY_part_159 post i s v hc bx o1 o2 o3 ar w1 w2 w3 C D M ce cX cY cD cC cU cV ru := by
  unfold wY_part_159
  exact ⟨hi, ty_mix hk h⟩
end
theorem ty_covers0 {post : Int32 → SY → Prop} {hc bx o1 o2 o3 ar w1 w2 w3 : Int32} {C D M ce cX cY cD cC cU cV ru : Nat → Int32} {x y : Int32} (h0 : ar = 0) (h : post 0 (hc, bx, o1, o2, o3, ar, w1, w2, w3, C, D, M, ce, cX, cY, cD, cC, cU, cV, ru)) : wpY_covers post (hc, bx, o1, o2, o3, ar, w1, w2, w3, C, D, M, ce, cX, cY, cD, cC, cU, cV, ru) x y := by
  unfold wpY_covers
  exact br_t h0 h
theorem ty_covers {post : Int32 → SY → Prop} {hc bx o1 o2 o3 ar w1 w2 w3 : Int32} {C D M ce cX cY cD cC cU cV ru : Nat → Int32} {x y : Int32} (h1 : vp_in o1 6) (h2 : vp_in o2 6) (h3 : vp_in o3 6) (h0 : ¬ ar = 0)
    (h : post (tr_cov cX cY o1 o2 o3 x y) (hc, bx, o1, o2, o3, ar, (tr_w cX cY o2 o3 x y), (tr_w cX cY o3 o1 x y), (tr_w cX cY o1 o2 x y), C, D, M, ce, cX, cY, cD, cC, cU, cV, ru)) : wpY_covers post (hc, bx, o1, o2, o3, ar, w1, w2, w3, C, D, M, ce, cX, cY, cD, cC, cU, cV, ru) x y := by
  unfold tr_cov at h
  unfold wpY_covers
  refine br_f h0 (ty_sideOf h2 h3 (ty_sideOf h3 h1 (ty_sideOf h1 h2 (ty_inside h2 h3 ?_))))
  refine tr_i (P := fun r => post r (hc, bx, o1, o2, o3, ar, (tr_w cX cY o2 o3 x y), (tr_w cX cY o3 o1 x y), (tr_w cX cY o1 o2 x y), C, D, M, ce, cX, cY, cD, cC, cU, cV, ru)) h id (fun h => ty_inside h3 h1 ?_)
  refine tr_i (P := fun r => post r (hc, bx, o1, o2, o3, ar, (tr_w cX cY o2 o3 x y), (tr_w cX cY o3 o1 x y), (tr_w cX cY o1 o2 x y), C, D, M, ce, cX, cY, cD, cC, cU, cV, ru)) h id (fun h => ty_inside h1 h2 ?_)
  exact tr_i (P := fun r => post r (hc, bx, o1, o2, o3, ar, (tr_w cX cY o2 o3 x y), (tr_w cX cY o3 o1 x y), (tr_w cX cY o1 o2 x y), C, D, M, ce, cX, cY, cD, cC, cU, cV, ru)) h id id
