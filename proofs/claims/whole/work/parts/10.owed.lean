/-! the relation, and what is owed -/
def tr_inv (M cX cY cD cU cV ru : Nat → Int32) : Prop :=
  tr_b 15 M ∧ tr_bc cX ∧ tr_bc cY ∧ tr_b 255 cD ∧ tr_b 127 cU ∧ tr_b 127 cV ∧ (∃ q : Nat, q ≤ 4 ∧ ru 2 = nI q) ∧ (∃ q : Nat, q ≤ 15 ∧ ru 5 = nI q)
def i_Rel (_ : Nat) (u : SX) (v : SY) : Prop :=
  ∃ (bx hc : Int32) (C D M ce cX cY cD cC cU cV ru : Nat → Int32) (o1 o2 o3 ar w1 w2 w3 : Int32), u = (bx / 4096, bx / 256 - bx / 256 / 16 * 16, bx / 16 - bx / 16 / 16 * 16, bx - bx / 16 * 16, hc, C, D, M, ce, cX, cY, cD, tr_pt cC 16, tr_pt cC 8, tr_pt cC 0, cU, cV, ru) ∧ v = (hc, bx, o1, o2, o3, ar, w1, w2, w3, C, D, M, ce, cX, cY, cD, cC, cU, cV, ru) ∧ tr_inv M cX cY cD cU cV ru
theorem tr_mk {k : Nat} {hc bx o1 o2 o3 ar w1 w2 w3 : Int32} {C D M ce cX cY cD cC cU cV ru : Nat → Int32} (h : tr_inv M cX cY cD cU cV ru) : i_Rel k (bx / 4096, bx / 256 - bx / 256 / 16 * 16, bx / 16 - bx / 16 / 16 * 16, bx - bx / 16 * 16, hc, C, D, M, ce, cX, cY, cD, tr_pt cC 16, tr_pt cC 8, tr_pt cC 0, cU, cV, ru) (hc, bx, o1, o2, o3, ar, w1, w2, w3, C, D, M, ce, cX, cY, cD, cC, cU, cV, ru) :=
  ⟨bx, hc, C, D, M, ce, cX, cY, cD, cC, cU, cV, ru, o1, o2, o3, ar, w1, w2, w3, rfl, rfl, h⟩
theorem tr_mk2 {k : Nat} {hc bx o1 o2 o3 ar w1 w2 w3 : Int32} {C D M ce cX cY cD cC cU cV ru : Nat → Int32} {fl fr ft fb : Int32} {cR cG cB : Nat → Int32} (e1 : fl = bx / 4096) (e2 : fr = bx / 256 - bx / 256 / 16 * 16) (e3 : ft = bx / 16 - bx / 16 / 16 * 16) (e4 : fb = bx - bx / 16 * 16) (e5 : cR = tr_pt cC 16) (e6 : cG = tr_pt cC 8) (e7 : cB = tr_pt cC 0) (h : tr_inv M cX cY cD cU cV ru) : i_Rel k (fl, fr, ft, fb, hc, C, D, M, ce, cX, cY, cD, cR, cG, cB, cU, cV, ru) (hc, bx, o1, o2, o3, ar, w1, w2, w3, C, D, M, ce, cX, cY, cD, cC, cU, cV, ru) := by
  subst e1 e2 e3 e4 e5 e6 e7
  exact tr_mk h
theorem i_up {k : Nat} {u : SX} {v : SY} (h : i_Rel k u v) : i_Rel (k + 5) u v := h
theorem tr_pt0 {s : Int32} (h : tr_part 0 s = 0) : (fun _ => 0) = tr_pt (fun _ => 0) s := by
  funext j
  exact h.symm
theorem tr_inv0 : tr_inv (fun _ => 0) (fun _ => 0) (fun _ => 0) (fun _ => 0) (fun _ => 0) (fun _ => 0) (tr_ru0 (fun _ => 0) 8) :=
  ⟨tr_b_0 15, tr_bc_0, tr_bc_0, tr_b_0 255, tr_b_0 127, tr_b_0 127, ⟨0, by decide, rfl⟩, ⟨0, by decide, rfl⟩⟩
theorem i_vc0 : wpX_init (fun u => wpY_init (fun v => i_Rel 0 u v)) := by
  unfold wpX_init
  refine tx_fill (tx_settings ?_)
  rw [tr_fill_k, tr_fill_k, tr_fill_k]
  unfold wpY_init
  have K : i_Rel 0 (0, 15, 0, 15, 0, (fun _ => 0), tr_fill (fun _ => 0) 255 256, (fun _ => 0), (fun _ => 0), (fun _ => 0), (fun _ => 0), (fun _ => 0), (fun _ => 0), (fun _ => 0), (fun _ => 0), (fun _ => 0), (fun _ => 0), tr_ru0 (fun _ => 0) 8) (0, 3855, 0, 0, 0, 0, 0, 0, 0, (fun _ => 0), tr_fill (fun _ => 0) 255 256, (fun _ => 0), (fun _ => 0), (fun _ => 0), (fun _ => 0), (fun _ => 0), (fun _ => 0), (fun _ => 0), (fun _ => 0), tr_ru0 (fun _ => 0) 8) :=
    tr_mk2 (by decide) (by decide) (by decide) (by decide) (tr_pt0 tr_part_0.1) (tr_pt0 tr_part_0.2.1) (tr_pt0 tr_part_0.2.2) tr_inv0
  have Q := ty_97 (ty_rules (bx := 0) K) 256 0 rfl
  rw [tr_fill_0] at Q
  exact ⟨257, Q⟩
theorem i_vc_corner {k : Nat} {u : SX} {v : SY} (I : i_Rel k u v) (hk : k + 5 ≤ 2560) (v1 : Int32) (v2 : Int32) (v3 : Int32) (v4 : Int32) : wpX_corner (fun r u' => wpY_corner (fun r' v' => r' = r ∧ i_Rel (k + 5) u' v') v v1 v2 v3 v4) u v1 v2 v3 v4 := by
  obtain ⟨bx, hc, C, D, M, ce, cX, cY, cD, cC, cU, cV, ru, o1, o2, o3, ar, w1, w2, w3, rfl, rfl, h⟩ := I
  have J := h
  obtain ⟨hM, hX, hY, hD, hU, hV, hk4, h5⟩ := h
  have Bad : ¬ (tr_bt v1 5 ∧ tr_bt v2 147455 ∧ tr_bt v3 255 ∧ tr_bt v4 16777215) → wpY_corner (fun r' v' => r' = -1 ∧ i_Rel (k + 5) (bx / 4096, bx / 256 - bx / 256 / 16 * 16, bx / 16 - bx / 16 / 16 * 16, bx - bx / 16 * 16, hc, C, D, M, ce, cX, cY, cD, tr_pt cC 16, tr_pt cC 8, tr_pt cC 0, cU, cV, ru) v') (hc, bx, o1, o2, o3, ar, w1, w2, w3, C, D, M, ce, cX, cY, cD, cC, cU, cV, ru) v1 v2 v3 v4 := by
    intro z
    unfold wpY_corner
    exact ty_badCorner (fun a => ty_lt (fun b => ty_badByte (fun c => ty_badColour (fun d => (z ⟨a, b, c, d⟩).elim) (fun _ => ⟨rfl, tr_mk J⟩)) (fun _ => ⟨rfl, tr_mk J⟩)) (fun _ => ⟨rfl, tr_mk J⟩)) (fun _ => ⟨rfl, tr_mk J⟩)
  unfold wpX_corner
  refine tx_w (fun a => tx_w (fun b => tx_w (fun c => tx_w (fun d => ?_) (fun z => Bad fun y => z y.2.2.2)) (fun z => Bad fun y => z y.2.2.1)) (fun z => Bad fun y => z y.2.1)) (fun z => Bad fun y => z y.1)
  have a' := a
  have b' := b
  obtain ⟨n1, l1, rfl⟩ := tr_bt_n a' (n := 5)
  obtain ⟨n2, l2, rfl⟩ := tr_bt_n b' (n := 147455)
  have hin : vp_in (nI n1) 6 := tr_i6 (by omega)
  have q1 : tr_co (nI n2 - nI n2 / 384 * 384 - 64) := by
    rw [tr_px384 l2]
    exact tr_co_of (by omega)
  have q2 : tr_co (nI n2 / 384 - 64) := by
    rw [tr_py384 l2]
    exact tr_co_of (by omega)
  refine ⟨tr_n384, hin, nm_r (congrArg (upd cX (nI n1).toNatClampNeg) (tr_sub64 _)) ⟨tr_n384, hin, nm_r (congrArg (upd cY (nI n1).toNatClampNeg) (tr_sub64 _)) ⟨hin, nm_e (tx_part ⟨hin, nm_r (tr_pt_upd cC 16 _ v4) (tx_part ⟨hin, nm_r (tr_pt_upd cC 8 _ v4) (tx_part ⟨hin, nm_r (tr_pt_upd cC 0 _ v4) ?_⟩)⟩)⟩)⟩⟩⟩
  unfold wpY_corner
  exact ty_badCorner (fun _ => ty_lt (fun _ => ty_badByte (fun _ => ty_badColour (fun _ => ⟨tr_n384, hin, nm_e ⟨tr_n384, hin, nm_e ⟨hin, nm_e ⟨hin, nm_e ⟨rfl, tr_mk ⟨hM, tr_bc_upd hX q1, tr_bc_upd hY q2, tr_b_upd hD (tr_bt_n c (n := 255)), hU, hV, hk4, h5⟩⟩⟩⟩⟩⟩) (fun z => (z d).elim)) (fun z => (z c).elim)) (fun z => (z b).elim)) (fun z => (z a).elim)
theorem i_vc_aim {k : Nat} {u : SX} {v : SY} (I : i_Rel k u v) (hk : k + 5 ≤ 2560) (v1 : Int32) (v2 : Int32) (v3 : Int32) : wpX_aim (fun r u' => wpY_aim (fun r' v' => r' = r ∧ i_Rel (k + 5) u' v') v v1 v2 v3) u v1 v2 v3 := by
  obtain ⟨bx, hc, C, D, M, ce, cX, cY, cD, cC, cU, cV, ru, o1, o2, o3, ar, w1, w2, w3, rfl, rfl, h⟩ := I
  have J := h
  obtain ⟨hM, hX, hY, hD, hU, hV, hk4, h5⟩ := h
  have Bad : ¬ (tr_bt v1 5 ∧ tr_bt v2 127 ∧ tr_bt v3 127) → wpY_aim (fun r' v' => r' = -1 ∧ i_Rel (k + 5) (bx / 4096, bx / 256 - bx / 256 / 16 * 16, bx / 16 - bx / 16 / 16 * 16, bx - bx / 16 * 16, hc, C, D, M, ce, cX, cY, cD, tr_pt cC 16, tr_pt cC 8, tr_pt cC 0, cU, cV, ru) v') (hc, bx, o1, o2, o3, ar, w1, w2, w3, C, D, M, ce, cX, cY, cD, cC, cU, cV, ru) v1 v2 v3 := by
    intro z
    unfold wpY_aim
    exact ty_badCorner (fun a => ty_lt (fun b => ty_le (fun c => (z ⟨a, b, c⟩).elim) (fun _ => ⟨rfl, tr_mk J⟩)) (fun _ => ⟨rfl, tr_mk J⟩)) (fun _ => ⟨rfl, tr_mk J⟩)
  unfold wpX_aim
  refine tx_w (fun a => tx_w (fun b => tx_w (fun c => ?_) (fun z => Bad fun y => z y.2.2)) (fun z => Bad fun y => z y.2.1)) (fun z => Bad fun y => z y.1)
  have hin : vp_in v1 6 := by
    obtain ⟨n1, l1, rfl⟩ := tr_bt_n a (n := 5)
    exact tr_i6 (by omega)
  refine ⟨hin, nm_e ⟨hin, nm_e ?_⟩⟩
  unfold wpY_aim
  exact ty_badCorner (fun _ => ty_lt (fun _ => ty_le (fun _ => ⟨hin, nm_e ⟨hin, nm_e ⟨rfl, tr_mk ⟨hM, hX, hY, hD, tr_b_upd hU (tr_bt_n b (n := 127)), tr_b_upd hV (tr_bt_n c (n := 127)), hk4, h5⟩⟩⟩⟩) (fun z => (z c).elim)) (fun z => (z b).elim)) (fun z => (z a).elim)
theorem i_vc_cell {k : Nat} {u : SX} {v : SY} (I : i_Rel k u v) (hk : k + 5 ≤ 2560) (v1 : Int32) (v2 : Int32) (v3 : Int32) : wpX_cell (fun r u' => wpY_cell (fun r' v' => r' = r ∧ i_Rel (k + 5) u' v') v v1 v2 v3) u v1 v2 v3 := by
  obtain ⟨bx, hc, C, D, M, ce, cX, cY, cD, cC, cU, cV, ru, o1, o2, o3, ar, w1, w2, w3, rfl, rfl, h⟩ := I
  have J := h
  obtain ⟨hM, hX, hY, hD, hU, hV, hk4, h5⟩ := h
  have Bad : ¬ (tr_bt v1 7 ∧ tr_bt v2 7 ∧ tr_bt v3 16777215) → wpY_cell (fun r' v' => r' = -1 ∧ i_Rel (k + 5) (bx / 4096, bx / 256 - bx / 256 / 16 * 16, bx / 16 - bx / 16 / 16 * 16, bx - bx / 16 * 16, hc, C, D, M, ce, cX, cY, cD, tr_pt cC 16, tr_pt cC 8, tr_pt cC 0, cU, cV, ru) v') (hc, bx, o1, o2, o3, ar, w1, w2, w3, C, D, M, ce, cX, cY, cD, cC, cU, cV, ru) v1 v2 v3 := by
    intro z
    unfold wpY_cell
    exact ty_lt (fun a => ty_lt (fun b => ty_badColour (fun c => (z ⟨a, b, c⟩).elim) (fun _ => ⟨rfl, tr_mk J⟩)) (fun _ => ⟨rfl, tr_mk J⟩)) (fun _ => ⟨rfl, tr_mk J⟩)
  unfold wpX_cell
  refine tx_w (fun a => tx_w (fun b => tx_w (fun c => ?_) (fun z => Bad fun y => z y.2.2)) (fun z => Bad fun y => z y.2.1)) (fun z => Bad fun y => z y.1)
  have hin : vp_in (8 * v2 + v1) 64 := by
    obtain ⟨n1, l1, rfl⟩ := tr_bt_n a (n := 7)
    obtain ⟨n2, l2, rfl⟩ := tr_bt_n b (n := 7)
    have e : (8 : Int32) * nI n2 + nI n1 = nI (8 * n2 + n1) := by
      show nI 8 * nI n2 + nI n1 = _
      rw [pk_mul, nI_add]
    rw [e]
    exact vp_in_nI (by omega) (by decide)
  refine nm_e ⟨hin, nm_e ⟨hin, nm_e ?_⟩⟩
  unfold wpY_cell
  exact ty_lt (fun _ => ty_lt (fun _ => ty_badColour (fun _ => ⟨hin, nm_e ⟨hin, nm_e ⟨rfl, tr_mk J⟩⟩⟩) (fun z => (z c).elim)) (fun z => (z b).elim)) (fun z => (z a).elim)
theorem i_vc_grab {k : Nat} {u : SX} {v : SY} (I : i_Rel k u v) (hk : k + 5 ≤ 2560) (v1 : Int32) (v2 : Int32) : wpX_grab (fun r u' => wpY_grab (fun r' v' => r' = r ∧ i_Rel (k + 5) u' v') v v1 v2) u v1 v2 := by
  obtain ⟨bx, hc, C, D, M, ce, cX, cY, cD, cC, cU, cV, ru, o1, o2, o3, ar, w1, w2, w3, rfl, rfl, h⟩ := I
  have J := h
  obtain ⟨hM, hX, hY, hD, hU, hV, hk4, h5⟩ := h
  have Bad : ¬ (tr_bt v1 8 ∧ tr_bt v2 8) → wpY_grab (fun r' v' => r' = -1 ∧ i_Rel (k + 5) (bx / 4096, bx / 256 - bx / 256 / 16 * 16, bx / 16 - bx / 16 / 16 * 16, bx - bx / 16 * 16, hc, C, D, M, ce, cX, cY, cD, tr_pt cC 16, tr_pt cC 8, tr_pt cC 0, cU, cV, ru) v') (hc, bx, o1, o2, o3, ar, w1, w2, w3, C, D, M, ce, cX, cY, cD, cC, cU, cV, ru) v1 v2 := by
    intro z
    unfold wpY_grab
    exact ty_lt (fun a => ty_le (fun b => (z ⟨a, b⟩).elim) (fun _ => ⟨rfl, tr_mk J⟩)) (fun _ => ⟨rfl, tr_mk J⟩)
  unfold wpX_grab
  refine tx_w (fun a => tx_w (fun b => ?_) (fun z => Bad fun y => z y.2)) (fun z => Bad fun y => z y.1)
  have a' := a
  have b' := b
  obtain ⟨n1, l1, rfl⟩ := tr_bt_n a' (n := 8)
  obtain ⟨n2, l2, rfl⟩ := tr_bt_n b' (n := 8)
  have HY : wpY_grab (fun r' v' => r' = 0 ∧ i_Rel (k + 5) (bx / 4096, bx / 256 - bx / 256 / 16 * 16, bx / 16 - bx / 16 / 16 * 16, bx - bx / 16 * 16, hc, C, D, M, (tr_grX ce C n1 n2 64), cX, cY, cD, tr_pt cC 16, tr_pt cC 8, tr_pt cC 0, cU, cV, ru) v') (hc, bx, o1, o2, o3, ar, w1, w2, w3, C, D, M, ce, cX, cY, cD, cC, cU, cV, ru) (nI n1) (nI n2) := by
    unfold wpY_grab
    refine ty_lt (fun _ => ty_le (fun _ => ?_) (fun z => (z b).elim)) (fun z => (z a).elim)
    have K := ty_24 (post := fun r' v' => r' = 0 ∧ i_Rel (k + 5) (bx / 4096, bx / 256 - bx / 256 / 16 * 16, bx / 16 - bx / 16 / 16 * 16, bx - bx / 16 * 16, hc, C, D, M, (tr_grX ce C n1 n2 64), cX, cY, cD, tr_pt cC 16, tr_pt cC 8, tr_pt cC 0, cU, cV, ru) v') (hc := hc) (bx := bx) (o1 := o1) (o2 := o2) (o3 := o3) (ar := ar) (w1 := w1) (w2 := w2) (w3 := w3) (C := C) (D := D) (M := M) (ce := ce) (cX := cX) (cY := cY) (cD := cD) (cC := cC) (cU := cU) (cV := cV) (ru := ru) l1 l2 ⟨rfl, by rw [tr_grXY]; exact tr_mk J⟩ 8 0 rfl
    rw [tr_grY_0] at K
    exact ⟨9, K⟩
  have K := tx_22 (post := fun r u' => wpY_grab (fun r' v' => r' = r ∧ i_Rel (k + 5) u' v') (hc, bx, o1, o2, o3, ar, w1, w2, w3, C, D, M, ce, cX, cY, cD, cC, cU, cV, ru) (nI n1) (nI n2))  l1 l2 HY 8 0 rfl
  rw [Nat.mul_zero, tr_grX_0] at K
  exact ⟨9, K⟩
theorem i_vc_window {k : Nat} {u : SX} {v : SY} (I : i_Rel k u v) (hk : k + 5 ≤ 2560) (v1 : Int32) : wpX_window (fun r u' => wpY_window (fun r' v' => r' = r ∧ i_Rel (k + 5) u' v') v v1) u v1 := by
  obtain ⟨bx, hc, C, D, M, ce, cX, cY, cD, cC, cU, cV, ru, o1, o2, o3, ar, w1, w2, w3, rfl, rfl, h⟩ := I
  have J := h
  obtain ⟨hM, hX, hY, hD, hU, hV, hk4, h5⟩ := h
  unfold wpX_window
  refine tx_w (fun a => ⟨tr_n4096, nm_e ⟨tr_n256, tr_n16, nm_e ⟨tr_n16, tr_n16, nm_e ⟨tr_n16, nm_e ?_⟩⟩⟩⟩) (fun a => ?_)
  · unfold wpY_window
    exact ty_le (fun _ => ⟨rfl, tr_mk J⟩) (fun z => (z a).elim)
  · unfold wpY_window
    exact ty_le (fun z => (a z).elim) (fun _ => ⟨rfl, tr_mk J⟩)
theorem i_vc_rule {k : Nat} {u : SX} {v : SY} (I : i_Rel k u v) (hk : k + 5 ≤ 2560) (v1 : Int32) (v2 : Int32) : wpX_rule (fun r u' => wpY_rule (fun r' v' => r' = r ∧ i_Rel (k + 5) u' v') v v1 v2) u v1 v2 := by
  obtain ⟨bx, hc, C, D, M, ce, cX, cY, cD, cC, cU, cV, ru, o1, o2, o3, ar, w1, w2, w3, rfl, rfl, h⟩ := I
  have J := h
  obtain ⟨hM, hX, hY, hD, hU, hV, hk4, h5⟩ := h
  have Bad : ¬ (tr_bt v1 7 ∧ tr_bt v2 (tr_gv v1)) → wpY_rule (fun r' v' => r' = -1 ∧ i_Rel (k + 5) (bx / 4096, bx / 256 - bx / 256 / 16 * 16, bx / 16 - bx / 16 / 16 * 16, bx - bx / 16 * 16, hc, C, D, M, ce, cX, cY, cD, tr_pt cC 16, tr_pt cC 8, tr_pt cC 0, cU, cV, ru) v') (hc, bx, o1, o2, o3, ar, w1, w2, w3, C, D, M, ce, cX, cY, cD, cC, cU, cV, ru) v1 v2 := by
    intro z
    unfold wpY_rule
    exact ty_lt (fun a => ⟨fun _ => ⟨rfl, tr_mk J⟩, fun c => ty_most ⟨fun d => (z ⟨a, Int32.not_lt.mp c, d⟩).elim, fun _ => ⟨rfl, tr_mk J⟩⟩⟩) (fun _ => ⟨rfl, tr_mk J⟩)
  unfold wpX_rule
  refine tx_w (fun a => tx_gv (Int32.not_lt.mpr a.1) (tx_w (fun b => ?_) (fun z => Bad fun y => z y.2))) (fun z => Bad fun y => z y.1)
  have a' := a
  obtain ⟨n1, l1, rfl⟩ := tr_bt_n a' (n := 7)
  have hin : vp_in (nI n1) 8 := vp_in_nI (by omega) (by decide)
  have e1 : (nI n1).toNatClampNeg = n1 := nI_clamp (by omega)
  have q2 : ∃ q : Nat, q ≤ 4 ∧ upd ru (nI n1).toNatClampNeg v2 2 = nI q := by
    rw [e1]
    by_cases z : 2 = n1
    · subst z
      rw [pk_us]
      exact tr_bt_n b (n := 4)
    · rw [pk_un z]
      exact hk4
  have q5 : ∃ q : Nat, q ≤ 15 ∧ upd ru (nI n1).toNatClampNeg v2 5 = nI q := by
    rw [e1]
    by_cases z : 5 = n1
    · subst z
      rw [pk_us]
      exact tr_bt_n b (n := 15)
    · rw [pk_un z]
      exact h5
  refine ⟨hin, nm_e ⟨hin, nm_e ?_⟩⟩
  unfold wpY_rule
  exact ty_lt (fun _ => br_f (Int32.not_lt.mpr b.1) (ty_most (br_t b.2 ⟨hin, nm_e ⟨hin, nm_e ⟨rfl, tr_mk ⟨hM, hX, hY, hD, hU, hV, q2, q5⟩⟩⟩⟩))) (fun z => (z a).elim)
theorem i_vc_draw {k : Nat} {u : SX} {v : SY} (I : i_Rel k u v) (hk : k + 5 ≤ 2560) (v1 : Int32) : wpX_draw (fun r u' => wpY_draw (fun r' v' => r' = r ∧ i_Rel (k + 5) u' v') v v1) u v1 := by
  obtain ⟨bx, hc, C, D, M, ce, cX, cY, cD, cC, cU, cV, ru, o1, o2, o3, ar, w1, w2, w3, rfl, rfl, h⟩ := I
  have J := h
  obtain ⟨hM, hX, hY, hD, hU, hV, hk4, h5⟩ := h
  by_cases V : tr_bt v1 215
  · obtain ⟨n, ln, rfl⟩ := tr_bt_n V (n := 215)
    have hn : n < 216 := by omega
    have hr : ∀ (p q r : Int32) (C' D' M' : Nat → Int32) (h' : Int32), (C', D', M', h') = tr_run cX cY cD cC cU cV ce ru (bx / 4096) (bx / 256 - bx / 256 / 16 * 16) (bx / 16 - bx / 16 / 16 * 16) (bx - bx / 16 * 16) p q r (C, D, M, hc) 256 → tr_b 15 M' := by
      intro p q r C' D' M' h' e
      have z := tr_run_m cX cY cD cC cU cV ce ru (bx / 4096) (bx / 256 - bx / 256 / 16 * 16) (bx / 16 - bx / 16 / 16 * 16) (bx - bx / 16 * 16) p q r h5 (C, D, M, hc) hM 256
      rw [← e] at z
      exact z
    refine tx_draw hX hY hU hV hn (fun c => ?_) (fun c C' D' M' h' e => ?_) (fun c d => ?_) (fun c d C' D' M' h' e => ?_)
    · refine ty_draw hX hY hU hV hk4 h5 hM hn (fun _ _ _ _ _ _ _ _ => ⟨rfl, tr_mk J⟩) (fun c2 => ?_) (fun c2 => ?_) (fun c2 => ?_)
      · rw [c] at c2
        exact absurd c2 (by decide)
      · rw [c] at c2
        exact absurd (by decide) c2
      · rw [c] at c2
        exact absurd (by decide) c2
    · refine ty_draw hX hY hU hV hk4 h5 hM hn (fun c2 => ?_) (fun _ _ _ _ _ _ _ _ C2 D2 M2 h2 e2 => ?_) (fun c2 => ?_) (fun c2 => ?_)
      · rw [c2] at c
        exact absurd c (by decide)
      · cases e.trans e2.symm
        exact ⟨rfl, tr_mk ⟨hr _ _ _ _ _ _ _ e, hX, hY, hD, hU, hV, hk4, h5⟩⟩
      · exact absurd (Int32.le_of_lt c) c2
      · exact absurd (Int32.le_of_lt c) c2
    · refine ty_draw hX hY hU hV hk4 h5 hM hn (fun c2 => ?_) (fun c2 => ?_) (fun _ _ _ _ _ _ _ _ _ => ⟨rfl, tr_mk J⟩) (fun _ d2 => absurd d d2)
      · rw [c2] at c
        exact absurd (by decide) c
      · exact absurd (Int32.le_of_lt c2) c
    · refine ty_draw hX hY hU hV hk4 h5 hM hn (fun c2 => ?_) (fun c2 => ?_) (fun _ d2 => absurd d2 d) (fun _ _ _ _ _ _ _ _ _ C2 D2 M2 h2 e2 => ?_)
      · rw [c2] at c
        exact absurd (by decide) c
      · exact absurd (Int32.le_of_lt c2) c
      · cases e.trans e2.symm
        exact ⟨rfl, tr_mk ⟨hr _ _ _ _ _ _ _ e, hX, hY, hD, hU, hV, hk4, h5⟩⟩
  · unfold wpX_draw
    refine tx_w (fun z => (V z).elim) (fun _ => ?_)
    unfold wpY_draw
    exact ty_le (fun z => (V z).elim) (fun _ => ⟨rfl, tr_mk J⟩)
theorem i_vc_clear {k : Nat} {u : SX} {v : SY} (I : i_Rel k u v) (hk : k + 5 ≤ 2560) (v1 : Int32) (v2 : Int32) (v3 : Int32) : wpX_clear (fun r u' => wpY_clear (fun r' v' => r' = r ∧ i_Rel (k + 5) u' v') v v1 v2 v3) u v1 v2 v3 := by
  obtain ⟨bx, hc, C, D, M, ce, cX, cY, cD, cC, cU, cV, ru, o1, o2, o3, ar, w1, w2, w3, rfl, rfl, h⟩ := I
  have J := h
  obtain ⟨hM, hX, hY, hD, hU, hV, hk4, h5⟩ := h
  have Bad : ¬ (tr_bt v1 16777215 ∧ tr_bt v2 255 ∧ tr_bt v3 15) → wpY_clear (fun r' v' => r' = -1 ∧ i_Rel (k + 5) (bx / 4096, bx / 256 - bx / 256 / 16 * 16, bx / 16 - bx / 16 / 16 * 16, bx - bx / 16 * 16, hc, C, D, M, ce, cX, cY, cD, tr_pt cC 16, tr_pt cC 8, tr_pt cC 0, cU, cV, ru) v') (hc, bx, o1, o2, o3, ar, w1, w2, w3, C, D, M, ce, cX, cY, cD, cC, cU, cV, ru) v1 v2 v3 := by
    intro z
    unfold wpY_clear
    exact ty_badColour (fun a => ty_badByte (fun b => ty_le (fun c => (z ⟨a, b, c⟩).elim) (fun _ => ⟨rfl, tr_mk J⟩)) (fun _ => ⟨rfl, tr_mk J⟩)) (fun _ => ⟨rfl, tr_mk J⟩)
  unfold wpX_clear
  refine tx_w (fun a => tx_w (fun b => tx_w (fun c => tx_fill ?_) (fun z => Bad fun y => z y.2.2)) (fun z => Bad fun y => z y.2.1)) (fun z => Bad fun y => z y.1)
  unfold wpY_clear
  refine ty_badColour (fun _ => ty_badByte (fun _ => ty_le (fun _ => ?_) (fun z => (z c).elim)) (fun z => (z b).elim)) (fun z => (z a).elim)
  have K := ty_31 (post := fun r' v' => r' = 0 ∧ i_Rel (k + 5) (bx / 4096, bx / 256 - bx / 256 / 16 * 16, bx / 16 - bx / 16 / 16 * 16, bx - bx / 16 * 16, hc, (tr_fill C v1 256), (tr_fill D v2 256), (tr_fill M v3 256), ce, cX, cY, cD, tr_pt cC 16, tr_pt cC 8, tr_pt cC 0, cU, cV, ru) v') (x1 := v1) (x2 := v2) (x3 := v3) (hc := hc) (bx := bx) (o1 := o1) (o2 := o2) (o3 := o3) (ar := ar) (w1 := w1) (w2 := w2) (w3 := w3) (C := C) (D := D) (M := M) (ce := ce) (cX := cX) (cY := cY) (cD := cD) (cC := cC) (cU := cU) (cV := cV) (ru := ru) ⟨rfl, tr_mk ⟨tr_b_fill hM (tr_bt_n c (n := 15)), hX, hY, hD, hU, hV, hk4, h5⟩⟩ 256 0 rfl
  rw [tr_fill_0, tr_fill_0, tr_fill_0] at K
  exact ⟨257, K⟩
theorem i_vc_reset {k : Nat} {u : SX} {v : SY} (I : i_Rel k u v) (hk : k + 5 ≤ 2560) : wpX_reset (fun u' => wpY_reset (fun v' => i_Rel (k + 5) u' v') v) u := by
  obtain ⟨bx, hc, C, D, M, ce, cX, cY, cD, cC, cU, cV, ru, o1, o2, o3, ar, w1, w2, w3, rfl, rfl, h⟩ := I
  have J := h
  obtain ⟨hM, hX, hY, hD, hU, hV, hk4, h5⟩ := h
  unfold wpX_reset
  refine tx_settings ?_
  unfold wpY_reset
  refine ty_rules ?_
  have K := ty_6 (post := fun v' => i_Rel (k + 5) (0, 15, 0, 15, hc, C, D, M, (tr_fill ce 0 64), (tr_fill cX 0 6), (tr_fill cY 0 6), (tr_fill cD 0 6), (tr_fill (tr_pt cC 16) 0 6), (tr_fill (tr_pt cC 8) 0 6), (tr_fill (tr_pt cC 0) 0 6), (tr_fill cU 0 6), (tr_fill cV 0 6), (tr_ru0 ru 8)) v') (hc := hc) (bx := 3855) (o1 := o1) (o2 := o2) (o3 := o3) (ar := ar) (w1 := w1) (w2 := w2) (w3 := w3) (C := C) (D := D) (M := M) (ce := ce) (cX := cX) (cY := cY) (cD := cD) (cC := cC) (cU := cU) (cV := cV) (ru := (tr_ru0 ru 8))
    (tr_mk2 (by decide) (by decide) (by decide) (by decide) (tr_pt_fill cC 16 tr_part_0.1 6) (tr_pt_fill cC 8 tr_part_0.2.1 6) (tr_pt_fill cC 0 tr_part_0.2.2 6) ⟨hM, tr_bc_fill hX tr_co_0, tr_bc_fill hY tr_co_0, tr_b_fill hD ⟨0, by decide, rfl⟩, tr_b_fill hU ⟨0, by decide, rfl⟩, tr_b_fill hV ⟨0, by decide, rfl⟩, ⟨0, by decide, rfl⟩, ⟨0, by decide, rfl⟩⟩) 64 0 rfl
  rw [tr_fill_0] at K
  exact ⟨65, K⟩
theorem i_vc_colour {k : Nat} {u : SX} {v : SY} (I : i_Rel k u v) (hk : k + 5 ≤ 2560) (v1 : Int32) (v2 : Int32) : wpX_colour (fun r => wpY_colour (fun r' => r' = r ∧ i_Rel (k + 5) u v) v v1 v2) u v1 v2 := by
  obtain ⟨bx, hc, C, D, M, ce, cX, cY, cD, cC, cU, cV, ru, o1, o2, o3, ar, w1, w2, w3, rfl, rfl, h⟩ := I
  have J := h
  obtain ⟨hM, hX, hY, hD, hU, hV, hk4, h5⟩ := h
  have Bad : ¬ (tr_bt v1 15 ∧ tr_bt v2 15) → wpY_colour (fun r' => r' = -1 ∧ i_Rel (k + 5) (bx / 4096, bx / 256 - bx / 256 / 16 * 16, bx / 16 - bx / 16 / 16 * 16, bx - bx / 16 * 16, hc, C, D, M, ce, cX, cY, cD, tr_pt cC 16, tr_pt cC 8, tr_pt cC 0, cU, cV, ru) (hc, bx, o1, o2, o3, ar, w1, w2, w3, C, D, M, ce, cX, cY, cD, cC, cU, cV, ru)) (hc, bx, o1, o2, o3, ar, w1, w2, w3, C, D, M, ce, cX, cY, cD, cC, cU, cV, ru) v1 v2 := by
    intro z
    unfold wpY_colour
    exact ty_badPixel (fun a b => (z ⟨a, b⟩).elim) (fun _ => ⟨rfl, tr_mk J⟩)
  unfold wpX_colour
  refine tx_w (fun a => tx_w (fun b => ?_) (fun z => Bad fun y => z y.2)) (fun z => Bad fun y => z y.1)
  have hin : vp_in (16 * v2 + v1) 256 := by
    obtain ⟨n1, l1, rfl⟩ := tr_bt_n a (n := 15)
    obtain ⟨n2, l2, rfl⟩ := tr_bt_n b (n := 15)
    rw [tr_ix (by omega) (by omega)]
    exact vp_in_nI (by omega) (by decide)
  refine ⟨hin, ?_⟩
  unfold wpY_colour
  exact ty_badPixel (fun _ _ => ⟨hin, rfl, tr_mk J⟩) (fun z => (z ⟨a, b⟩).elim)
theorem i_vc_depth {k : Nat} {u : SX} {v : SY} (I : i_Rel k u v) (hk : k + 5 ≤ 2560) (v1 : Int32) (v2 : Int32) : wpX_depth (fun r => wpY_depth (fun r' => r' = r ∧ i_Rel (k + 5) u v) v v1 v2) u v1 v2 := by
  obtain ⟨bx, hc, C, D, M, ce, cX, cY, cD, cC, cU, cV, ru, o1, o2, o3, ar, w1, w2, w3, rfl, rfl, h⟩ := I
  have J := h
  obtain ⟨hM, hX, hY, hD, hU, hV, hk4, h5⟩ := h
  have Bad : ¬ (tr_bt v1 15 ∧ tr_bt v2 15) → wpY_depth (fun r' => r' = -1 ∧ i_Rel (k + 5) (bx / 4096, bx / 256 - bx / 256 / 16 * 16, bx / 16 - bx / 16 / 16 * 16, bx - bx / 16 * 16, hc, C, D, M, ce, cX, cY, cD, tr_pt cC 16, tr_pt cC 8, tr_pt cC 0, cU, cV, ru) (hc, bx, o1, o2, o3, ar, w1, w2, w3, C, D, M, ce, cX, cY, cD, cC, cU, cV, ru)) (hc, bx, o1, o2, o3, ar, w1, w2, w3, C, D, M, ce, cX, cY, cD, cC, cU, cV, ru) v1 v2 := by
    intro z
    unfold wpY_depth
    exact ty_badPixel (fun a b => (z ⟨a, b⟩).elim) (fun _ => ⟨rfl, tr_mk J⟩)
  unfold wpX_depth
  refine tx_w (fun a => tx_w (fun b => ?_) (fun z => Bad fun y => z y.2)) (fun z => Bad fun y => z y.1)
  have hin : vp_in (16 * v2 + v1) 256 := by
    obtain ⟨n1, l1, rfl⟩ := tr_bt_n a (n := 15)
    obtain ⟨n2, l2, rfl⟩ := tr_bt_n b (n := 15)
    rw [tr_ix (by omega) (by omega)]
    exact vp_in_nI (by omega) (by decide)
  refine ⟨hin, ?_⟩
  unfold wpY_depth
  exact ty_badPixel (fun _ _ => ⟨hin, rfl, tr_mk J⟩) (fun z => (z ⟨a, b⟩).elim)
theorem i_vc_mark {k : Nat} {u : SX} {v : SY} (I : i_Rel k u v) (hk : k + 5 ≤ 2560) (v1 : Int32) (v2 : Int32) : wpX_mark (fun r => wpY_mark (fun r' => r' = r ∧ i_Rel (k + 5) u v) v v1 v2) u v1 v2 := by
  obtain ⟨bx, hc, C, D, M, ce, cX, cY, cD, cC, cU, cV, ru, o1, o2, o3, ar, w1, w2, w3, rfl, rfl, h⟩ := I
  have J := h
  obtain ⟨hM, hX, hY, hD, hU, hV, hk4, h5⟩ := h
  have Bad : ¬ (tr_bt v1 15 ∧ tr_bt v2 15) → wpY_mark (fun r' => r' = -1 ∧ i_Rel (k + 5) (bx / 4096, bx / 256 - bx / 256 / 16 * 16, bx / 16 - bx / 16 / 16 * 16, bx - bx / 16 * 16, hc, C, D, M, ce, cX, cY, cD, tr_pt cC 16, tr_pt cC 8, tr_pt cC 0, cU, cV, ru) (hc, bx, o1, o2, o3, ar, w1, w2, w3, C, D, M, ce, cX, cY, cD, cC, cU, cV, ru)) (hc, bx, o1, o2, o3, ar, w1, w2, w3, C, D, M, ce, cX, cY, cD, cC, cU, cV, ru) v1 v2 := by
    intro z
    unfold wpY_mark
    exact ty_badPixel (fun a b => (z ⟨a, b⟩).elim) (fun _ => ⟨rfl, tr_mk J⟩)
  unfold wpX_mark
  refine tx_w (fun a => tx_w (fun b => ?_) (fun z => Bad fun y => z y.2)) (fun z => Bad fun y => z y.1)
  have hin : vp_in (16 * v2 + v1) 256 := by
    obtain ⟨n1, l1, rfl⟩ := tr_bt_n a (n := 15)
    obtain ⟨n2, l2, rfl⟩ := tr_bt_n b (n := 15)
    rw [tr_ix (by omega) (by omega)]
    exact vp_in_nI (by omega) (by decide)
  refine ⟨hin, ?_⟩
  unfold wpY_mark
  exact ty_badPixel (fun _ _ => ⟨hin, rfl, tr_mk J⟩) (fun z => (z ⟨a, b⟩).elim)
theorem i_vc_digest {k : Nat} {u : SX} {v : SY} (I : i_Rel k u v) (hk : k + 5 ≤ 2560) : wpX_digest (fun r => wpY_digest (fun r' => r' = r ∧ i_Rel (k + 5) u v) v) u := by
  obtain ⟨bx, hc, C, D, M, ce, cX, cY, cD, cC, cU, cV, ru, o1, o2, o3, ar, w1, w2, w3, rfl, rfl, h⟩ := I
  have J := h
  obtain ⟨hM, hX, hY, hD, hU, hV, hk4, h5⟩ := h
  unfold wpX_digest
  refine ⟨257, tx_dig ?_ 256 0 rfl⟩
  unfold wpY_digest
  exact ⟨257, ty_dig ⟨rfl, tr_mk J⟩ 256 0 rfl⟩
theorem i_vc_hits {k : Nat} {u : SX} {v : SY} (I : i_Rel k u v) (hk : k + 5 ≤ 2560) : wpX_hits (fun r => wpY_hits (fun r' => r' = r ∧ i_Rel (k + 5) u v) v) u := by
  obtain ⟨bx, hc, C, D, M, ce, cX, cY, cD, cC, cU, cV, ru, o1, o2, o3, ar, w1, w2, w3, rfl, rfl, h⟩ := I
  have J := h
  obtain ⟨hM, hX, hY, hD, hU, hV, hk4, h5⟩ := h
  exact ⟨rfl, tr_mk J⟩
theorem i_vc_covered {k : Nat} {u : SX} {v : SY} (I : i_Rel k u v) (hk : k + 5 ≤ 2560) (v1 : Int32) : wpX_covered (fun r => wpY_covered (fun r' v' => r' = r ∧ i_Rel (k + 5) u v') v v1) u v1 := by
  obtain ⟨bx, hc, C, D, M, ce, cX, cY, cD, cC, cU, cV, ru, o1, o2, o3, ar, w1, w2, w3, rfl, rfl, h⟩ := I
  have J := h
  obtain ⟨hM, hX, hY, hD, hU, hV, hk4, h5⟩ := h
  by_cases V : tr_bt v1 215
  · obtain ⟨n, ln, rfl⟩ := tr_bt_n V (n := 215)
    have hn : n < 216 := by omega
    refine tx_covered hX hY hn (fun c => ?_) (fun c => ?_) (fun c d => ?_) (fun c d => ?_)
    · refine ty_covered hX hY hn (fun _ _ _ _ _ _ _ _ => ⟨rfl, tr_mk J⟩) (fun c2 => ?_) (fun c2 => ?_) (fun c2 => ?_)
      · rw [c] at c2
        exact absurd c2 (by decide)
      · rw [c] at c2
        exact absurd (by decide) c2
      · rw [c] at c2
        exact absurd (by decide) c2
    · refine ty_covered hX hY hn (fun c2 => ?_) (fun _ _ _ _ _ _ _ _ => ⟨rfl, tr_mk J⟩) (fun c2 => ?_) (fun c2 => ?_)
      · rw [c2] at c
        exact absurd c (by decide)
      · exact absurd (Int32.le_of_lt c) c2
      · exact absurd (Int32.le_of_lt c) c2
    · refine ty_covered hX hY hn (fun c2 => ?_) (fun c2 => ?_) (fun _ _ _ _ _ _ _ _ _ => ⟨rfl, tr_mk J⟩) (fun _ d2 => absurd d d2)
      · rw [c2] at c
        exact absurd (by decide) c
      · exact absurd (Int32.le_of_lt c2) c
    · refine ty_covered hX hY hn (fun c2 => ?_) (fun c2 => ?_) (fun _ d2 => absurd d2 d) (fun _ _ _ _ _ _ _ _ _ => ⟨rfl, tr_mk J⟩)
      · rw [c2] at c
        exact absurd (by decide) c
      · exact absurd (Int32.le_of_lt c2) c
  · unfold wpX_covered
    refine tx_w (fun z => (V z).elim) (fun _ => ?_)
    unfold wpY_covered
    exact ty_le (fun z => (V z).elim) (fun _ => ⟨rfl, tr_mk J⟩)
