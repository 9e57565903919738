/-! Y's load, skip and step -/
theorem yh_ob {v : Nat} (h0 : v ≠ 0) (hv : v < 5) : (nI v - 1) / 2 = nI (tc_ob v) := by
  show (nI v - nI 1) / nI 2 = _
  rw [pk_sub (by omega), pk_div (by omega) (by omega) (by omega)]
  have : ∀ v, v < 5 → v ≠ 0 → (v - 1) / 2 = tc_ob v := by decide
  rw [this v hv h0]
theorem yh_pm {v : Nat} (h0 : v ≠ 0) (hv : v < 5) : (nI v - 1) - (nI v - 1) / 2 * 2 + 1 = nI (tc_pm v) := by
  show (nI v - nI 1) - (nI v - nI 1) / nI 2 * nI 2 + nI 1 = _
  rw [pk_sub (by omega), pk_rem (by omega) (by omega) (by omega), nI_add]
  have : ∀ v, v < 5 → v ≠ 0 → (v - 1) % 2 + 1 = tc_pm v := by decide
  rw [this v hv h0]
theorem yh_rem {v : Nat} (h0 : v ≠ 0) (hv : v < 5) : ∃ r, (nI v - 1) - (nI v - 1) / 2 * 2 = nI r ∧ r + 1 = tc_pm v := by
  refine ⟨(v - 1) % 2, ?_, ?_⟩
  · show (nI v - nI 1) - (nI v - nI 1) / nI 2 * nI 2 = _
    rw [pk_sub (by omega), pk_rem (by omega) (by omega) (by omega)]
  · exact (by decide : ∀ v, v < 5 → v ≠ 0 → (v - 1) % 2 + 1 = tc_pm v) v hv h0
section
variable {cp ct wp mp mt : Int32} {o a b ye yl yo ys dn rq rs cl wl ws ml mz yr : Nat → Int32} {c x y L n i : Nat} {T : Nat → Nat} {d : Int32}
theorem yh_load {post : SY → Prop} (hc : c < 2 ^ 31) (h : ∀ (wp : Int32) (wl ws : Nat → Int32), tc_W wp wl ws c → post (cp, ct, wp, mp, mt, o, a, b, ye, yl, yo, ys, dn, rq, rs, cl, wl, ws, ml, mz, yr, 34000)) : wpY_load post (cp, ct, wp, mp, mt, o, a, b, ye, yl, yo, ys, dn, rq, rs, cl, wl, ws, ml, mz, yr, 34000) (nI c) := by
  unfold wpY_load
  have e0 : nI c - nI c / 2000 * 2000 = nI (c % 2000) := pk_rem (d := 2000) hc (by omega) (by omega)
  have e1 : nI c / 2000 = nI (c / 2000) := pk_div (d := 2000) hc (by omega) (by omega)
  have hr : c % 2000 < 2 ^ 31 := by omega
  have f0 : nI (c % 2000) / 400 = nI (tc_l c 0) := by
    rw [tc_l_0, show nI (c % 2000) / 400 = nI (c % 2000 / 400) from pk_div (d := 400) hr (by omega) (by omega)]
    exact congrArg nI (by omega)
  have f1 : nI (c % 2000) / 80 - nI (c % 2000) / 80 / 5 * 5 = nI (tc_l c 1) := by
    rw [tc_l_1, show nI (c % 2000) / 80 - nI (c % 2000) / 80 / 5 * 5 = nI (c % 2000 / 80 % 5) from xh_dr (U := 80) (d := 5) hr (by omega) (by omega) (by omega) (by omega)]
    exact congrArg nI (by omega)
  have f2 : nI (c % 2000) / 16 - nI (c % 2000) / 16 / 5 * 5 = nI (tc_l c 2) := by
    rw [tc_l_2, show nI (c % 2000) / 16 - nI (c % 2000) / 16 / 5 * 5 = nI (c % 2000 / 16 % 5) from xh_dr (U := 16) (d := 5) hr (by omega) (by omega) (by omega) (by omega)]
    exact congrArg nI (by omega)
  have f3 : nI (c % 2000) / 4 - nI (c % 2000) / 4 / 4 * 4 = nI (tc_s c 0) := by
    rw [tc_s_0, show nI (c % 2000) / 4 - nI (c % 2000) / 4 / 4 * 4 = nI (c % 2000 / 4 % 4) from xh_dr (U := 4) (d := 4) hr (by omega) (by omega) (by omega) (by omega)]
    exact congrArg nI (by omega)
  have f4 : nI (c % 2000) - nI (c % 2000) / 4 * 4 = nI (tc_s c 1) := by
    rw [tc_s_1, show nI (c % 2000) - nI (c % 2000) / 4 * 4 = nI (c % 2000 % 4) from pk_rem (d := 4) hr (by omega) (by omega)]
    exact congrArg nI (by omega)
  refine ⟨by decide, nm_r e1 ⟨by decide, nm_r e0 ⟨by decide, ?_⟩⟩⟩
  rw [f0, f1, f2, f3, f4]
  refine nm_e ⟨by decide, by decide, nm_e ⟨by decide, by decide, nm_e ⟨by decide, by decide, nm_e ⟨by decide, nm_e (h _ _ _ ⟨rfl, fun j hj => ?_, fun j hj => ?_⟩)⟩⟩⟩⟩
  · rcases tc_c3 hj with rfl | rfl | rfl
    · rw [pk_un (by omega), pk_un (by omega), pk_us]
    · rw [pk_un (by omega), pk_us]
    · rw [pk_us]
  · rcases tc_c2 hj with rfl | rfl
    · rw [pk_un (by omega), pk_us]
    · rw [pk_us]
theorem yh_neg1 {e : Nat} (he : e < 16) : ¬ nI e < 0 := nI_pos (by omega)
theorem yh_skip {post : Int32 → Prop} (hJ : tc_JM o L yl ye yo T) (hL : L ≤ 16) (hp : x < L) (ho : tc_op (o x)) (h : post (nI (T x))) : wpY_skip post (cp, ct, wp, mp, mt, o, a, b, ye, yl, yo, ys, dn, rq, rs, cl, wl, ws, ml, mz, yr, 34000) (nI x) := by
  unfold wpY_skip
  have vi : vp_in (nI x) 16 := vp_in_nI (by omega) (by omega)
  refine ⟨vi, ?_⟩
  rw [nI_clamp (by omega)]
  rcases (hJ _ hp).1 ho with ⟨e1, e, he, e2, e3⟩ | ⟨_, e, he, e2, e3⟩
  · refine br_t (by rw [e1]; decide) ⟨vi, ?_⟩
    rw [e2, nI_1, ← e3]; exact h
  · refine br_f (by rw [e2]; exact nI_pos (by omega)) ⟨vi, ?_⟩
    rw [e2, nI_1, ← e3]; exact h
theorem yh_step {post : Int32 → SY → Prop} (hV : tc_VP o a b L) (hD : tc_VD rq rs cl) (hJ : tc_JM o L yl ye yo T) (hL : L ≤ 16) (hc : c < 34000) (hp : c / 2000 < L) (hW : tc_W wp wl ws c)
    (h1 : tc_F o a b dn rq rs cl c ≠ 0 → post (nI (tc_F o a b dn rq rs cl c)) (cp, nI L, wp, mp, mt, o, a, b, ye, yl, yo, ys, dn, rq, rs, cl, wl, ws, ml, mz, yr, 34000))
    (h0 : tc_F o a b dn rq rs cl c = 0 → ∀ (wp : Int32) (wl ws : Nat → Int32), tc_W wp wl ws (tc_N o a b rs cl T c d) → post 0 (cp, nI L, wp, mp, mt, o, a, b, ye, yl, yo, ys, dn, rq, rs, cl, wl, ws, ml, mz, yr, 34000)) : wpY_step post (cp, nI L, wp, mp, mt, o, a, b, ye, yl, yo, ys, dn, rq, rs, cl, wl, ws, ml, mz, yr, 34000) d := by
  have ewp := hW.1
  subst ewp
  unfold wpY_step
  have vi : vp_in (nI (c / 2000)) 16 := vp_in_nI (by omega) (by omega)
  have ci := nI_clamp (n := c / 2000) (by omega)
  have p1 : nI (c / 2000) + 1 = nI (c / 2000 + 1) := nI_1 _
  refine br_f (nI_pos (by omega)) (br_t (nI_lt hp (by omega)) ⟨vi, ?_⟩)
  rw [ci]
  rcases hV _ hp with ⟨ho, x, y, hx, hy, ea, eb⟩ | ⟨ho, x, y, hx, hy, hn, ea, eb⟩ | ⟨ho, x, y, hx, hy, hn, ea, eb⟩ | ⟨ho, x, hx, ea⟩ | ho | ⟨ho, x, y, hx, hy, ea, eb⟩ | ho | ho | ho
  · obtain ⟨e1, e2⟩ := tc_F1 (dn := dn) (rq := rq) (rs := rs) (cl := cl) (T := T) (d := d) ho ea eb hx hy
    rw [e1, e2] at h0
    rw [e1] at h1
    have hv := tc_l_lt c x
    have hb := tc_ob_lt (tc_l c x)
    refine nm_r ho ⟨vi, nm_r ea ⟨vi, nm_r eb (br_t rfl ⟨vp_in_nI hx (by omega), ?_⟩)⟩⟩
    rw [nI_clamp (by omega)]
    refine nm_r (hW.2.1 x hx) ?_
    by_cases z1 : tc_l c x = 0
    · refine br_t (by rw [z1]; rfl) ?_
      have e : tc_Fc dn rq rs cl c x y = 1 := if_pos z1
      rw [e] at h1; exact h1 (by omega)
    refine br_f (nI_ne0 (by omega) (by omega)) ⟨by decide, nm_r (yh_ob z1 hv) ⟨vp_in_nI hb (by omega), ?_⟩⟩
    have hk := tc_k_lt hD (v := tc_l c x) hy
    obtain ⟨q, hq, eq⟩ := hD.2.2 _ hb
    obtain ⟨r2, hr2, er2⟩ := hD.2.1 _ hk
    have ek : cl (nI (tc_ob (tc_l c x))).toNatClampNeg * 4 + nI y = nI (tc_k cl (tc_l c x) y) := by
      rw [nI_clamp (by omega), eq]
      show nI q * nI 4 + nI y = _
      rw [pk_mul, nI_add]
      unfold tc_k
      rw [eq, nI_clamp (by omega)]
    have ck := nI_clamp (n := tc_k cl (tc_l c x) y) (by omega)
    have cb := nI_clamp (n := tc_ob (tc_l c x)) (by omega)
    have vk : vp_in (nI (tc_k cl (tc_l c x) y)) 8 := vp_in_nI hk (by omega)
    refine nm_r ek ⟨vk, ?_⟩
    rw [ck, cb, hW.2.2 _ hb]
    by_cases z2 : dn (tc_k cl (tc_l c x) y) = 0
    · refine br_t z2 ?_
      have e : tc_Fc dn rq rs cl c x y = 2 := (if_neg z1).trans (if_pos z2)
      rw [e] at h1; exact h1 (by omega)
    refine br_f z2 ⟨vp_in_nI hb (by omega), vk, ?_⟩
    by_cases z3 : nI (tc_s c (tc_ob (tc_l c x))) = rq (tc_k cl (tc_l c x) y)
    · refine br_t z3 ⟨vk, vk, ?_⟩
      have fin : tc_Fc dn rq rs cl c x y = 0 → wY_step_147 post (nI (c / 2000)) (nI (tc_ob (tc_l c x))) (nI (tc_k cl (tc_l c x) y)) cp (nI L) (nI (c / 2000)) mp mt o a b ye yl yo ys dn rq rs cl wl ws ml mz yr 34000 := by
        intro hf
        unfold wY_step_147
        refine ⟨vk, vp_in_nI hb (by omega), ?_⟩
        rw [ck, cb, er2]
        refine nm_e (nm_r p1 (h0 hf _ _ _ ?_))
        have w := tc_W_1 (tc_W_s hW hb hr2)
        rw [(tc_ws_d hb hr2).1] at w
        unfold tc_Nc
        rw [er2, nI_clamp (by omega)]
        exact w
      by_cases z4 : rs (tc_k cl (tc_l c x) y) = rq (tc_k cl (tc_l c x) y)
      · exact br_t z4 (fin ((if_neg z1).trans ((if_neg z2).trans ((if_neg (fun w => w z3)).trans (if_neg (fun w => w.1 z4))))))
      · refine br_f z4 ⟨by decide, ?_⟩
        rw [yh_pm z1 hv]
        by_cases z5 : tc_pm (tc_l c x) = 2
        · exact br_t (by rw [z5]; rfl) (fin ((if_neg z1).trans ((if_neg z2).trans ((if_neg (fun w => w z3)).trans (if_neg (fun w => w.2 z5))))))
        · have hp' := tc_pm_lt hv
          refine br_f (fun w => z5 ((nI_eq (b := 2) (by omega) (by omega)).mp w)) ?_
          have e : tc_Fc dn rq rs cl c x y = 4 := (if_neg z1).trans ((if_neg z2).trans ((if_neg (fun w => w z3)).trans (if_pos ⟨z4, z5⟩)))
          rw [e] at h1; exact h1 (by omega)
    · refine br_f z3 ?_
      have e : tc_Fc dn rq rs cl c x y = 3 := (if_neg z1).trans ((if_neg z2).trans (if_pos z3))
      rw [e] at h1; exact h1 (by omega)
  · obtain ⟨e1, e2⟩ := tc_F2 (dn := dn) (rq := rq) (rs := rs) (cl := cl) (T := T) (d := d) ho ea eb hx (by omega)
    rw [e1, e2] at h0
    rw [e1] at h1
    have hv := tc_l_lt c y
    have hw := tc_l_lt c x
    have hb := tc_ob_lt (tc_l c y)
    refine nm_r ho ⟨vi, nm_r ea ⟨vi, nm_r eb (br_f (by decide) (br_t rfl ⟨vp_in_nI hy (by omega), ?_⟩))⟩⟩
    rw [nI_clamp (by omega), nI_clamp (by omega)]
    refine nm_r (hW.2.1 y hy) ?_
    by_cases z1 : tc_l c y = 0
    · refine br_t (by rw [z1]; rfl) ?_
      have e : tc_Fs c x y = 1 := if_pos z1
      rw [e] at h1; exact h1 (by omega)
    refine br_f (nI_ne0 (by omega) (by omega)) ⟨vp_in_nI hx (by omega), ?_⟩
    rw [hW.2.1 x hx]
    by_cases z2 : tc_l c x = 0
    · refine br_t (by rw [z2]; rfl) ⟨by decide, ?_⟩
      rw [yh_pm z1 hv]
      by_cases z3 : tc_pm (tc_l c y) = 2
      · refine br_t (by rw [z3]; rfl) ⟨by decide, nm_r (yh_ob z1 hv) ⟨vp_in_nI hx (by omega), ?_⟩⟩
        have eh : (2 : Int32) * nI (tc_ob (tc_l c y)) + 1 = nI (tc_h c y) := by
          show nI 2 * nI _ + nI 1 = _
          rw [pk_mul, nI_add]; rfl
        rw [eh]
        refine nm_e ⟨vp_in_nI hy (by omega), nm_e (nm_r p1 ?_)⟩
        have hf : tc_Fs c x y = 0 := (if_neg z1).trans ((if_neg (fun w => w z2)).trans (if_neg (fun w => w z3)))
        refine h0 hf _ _ _ ?_
        rw [tc_upd_comm hn]
        have w := tc_W_1 (tc_W_l (tc_W_l hW hy (tc_h_lt c y)) hx (tc_h_lt c y))
        rw [(tc_wl_d hx (tc_h_lt c y)).1, (tc_wl_d hy (tc_h_lt c y)).1] at w
        exact w
      · have hp' := tc_pm_lt hv
        refine br_f (fun w => z3 ((nI_eq (b := 2) (by omega) (by omega)).mp w)) ?_
        have e : tc_Fs c x y = 6 := (if_neg z1).trans ((if_neg (fun w => w z2)).trans (if_pos z3))
        rw [e] at h1; exact h1 (by omega)
    · refine br_f (nI_ne0 (by omega) (by omega)) ?_
      have e : tc_Fs c x y = 5 := (if_neg z1).trans (if_pos z2)
      rw [e] at h1; exact h1 (by omega)
  · obtain ⟨e1, e2⟩ := tc_F3 (dn := dn) (rq := rq) (rs := rs) (cl := cl) (T := T) (d := d) ho ea eb hx (by omega)
    rw [e1, e2] at h0
    rw [e1] at h1
    have hv := tc_l_lt c y
    have hw := tc_l_lt c x
    have hb := tc_ob_lt (tc_l c x)
    have hb2 := tc_ob_lt (tc_l c y)
    refine nm_r ho ⟨vi, nm_r ea ⟨vi, nm_r eb (br_f (by decide) (br_f (by decide) (br_t rfl ⟨vp_in_nI hx (by omega), ?_⟩)))⟩⟩
    rw [nI_clamp (by omega), nI_clamp (by omega)]
    refine nm_r (hW.2.1 x hx) ⟨vp_in_nI hy (by omega), nm_r (hW.2.1 y hy) ?_⟩
    by_cases z1 : tc_l c x = 0
    · refine br_t (by rw [z1]; rfl) ?_
      have e : tc_Fm c x y = 1 := if_pos z1
      rw [e] at h1; exact h1 (by omega)
    refine br_f (nI_ne0 (by omega) (by omega)) ?_
    by_cases z2 : tc_l c y = 0
    · refine br_t (by rw [z2]; rfl) ?_
      have e : tc_Fm c x y = 1 := (if_neg z1).trans (if_pos z2)
      rw [e] at h1; exact h1 (by omega)
    refine br_f (nI_ne0 (by omega) (by omega)) ⟨by decide, by decide, ?_⟩
    obtain ⟨r, er, er2⟩ := yh_rem z2 hv
    rw [yh_pm z1 hw, er, yh_ob z1 hw, yh_ob z2 hv]
    by_cases z3 : tc_ob (tc_l c x) = tc_ob (tc_l c y)
    · have es : nI (tc_pm (tc_l c x)) + nI r + 1 = nI (tc_pm (tc_l c x) + tc_pm (tc_l c y)) := by
        rw [nI_add, nI_1, ← er2, Nat.add_assoc]
      have hp1 := tc_pm_lt hw
      have hp2 := tc_pm_lt hv
      have hm := tc_e_ms _ hw _ hv z1 z2
      refine br_t (by rw [z3]) ⟨by decide, by decide, nm_r es ?_⟩
      have fin : wY_step_344 post (nI (c / 2000)) (nI x) (nI y) (nI (tc_l c x)) (nI (tc_ms (tc_l c x) (tc_l c y))) cp (nI L) (nI (c / 2000)) mp mt o a b ye yl yo ys dn rq rs cl wl ws ml mz yr 34000 := by
        unfold wY_step_344
        have eh : (2 : Int32) * ((nI (tc_l c x) - 1) / 2) + nI (tc_ms (tc_l c x) (tc_l c y)) = nI (2 * tc_ob (tc_l c x) + tc_ms (tc_l c x) (tc_l c y)) := by
          rw [yh_ob z1 hw]
          show nI 2 * nI _ + nI _ = _
          rw [pk_mul, nI_add]
        refine ⟨by decide, vp_in_nI hx (by omega), ?_⟩
        rw [nI_clamp (by omega), nI_clamp (by omega), eh]
        refine nm_e ⟨vp_in_nI hy (by omega), nm_e (nm_r p1 ?_)⟩
        have hf : tc_Fm c x y = 0 := (if_neg z1).trans ((if_neg z2).trans (if_neg (fun w => w z3)))
        refine h0 hf _ _ _ ?_
        have w := tc_W_1 (tc_W_l (v := 0) (tc_W_l hW hx hm) hy (by omega))
        rw [(tc_wl_d hy (show 0 < 5 by omega)).1, (tc_wl_d hx hm).1] at w
        exact w
      by_cases z4 : 2 < tc_pm (tc_l c x) + tc_pm (tc_l c y)
      · refine br_f (nI_ge z4 (by omega)) ?_
        rw [tc_ms, if_pos z4] at fin; exact fin
      · refine br_t (nI_le (b := 2) (by omega) (by omega)) ?_
        rw [tc_ms, if_neg z4] at fin; exact fin
    · refine br_f (fun w => z3 ((nI_eq (by omega) (by omega)).mp w)) ?_
      have e : tc_Fm c x y = 7 := (if_neg z1).trans ((if_neg z2).trans (if_pos z3))
      rw [e] at h1; exact h1 (by omega)
  · obtain ⟨e1, e2⟩ := tc_F4 (b := b) (dn := dn) (rq := rq) (rs := rs) (cl := cl) (T := T) (d := d) ho ea hx
    rw [e2] at h0
    refine nm_r ho ⟨vi, nm_r ea ⟨vi, nm_e (br_f (by decide) (br_f (by decide) (br_f (by decide) (br_t rfl ⟨vp_in_nI hx (by omega), ?_⟩))))⟩⟩
    rw [nI_clamp (by omega)]
    refine nm_e (nm_r p1 (h0 e1 _ _ _ ?_))
    have w := tc_W_1 (tc_W_l (v := 0) hW hx (by omega))
    rw [(tc_wl_d hx (show 0 < 5 by omega)).1] at w
    exact w
  · obtain ⟨e1, e2⟩ := tc_F5 (a := a) (b := b) (dn := dn) (rq := rq) (rs := rs) (cl := cl) (T := T) (d := d) ho
    rw [e2] at h0
    refine nm_r ho ⟨vi, nm_e ⟨vi, nm_e (br_f (by decide) (br_f (by decide) (br_f (by decide) (br_f (by decide) (br_t rfl ?_)))))⟩⟩
    by_cases hd : d = 1
    · rw [if_pos hd] at h0
      exact br_t hd (nm_r p1 (h0 e1 _ _ _ (tc_W_1 hW)))
    · rw [if_neg hd] at h0
      exact br_f hd (yh_skip hJ hL hp (Or.inl ho) (h0 e1 _ _ _ (tc_W_p hW _)))
  · obtain ⟨e1, e2⟩ := tc_F6 (dn := dn) (rq := rq) (rs := rs) (cl := cl) (T := T) (d := d) ho ea eb hx hy
    rw [e1, e2] at h0
    rw [e1] at h1
    have hv := tc_l_lt c x
    have hb := tc_ob_lt (tc_l c x)
    have hs := tc_s_lt c (tc_ob (tc_l c x))
    refine nm_r ho ⟨vi, nm_r ea ⟨vi, nm_r eb (br_f (by decide) (br_f (by decide) (br_f (by decide) (br_f (by decide) (br_f (by decide) (br_t rfl ⟨vp_in_nI hx (by omega), ?_⟩))))))⟩⟩
    rw [nI_clamp (by omega)]
    refine nm_r (hW.2.1 x hx) ?_
    by_cases z1 : tc_l c x = 0
    · refine br_t (by rw [z1]; rfl) ?_
      have e : tc_Fi c x = 1 := if_pos z1
      rw [e] at h1; exact h1 (by omega)
    have hf : tc_Fi c x = 0 := if_neg z1
    refine br_f (nI_ne0 (by omega) (by omega)) ⟨by decide, ?_⟩
    rw [yh_ob z1 hv, nI_clamp (by omega), hW.2.2 _ hb]
    refine ⟨vp_in_nI hb (by omega), ?_⟩
    rw [tc_Ni] at h0
    by_cases z2 : tc_s c (tc_ob (tc_l c x)) = y
    · rw [if_pos z2] at h0
      exact br_t (by rw [z2]) (nm_r p1 (h0 hf _ _ _ (tc_W_1 hW)))
    · rw [if_neg z2] at h0
      exact br_f (fun w => z2 ((nI_eq (by omega) (by omega)).mp w)) (yh_skip hJ hL hp (Or.inr (Or.inl ho)) (h0 hf _ _ _ (tc_W_p hW _)))
  · obtain ⟨e1, e2⟩ := tc_F7 (a := a) (b := b) (dn := dn) (rq := rq) (rs := rs) (cl := cl) (T := T) (d := d) ho
    rw [e2] at h0
    obtain ⟨t, e, ht, he, et, ee, eT⟩ := (hJ _ hp).2.1 ho
    refine nm_r ho ⟨vi, nm_e ⟨vi, nm_e (br_f (by decide) (br_f (by decide) (br_f (by decide) (br_f (by decide) (br_f (by decide) (br_f (by decide) (br_f (by decide) ⟨vi, nm_r et (br_t (nI_pos' (by omega)) (br_t rfl ⟨vp_in_nI (by omega) (by omega), ?_⟩))⟩)))))))⟩⟩
    rw [nI_clamp (by omega), ee, nI_1, ← eT]
    exact nm_e (h0 e1 _ _ _ (tc_W_p hW _))
  · obtain ⟨e1, e2⟩ := tc_F8 (a := a) (b := b) (dn := dn) (rq := rq) (rs := rs) (cl := cl) (T := T) (d := d) ho
    rw [e2] at h0
    refine nm_r ho ⟨vi, nm_e ⟨vi, nm_e (br_f (by decide) (br_f (by decide) (br_f (by decide) (br_f (by decide) (br_f (by decide) (br_f (by decide) (br_t rfl ?_)))))))⟩⟩
    by_cases hd : d = 1
    · rw [if_pos hd] at h0
      exact br_t hd (nm_r p1 (h0 e1 _ _ _ (tc_W_1 hW)))
    · rw [if_neg hd] at h0
      refine br_f hd ⟨vi, ?_⟩
      rcases (hJ _ hp).1 (Or.inr (Or.inr ho)) with ⟨f1, e, he, f2, f3⟩ | ⟨f1, _⟩
      · rw [f2, nI_1, ← f3]
        exact nm_e (h0 e1 _ _ _ (tc_W_p hW _))
      · exact absurd ho f1
  · obtain ⟨e1, e2⟩ := tc_F9 (a := a) (b := b) (dn := dn) (rq := rq) (rs := rs) (cl := cl) (T := T) (d := d) ho
    rw [e2] at h0
    obtain ⟨t, ht, et, hh⟩ := (hJ _ hp).2.2 ho
    refine nm_r ho ⟨vi, nm_e ⟨vi, nm_e (br_f (by decide) (br_f (by decide) (br_f (by decide) (br_f (by decide) (br_f (by decide) (br_f (by decide) (br_f (by decide) ⟨vi, nm_r et (br_t (nI_pos' (by omega)) (br_f (by decide) ⟨vp_in_nI (by omega) (by omega), ?_⟩))⟩)))))))⟩⟩
    rw [nI_clamp (by omega)]
    have w := h0 e1 _ _ _ (tc_W_p hW _)
    rcases hh with ⟨f1, f2⟩ | ⟨f1, f2⟩
    · rw [f2] at w
      exact br_t f1 w
    · rw [f2] at w
      exact br_f f1 (nm_r p1 w)
end
