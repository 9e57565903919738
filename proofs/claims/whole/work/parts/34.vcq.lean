theorem xh_belowE {post : Int32 → Prop} {x y : Int32} (N : Nat) (e : y = nI N) (hN : N < 2 ^ 31) (h0 : ¬ tc_in N x → post 0) (h1 : tc_in N x → post 1) : wpX_isBelow post x y := by
  subst e
  exact xh_below N hN h0 h1
theorem i_vc_check {k : Nat} {u : SX} {v : SY} (I : i_Rel k u v) (hk : k + 5 ≤ 2561) : wpX_check (fun r u' => wpY_check (fun r' v' => r' = r ∧ i_Rel (k + 5) u' v') v) u := by
  obtain ⟨wf, fp, fc, ms, wp, mp, dn, rq, rs, cl, o, a, b, xl, xe, xo, xb, ir, rd, ye, yl, yo, ys, wl, ws, ml, mz, yr, C, L, n, c, rfl, rfl, hC, hL, hV, hD, hM, hc, hW⟩ := I
  have hL' : L ≤ 16 := by omega
  unfold wpX_check
  refine xh_explore hV hD hL' hM (fun e xl xe xo xb ir hz => ?_) (fun e xl xe xo xb ir rd n fp fc hK hR hF => ?_)
  · refine br_t rfl (yh_check hV hD hL' (fun _ yl ye yo ys => ⟨rfl, ?_⟩) (fun w => ?_))
    · exact ir_mk hC hL hV hD (tc_MK_R (tc_MK_0 hz)) hc hW
    · rw [e] at w; exact absurd w (by decide)
  · refine br_f (by decide) ?_
    have hM' := tc_MK_R hK
    rcases tc_FP_neg (tc_FS_P hF) hL' with ⟨ep, _⟩ | ⟨q, hq, ep⟩
    · refine br_t ep (yh_check hV hD hL' (fun w => ?_) (fun _ r wp yl ye yo ys wl ws yr hP => ?_))
      · rw [e] at w; exact absurd w (by decide)
      · have er : r = -1 := by rw [tc_FP_u hP (tc_FS_P hF), ep]
        exact br_t (by rw [er]; decide) ⟨rfl, ir_mk hC hL hV hD hM' hc hW⟩
    · refine br_f (by rw [ep]; exact tc_m1_ne (by omega)) (yh_check hV hD hL' (fun w => ?_) (fun _ r wp yl ye yo ys wl ws yr hP => ?_))
      · rw [e] at w; exact absurd w (by decide)
      · have er : r = nI q := by rw [tc_FP_u hP (tc_FS_P hF), ep]
        exact br_f (by rw [er]; exact nI_pos (by omega)) ⟨rfl, ir_mk hC hL hV hD hM' hc hW⟩
theorem i_vc_faultPc {k : Nat} {u : SX} {v : SY} (I : i_Rel k u v) (hk : k + 5 ≤ 2561) : wpX_faultPc (fun r u' => wpY_faultPc (fun r' v' => r' = r ∧ i_Rel (k + 5) u' v') v) u := by
  obtain ⟨wf, fp, fc, ms, wp, mp, dn, rq, rs, cl, o, a, b, xl, xe, xo, xb, ir, rd, ye, yl, yo, ys, wl, ws, ml, mz, yr, C, L, n, c, rfl, rfl, hC, hL, hV, hD, hM, hc, hW⟩ := I
  have hL' : L ≤ 16 := by omega
  unfold wpX_faultPc
  refine xh_explore hV hD hL' hM (fun e xl xe xo xb ir hz => ?_) (fun e xl xe xo xb ir rd n fp fc hK hR hF => ?_)
  · refine yh_faultPc hV hD hL' (fun _ yl ye yo ys => ⟨rfl, ?_⟩) (fun w => ?_)
    · exact ir_mk hC hL hV hD (tc_MK_R (tc_MK_0 hz)) hc hW
    · rw [e] at w; exact absurd w (by decide)
  · refine yh_faultPc hV hD hL' (fun w => ?_) (fun _ r wp yl ye yo ys wl ws yr _ _ hP => ⟨tc_FP_u hP (tc_FS_P hF), ?_⟩)
    · rw [e] at w; exact absurd w (by decide)
    · exact ir_mk hC hL hV hD (tc_MK_R hK) hc hW
theorem i_vc_faultKind {k : Nat} {u : SX} {v : SY} (I : i_Rel k u v) (hk : k + 5 ≤ 2561) : wpX_faultKind (fun r u' => wpY_faultKind (fun r' v' => r' = r ∧ i_Rel (k + 5) u' v') v) u := by
  obtain ⟨wf, fp, fc, ms, wp, mp, dn, rq, rs, cl, o, a, b, xl, xe, xo, xb, ir, rd, ye, yl, yo, ys, wl, ws, ml, mz, yr, C, L, n, c, rfl, rfl, hC, hL, hV, hD, hM, hc, hW⟩ := I
  have hL' : L ≤ 16 := by omega
  unfold wpX_faultKind
  refine xh_explore hV hD hL' hM (fun e xl xe xo xb ir hz => ?_) (fun e xl xe xo xb ir rd n fp fc hK hR hF => ?_)
  · refine yh_faultKind hV hD hL' (fun _ yl ye yo ys => ⟨rfl, ?_⟩) (fun w => ?_)
    · exact ir_mk hC hL hV hD (tc_MK_R (tc_MK_0 hz)) hc hW
    · rw [e] at w; exact absurd w (by decide)
  · refine yh_faultKind hV hD hL' (fun w => ?_) (fun _ r kk wp yl ye yo ys wl ws yr hS => ⟨(tc_FS_u hS hF).2, ?_⟩)
    · rw [e] at w; exact absurd w (by decide)
    · exact ir_mk hC hL hV hD (tc_MK_R hK) hc hW
theorem ir_bs0 {p : Nat} {R : Nat → Prop} : ∀ c : Nat, ¬ (R c ∧ p * 2000 ≤ c ∧ c < p * 2000 + 0) := fun c h => by omega
theorem ir_bsx {p : Nat} {rd : Nat → Int32} : ∀ c : Nat, ¬ (c < 34000 ∧ c / 2000 = p ∧ ∃ j, j < 0 ∧ rd j = nI c) := fun c h => by
  obtain ⟨_, _, j, hj, _⟩ := h
  omega
theorem ir_bse {p n : Nat} {rd : Nat → Int32} {R : Nat → Prop} (hp : p ≤ 16) (hR : ∀ c, c < 34000 → ((∃ j, j < n ∧ rd j = nI c) ↔ R c)) (c : Nat) : (R c ∧ p * 2000 ≤ c ∧ c < p * 2000 + 2000) ↔ (c < 34000 ∧ c / 2000 = p ∧ ∃ j, j < n ∧ rd j = nI c) := by
  constructor
  · rintro ⟨h1, h2, h3⟩
    exact ⟨by omega, by omega, (hR c (by omega)).mpr h1⟩
  · rintro ⟨h1, h2, h3⟩
    exact ⟨(hR c h1).mp h3, by omega, by omega⟩
theorem i_vc_stateSet {k : Nat} {u : SX} {v : SY} (I : i_Rel k u v) (hk : k + 5 ≤ 2561) (v1 : Int32) (v2 : Int32) : wpX_stateSet (fun r u' => wpY_stateSet (fun r' v' => r' = r ∧ i_Rel (k + 5) u' v') v v1 v2) u v1 v2 := by
  obtain ⟨wf, fp, fc, ms, wp, mp, dn, rq, rs, cl, o, a, b, xl, xe, xo, xb, ir, rd, ye, yl, yo, ys, wl, ws, ml, mz, yr, C, L, n, c, rfl, rfl, hC, hL, hV, hD, hM, hc, hW⟩ := I
  have hL' : L ≤ 16 := by omega
  unfold wpX_stateSet
  by_cases q1 : tc_in (L + 1) v1
  · by_cases q2 : tc_in 2 v2
    · refine xh_belowE (L + 1) (nI_1 L) (by omega) (fun w => absurd q1 w) (fun _ => br_f (by decide) ?_)
      refine xh_below 2 (by omega) (fun w => absurd q2 w) (fun _ => br_f (by decide) ?_)
      obtain ⟨p, hp, rfl⟩ := q1
      obtain ⟨q, hq, rfl⟩ := q2
      refine xh_explore hV hD hL' hM (fun e xl xe xo xb ir hz => ⟨1, ?_⟩) (fun e xl xe xo xb ir rd n fp fc hK hR hF => ⟨n + 1, ?_⟩)
      · refine xh_sset (p := p) (q := q) (n := 0) (fun j hj => absurd hj (by omega)) (by omega) (by omega) hq (fun s hS => ?_) 1 0 0 (by omega) (by omega) (tc_BS_0 ir_bsx)
        have es : s = 0 := tc_BS_u hS (tc_BS_0 ir_bsx) (fun _ => Iff.rfl)
        subst es
        unfold wpY_stateSet
        refine ym_match hL' (fun yl ye yo ys hJ => ?_)
        rw [e]
        exact br_t rfl ⟨rfl, ir_mk hC hL hV hD (tc_MK_R (tc_MK_0 hz)) hc hW⟩
      · have hM' := tc_MK_R hK
        refine xh_sset (p := p) (q := q) (n := n) hM'.2.2 hM'.1 (by omega) hq (fun s hS => ?_) (n + 1) 0 0 (by omega) (by omega) (tc_BS_0 ir_bsx)
        unfold wpY_stateSet
        refine ym_match hL' (fun yl ye yo ys hJ => ?_)
        have hJ' := hJ e
        rw [e]
        refine br_f (by decide) (yh_lt L (by omega) (fun w => absurd ⟨p, hp, rfl⟩ w) (fun _ => yh_le 1 (by omega) (fun w => absurd ⟨q, hq, rfl⟩ w) (fun _ => ?_)))
        refine yh_compute hV hD hJ' hL' (fun wp wl ws yr hRy => ⟨2001, ?_⟩)
        refine yh_sset (R := tc_RR o a b dn rq rs cl L) (p := p) (q := q) (by omega) hq hRy (fun s' wp wl ws hS' => ⟨?_, ir_mk hC hL hV hD hM' hc hW⟩) 2001 0 0 wp wl ws (by omega) (by omega) (tc_BS_0 ir_bs0)
        exact tc_BS_u hS' hS (fun c => ir_bse (by omega) hR c)
    · refine xh_belowE (L + 1) (nI_1 L) (by omega) (fun w => absurd q1 w) (fun _ => br_f (by decide) ?_)
      refine xh_below 2 (by omega) (fun _ => br_t rfl ?_) (fun w => absurd w q2)
      unfold wpY_stateSet
      refine ym_match hL' (fun yl ye yo ys hJ => ?_)
      rcases tc_wf_01 o L with e | e
      · rw [e]; exact br_t rfl ⟨rfl, ir_mk hC hL hV hD hM hc hW⟩
      · rw [e]; exact br_f (by decide) (yh_lt L (by omega) (fun w => absurd q1 w) (fun _ => yh_le 1 (by omega) (fun _ => ⟨rfl, ir_mk hC hL hV hD hM hc hW⟩) (fun w => absurd w q2)))
  · refine xh_belowE (L + 1) (nI_1 L) (by omega) (fun _ => br_t rfl ?_) (fun w => absurd w q1)
    unfold wpY_stateSet
    refine ym_match hL' (fun yl ye yo ys hJ => ?_)
    rcases tc_wf_01 o L with e | e
    · rw [e]; exact br_t rfl ⟨rfl, ir_mk hC hL hV hD hM hc hW⟩
    · rw [e]; exact br_f (by decide) (yh_lt L (by omega) (fun _ => ⟨rfl, ir_mk hC hL hV hD hM hc hW⟩) (fun w => absurd w q1))
theorem i_vc_localSet {k : Nat} {u : SX} {v : SY} (I : i_Rel k u v) (hk : k + 5 ≤ 2561) (v1 : Int32) (v2 : Int32) : wpX_localSet (fun r u' => wpY_localSet (fun r' v' => r' = r ∧ i_Rel (k + 5) u' v') v v1 v2) u v1 v2 := by
  obtain ⟨wf, fp, fc, ms, wp, mp, dn, rq, rs, cl, o, a, b, xl, xe, xo, xb, ir, rd, ye, yl, yo, ys, wl, ws, ml, mz, yr, C, L, n, c, rfl, rfl, hC, hL, hV, hD, hM, hc, hW⟩ := I
  have hL' : L ≤ 16 := by omega
  unfold wpX_localSet
  by_cases q1 : tc_in (L + 1) v1
  · by_cases q2 : tc_in 3 v2
    · refine xh_belowE (L + 1) (nI_1 L) (by omega) (fun w => absurd q1 w) (fun _ => br_f (by decide) ?_)
      refine xh_below 3 (by omega) (fun w => absurd q2 w) (fun _ => br_f (by decide) ?_)
      obtain ⟨p, hp, rfl⟩ := q1
      obtain ⟨q, hq, rfl⟩ := q2
      refine xh_explore hV hD hL' hM (fun e xl xe xo xb ir hz => ⟨1, ?_⟩) (fun e xl xe xo xb ir rd n fp fc hK hR hF => ⟨n + 1, ?_⟩)
      · refine xh_lset (p := p) (q := q) (n := 0) (fun j hj => absurd hj (by omega)) (by omega) (by omega) hq (fun s hS => ?_) 1 0 0 (by omega) (by omega) (tc_BS_0 ir_bsx)
        have es : s = 0 := tc_BS_u hS (tc_BS_0 ir_bsx) (fun _ => Iff.rfl)
        subst es
        unfold wpY_localSet
        refine ym_match hL' (fun yl ye yo ys hJ => ?_)
        rw [e]
        exact br_t rfl ⟨rfl, ir_mk hC hL hV hD (tc_MK_R (tc_MK_0 hz)) hc hW⟩
      · have hM' := tc_MK_R hK
        refine xh_lset (p := p) (q := q) (n := n) hM'.2.2 hM'.1 (by omega) hq (fun s hS => ?_) (n + 1) 0 0 (by omega) (by omega) (tc_BS_0 ir_bsx)
        unfold wpY_localSet
        refine ym_match hL' (fun yl ye yo ys hJ => ?_)
        have hJ' := hJ e
        rw [e]
        refine br_f (by decide) (yh_lt L (by omega) (fun w => absurd ⟨p, hp, rfl⟩ w) (fun _ => yh_le 2 (by omega) (fun w => absurd ⟨q, hq, rfl⟩ w) (fun _ => ?_)))
        refine yh_compute hV hD hJ' hL' (fun wp wl ws yr hRy => ⟨2001, ?_⟩)
        refine yh_lset (R := tc_RR o a b dn rq rs cl L) (p := p) (q := q) (by omega) hq hRy (fun s' wp wl ws hS' => ⟨?_, ir_mk hC hL hV hD hM' hc hW⟩) 2001 0 0 wp wl ws (by omega) (by omega) (tc_BS_0 ir_bs0)
        exact tc_BS_u hS' hS (fun c => ir_bse (by omega) hR c)
    · refine xh_belowE (L + 1) (nI_1 L) (by omega) (fun w => absurd q1 w) (fun _ => br_f (by decide) ?_)
      refine xh_below 3 (by omega) (fun _ => br_t rfl ?_) (fun w => absurd w q2)
      unfold wpY_localSet
      refine ym_match hL' (fun yl ye yo ys hJ => ?_)
      rcases tc_wf_01 o L with e | e
      · rw [e]; exact br_t rfl ⟨rfl, ir_mk hC hL hV hD hM hc hW⟩
      · rw [e]; exact br_f (by decide) (yh_lt L (by omega) (fun w => absurd q1 w) (fun _ => yh_le 2 (by omega) (fun _ => ⟨rfl, ir_mk hC hL hV hD hM hc hW⟩) (fun w => absurd w q2)))
  · refine xh_belowE (L + 1) (nI_1 L) (by omega) (fun _ => br_t rfl ?_) (fun w => absurd w q1)
    unfold wpY_localSet
    refine ym_match hL' (fun yl ye yo ys hJ => ?_)
    rcases tc_wf_01 o L with e | e
    · rw [e]; exact br_t rfl ⟨rfl, ir_mk hC hL hV hD hM hc hW⟩
    · rw [e]; exact br_f (by decide) (yh_lt L (by omega) (fun _ => ⟨rfl, ir_mk hC hL hV hD hM hc hW⟩) (fun w => absurd w q1))
