theorem ir_clamp (x : Int32) : ∃ B, B ≤ 4096 ∧ ((¬ 0 ≤ x ∧ B = 0) ∨ (0 ≤ x ∧ x ≤ 4096 ∧ x = nI B) ∨ (0 ≤ x ∧ ¬ x ≤ 4096 ∧ B = 4096)) := by
  by_cases h0 : 0 ≤ x
  · by_cases h1 : x ≤ 4096
    · obtain ⟨j, hj, rfl⟩ := nI_of (Int32.not_lt.mpr h0)
      exact ⟨j, (nI_leI (b := 4096) hj (by omega)).mp h1, Or.inr (Or.inl ⟨h0, h1, rfl⟩)⟩
    · exact ⟨4096, by omega, Or.inr (Or.inr ⟨h0, h1, rfl⟩)⟩
  · exact ⟨0, by omega, Or.inl ⟨h0, rfl⟩⟩
theorem i_vc_run {k : Nat} {u : SX} {v : SY} (I : i_Rel k u v) (hk : k + 5 ≤ 2561) (v1 : Int32) (v2 : Int32) : wpX_run (fun r u' => wpY_run (fun r' v' => r' = r ∧ i_Rel (k + 5) u' v') v v1 v2) u v1 v2 := by
  obtain ⟨wf, fp, fc, ms, wp, mp, dn, rq, rs, cl, o, a, b, xl, xe, xo, xb, ir, rd, ye, yl, yo, ys, wl, ws, ml, mz, yr, C, L, n, c, rfl, rfl, hC, hL, hV, hD, hM, hc, hW⟩ := I
  have hL' : L ≤ 16 := by omega
  unfold wpX_run
  unfold wpX_resetMachine
  refine xm_match hL' (fun xl xe xo xb hJ => ?_)
  rcases tc_wf_01 o L with e | e
  · rw [e]
    refine br_t rfl ?_
    unfold wpY_run
    refine yh_reset (fun ml mz hW => ym_match hL' (fun yl ye yo ys hJ => ?_))
    rw [e]
    exact br_t rfl ⟨rfl, ir_mk (c := 1120) hC hL hV hD hM (by omega) hW⟩
  · have hJ' := hJ e
    rw [e]
    refine br_f (by decide) ?_
    obtain ⟨B, hB, hx⟩ := ir_clamp v2
    have hI := tc_run_i (L := L) (o := o) (F := tc_F o a b dn rq rs cl) (N := tc_N o a b rs cl (tc_aim o L)) (ch := v1) (fun c => tc_g c ∧ c / 2000 ≤ L) (fun c d h z f => tc_step_g hV hD (tc_JM_T hJ') d h.1 (by omega) f) B 1120 0 0 ⟨tc_g0, by omega⟩
    have key : wX_run_29 (fun r u' => wpY_run (fun r' v' => r' = r ∧ i_Rel (k + 5) u' v') (nI C, nI L, wp, mp, ms, o, a, b, ye, yl, yo, ys, dn, rq, rs, cl, wl, ws, ml, mz, yr, 34000) v1 v2) v1 (nI B) (nI C) (nI L) wf (nI n) fp fc dn rq rs cl o a b xl xe xo xb ir rd 34000 34000 (B + 1) (nI 0) (nI 0) (nI 1120) (nI 0) := by
      refine xh_run_l hV hD hJ' hL' hB B 0 0 1120 (by omega) (by omega) tc_g0 (by omega) (B + 1) (by omega) ?_
      unfold wpY_run
      refine yh_reset (fun ml mz hW => ym_match hL' (fun yl ye yo ys hJy => ?_))
      have hJy' := hJy e
      rw [e]
      refine br_f (by decide) ?_
      have keyY : wY_run_43 (fun r' v' => r' = (tc_run L o (tc_F o a b dn rq rs cl) (tc_N o a b rs cl (tc_aim o L)) v1 B 1120 0 0).1 ∧ i_Rel (k + 5) (nI C, nI L, wf, nI n, fp, fc, nI (tc_run L o (tc_F o a b dn rq rs cl) (tc_N o a b rs cl (tc_aim o L)) v1 B 1120 0 0).2.1, nI (tc_run L o (tc_F o a b dn rq rs cl) (tc_N o a b rs cl (tc_aim o L)) v1 B 1120 0 0).2.2, dn, rq, rs, cl, o, a, b, xl, xe, xo, xb, ir, rd, 34000, 34000) v') v1 (nI B) (B + 1) (nI 0) (nI 0) (nI C) (nI L) wp (nI 0) (nI 0) o a b ye yl yo ys dn rq rs cl wl ws ml mz yr 34000 := by
        refine yh_run_l hV hD hJy' hL' hB B 0 0 1120 wp (nI 0) wl ws ml mz (by omega) (by omega) tc_g0 (by omega) hW (B + 1) (by omega) (fun wp mp wl ws ml mz hW' => ⟨rfl, ?_⟩)
        exact ir_mk hC hL hV hD hM (by omega) hW'
      rcases hx with ⟨h0, eB⟩ | ⟨h0, h1, eB⟩ | ⟨h0, h1, eB⟩
      · subst eB
        exact br_f h0 ⟨_, keyY⟩
      · rw [← eB] at keyY
        exact br_t h0 (br_t h1 ⟨_, keyY⟩)
      · subst eB
        exact br_t h0 (br_f h1 ⟨_, keyY⟩)
    unfold wpX_clamp
    rcases hx with ⟨h0, eB⟩ | ⟨h0, h1, eB⟩ | ⟨h0, h1, eB⟩
    · subst eB
      exact br_f h0 ⟨_, key⟩
    · rw [← eB] at key
      exact br_t h0 (br_t h1 ⟨_, key⟩)
    · subst eB
      exact br_t h0 (br_f h1 ⟨_, key⟩)
theorem i_vc_machinePc {k : Nat} {u : SX} {v : SY} (I : i_Rel k u v) (hk : k + 5 ≤ 2561) : wpX_machinePc (fun r => wpY_machinePc (fun r' => r' = r ∧ i_Rel (k + 5) u v) v) u := by
  have I' := i_up I
  obtain ⟨wf, fp, fc, ms, wp, mp, dn, rq, rs, cl, o, a, b, xl, xe, xo, xb, ir, rd, ye, yl, yo, ys, wl, ws, ml, mz, yr, C, L, n, c, rfl, rfl, hC, hL, hV, hD, hM, hc, hW⟩ := I
  unfold wpX_machinePc
  refine xh_pcOf (by omega) ?_
  unfold wpY_machinePc
  exact ⟨hW.1, I'⟩
theorem i_vc_stepsDone {k : Nat} {u : SX} {v : SY} (I : i_Rel k u v) (hk : k + 5 ≤ 2561) : wpX_stepsDone (fun r => wpY_stepsDone (fun r' => r' = r ∧ i_Rel (k + 5) u v) v) u := by
  have I' := i_up I
  obtain ⟨wf, fp, fc, ms, wp, mp, dn, rq, rs, cl, o, a, b, xl, xe, xo, xb, ir, rd, ye, yl, yo, ys, wl, ws, ml, mz, yr, C, L, n, c, rfl, rfl, hC, hL, hV, hD, hM, hc, hW⟩ := I
  exact ⟨rfl, I'⟩
theorem i_vc_objState {k : Nat} {u : SX} {v : SY} (I : i_Rel k u v) (hk : k + 5 ≤ 2561) (v1 : Int32) : wpX_objState (fun r => wpY_objState (fun r' => r' = r ∧ i_Rel (k + 5) u v) v v1) u v1 := by
  have I' := i_up I
  obtain ⟨wf, fp, fc, ms, wp, mp, dn, rq, rs, cl, o, a, b, xl, xe, xo, xb, ir, rd, ye, yl, yo, ys, wl, ws, ml, mz, yr, C, L, n, c, rfl, rfl, hC, hL, hV, hD, hM, hc, hW⟩ := I
  unfold wpX_objState
  refine xh_below 2 (by omega) (fun w => br_t rfl ?_) (fun w => br_f (by decide) ?_)
  · unfold wpY_objState
    exact yh_le 1 (by omega) (fun _ => ⟨rfl, I'⟩) (fun q => absurd q w)
  · obtain ⟨q, hq, rfl⟩ := w
    refine xh_stateOf (by omega) hq ?_
    unfold wpY_objState
    refine yh_le 1 (by omega) (fun w => absurd ⟨q, hq, rfl⟩ w) (fun _ => ⟨vp_in_nI hq (by omega), ?_⟩)
    rw [nI_clamp (by omega)]
    exact ⟨hW.2.2 q hq, I'⟩
theorem i_vc_localObject {k : Nat} {u : SX} {v : SY} (I : i_Rel k u v) (hk : k + 5 ≤ 2561) (v1 : Int32) : wpX_localObject (fun r => wpY_localObject (fun r' => r' = r ∧ i_Rel (k + 5) u v) v v1) u v1 := by
  have I' := i_up I
  obtain ⟨wf, fp, fc, ms, wp, mp, dn, rq, rs, cl, o, a, b, xl, xe, xo, xb, ir, rd, ye, yl, yo, ys, wl, ws, ml, mz, yr, C, L, n, c, rfl, rfl, hC, hL, hV, hD, hM, hc, hW⟩ := I
  unfold wpX_localObject
  refine xh_below 3 (by omega) (fun w => br_t rfl ?_) (fun w => br_f (by decide) ?_)
  · unfold wpY_localObject
    exact yh_lt 2 (by omega) (fun _ => ⟨rfl, I'⟩) (fun q => absurd q w)
  · obtain ⟨q, hq, rfl⟩ := w
    refine xh_localOf (by omega) hq ?_
    have hv := tc_l_lt c q
    by_cases z : tc_l c q = 0
    · refine br_t (by rw [z]; rfl) ?_
      unfold wpY_localObject
      refine yh_lt 2 (by omega) (fun w => absurd ⟨q, hq, rfl⟩ w) (fun _ => ⟨vp_in_nI hq (by omega), ?_⟩)
      rw [nI_clamp (by omega), hW.2.1 q hq]
      exact br_t (by rw [z]; rfl) ⟨rfl, I'⟩
    · refine br_f (nI_ne0 (by omega) (by omega)) (xh_objectIn hv ?_)
      unfold wpY_localObject
      refine yh_lt 2 (by omega) (fun w => absurd ⟨q, hq, rfl⟩ w) (fun _ => ⟨vp_in_nI hq (by omega), ?_⟩)
      rw [nI_clamp (by omega), hW.2.1 q hq]
      exact br_f (nI_ne0 (by omega) (by omega)) ⟨vp_in_nI hq (by omega), by decide, yh_ob z hv, I'⟩
theorem i_vc_localPerm {k : Nat} {u : SX} {v : SY} (I : i_Rel k u v) (hk : k + 5 ≤ 2561) (v1 : Int32) : wpX_localPerm (fun r => wpY_localPerm (fun r' => r' = r ∧ i_Rel (k + 5) u v) v v1) u v1 := by
  have I' := i_up I
  obtain ⟨wf, fp, fc, ms, wp, mp, dn, rq, rs, cl, o, a, b, xl, xe, xo, xb, ir, rd, ye, yl, yo, ys, wl, ws, ml, mz, yr, C, L, n, c, rfl, rfl, hC, hL, hV, hD, hM, hc, hW⟩ := I
  unfold wpX_localPerm
  refine xh_below 3 (by omega) (fun w => br_t rfl ?_) (fun w => br_f (by decide) ?_)
  · unfold wpY_localPerm
    exact yh_le 2 (by omega) (fun _ => ⟨rfl, I'⟩) (fun q => absurd q w)
  · obtain ⟨q, hq, rfl⟩ := w
    refine xh_localOf (by omega) hq ?_
    have hv := tc_l_lt c q
    by_cases z : tc_l c q = 0
    · refine br_t (by rw [z]; rfl) ?_
      unfold wpY_localPerm
      refine yh_le 2 (by omega) (fun w => absurd ⟨q, hq, rfl⟩ w) (fun _ => ⟨vp_in_nI hq (by omega), ?_⟩)
      rw [nI_clamp (by omega), hW.2.1 q hq]
      exact br_t (by rw [z]; rfl) ⟨rfl, I'⟩
    · refine br_f (nI_ne0 (by omega) (by omega)) (xh_permIn hv ?_)
      unfold wpY_localPerm
      refine yh_le 2 (by omega) (fun w => absurd ⟨q, hq, rfl⟩ w) (fun _ => ⟨vp_in_nI hq (by omega), ?_⟩)
      rw [nI_clamp (by omega), hW.2.1 q hq]
      exact br_f (nI_ne0 (by omega) (by omega)) ⟨vp_in_nI hq (by omega), by decide, yh_pm z hv, I'⟩
