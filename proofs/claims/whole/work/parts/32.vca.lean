theorem ir_VD_d {rq rs cl : Nat → Int32} {k r1 r2 : Nat} (h : tc_VD rq rs cl) (h1 : r1 < 4) (h2 : r2 < 4) : tc_VD (upd rq k (nI r1)) (upd rs k (nI r2)) cl := by
  refine ⟨fun j hj => ?_, fun j hj => ?_, h.2.2⟩
  · by_cases e : j = k
    · exact ⟨r1, h1, by rw [e, pk_us]⟩
    · rw [pk_un e]; exact h.1 j hj
  · by_cases e : j = k
    · exact ⟨r2, h2, by rw [e, pk_us]⟩
    · rw [pk_un e]; exact h.2.1 j hj
theorem ir_VD_c {rq rs cl : Nat → Int32} {k r : Nat} (h : tc_VD rq rs cl) (h1 : r < 2) : tc_VD rq rs (upd cl k (nI r)) := by
  refine ⟨h.1, h.2.1, fun j hj => ?_⟩
  by_cases e : j = k
  · exact ⟨r, h1, by rw [e, pk_us]⟩
  · rw [pk_un e]; exact h.2.2 j hj
theorem i_vc_declare {k : Nat} {u : SX} {v : SY} (I : i_Rel k u v) (hk : k + 5 ≤ 2561) (v1 : Int32) (v2 : Int32) (v3 : Int32) (v4 : Int32) : wpX_declare (fun r u' => wpY_declare (fun r' v' => r' = r ∧ i_Rel (k + 5) u' v') v v1 v2 v3 v4) u v1 v2 v3 v4 := by
  obtain ⟨wf, fp, fc, ms, wp, mp, dn, rq, rs, cl, o, a, b, xl, xe, xo, xb, ir, rd, ye, yl, yo, ys, wl, ws, ml, mz, yr, C, L, n, c, rfl, rfl, hC, hL, hV, hD, hM, hc, hW⟩ := I
  have same := ir_mk (k := k + 5) (wf := wf) (fp := fp) (fc := fc) (ms := ms) (wp := wp) (dn := dn) (xl := xl) (xe := xe) (xo := xo) (xb := xb) (ye := ye) (yl := yl) (yo := yo) (ys := ys) (wl := wl) (ws := ws) (yr := yr) hC hL hV hD hM hc hW
  unfold wpX_declare
  by_cases q1 : tc_in 2 v1
  · by_cases q2 : tc_in 4 v2
    · by_cases q3 : tc_in 4 v3
      · by_cases q4 : tc_in 4 v4
        · obtain ⟨j1, h1, rfl⟩ := q1
          obtain ⟨j2, h2, rfl⟩ := q2
          obtain ⟨j3, h3, rfl⟩ := q3
          obtain ⟨j4, h4, rfl⟩ := q4
          have em : nI j1 * 4 + nI j2 = nI (j1 * 4 + j2) := by
            show nI j1 * nI 4 + nI j2 = _
            rw [pk_mul, nI_add]
          have vi : vp_in (nI (j1 * 4 + j2)) 8 := vp_in_nI (by omega) (by omega)
          refine xh_below 2 (by omega) (fun w => absurd ⟨j1, h1, rfl⟩ w) (fun _ => br_f (by decide) ?_)
          refine xh_below 4 (by omega) (fun w => absurd ⟨j2, h2, rfl⟩ w) (fun _ => br_f (by decide) ?_)
          refine xh_below 4 (by omega) (fun w => absurd ⟨j3, h3, rfl⟩ w) (fun _ => br_f (by decide) ?_)
          refine xh_below 4 (by omega) (fun w => absurd ⟨j4, h4, rfl⟩ w) (fun _ => br_f (by decide) ?_)
          refine nm_r em ⟨vi, nm_e ⟨vi, nm_e ⟨vi, nm_e ?_⟩⟩⟩
          unfold wpY_declare
          refine yh_lt 1 (by omega) (fun w => absurd ⟨j1, h1, rfl⟩ w) (fun _ => ?_)
          refine yh_lt 3 (by omega) (fun w => absurd ⟨j2, h2, rfl⟩ w) (fun _ => ?_)
          refine yh_lt 3 (by omega) (fun w => absurd ⟨j3, h3, rfl⟩ w) (fun _ => ?_)
          refine yh_le 3 (by omega) (fun w => absurd ⟨j4, h4, rfl⟩ w) (fun _ => ?_)
          rw [em]
          exact ⟨vi, nm_e ⟨vi, nm_e ⟨vi, nm_e ⟨rfl, ir_mk hC hL hV (ir_VD_d hD h3 h4) hM hc hW⟩⟩⟩⟩
        · refine xh_below 2 (by omega) (fun w => absurd q1 w) (fun _ => br_f (by decide) ?_)
          refine xh_below 4 (by omega) (fun w => absurd q2 w) (fun _ => br_f (by decide) ?_)
          refine xh_below 4 (by omega) (fun w => absurd q3 w) (fun _ => br_f (by decide) ?_)
          refine xh_below 4 (by omega) (fun _ => br_t rfl ?_) (fun w => absurd w q4)
          unfold wpY_declare
          refine yh_lt 1 (by omega) (fun w => absurd q1 w) (fun _ => ?_)
          refine yh_lt 3 (by omega) (fun w => absurd q2 w) (fun _ => ?_)
          refine yh_lt 3 (by omega) (fun w => absurd q3 w) (fun _ => ?_)
          exact yh_le 3 (by omega) (fun _ => ⟨rfl, same⟩) (fun w => absurd w q4)
      · refine xh_below 2 (by omega) (fun w => absurd q1 w) (fun _ => br_f (by decide) ?_)
        refine xh_below 4 (by omega) (fun w => absurd q2 w) (fun _ => br_f (by decide) ?_)
        refine xh_below 4 (by omega) (fun _ => br_t rfl ?_) (fun w => absurd w q3)
        unfold wpY_declare
        refine yh_lt 1 (by omega) (fun w => absurd q1 w) (fun _ => ?_)
        refine yh_lt 3 (by omega) (fun w => absurd q2 w) (fun _ => ?_)
        exact yh_lt 3 (by omega) (fun _ => ⟨rfl, same⟩) (fun w => absurd w q3)
    · refine xh_below 2 (by omega) (fun w => absurd q1 w) (fun _ => br_f (by decide) ?_)
      refine xh_below 4 (by omega) (fun _ => br_t rfl ?_) (fun w => absurd w q2)
      unfold wpY_declare
      refine yh_lt 1 (by omega) (fun w => absurd q1 w) (fun _ => ?_)
      exact yh_lt 3 (by omega) (fun _ => ⟨rfl, same⟩) (fun w => absurd w q2)
  · refine xh_below 2 (by omega) (fun _ => br_t rfl ?_) (fun w => absurd w q1)
    unfold wpY_declare
    exact yh_lt 1 (by omega) (fun _ => ⟨rfl, same⟩) (fun w => absurd w q1)
theorem i_vc_setClass {k : Nat} {u : SX} {v : SY} (I : i_Rel k u v) (hk : k + 5 ≤ 2561) (v1 : Int32) (v2 : Int32) : wpX_setClass (fun r u' => wpY_setClass (fun r' v' => r' = r ∧ i_Rel (k + 5) u' v') v v1 v2) u v1 v2 := by
  obtain ⟨wf, fp, fc, ms, wp, mp, dn, rq, rs, cl, o, a, b, xl, xe, xo, xb, ir, rd, ye, yl, yo, ys, wl, ws, ml, mz, yr, C, L, n, c, rfl, rfl, hC, hL, hV, hD, hM, hc, hW⟩ := I
  have same := ir_mk (k := k + 5) (wf := wf) (fp := fp) (fc := fc) (ms := ms) (wp := wp) (dn := dn) (xl := xl) (xe := xe) (xo := xo) (xb := xb) (ye := ye) (yl := yl) (yo := yo) (ys := ys) (wl := wl) (ws := ws) (yr := yr) hC hL hV hD hM hc hW
  unfold wpX_setClass
  by_cases q1 : tc_in 2 v1
  · by_cases q2 : tc_in 2 v2
    · obtain ⟨j1, h1, rfl⟩ := q1
      obtain ⟨j2, h2, rfl⟩ := q2
      refine xh_below 2 (by omega) (fun w => absurd ⟨j1, h1, rfl⟩ w) (fun _ => br_f (by decide) ?_)
      refine xh_below 2 (by omega) (fun w => absurd ⟨j2, h2, rfl⟩ w) (fun _ => br_f (by decide) ?_)
      refine ⟨vp_in_nI h1 (by omega), nm_e ?_⟩
      unfold wpY_setClass
      refine yh_lt 1 (by omega) (fun w => absurd ⟨j1, h1, rfl⟩ w) (fun _ => ?_)
      refine yh_le 1 (by omega) (fun w => absurd ⟨j2, h2, rfl⟩ w) (fun _ => ?_)
      exact ⟨vp_in_nI h1 (by omega), nm_e ⟨rfl, ir_mk hC hL hV (ir_VD_c hD h2) hM hc hW⟩⟩
    · refine xh_below 2 (by omega) (fun w => absurd q1 w) (fun _ => br_f (by decide) ?_)
      refine xh_below 2 (by omega) (fun _ => br_t rfl ?_) (fun w => absurd w q2)
      unfold wpY_setClass
      refine yh_lt 1 (by omega) (fun w => absurd q1 w) (fun _ => ?_)
      exact yh_le 1 (by omega) (fun _ => ⟨rfl, same⟩) (fun w => absurd w q2)
  · refine xh_below 2 (by omega) (fun _ => br_t rfl ?_) (fun w => absurd w q1)
    unfold wpY_setClass
    exact yh_lt 1 (by omega) (fun _ => ⟨rfl, same⟩) (fun w => absurd w q1)
theorem ir_VP_a {o a b : Nat → Int32} {L : Nat} {x v w : Int32} (h : tc_VP o a b L) (hx : tc_V1 x v w) : tc_VP (upd o L x) (upd a L v) (upd b L w) (L + 1) := by
  intro p hp
  by_cases e : p = L
  · rw [e, pk_us, pk_us, pk_us]; exact hx
  · rw [pk_un e, pk_un e, pk_un e]; exact h p (by omega)
theorem i_vc_add {k : Nat} {u : SX} {v : SY} (I : i_Rel k u v) (hk : k + 5 ≤ 2561) (v1 : Int32) (v2 : Int32) (v3 : Int32) : wpX_add (fun r u' => wpY_add (fun r' v' => r' = r ∧ i_Rel (k + 5) u' v') v v1 v2 v3) u v1 v2 v3 := by
  obtain ⟨wf, fp, fc, ms, wp, mp, dn, rq, rs, cl, o, a, b, xl, xe, xo, xb, ir, rd, ye, yl, yo, ys, wl, ws, ml, mz, yr, C, L, n, c, rfl, rfl, hC, hL, hV, hD, hM, hc, hW⟩ := I
  have same := ir_mk (k := k + 5) (wf := wf) (fp := fp) (fc := fc) (ms := ms) (wp := wp) (dn := dn) (xl := xl) (xe := xe) (xo := xo) (xb := xb) (ye := ye) (yl := yl) (yo := yo) (ys := ys) (wl := wl) (ws := ws) (yr := yr) hC hL hV hD hM hc hW
  unfold wpX_add
  by_cases hf : C ≤ L
  · have g : nI C ≤ nI L := nI_le hf (by omega)
    refine br_t g ?_
    unfold wpY_add
    exact br_t g ⟨rfl, same⟩
  · have g : ¬ nI C ≤ nI L := nI_ge (by omega) (by omega)
    have vi : vp_in (nI L) 16 := vp_in_nI (by omega) (by omega)
    refine br_f g (xh_isSt (fun j j1 j2 ej h2 => ?_) (fun h0 => ?_))
    · refine br_f (by decide) ⟨vi, ?_⟩
      rw [nI_clamp (by omega)]
      refine nm_e ⟨vi, nm_e ⟨vi, nm_e (nm_r (nI_1 L) (yh_add g (fun j' j1' j2' ej' h2' => ?_) (fun h0 => ?_)))⟩⟩
      · unfold wY_add_106
        refine ⟨vi, ?_⟩
        rw [nI_clamp (by omega)]
        refine nm_e ⟨vi, nm_e ⟨vi, nm_e (nm_r (nI_1 L) ⟨nI_pred L, ir_mk hC (by omega) (ir_VP_a hV ?_) hD hM hc hW⟩)⟩⟩
        rw [ej]
        exact tc_V12 j1 j2 h2
      · exfalso
        rw [ej] at h0
        rcases h0 with w | ⟨_, w⟩ | ⟨j', _, _, e', w⟩
        · exact nI_nlt (b := 1) j1 (by omega) w
        · exact nI_nlt (a := 9) (by omega) (by omega) w
        · rw [nI_eq (by omega) (by omega)] at e'
          rw [← e'] at w
          exact w h2
    · refine br_t rfl (yh_add g (fun j' j1' j2' ej' h2' => ?_) (fun _ => ⟨rfl, same⟩))
      exfalso
      rw [ej'] at h0
      rcases h0 with w | ⟨_, w⟩ | ⟨j, _, _, e', w⟩
      · exact nI_nlt (b := 1) j1' (by omega) w
      · exact nI_nlt (a := 9) (by omega) (by omega) w
      · rw [nI_eq (by omega) (by omega)] at e'
        rw [← e'] at w
        exact w h2'
theorem i_vc_clear {k : Nat} {u : SX} {v : SY} (I : i_Rel k u v) (hk : k + 5 ≤ 2561) : wpX_clear (fun u' => wpY_clear (fun v' => i_Rel (k + 5) u' v') v) u := by
  obtain ⟨wf, fp, fc, ms, wp, mp, dn, rq, rs, cl, o, a, b, xl, xe, xo, xb, ir, rd, ye, yl, yo, ys, wl, ws, ml, mz, yr, C, L, n, c, rfl, rfl, hC, hL, hV, hD, hM, hc, hW⟩ := I
  unfold wpX_clear
  unfold wpX_resetMachine
  unfold wpY_clear
  exact yh_reset (fun ml mz hW => ir_mk (L := 0) (c := 1120) hC (by omega) ir_VP0 hD hM (by omega) hW)
theorem i_vc_length {k : Nat} {u : SX} {v : SY} (I : i_Rel k u v) (hk : k + 5 ≤ 2561) : wpX_length (fun r => wpY_length (fun r' => r' = r ∧ i_Rel (k + 5) u v) v) u := by
  have I' := i_up I
  obtain ⟨wf, fp, fc, ms, wp, mp, dn, rq, rs, cl, o, a, b, xl, xe, xo, xb, ir, rd, ye, yl, yo, ys, wl, ws, ml, mz, yr, C, L, n, c, rfl, rfl, hC, hL, hV, hD, hM, hc, hW⟩ := I
  exact ⟨rfl, I'⟩
