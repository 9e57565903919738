/-- the relation: one program, one protocol, one machine; X's marks are those of its list -/
def i_Rel (_ : Nat) (u : SX) (v : SY) : Prop := ∃ (wf fp fc ms wp mp : Int32) (dn rq rs cl o a b xl xe xo xb ir rd ye yl yo ys wl ws ml mz yr : Nat → Int32) (C L n c : Nat),
  u = (nI C, nI L, wf, nI n, fp, fc, nI c, ms, dn, rq, rs, cl, o, a, b, xl, xe, xo, xb, ir, rd, 34000, 34000) ∧ v = (nI C, nI L, wp, mp, ms, o, a, b, ye, yl, yo, ys, dn, rq, rs, cl, wl, ws, ml, mz, yr, 34000) ∧ C ≤ 16 ∧ L ≤ C ∧ tc_VP o a b L ∧ tc_VD rq rs cl ∧ tc_MR ir rd n ∧ c < 34000 ∧ tc_W mp ml mz c
theorem ir_mk {k : Nat} {wf fp fc ms wp mp : Int32} {dn rq rs cl o a b xl xe xo xb ir rd ye yl yo ys wl ws ml mz yr : Nat → Int32} {C L n c : Nat}
    (hC : C ≤ 16) (hL : L ≤ C) (hV : tc_VP o a b L) (hD : tc_VD rq rs cl) (hM : tc_MR ir rd n) (hc : c < 34000) (hW : tc_W mp ml mz c) : i_Rel k (nI C, nI L, wf, nI n, fp, fc, nI c, ms, dn, rq, rs, cl, o, a, b, xl, xe, xo, xb, ir, rd, 34000, 34000) (nI C, nI L, wp, mp, ms, o, a, b, ye, yl, yo, ys, dn, rq, rs, cl, wl, ws, ml, mz, yr, 34000) :=
  ⟨wf, fp, fc, ms, wp, mp, dn, rq, rs, cl, o, a, b, xl, xe, xo, xb, ir, rd, ye, yl, yo, ys, wl, ws, ml, mz, yr, C, L, n, c, rfl, rfl, hC, hL, hV, hD, hM, hc, hW⟩
theorem i_up {k : Nat} {u : SX} {v : SY} (h : i_Rel k u v) : i_Rel (k + 5) u v := h
theorem ir_VD0 : tc_VD (fun _ => 0) (fun _ => 0) (fun _ => 0) := ⟨fun _ _ => ⟨0, by omega, rfl⟩, fun _ _ => ⟨0, by omega, rfl⟩, fun _ _ => ⟨0, by omega, rfl⟩⟩
theorem ir_VP0 {o a b : Nat → Int32} : tc_VP o a b 0 := fun p hp => absurd hp (by omega)
theorem ir_init {k0 : Int32} (C : Nat) (hC : C ≤ 16) (e : k0 = nI C) : wY_init_151 (fun v => i_Rel 1 (k0, 0, 1, 0, (-1), (-1), 1120, 0, (fun _ => 0), (fun _ => 0), (fun _ => 0), (fun _ => 0), (fun _ => 0), (fun _ => 0), (fun _ => 0), (fun _ => 0), (fun _ => 0), (fun _ => 0), (fun _ => 0), (fun _ => 0), (fun _ => 0), 34000, 34000) v) k0 0 0 0 0 0 (fun _ => 0) (fun _ => 0) (fun _ => 0) (fun _ => 0) (fun _ => 0) (fun _ => 0) (fun _ => 0) (fun _ => 0) (fun _ => 0) (fun _ => 0) (fun _ => 0) (fun _ => 0) (fun _ => 0) (fun _ => 0) (fun _ => 0) (fun _ => 0) 34000 := by
  subst e
  unfold wY_init_151
  exact yh_reset (fun ml mz hW => ir_mk (L := 0) (n := 0) (c := 1120) hC (by omega) ir_VP0 ir_VD0 tc_MR_0 (by omega) hW)
theorem i_vc0 (k0 : Int32) : wpX_init (fun u => wpY_init (fun v => i_Rel 1 u v) k0) k0 := by
  unfold wpX_init wpY_init wpX_clamp
  have e : (34000 : Int32).toNatClampNeg = 34000 := by decide
  refine ⟨by decide, nm_r e ⟨by omega, by decide, nm_r e ⟨by omega, ?_⟩⟩⟩
  by_cases h8 : 8 ≤ k0
  · by_cases h16 : k0 ≤ 16
    · obtain ⟨_, j, hj, _, ej⟩ := tc_in_ge (n := 8) h8 (by omega)
      have hj16 : j ≤ 16 := by
        rw [ej] at h16
        exact (nI_leI (b := 16) hj (by omega)).mp h16
      exact br_t h8 (br_t h16 ⟨by decide, nm_r e ⟨by omega, br_t h8 (br_t h16 (ir_init j hj16 ej))⟩⟩)
    · exact br_t h8 (br_f h16 ⟨by decide, nm_r e ⟨by omega, br_t h8 (br_f h16 (ir_init 16 (by omega) rfl))⟩⟩)
  · exact br_f h8 ⟨by decide, nm_r e ⟨by omega, br_f h8 (ir_init 8 (by omega) rfl)⟩⟩
