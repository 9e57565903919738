/-! X's helpers -/
def tc_in (N : Nat) (x : Int32) : Prop := ∃ j, j < N ∧ x = nI j
theorem tc_in_ge {n : Nat} {x : Int32} (h : nI n ≤ x) (hn : n < 2 ^ 31) : ¬ x < 0 ∧ ∃ j, j < 2 ^ 31 ∧ n ≤ j ∧ x = nI j := by
  have h0 : ¬ x < 0 := by
    rw [Int32.lt_iff_toInt_lt, show (0 : Int32).toInt = 0 from by decide]
    rw [Int32.le_iff_toInt_le, nI_toInt hn] at h
    omega
  obtain ⟨j, hj, rfl⟩ := nI_of h0
  rw [nI_leI hn hj] at h
  exact ⟨h0, j, hj, h, rfl⟩
theorem xh_below {post : Int32 → Prop} {x : Int32} (N : Nat) (hN : N < 2 ^ 31) (h0 : ¬ tc_in N x → post 0) (h1 : tc_in N x → post 1) : wpX_isBelow post x (nI N) := by
  unfold wpX_isBelow
  rcases pk_ix x hN with h | h | ⟨j, hj, rfl⟩
  · exact br_t h (h0 (fun ⟨j, hj, e⟩ => nI_pos (n := j) (by omega) (e ▸ h)))
  · obtain ⟨a1, j, hj, hn, rfl⟩ := tc_in_ge h hN
    refine br_f a1 (br_t h (h0 ?_))
    rintro ⟨i, hi, e⟩
    rw [nI_eq hj (by omega)] at e
    omega
  · exact br_f (nI_pos (by omega)) (br_f (nI_ge hj hN) (h1 ⟨j, hj, rfl⟩))
theorem yh_lt {A B : Prop} {x : Int32} (N : Nat) (hN : N + 1 < 2 ^ 31) (h0 : ¬ tc_in (N + 1) x → A) (h1 : tc_in (N + 1) x → B) : (x < 0 → A) ∧ (¬ x < 0 → ((nI N < x → A) ∧ (¬ nI N < x → B))) := by
  rcases pk_ix x hN with h | h | ⟨j, hj, rfl⟩
  · exact br_t h (h0 (fun ⟨j, hj, e⟩ => nI_pos (n := j) (by omega) (e ▸ h)))
  · obtain ⟨a1, j, hj, hn, rfl⟩ := tc_in_ge h hN
    refine br_f a1 (br_t (nI_lt (by omega) hj) (h0 ?_))
    rintro ⟨i, hi, e⟩
    rw [nI_eq hj (by omega)] at e
    omega
  · exact br_f (nI_pos (by omega)) (br_f (nI_nlt (by omega) (by omega)) (h1 ⟨j, hj, rfl⟩))
theorem yh_le {A B : Prop} {x : Int32} (N : Nat) (hN : N + 1 < 2 ^ 31) (h0 : ¬ tc_in (N + 1) x → A) (h1 : tc_in (N + 1) x → B) : (x < 0 → A) ∧ (¬ x < 0 → ((x ≤ nI N → B) ∧ (¬ x ≤ nI N → A))) := by
  rcases pk_ix x hN with h | h | ⟨j, hj, rfl⟩
  · exact br_t h (h0 (fun ⟨j, hj, e⟩ => nI_pos (n := j) (by omega) (e ▸ h)))
  · obtain ⟨a1, j, hj, hn, rfl⟩ := tc_in_ge h hN
    refine br_f a1 (br_f (nI_ge (by omega) hj) (h0 ?_))
    rintro ⟨i, hi, e⟩
    rw [nI_eq hj (by omega)] at e
    omega
  · exact br_f (nI_pos (by omega)) (br_t (nI_le (by omega) (by omega)) (h1 ⟨j, hj, rfl⟩))
theorem xh_dr {c U d : Nat} (hc : c < 2 ^ 31) (hU : 0 < U) (hU2 : U < 2 ^ 31) (hd : 0 < d) (hd2 : d < 2 ^ 31) : nI c / nI U - nI c / nI U / nI d * nI d = nI (c / U % d) := by
  rw [pk_div hc hU hU2, pk_rem (Nat.lt_of_le_of_lt (Nat.div_le_self _ _) hc) hd hd2]
theorem xh_pcOf {post : Int32 → Prop} {c : Nat} (hc : c < 2 ^ 31) (h : post (nI (c / 2000))) : wpX_pcOf post (nI c) := by
  refine ⟨by decide, ?_⟩
  show post (nI c / nI 2000)
  rw [pk_div hc (by omega) (by omega)]
  exact h
theorem xh_localOf {post : Int32 → Prop} {c i : Nat} (hc : c < 2 ^ 31) (hi : i < 3) (h : post (nI (tc_l c i))) : wpX_localOf post (nI c) (nI i) := by
  unfold wpX_localOf
  rcases tc_c3 hi with rfl | rfl | rfl
  · refine br_t (by decide) ⟨by decide, by decide, ?_⟩
    show post (nI c / nI 400 - nI c / nI 400 / nI 5 * nI 5)
    rw [xh_dr hc (by omega) (by omega) (by omega) (by omega)]; exact h
  · refine br_f (by decide) (br_t (by decide) ⟨by decide, by decide, ?_⟩)
    show post (nI c / nI 80 - nI c / nI 80 / nI 5 * nI 5)
    rw [xh_dr hc (by omega) (by omega) (by omega) (by omega)]; exact h
  · refine br_f (by decide) (br_f (by decide) ⟨by decide, by decide, ?_⟩)
    show post (nI c / nI 16 - nI c / nI 16 / nI 5 * nI 5)
    rw [xh_dr hc (by omega) (by omega) (by omega) (by omega)]; exact h
theorem xh_stateOf {post : Int32 → Prop} {c j : Nat} (hc : c < 2 ^ 31) (hj : j < 2) (h : post (nI (tc_s c j))) : wpX_stateOf post (nI c) (nI j) := by
  unfold wpX_stateOf
  rcases tc_c2 hj with rfl | rfl
  · refine br_t (by decide) ⟨by decide, by decide, ?_⟩
    show post (nI c / nI 4 - nI c / nI 4 / nI 4 * nI 4)
    rw [xh_dr hc (by omega) (by omega) (by omega) (by omega)]; exact h
  · refine br_f (by decide) ⟨by decide, ?_⟩
    show post (nI c - nI c / nI 4 * nI 4)
    rw [pk_rem hc (by omega) (by omega)]; exact h
theorem xh_objectIn {post : Int32 → Prop} {v : Nat} (hv : v < 5) (h : post (nI (tc_ob v))) : wpX_objectIn post (nI v) := by
  unfold wpX_objectIn
  by_cases e : 2 < v
  · refine br_f (nI_ge e (by omega)) ?_
    rw [tc_ob, if_pos e] at h; exact h
  · refine br_t (nI_le (b := 2) (by omega) (by omega)) ?_
    rw [tc_ob, if_neg e] at h; exact h
theorem xh_permIn {post : Int32 → Prop} {v : Nat} (hv : v < 5) (h : post (nI (tc_pm v))) : wpX_permissionIn post (nI v) := by
  unfold wpX_permissionIn
  by_cases e : 2 < v
  · refine br_f (nI_ge e (by omega)) ?_
    rw [tc_pm, if_pos e] at h
    show post (nI v - nI 2)
    rw [pk_sub (by omega)]; exact h
  · refine br_t (nI_le (b := 2) (by omega) (by omega)) ?_
    rw [tc_pm, if_neg e] at h; exact h
theorem xh_withState {post : Int32 → Prop} {c j v : Nat} (hc : c < 2 ^ 31) (hj : j < 2) (h : post (nI (tc_ws c j v))) : wpX_withState post (nI c) (nI j) (nI v) := by
  unfold wpX_withState
  refine xh_stateOf hc hj (nm_e ?_)
  rw [← tc_xs] at h
  rcases tc_c2 hj with rfl | rfl
  · exact br_t (by decide) h
  · exact br_f (by decide) h
theorem xh_withLocal {post : Int32 → Prop} {c i v : Nat} (hc : c < 2 ^ 31) (hi : i < 3) (h : post (nI (tc_wl c i v))) : wpX_withLocal post (nI c) (nI i) (nI v) := by
  unfold wpX_withLocal
  refine xh_localOf hc hi (nm_e ?_)
  rw [← tc_xl] at h
  rcases tc_c3 hi with rfl | rfl | rfl
  · exact br_t (by decide) h
  · exact br_f (by decide) (br_t (by decide) h)
  · exact br_f (by decide) (br_f (by decide) h)
theorem xh_withPc {post : Int32 → Prop} {c p : Nat} (hc : c < 2 ^ 31) (h : post (nI (tc_wp c p))) : wpX_withPc post (nI c) (nI p) := by
  refine ⟨by decide, ?_⟩
  show post (nI c - nI c / nI 2000 * nI 2000 + nI p * nI 2000)
  rw [pk_rem hc (by omega) (by omega), pk_mul, nI_add]
  exact h
theorem xh_wl_lt {c i v : Nat} (hc : c < 34000) (hv : v < 5) (hi : i < 3) : tc_wl c i v < 2 ^ 31 := by
  unfold tc_wl tc_U
  rcases tc_c3 hi with rfl | rfl | rfl
  · rw [if_pos rfl]; omega
  · rw [if_neg (by omega), if_pos rfl]; omega
  · rw [if_neg (by omega), if_neg (by omega)]; omega
theorem xh_2000 {post : Int32 → Prop} {n : Nat} (h : post (nI (n + 2000))) : post (nI n + 2000) := by
  rw [← nI_add] at h; exact h
/-! X's step -/
def tc_rs (f n : Nat) : Int32 := if f = 0 then nI n else -nI f
section
variable {cp ct wf rc fp fc mc ms : Int32} {dn rq rs cl o a b xl xe xo xb ir rd : Nat → Int32} {c x y L : Nat} {T : Nat → Nat} {post : Int32 → Prop} {d : Int32}
theorem xh_call (hD : tc_VD rq rs cl) (hc : c < 34000) (hx : x < 3) (hy : y < 4) (h : post (tc_rs (tc_Fc dn rq rs cl c x y) (tc_Nc rs cl c x y))) : wpX_stepCall post (cp, ct, wf, rc, fp, fc, mc, ms, dn, rq, rs, cl, o, a, b, xl, xe, xo, xb, ir, rd, 34000, 34000) (nI c) (nI x) (nI y) := by
  unfold wpX_stepCall
  have hv := tc_l_lt c x
  refine xh_localOf (by omega) hx ?_
  by_cases z1 : tc_l c x = 0
  · refine br_t (by rw [z1]; rfl) ?_
    rw [show tc_Fc dn rq rs cl c x y = 1 from if_pos z1] at h; exact h
  refine br_f (nI_ne0 (by omega) (by omega)) (xh_objectIn hv ?_)
  have ho := tc_ob_lt (tc_l c x)
  have hk := tc_k_lt hD (v := tc_l c x) hy
  obtain ⟨q, hq, eq⟩ := hD.2.2 _ ho
  obtain ⟨r1, hr1, er1⟩ := hD.1 _ hk
  obtain ⟨r2, hr2, er2⟩ := hD.2.1 _ hk
  have ek : cl (nI (tc_ob (tc_l c x))).toNatClampNeg * 4 + nI y = nI (tc_k cl (tc_l c x) y) := by
    rw [nI_clamp (by omega), eq]
    show nI q * nI 4 + nI y = _
    rw [pk_mul, nI_add]
    unfold tc_k
    rw [eq, nI_clamp (by omega)]
  have ci := nI_clamp (n := tc_k cl (tc_l c x) y) (by omega)
  have vi : vp_in (nI (tc_k cl (tc_l c x) y)) 8 := vp_in_nI hk (by omega)
  refine ⟨vp_in_nI ho (by omega), nm_r ek ⟨vi, ?_⟩⟩
  rw [ci]
  by_cases z2 : dn (tc_k cl (tc_l c x) y) = 0
  · refine br_t z2 ?_
    rw [show tc_Fc dn rq rs cl c x y = 2 from (if_neg z1).trans (if_pos z2)] at h; exact h
  refine br_f z2 (xh_stateOf (by omega) ho ⟨vi, ?_⟩)
  by_cases z3 : nI (tc_s c (tc_ob (tc_l c x))) = rq (tc_k cl (tc_l c x) y)
  · refine br_t z3 ⟨vi, vi, ?_⟩
    have fin : tc_Fc dn rq rs cl c x y = 0 → wX_stepCall_107 post (nI c) (nI (tc_ob (tc_l c x))) (nI (tc_k cl (tc_l c x) y)) cp ct wf rc fp fc mc ms dn rq rs cl o a b xl xe xo xb ir rd 34000 34000 := by
      intro hf
      unfold wX_stepCall_107
      refine ⟨vi, ?_⟩
      rw [ci, er2]
      refine xh_withState (by omega) ho (xh_2000 ?_)
      rw [hf, tc_rs, if_pos rfl, tc_Nc, er2, nI_clamp (by omega)] at h
      exact h
    by_cases z4 : rs (tc_k cl (tc_l c x) y) = rq (tc_k cl (tc_l c x) y)
    · refine br_t z4 ?_
      unfold wX_stepCall_88
      exact br_t rfl (fin ((if_neg z1).trans ((if_neg z2).trans ((if_neg (fun w => w z3)).trans (if_neg (fun w => w.1 z4))))))
    · refine br_f z4 ?_
      unfold wX_stepCall_88
      refine br_f (by decide) (xh_permIn hv ?_)
      by_cases z5 : tc_pm (tc_l c x) = 2
      · exact br_t (by rw [z5]; rfl) (fin ((if_neg z1).trans ((if_neg z2).trans ((if_neg (fun w => w z3)).trans (if_neg (fun w => w.2 z5))))))
      · have hp : tc_pm (tc_l c x) < 5 := by unfold tc_pm; split <;> omega
        refine br_f (fun w => z5 ((nI_eq (b := 2) (by omega) (by omega)).mp w)) ?_
        rw [show tc_Fc dn rq rs cl c x y = 4 from (if_neg z1).trans ((if_neg z2).trans ((if_neg (fun w => w z3)).trans (if_pos ⟨z4, z5⟩)))] at h; exact h
  · refine br_f z3 ?_
    rw [show tc_Fc dn rq rs cl c x y = 3 from (if_neg z1).trans ((if_neg z2).trans (if_pos z3))] at h; exact h
theorem tc_pm_lt {v : Nat} (h : v < 5) : tc_pm v < 5 := by unfold tc_pm; split <;> omega
theorem xh_share (hc : c < 34000) (hx : x < 3) (hy : y < 3) (h : post (tc_rs (tc_Fs c x y) (tc_Ns c x y))) : wpX_stepShare post (nI c) (nI x) (nI y) := by
  unfold wpX_stepShare
  have hv := tc_l_lt c y
  have hw := tc_l_lt c x
  refine xh_localOf (by omega) hy ?_
  by_cases z1 : tc_l c y = 0
  · refine br_t (by rw [z1]; rfl) ?_
    rw [show tc_Fs c x y = 1 from if_pos z1] at h; exact h
  refine br_f (nI_ne0 (by omega) (by omega)) (xh_localOf (by omega) hx ?_)
  by_cases z2 : tc_l c x = 0
  · refine br_t (by rw [z2]; rfl) (xh_permIn hv ?_)
    by_cases z3 : tc_pm (tc_l c y) = 2
    · refine br_t (by rw [z3]; rfl) (xh_objectIn hv ?_)
      have eh : (2 : Int32) * nI (tc_ob (tc_l c y)) + 1 = nI (tc_h c y) := by
        show nI 2 * nI _ + nI 1 = _
        rw [pk_mul, nI_add]; rfl
      refine nm_r eh (xh_withLocal (by omega) hy (xh_withLocal (xh_wl_lt hc (tc_h_lt c y) hy) hx (xh_2000 ?_)))
      rw [show tc_Fs c x y = 0 from (if_neg z1).trans ((if_neg (fun w => w z2)).trans (if_neg (fun w => w z3))), tc_rs, if_pos rfl] at h
      exact h
    · have hp := tc_pm_lt hv
      refine br_f (fun w => z3 ((nI_eq (b := 2) (by omega) (by omega)).mp w)) ?_
      rw [show tc_Fs c x y = 6 from (if_neg z1).trans ((if_neg (fun w => w z2)).trans (if_pos z3))] at h; exact h
  · refine br_f (nI_ne0 (by omega) (by omega)) ?_
    rw [show tc_Fs c x y = 5 from (if_neg z1).trans (if_pos z2)] at h; exact h
theorem xh_merge (hc : c < 34000) (hg : tc_g c) (hx : x < 3) (hy : y < 3) (hn : x ≠ y) (h : post (tc_rs (tc_Fm c x y) (tc_Nm c x y))) : wpX_stepMerge post (nI c) (nI x) (nI y) := by
  unfold wpX_stepMerge
  have hv := tc_l_lt c y
  have hw := tc_l_lt c x
  refine xh_localOf (by omega) hx (xh_localOf (by omega) hy ?_)
  by_cases z1 : tc_l c x = 0
  · refine br_t (by rw [z1]; rfl) ?_
    rw [show tc_Fm c x y = 1 from if_pos z1] at h; exact h
  refine br_f (nI_ne0 (by omega) (by omega)) ?_
  by_cases z2 : tc_l c y = 0
  · refine br_t (by rw [z2]; rfl) ?_
    rw [show tc_Fm c x y = 1 from (if_neg z1).trans (if_pos z2)] at h; exact h
  refine br_f (nI_ne0 (by omega) (by omega)) (xh_objectIn hw (xh_objectIn hv ?_))
  have h1 := tc_ob_lt (tc_l c x)
  have h2 := tc_ob_lt (tc_l c y)
  by_cases z3 : tc_ob (tc_l c x) = tc_ob (tc_l c y)
  · refine br_t (by rw [z3]) (xh_permIn hv ?_)
    have e := tc_g_merge hg hx hy hn z1 z2 z3
    have ei : nI (tc_l c x) + nI (tc_pm (tc_l c y)) = nI (2 * tc_ob (tc_l c x) + tc_ms (tc_l c x) (tc_l c y)) := by rw [nI_add, e]
    have hm := tc_e_ms _ hw _ hv z1 z2
    refine nm_r ei (xh_withLocal (by omega) hx (xh_withLocal (v := 0) (xh_wl_lt hc hm hx) hy (xh_2000 ?_)))
    rw [show tc_Fm c x y = 0 from (if_neg z1).trans ((if_neg z2).trans (if_neg (fun w => w z3))), tc_rs, if_pos rfl] at h
    exact h
  · refine br_f (fun w => z3 ((nI_eq (by omega) (by omega)).mp w)) ?_
    rw [show tc_Fm c x y = 7 from (if_neg z1).trans ((if_neg z2).trans (if_pos z3))] at h; exact h
/-- the branch: z0 says whether it is entered -/
theorem xh_branch {z : Int32} (hJ : tc_JM o L xl xe xo T) (hL : L ≤ 16) (hc : c < 34000) (hp : c / 2000 < L) (ho : tc_op (o (c / 2000))) (h1 : ¬ z = 0 → post (nI (c + 2000))) (h0 : z = 0 → post (nI (tc_wp c (T (c / 2000))))) : wpX_stepBranch post (cp, ct, wf, rc, fp, fc, mc, ms, dn, rq, rs, cl, o, a, b, xl, xe, xo, xb, ir, rd, 34000, 34000) (nI c) z := by
  unfold wpX_stepBranch
  by_cases hz : z = 0
  · refine br_t hz (xh_pcOf (by omega) ?_)
    have vi : vp_in (nI (c / 2000)) 16 := vp_in_nI (by omega) (by omega)
    refine ⟨vi, ?_⟩
    rw [nI_clamp (by omega)]
    rcases (hJ _ hp).1 ho with ⟨e1, e, he, e2, e3⟩ | ⟨_, e, he, e2, e3⟩
    · refine br_t e1 ⟨vi, ?_⟩
      rw [e2]
      unfold wX_stepBranch_40
      rw [nI_1, ← e3]
      exact xh_withPc (by omega) (h0 hz)
    · refine br_f (by rw [e2]; exact tc_m1_ne (by omega)) ⟨vi, ?_⟩
      rw [e2]
      unfold wX_stepBranch_40
      rw [nI_1, ← e3]
      exact xh_withPc (by omega) (h0 hz)
  · exact br_f hz (xh_2000 (h1 hz))
theorem xh_ifin (hJ : tc_JM o L xl xe xo T) (hL : L ≤ 16) (hc : c < 34000) (hp : c / 2000 < L) (ho : o (c / 2000) = 6) (hx : x < 3) (hy : y < 4) (h : post (tc_rs (tc_Fi c x) (tc_Ni T c x y))) : wpX_stepIfin post (cp, ct, wf, rc, fp, fc, mc, ms, dn, rq, rs, cl, o, a, b, xl, xe, xo, xb, ir, rd, 34000, 34000) (nI c) (nI x) (nI y) := by
  unfold wpX_stepIfin
  have hv := tc_l_lt c x
  refine xh_localOf (by omega) hx ?_
  by_cases z1 : tc_l c x = 0
  · refine br_t (by rw [z1]; rfl) ?_
    rw [show tc_Fi c x = 1 from if_pos z1] at h; exact h
  rw [show tc_Fi c x = 0 from if_neg z1, tc_rs, if_pos rfl, tc_Ni] at h
  have hb := tc_ob_lt (tc_l c x)
  have hs := tc_s_lt c (tc_ob (tc_l c x))
  refine br_f (nI_ne0 (by omega) (by omega)) (xh_objectIn hv (xh_stateOf (by omega) hb ?_))
  by_cases z2 : tc_s c (tc_ob (tc_l c x)) = y
  · rw [if_pos z2] at h
    refine br_t (by rw [z2]) ?_
    unfold wX_stepIfin_36
    exact xh_branch hJ hL hc hp (Or.inr (Or.inl ho)) (fun _ => h) (fun w => absurd w (by decide))
  · rw [if_neg z2] at h
    refine br_f (fun w => z2 ((nI_eq (by omega) (by omega)).mp w)) ?_
    unfold wX_stepIfin_36
    exact xh_branch hJ hL hc hp (Or.inr (Or.inl ho)) (fun w => absurd rfl w) (fun _ => h)
theorem xh_end (hJ : tc_JM o L xl xe xo T) (hL : L ≤ 16) (hc : c < 34000) (hp : c / 2000 < L) (ho : o (c / 2000) = 9) (h : post (nI (tc_wp c (T (c / 2000))))) : wpX_stepEnd post (cp, ct, wf, rc, fp, fc, mc, ms, dn, rq, rs, cl, o, a, b, xl, xe, xo, xb, ir, rd, 34000, 34000) (nI c) := by
  unfold wpX_stepEnd
  refine xh_pcOf (by omega) ?_
  obtain ⟨t, ht, et, hh⟩ := (hJ _ hp).2.2 ho
  refine ⟨vp_in_nI (by omega) (by omega), ?_⟩
  rw [nI_clamp (by omega)]
  refine nm_r et ⟨vp_in_nI (by omega) (by omega), ?_⟩
  rw [nI_clamp (by omega)]
  rcases hh with ⟨e1, e2⟩ | ⟨e1, e2⟩
  · refine br_t e1 ?_
    rw [e2] at h
    exact xh_withPc (by omega) h
  · refine br_f e1 (xh_2000 ?_)
    rw [e2, ← tc_p1] at h
    exact h
theorem xh_step (hV : tc_VP o a b L) (hD : tc_VD rq rs cl) (hJ : tc_JM o L xl xe xo T) (hL : L ≤ 16) (hc : c < 34000) (hp : c / 2000 < L) (hg : tc_g c) (h : post (tc_rs (tc_F o a b dn rq rs cl c) (tc_N o a b rs cl T c d))) : wpX_step post (cp, ct, wf, rc, fp, fc, mc, ms, dn, rq, rs, cl, o, a, b, xl, xe, xo, xb, ir, rd, 34000, 34000) (nI c) d := by
  unfold wpX_step
  refine xh_pcOf (by omega) ?_
  have vi : vp_in (nI (c / 2000)) 16 := vp_in_nI (by omega) (by omega)
  have ci := nI_clamp (n := c / 2000) (by omega)
  refine ⟨vi, ?_⟩
  rw [ci]
  refine nm_e ⟨vi, nm_e ⟨vi, ?_⟩⟩
  have hbr : tc_op (o (c / 2000)) → post (nI (if d = 1 then c + 2000 else tc_wp c (T (c / 2000)))) → wX_step_150 post (nI c) d cp ct wf rc fp fc mc ms dn rq rs cl o a b xl xe xo xb ir rd 34000 34000 := by
    intro ho hq
    unfold wX_step_150
    by_cases hd : d = 1
    · rw [if_pos hd] at hq
      refine br_t hd ?_
      unfold wX_step_162
      exact xh_branch hJ hL hc hp ho (fun _ => hq) (fun w => absurd w (by decide))
    · rw [if_neg hd] at hq
      refine br_f hd ?_
      unfold wX_step_162
      exact xh_branch hJ hL hc hp ho (fun w => absurd rfl w) (fun _ => hq)
  rcases hV _ hp with ⟨ho, x, y, hx, hy, ea, eb⟩ | ⟨ho, x, y, hx, hy, hn, ea, eb⟩ | ⟨ho, x, y, hx, hy, hn, ea, eb⟩ | ⟨ho, x, hx, ea⟩ | ho | ⟨ho, x, y, hx, hy, ea, eb⟩ | ho | ho | ho
  · obtain ⟨e1, e2⟩ := tc_F1 (dn := dn) (rq := rq) (rs := rs) (cl := cl) (T := T) (d := d) ho ea eb hx hy
    rw [e1, e2] at h
    rw [ea, eb]
    exact nm_r ho (br_f (by decide) (br_f (by decide) (br_t rfl (xh_call hD hc hx hy h))))
  · obtain ⟨e1, e2⟩ := tc_F2 (dn := dn) (rq := rq) (rs := rs) (cl := cl) (T := T) (d := d) ho ea eb hx (by omega)
    rw [e1, e2] at h
    rw [ea, eb]
    exact nm_r ho (br_f (by decide) (br_f (by decide) (br_f (by decide) (br_t rfl (xh_share hc hx hy h)))))
  · obtain ⟨e1, e2⟩ := tc_F3 (dn := dn) (rq := rq) (rs := rs) (cl := cl) (T := T) (d := d) ho ea eb hx (by omega)
    rw [e1, e2] at h
    rw [ea, eb]
    exact nm_r ho (br_f (by decide) (br_f (by decide) (br_f (by decide) (br_f (by decide) (br_t rfl (xh_merge hc hg hx hy hn h))))))
  · obtain ⟨e1, e2⟩ := tc_F4 (b := b) (dn := dn) (rq := rq) (rs := rs) (cl := cl) (T := T) (d := d) ho ea hx
    rw [e1, e2, tc_rs, if_pos rfl] at h
    rw [ea]
    exact nm_r ho (br_f (by decide) (br_f (by decide) (br_f (by decide) (br_f (by decide) (br_f (by decide) (br_t rfl (xh_withLocal (v := 0) (by omega) hx (xh_2000 h))))))))
  · obtain ⟨e1, e2⟩ := tc_F5 (a := a) (b := b) (dn := dn) (rq := rq) (rs := rs) (cl := cl) (T := T) (d := d) ho
    rw [e1, e2, tc_rs, if_pos rfl] at h
    exact nm_r ho (br_f (by decide) (br_f (by decide) (br_f (by decide) (br_f (by decide) (br_f (by decide) (br_f (by decide) (br_t rfl (hbr (Or.inl ho) h))))))))
  · obtain ⟨e1, e2⟩ := tc_F6 (dn := dn) (rq := rq) (rs := rs) (cl := cl) (T := T) (d := d) ho ea eb hx hy
    rw [e1, e2] at h
    rw [ea, eb]
    exact nm_r ho (br_f (by decide) (br_f (by decide) (br_f (by decide) (br_f (by decide) (br_f (by decide) (br_f (by decide) (br_f (by decide) (br_t rfl (xh_ifin hJ hL hc hp ho hx hy h)))))))))
  · obtain ⟨e1, e2⟩ := tc_F7 (a := a) (b := b) (dn := dn) (rq := rq) (rs := rs) (cl := cl) (T := T) (d := d) ho
    rw [e1, e2, tc_rs, if_pos rfl] at h
    obtain ⟨t, e, ht, he, et, ee, eT⟩ := (hJ _ hp).2.1 ho
    rw [eT] at h
    refine nm_r ho (br_f (by decide) (br_f (by decide) (br_f (by decide) (br_f (by decide) (br_f (by decide) (br_f (by decide) (br_f (by decide) (br_f (by decide) (br_t rfl ⟨vi, ?_⟩)))))))))
    rw [et, nI_clamp (by omega), ee, nI_1]
    exact ⟨vp_in_nI (by omega) (by omega), xh_withPc (by omega) h⟩
  · obtain ⟨e1, e2⟩ := tc_F8 (a := a) (b := b) (dn := dn) (rq := rq) (rs := rs) (cl := cl) (T := T) (d := d) ho
    rw [e1, e2, tc_rs, if_pos rfl] at h
    exact nm_r ho (br_f (by decide) (br_f (by decide) (br_f (by decide) (br_f (by decide) (br_f (by decide) (br_f (by decide) (br_f (by decide) (br_f (by decide) (br_f (by decide) (br_t rfl (hbr (Or.inr (Or.inr ho)) h)))))))))))
  · obtain ⟨e1, e2⟩ := tc_F9 (a := a) (b := b) (dn := dn) (rq := rq) (rs := rs) (cl := cl) (T := T) (d := d) ho
    rw [e1, e2, tc_rs, if_pos rfl] at h
    exact nm_r ho (br_f (by decide) (br_f (by decide) (br_f (by decide) (br_f (by decide) (br_f (by decide) (br_f (by decide) (br_f (by decide) (br_f (by decide) (br_f (by decide) (br_f (by decide) (br_t rfl (xh_end hJ hL hc hp ho h))))))))))))
end
