/-! the two scans, a statement at a time -/
section
variable {cp ct wf rc fp fc mc ms wp mp mt : Int32} {dn rq rs cl o a b xl xe xo xb ir rd ye yl yo ys wl ws ml mz yr : Nat → Int32} {L i dp t m : Nat}
theorem xm_open {post : Int32 → SX → Prop} (hi : i < L) (hL : L ≤ 16) (hd : dp ≤ i) (ho : tc_op (o i)) (h : wX_matchBlocks_4 post cp (nI L) wf rc fp fc mc ms 34000 34000 m (nI (dp + 1)) (nI (i + 1)) dn rq rs cl o a b (upd xl i (-1)) xe xo (upd xb dp (nI i)) ir rd) :
    wX_matchBlocks_4 post cp (nI L) wf rc fp fc mc ms 34000 34000 (m + 1) (nI dp) (nI i) dn rq rs cl o a b xl xe xo xb ir rd := by
  rw [wX_matchBlocks_4]
  refine br_f (nI_ge hi (by omega)) ⟨vp_in_nI (by omega) (by omega), ?_⟩
  rw [nI_clamp (by omega)]
  have k : wX_matchBlocks_36 post (wX_matchBlocks_4 post cp (nI L) wf rc fp fc mc ms 34000 34000 m) (nI dp) (nI i) cp (nI L) wf rc fp fc mc ms dn rq rs cl o a b xl xe xo xb ir rd 34000 34000 := by
    unfold wX_matchBlocks_36
    refine ⟨vp_in_nI (by omega) (by omega), ?_⟩
    rw [nI_clamp (by omega), nI_clamp (by omega)]
    exact nm_e ⟨vp_in_nI (by omega) (by omega), nm_e (nm_r (nI_1 dp) (nm_r (nI_1 i) h))⟩
  rcases ho with e | e | e
  · exact nm_r e (br_t rfl k)
  · exact nm_r e (br_f (by decide) (br_t rfl k))
  · exact nm_r e (br_f (by decide) (br_f (by decide) (br_t rfl k)))
theorem xm_skip {post : Int32 → SX → Prop} (hi : i < L) (hL : L ≤ 16) (ho : ¬ tc_op (o i)) (h7 : ¬ o i = 7) (h9 : ¬ o i = 9) (h : wX_matchBlocks_4 post cp (nI L) wf rc fp fc mc ms 34000 34000 m (nI dp) (nI (i + 1)) dn rq rs cl o a b xl xe xo xb ir rd) :
    wX_matchBlocks_4 post cp (nI L) wf rc fp fc mc ms 34000 34000 (m + 1) (nI dp) (nI i) dn rq rs cl o a b xl xe xo xb ir rd := by
  rw [wX_matchBlocks_4]
  refine br_f (nI_ge hi (by omega)) ⟨vp_in_nI (by omega) (by omega), ?_⟩
  rw [nI_clamp (by omega)]
  exact nm_e (br_f (fun e => ho (Or.inl e)) (br_f (fun e => ho (Or.inr (Or.inl e))) (br_f (fun e => ho (Or.inr (Or.inr e))) (br_f h7 (br_f h9 (nm_r (nI_1 i) h))))))
theorem xm_7 {post : Int32 → SX → Prop} (hi : i < L) (hL : L ≤ 16) (h7 : o i = 7) (h : wX_matchBlocks_68 post (wX_matchBlocks_4 post cp (nI L) wf rc fp fc mc ms 34000 34000 m) (nI dp) (nI i) 7 cp (nI L) wf rc fp fc mc ms dn rq rs cl o a b xl xe xo xb ir rd 34000 34000) :
    wX_matchBlocks_4 post cp (nI L) wf rc fp fc mc ms 34000 34000 (m + 1) (nI dp) (nI i) dn rq rs cl o a b xl xe xo xb ir rd := by
  rw [wX_matchBlocks_4]
  refine br_f (nI_ge hi (by omega)) ⟨vp_in_nI (by omega) (by omega), ?_⟩
  rw [nI_clamp (by omega)]
  exact nm_r h7 (br_f (by decide) (br_f (by decide) (br_f (by decide) (br_t rfl h))))
theorem xm_9 {post : Int32 → SX → Prop} (hi : i < L) (hL : L ≤ 16) (h9 : o i = 9) (h : wX_matchBlocks_68 post (wX_matchBlocks_4 post cp (nI L) wf rc fp fc mc ms 34000 34000 m) (nI dp) (nI i) 9 cp (nI L) wf rc fp fc mc ms dn rq rs cl o a b xl xe xo xb ir rd 34000 34000) :
    wX_matchBlocks_4 post cp (nI L) wf rc fp fc mc ms 34000 34000 (m + 1) (nI dp) (nI i) dn rq rs cl o a b xl xe xo xb ir rd := by
  rw [wX_matchBlocks_4]
  refine br_f (nI_ge hi (by omega)) ⟨vp_in_nI (by omega) (by omega), ?_⟩
  rw [nI_clamp (by omega)]
  exact nm_r h9 (br_f (by decide) (br_f (by decide) (br_f (by decide) (br_f (by decide) (br_t rfl h)))))
theorem xm_bad {post : Int32 → SX → Prop} {x2 x3 : Int32} {J : Int32 → Int32 → (Nat → Int32) → (Nat → Int32) → (Nat → Int32) → (Nat → Int32) → (Nat → Int32) → (Nat → Int32) → (Nat → Int32) → (Nat → Int32) → (Nat → Int32) → (Nat → Int32) → (Nat → Int32) → (Nat → Int32) → (Nat → Int32) → Prop}
    (h : post 0 (cp, nI L, wf, rc, fp, fc, mc, ms, dn, rq, rs, cl, o, a, b, xl, xe, xo, xb, ir, rd, 34000, 34000)) : wX_matchBlocks_68 post J (nI 0) x2 x3 cp (nI L) wf rc fp fc mc ms dn rq rs cl o a b xl xe xo xb ir rd 34000 34000 := by
  unfold wX_matchBlocks_68
  exact br_t rfl h
theorem xm_end {post : Int32 → SX → Prop} {J : Int32 → Int32 → (Nat → Int32) → (Nat → Int32) → (Nat → Int32) → (Nat → Int32) → (Nat → Int32) → (Nat → Int32) → (Nat → Int32) → (Nat → Int32) → (Nat → Int32) → (Nat → Int32) → (Nat → Int32) → (Nat → Int32) → (Nat → Int32) → Prop}
    (hi : i < 16) (hd : dp + 1 ≤ i) (ht : t < i) (et : xb dp = nI t) (h : J (nI dp) (nI (i + 1)) dn rq rs cl o a b xl (upd xe t (nI i)) (upd xo i (nI t)) xb ir rd) : wX_matchBlocks_68 post J (nI (dp + 1)) (nI i) 9 cp (nI L) wf rc fp fc mc ms dn rq rs cl o a b xl xe xo xb ir rd 34000 34000 := by
  unfold wX_matchBlocks_68
  refine br_f (nI_ne0 (by omega) (by omega)) ?_
  rw [nI_pred]
  refine ⟨vp_in_nI (by omega) (by omega), ?_⟩
  rw [nI_clamp (by omega), nI_clamp (by omega)]
  refine nm_r et ⟨vp_in_nI hi (by omega), nm_e (br_t rfl ⟨vp_in_nI (by omega) (by omega), ?_⟩)⟩
  rw [nI_clamp (by omega)]
  exact nm_e (nm_r (pk_m1 dp) (nm_r (nI_1 i) h))
theorem xm_else {post : Int32 → SX → Prop} {J : Int32 → Int32 → (Nat → Int32) → (Nat → Int32) → (Nat → Int32) → (Nat → Int32) → (Nat → Int32) → (Nat → Int32) → (Nat → Int32) → (Nat → Int32) → (Nat → Int32) → (Nat → Int32) → (Nat → Int32) → (Nat → Int32) → (Nat → Int32) → Prop}
    (hi : i < 16) (hd : dp + 1 ≤ i) (ht : t < i) (et : xb dp = nI t)
    (h0 : (o t = 8 ∨ ¬ xl t = -1) → ∀ xo : Nat → Int32, post 0 (cp, nI L, wf, rc, fp, fc, mc, ms, dn, rq, rs, cl, o, a, b, xl, xe, xo, xb, ir, rd, 34000, 34000))
    (h : ¬ o t = 8 → xl t = -1 → J (nI (dp + 1)) (nI (i + 1)) dn rq rs cl o a b (upd xl t (nI i)) xe (upd xo i (nI t)) xb ir rd) : wX_matchBlocks_68 post J (nI (dp + 1)) (nI i) 7 cp (nI L) wf rc fp fc mc ms dn rq rs cl o a b xl xe xo xb ir rd 34000 34000 := by
  unfold wX_matchBlocks_68
  refine br_f (nI_ne0 (by omega) (by omega)) ?_
  rw [nI_pred]
  refine ⟨vp_in_nI (by omega) (by omega), ?_⟩
  rw [nI_clamp (by omega), nI_clamp (by omega)]
  refine nm_r et ⟨vp_in_nI hi (by omega), nm_e (br_f (by decide) ⟨vp_in_nI (by omega) (by omega), ?_⟩)⟩
  rw [nI_clamp (by omega)]
  by_cases z : o t = 8
  · exact br_t z (h0 (Or.inl z) _)
  · refine br_f z ⟨vp_in_nI (by omega) (by omega), ?_⟩
    by_cases w : xl t = -1
    · exact br_t w ⟨vp_in_nI (by omega) (by omega), nm_e (nm_r (nI_1 i) (h z w))⟩
    · exact br_f w (h0 (Or.inr w) _)
theorem ym_open {post : Int32 → SY → Prop} (hi : i < L) (hL : L ≤ 16) (hd : dp ≤ i) (ho : tc_op (o i)) (h : wY_wellFormed_39 post cp (nI L) wp mp mt 34000 m (nI (dp + 1)) (nI (i + 1)) o a b ye yl yo (upd ys dp (nI i)) dn rq rs cl wl ws ml mz yr) :
    wY_wellFormed_39 post cp (nI L) wp mp mt 34000 (m + 1) (nI dp) (nI i) o a b ye yl yo ys dn rq rs cl wl ws ml mz yr := by
  rw [wY_wellFormed_39]
  refine br_f (nI_ge hi (by omega)) ⟨vp_in_nI (by omega) (by omega), ?_⟩
  rw [nI_clamp (by omega)]
  have k : wY_wellFormed_71 post (wY_wellFormed_39 post cp (nI L) wp mp mt 34000 m) (nI dp) (nI i) cp (nI L) wp mp mt o a b ye yl yo ys dn rq rs cl wl ws ml mz yr 34000 := by
    unfold wY_wellFormed_71
    refine br_t (nI_lt (b := 16) (by omega) (by omega)) ⟨vp_in_nI (by omega) (by omega), ?_⟩
    rw [nI_clamp (by omega)]
    exact nm_e (nm_r (nI_1 dp) (nm_r (nI_1 i) h))
  rcases ho with e | e | e
  · exact nm_r e (br_t rfl k)
  · exact nm_r e (br_f (by decide) (br_t rfl k))
  · exact nm_r e (br_f (by decide) (br_f (by decide) (br_t rfl k)))
theorem ym_skip {post : Int32 → SY → Prop} (hi : i < L) (hL : L ≤ 16) (ho : ¬ tc_op (o i)) (h7 : ¬ o i = 7) (h9 : ¬ o i = 9) (h : wY_wellFormed_39 post cp (nI L) wp mp mt 34000 m (nI dp) (nI (i + 1)) o a b ye yl yo ys dn rq rs cl wl ws ml mz yr) :
    wY_wellFormed_39 post cp (nI L) wp mp mt 34000 (m + 1) (nI dp) (nI i) o a b ye yl yo ys dn rq rs cl wl ws ml mz yr := by
  rw [wY_wellFormed_39]
  refine br_f (nI_ge hi (by omega)) ⟨vp_in_nI (by omega) (by omega), ?_⟩
  rw [nI_clamp (by omega)]
  exact nm_e (br_f (fun e => ho (Or.inl e)) (br_f (fun e => ho (Or.inr (Or.inl e))) (br_f (fun e => ho (Or.inr (Or.inr e))) (br_f h7 (br_f h9 (nm_r (nI_1 i) h))))))
theorem ym_bad {post : Int32 → SY → Prop} (hi : i < L) (hL : L ≤ 16) (ho : o i = 7 ∨ o i = 9) (h : post 0 (cp, nI L, wp, mp, mt, o, a, b, ye, yl, yo, ys, dn, rq, rs, cl, wl, ws, ml, mz, yr, 34000)) :
    wY_wellFormed_39 post cp (nI L) wp mp mt 34000 (m + 1) (nI 0) (nI i) o a b ye yl yo ys dn rq rs cl wl ws ml mz yr := by
  rw [wY_wellFormed_39]
  refine br_f (nI_ge hi (by omega)) ⟨vp_in_nI (by omega) (by omega), ?_⟩
  rw [nI_clamp (by omega)]
  rcases ho with e | e
  · exact nm_r e (br_f (by decide) (br_f (by decide) (br_f (by decide) (br_t rfl (br_t rfl h)))))
  · exact nm_r e (br_f (by decide) (br_f (by decide) (br_f (by decide) (br_f (by decide) (br_t rfl (br_t rfl h))))))
theorem ym_end {post : Int32 → SY → Prop} (hi : i < L) (hL : L ≤ 16) (hd : dp + 1 ≤ i) (ht : t < i) (et : ys dp = nI t) (ho : o i = 9) (h : wY_wellFormed_39 post cp (nI L) wp mp mt 34000 m (nI dp) (nI (i + 1)) o a b (upd ye t (nI i)) yl (upd yo i (nI t)) ys dn rq rs cl wl ws ml mz yr) :
    wY_wellFormed_39 post cp (nI L) wp mp mt 34000 (m + 1) (nI (dp + 1)) (nI i) o a b ye yl yo ys dn rq rs cl wl ws ml mz yr := by
  rw [wY_wellFormed_39]
  refine br_f (nI_ge hi (by omega)) ⟨vp_in_nI (by omega) (by omega), ?_⟩
  rw [nI_clamp (by omega)]
  refine nm_r ho (br_f (by decide) (br_f (by decide) (br_f (by decide) (br_f (by decide) (br_t rfl (br_f (nI_ne0 (by omega) (by omega)) (nm_r (pk_m1 dp) ⟨vp_in_nI (by omega) (by omega), ?_⟩)))))))
  rw [nI_clamp (by omega)]
  refine nm_r et ⟨vp_in_nI (by omega) (by omega), ?_⟩
  rw [nI_clamp (by omega)]
  exact nm_e ⟨vp_in_nI (by omega) (by omega), nm_e (nm_r (nI_1 i) h)⟩
theorem ym_else {post : Int32 → SY → Prop} (hi : i < L) (hL : L ≤ 16) (hd : dp + 1 ≤ i) (ht : t < i) (et : ys dp = nI t) (hto : tc_op (o t)) (ho : o i = 7)
    (h0 : (o t = 8 ∨ ¬ yl t = -1) → post 0 (cp, nI L, wp, mp, mt, o, a, b, ye, yl, yo, ys, dn, rq, rs, cl, wl, ws, ml, mz, yr, 34000))
    (h : ¬ o t = 8 → yl t = -1 → wY_wellFormed_39 post cp (nI L) wp mp mt 34000 m (nI (dp + 1)) (nI (i + 1)) o a b ye (upd yl t (nI i)) (upd yo i (nI t)) ys dn rq rs cl wl ws ml mz yr) :
    wY_wellFormed_39 post cp (nI L) wp mp mt 34000 (m + 1) (nI (dp + 1)) (nI i) o a b ye yl yo ys dn rq rs cl wl ws ml mz yr := by
  rw [wY_wellFormed_39]
  refine br_f (nI_ge hi (by omega)) ⟨vp_in_nI (by omega) (by omega), ?_⟩
  rw [nI_clamp (by omega)]
  have k : ¬ o t = 8 → wY_wellFormed_137 post (wY_wellFormed_39 post cp (nI L) wp mp mt 34000 m) (nI (dp + 1)) (nI i) (nI t) cp (nI L) wp mp mt o a b ye yl yo ys dn rq rs cl wl ws ml mz yr 34000 := by
    intro z
    unfold wY_wellFormed_137
    refine ⟨vp_in_nI (by omega) (by omega), ?_⟩
    rw [nI_clamp (by omega), nI_clamp (by omega)]
    by_cases w : yl t = -1
    · exact br_t w ⟨vp_in_nI (by omega) (by omega), nm_e ⟨vp_in_nI (by omega) (by omega), nm_e (nm_r (nI_1 i) (h z w))⟩⟩
    · exact br_f w (h0 (Or.inr w))
  refine nm_r ho (br_f (by decide) (br_f (by decide) (br_f (by decide) (br_t rfl (br_f (nI_ne0 (by omega) (by omega)) ?_)))))
  rw [nI_pred]
  refine ⟨vp_in_nI (by omega) (by omega), ?_⟩
  rw [nI_clamp (by omega)]
  refine nm_r et ⟨vp_in_nI (by omega) (by omega), ?_⟩
  rw [nI_clamp (by omega)]
  rcases hto with e | e | e
  · exact br_t e (k (by rw [e]; decide))
  · exact br_f (by rw [e]; decide) ⟨vp_in_nI (by omega) (by omega), br_t e (k (by rw [e]; decide))⟩
  · exact br_f (by rw [e]; decide) ⟨vp_in_nI (by omega) (by omega), br_f (by rw [e]; decide) (h0 (Or.inl e))⟩
/-- the scan as a pure function: its answer and its table of aims -/
def tc_sc (o : Nat → Int32) : Nat → Nat → Nat → (Nat → Int32) → (Nat → Int32) → (Nat → Int32) → (Nat → Int32) → Int32 × (Nat → Nat)
  | 0, _, dp, yl, ye, yo, _ => if dp = 0 then (1, tc_T o yl ye yo) else (0, fun _ => 0)
  | k + 1, i, dp, yl, ye, yo, ys =>
    if o i = 5 ∨ o i = 6 ∨ o i = 8 then tc_sc o k (i + 1) (dp + 1) yl ye yo (upd ys dp (nI i))
    else if o i = 7 then
      if dp = 0 ∨ o (ys (dp - 1)).toNatClampNeg = 8 ∨ ¬ yl (ys (dp - 1)).toNatClampNeg = -1 then (0, fun _ => 0)
      else tc_sc o k (i + 1) dp (upd yl (ys (dp - 1)).toNatClampNeg (nI i)) ye (upd yo i (nI (ys (dp - 1)).toNatClampNeg)) ys
    else if o i = 9 then
      if dp = 0 then (0, fun _ => 0)
      else tc_sc o k (i + 1) (dp - 1) yl (upd ye (ys (dp - 1)).toNatClampNeg (nI i)) (upd yo i (nI (ys (dp - 1)).toNatClampNeg)) ys
    else tc_sc o k (i + 1) dp yl ye yo ys
theorem tc_sc_01 {o : Nat → Int32} : ∀ (k i dp : Nat) (yl ye yo ys : Nat → Int32), (tc_sc o k i dp yl ye yo ys).1 = 0 ∨ (tc_sc o k i dp yl ye yo ys).1 = 1
  | 0, i, dp, yl, ye, yo, ys => by
    rw [tc_sc]
    split
    · exact Or.inr rfl
    · exact Or.inl rfl
  | k + 1, i, dp, yl, ye, yo, ys => by
    rw [tc_sc]
    repeat' split
    all_goals first | exact Or.inl rfl | exact tc_sc_01 k _ _ _ _ _ _
theorem tc_sc_op {k : Nat} (h : tc_op (o i)) : tc_sc o (k + 1) i dp yl ye yo ys = tc_sc o k (i + 1) (dp + 1) yl ye yo (upd ys dp (nI i)) := by
  rw [tc_sc]; exact if_pos h
theorem tc_sc_7b {k : Nat} (h : o i = 7) (hb : dp = 0 ∨ o (ys (dp - 1)).toNatClampNeg = 8 ∨ ¬ yl (ys (dp - 1)).toNatClampNeg = -1) : tc_sc o (k + 1) i dp yl ye yo ys = (0, fun _ => 0) := by
  have n : ¬ (o i = 5 ∨ o i = 6 ∨ o i = 8) := tc_op_7 h
  rw [tc_sc, if_neg n, if_pos h]; exact if_pos hb
theorem tc_sc_7g {k : Nat} (h : o i = 7) (ht : t < 2 ^ 31) (et : ys dp = nI t) (h8 : ¬ o t = 8) (hl : yl t = -1) : tc_sc o (k + 1) i (dp + 1) yl ye yo ys = tc_sc o k (i + 1) (dp + 1) (upd yl t (nI i)) ye (upd yo i (nI t)) ys := by
  have n : ¬ (o i = 5 ∨ o i = 6 ∨ o i = 8) := tc_op_7 h
  have e : (ys (dp + 1 - 1)).toNatClampNeg = t := by rw [Nat.add_sub_cancel, et, nI_clamp ht]
  have nb : ¬ (dp + 1 = 0 ∨ o t = 8 ∨ ¬ yl t = -1) := by
    rintro (w | w | w)
    · omega
    · exact h8 w
    · exact w hl
  rw [tc_sc, if_neg n, if_pos h, e]; exact if_neg nb
theorem tc_sc_9b {k : Nat} (h : o i = 9) : tc_sc o (k + 1) i 0 yl ye yo ys = (0, fun _ => 0) := by
  have n : ¬ (o i = 5 ∨ o i = 6 ∨ o i = 8) := tc_op_9 h
  have n7 : ¬ o i = 7 := by rw [h]; decide
  rw [tc_sc, if_neg n, if_neg n7, if_pos h]; exact if_pos rfl
theorem tc_sc_9g {k : Nat} (h : o i = 9) (ht : t < 2 ^ 31) (et : ys dp = nI t) : tc_sc o (k + 1) i (dp + 1) yl ye yo ys = tc_sc o k (i + 1) dp yl (upd ye t (nI i)) (upd yo i (nI t)) ys := by
  have n : ¬ (o i = 5 ∨ o i = 6 ∨ o i = 8) := tc_op_9 h
  have n7 : ¬ o i = 7 := by rw [h]; decide
  have e : (ys (dp + 1 - 1)).toNatClampNeg = t := by rw [Nat.add_sub_cancel, et, nI_clamp ht]
  rw [tc_sc, if_neg n, if_neg n7, if_pos h, e]; exact if_neg (by omega)
theorem tc_sc_s {k : Nat} (h : ¬ tc_op (o i)) (h7 : ¬ o i = 7) (h9 : ¬ o i = 9) : tc_sc o (k + 1) i dp yl ye yo ys = tc_sc o k (i + 1) dp yl ye yo ys := by
  have n : ¬ (o i = 5 ∨ o i = 6 ∨ o i = 8) := h
  rw [tc_sc, if_neg n, if_neg h7, if_neg h9]
theorem xm_scan (hL : L ≤ 16) {post : Int32 → SX → Prop} : ∀ (k i dp : Nat) (xl xe xo xb yl ye yo ys : Nat → Int32), i + k = L → tc_MI o i dp xl xe xo xb yl ye yo ys → ∀ m, k < m →
    (∀ xl xe xo xb : Nat → Int32, ((tc_sc o k i dp yl ye yo ys).1 = 1 → tc_JM o L xl xe xo (tc_sc o k i dp yl ye yo ys).2) → post (tc_sc o k i dp yl ye yo ys).1 (cp, nI L, wf, rc, fp, fc, mc, ms, dn, rq, rs, cl, o, a, b, xl, xe, xo, xb, ir, rd, 34000, 34000)) → wX_matchBlocks_4 post cp (nI L) wf rc fp fc mc ms 34000 34000 m (nI dp) (nI i) dn rq rs cl o a b xl xe xo xb ir rd := by
  intro k
  induction k with
  | zero =>
    intro i dp xl xe xo xb yl ye yo ys e hM m hm h
    have ei : i = L := by omega
    subst ei
    have c1 : nI i ≤ nI i := nI_le (Nat.le_refl i) (by omega)
    have hd := hM.1
    obtain ⟨m', rfl⟩ : ∃ m', m = m' + 1 := ⟨m - 1, by omega⟩
    rw [wX_matchBlocks_4]
    by_cases z : dp = 0
    · subst z
      exact br_t c1 (br_t rfl (h xl xe xo xb (fun _ => (tc_MI_done hM hL).1)))
    · have es : tc_sc o 0 i dp yl ye yo ys = (0, fun _ => 0) := if_neg z
      rw [es] at h
      exact br_t c1 (br_f (nI_ne0 (by omega) (by omega)) (h xl xe xo xb (fun w => absurd w (by decide))))
  | succ k ih =>
    intro i dp xl xe xo xb yl ye yo ys e hM m hm h
    have hi : i < L := by omega
    have hd := hM.1
    obtain ⟨m', rfl⟩ : ∃ m', m = m' + 1 := ⟨m - 1, by omega⟩
    by_cases ho : tc_op (o i)
    · rw [tc_sc_op ho] at h
      exact xm_open hi hL hd ho (ih (i + 1) (dp + 1) _ _ _ _ _ _ _ _ (by omega) (tc_MI_open hM (by omega) ho) m' (by omega) h)
    by_cases h7 : o i = 7
    · rcases Nat.eq_zero_or_pos dp with z | z
      · subst z
        rw [tc_sc_7b h7 (Or.inl rfl)] at h
        exact xm_7 hi hL h7 (xm_bad (h xl xe xo xb (fun w => absurd w (by decide))))
      · obtain ⟨dp', rfl⟩ : ∃ dp', dp = dp' + 1 := ⟨dp - 1, by omega⟩
        obtain ⟨t, ht, et1, et2, hto⟩ := hM.2.1 dp' (by omega)
        have exl := (hM.2.2.1 t ht hto).1
        have ec : (ys (dp' + 1 - 1)).toNatClampNeg = t := by rw [Nat.add_sub_cancel, et2, nI_clamp (by omega)]
        refine xm_7 hi hL h7 (xm_else (by omega) hd ht et1 (fun w xo' => ?_) (fun w1 w2 => ?_))
        · rw [exl] at w
          rw [tc_sc_7b h7 (Or.inr (by rw [ec]; exact w))] at h
          exact h xl xe xo' xb (fun w => absurd w (by decide))
        · rw [exl] at w2
          rw [tc_sc_7g h7 (by omega) et2 w1 w2] at h
          exact ih (i + 1) (dp' + 1) _ _ _ _ _ _ _ _ (by omega) (tc_MI_else hM (by omega) ht hto w1 h7) m' (by omega) h
    by_cases h9 : o i = 9
    · rcases Nat.eq_zero_or_pos dp with z | z
      · subst z
        rw [tc_sc_9b h9] at h
        exact xm_9 hi hL h9 (xm_bad (h xl xe xo xb (fun w => absurd w (by decide))))
      · obtain ⟨dp', rfl⟩ : ∃ dp', dp = dp' + 1 := ⟨dp - 1, by omega⟩
        obtain ⟨t, ht, et1, et2, hto⟩ := hM.2.1 dp' (by omega)
        rw [tc_sc_9g h9 (by omega) et2] at h
        exact xm_9 hi hL h9 (xm_end (by omega) hd ht et1 (ih (i + 1) dp' _ _ _ _ _ _ _ _ (by omega) (tc_MI_end hM (by omega) et2 ht hto h9) m' (by omega) h))
    · rw [tc_sc_s ho h7 h9] at h
      exact xm_skip hi hL ho h7 h9 (ih (i + 1) dp _ _ _ _ _ _ _ _ (by omega) (tc_MI_skip hM ho h7 h9) m' (by omega) h)
theorem tc_upd_same {f : Nat → Int32} {j : Nat} {x : Int32} (h : f j = x) : upd f j x = f := by
  funext q
  unfold upd
  by_cases e : q = j
  · rw [if_pos e, e, h]
  · rw [if_neg e]
theorem ym_scan (hL : L ≤ 16) {post : Int32 → SY → Prop} : ∀ (k i dp : Nat) (yl ye yo ys zl ze zo zs : Nat → Int32), i + k = L → tc_MI o i dp yl ye yo ys zl ze zo zs → (∀ p, i ≤ p → p < 16 → yl p = -1) → ∀ m, k < m →
    (∀ yl ye yo ys : Nat → Int32, ((tc_sc o k i dp zl ze zo zs).1 = 1 → tc_JM o L yl ye yo (tc_sc o k i dp zl ze zo zs).2) → post (tc_sc o k i dp zl ze zo zs).1 (cp, nI L, wp, mp, mt, o, a, b, ye, yl, yo, ys, dn, rq, rs, cl, wl, ws, ml, mz, yr, 34000)) → wY_wellFormed_39 post cp (nI L) wp mp mt 34000 m (nI dp) (nI i) o a b ye yl yo ys dn rq rs cl wl ws ml mz yr := by
  intro k
  induction k with
  | zero =>
    intro i dp yl ye yo ys zl ze zo zs e hM hl m hm h
    have ei : i = L := by omega
    subst ei
    have c1 : nI i ≤ nI i := nI_le (Nat.le_refl i) (by omega)
    have hd := hM.1
    obtain ⟨m', rfl⟩ : ∃ m', m = m' + 1 := ⟨m - 1, by omega⟩
    rw [wY_wellFormed_39]
    by_cases z : dp = 0
    · subst z
      exact br_t c1 (br_t rfl (h yl ye yo ys (fun _ => (tc_MI_done hM hL).1)))
    · have es : tc_sc o 0 i dp zl ze zo zs = (0, fun _ => 0) := if_neg z
      rw [es] at h
      exact br_t c1 (br_f (nI_ne0 (by omega) (by omega)) (h yl ye yo ys (fun w => absurd w (by decide))))
  | succ k ih =>
    intro i dp yl ye yo ys zl ze zo zs e hM hl m hm h
    have hi : i < L := by omega
    have hd := hM.1
    obtain ⟨m', rfl⟩ : ∃ m', m = m' + 1 := ⟨m - 1, by omega⟩
    have hl1 : ∀ p, i + 1 ≤ p → p < 16 → yl p = -1 := fun p h1 h2 => hl p (by omega) h2
    by_cases ho : tc_op (o i)
    · rw [tc_sc_op ho] at h
      have hM1 := tc_MI_open hM (by omega) ho
      rw [tc_upd_same (hl i (Nat.le_refl i) (by omega))] at hM1
      exact ym_open hi hL hd ho (ih (i + 1) (dp + 1) _ _ _ _ _ _ _ _ (by omega) hM1 hl1 m' (by omega) h)
    by_cases h7 : o i = 7
    · rcases Nat.eq_zero_or_pos dp with z | z
      · subst z
        rw [tc_sc_7b h7 (Or.inl rfl)] at h
        exact ym_bad hi hL (Or.inl h7) (h yl ye yo ys (fun w => absurd w (by decide)))
      · obtain ⟨dp', rfl⟩ : ∃ dp', dp = dp' + 1 := ⟨dp - 1, by omega⟩
        obtain ⟨t, ht, et1, et2, hto⟩ := hM.2.1 dp' (by omega)
        have exl := (hM.2.2.1 t ht hto).1
        have ec : (zs (dp' + 1 - 1)).toNatClampNeg = t := by rw [Nat.add_sub_cancel, et2, nI_clamp (by omega)]
        refine ym_else hi hL hd ht et1 hto h7 (fun w => ?_) (fun w1 w2 => ?_)
        · rw [exl] at w
          rw [tc_sc_7b h7 (Or.inr (by rw [ec]; exact w))] at h
          exact h yl ye yo ys (fun w => absurd w (by decide))
        · rw [exl] at w2
          rw [tc_sc_7g h7 (by omega) et2 w1 w2] at h
          exact ih (i + 1) (dp' + 1) _ _ _ _ _ _ _ _ (by omega) (tc_MI_else hM (by omega) ht hto w1 h7) (fun p h1 h2 => by rw [pk_un (by omega)]; exact hl1 p h1 h2) m' (by omega) h
    by_cases h9 : o i = 9
    · rcases Nat.eq_zero_or_pos dp with z | z
      · subst z
        rw [tc_sc_9b h9] at h
        exact ym_bad hi hL (Or.inr h9) (h yl ye yo ys (fun w => absurd w (by decide)))
      · obtain ⟨dp', rfl⟩ : ∃ dp', dp = dp' + 1 := ⟨dp - 1, by omega⟩
        obtain ⟨t, ht, et1, et2, hto⟩ := hM.2.1 dp' (by omega)
        rw [tc_sc_9g h9 (by omega) et2] at h
        exact ym_end hi hL hd ht et1 h9 (ih (i + 1) dp' _ _ _ _ _ _ _ _ (by omega) (tc_MI_end hM (by omega) et2 ht hto h9) hl1 m' (by omega) h)
    · rw [tc_sc_s ho h7 h9] at h
      exact ym_skip hi hL ho h7 h9 (ih (i + 1) dp _ _ _ _ _ _ _ _ (by omega) (tc_MI_skip hM ho h7 h9) hl1 m' (by omega) h)
/-- Y's clearing of its tables -/
theorem ym_fill {post : Int32 → SY → Prop} (h : ∀ yl ye yo : Nat → Int32, (∀ p, p < 16 → yl p = -1) → ∃ m, wY_wellFormed_39 post cp (nI L) wp mp mt 34000 m 0 0 o a b ye yl yo ys dn rq rs cl wl ws ml mz yr) :
    ∀ (m i : Nat) (yl ye yo : Nat → Int32), 16 < m + i → i ≤ 16 → (∀ p, p < i → yl p = -1) → wY_wellFormed_2 post cp (nI L) wp mp mt 34000 m (nI i) o a b ye yl yo ys dn rq rs cl wl ws ml mz yr := by
  intro m
  induction m with
  | zero => intro i yl ye yo g1 g2; omega
  | succ m ih =>
    intro i yl ye yo g1 g2 hz
    rw [wY_wellFormed_2]
    by_cases e : i = 16
    · rw [e] at hz
      exact br_t (by rw [e]; exact nI_le (a := 16) (b := 16) (by omega) (by omega)) (h yl ye yo hz)
    · refine br_f (nI_ge (b := 16) (by omega) (by omega)) ⟨vp_in_nI (by omega) (by omega), ?_⟩
      rw [nI_clamp (by omega)]
      refine nm_e ⟨vp_in_nI (by omega) (by omega), nm_e ⟨vp_in_nI (by omega) (by omega), nm_e (nm_r (nI_1 i) (ih (i + 1) _ _ _ (by omega) (by omega) (fun p hp => ?_)))⟩⟩
      by_cases ep : p = i
      · rw [ep, pk_us]
      · rw [pk_un ep]; exact hz p (by omega)
/-- the answer and the aims of a program -/
def tc_wf (o : Nat → Int32) (L : Nat) : Int32 := (tc_sc o L 0 0 (fun _ => -1) (fun _ => 0) (fun _ => 0) (fun _ => 0)).1
def tc_aim (o : Nat → Int32) (L : Nat) : Nat → Nat := (tc_sc o L 0 0 (fun _ => -1) (fun _ => 0) (fun _ => 0) (fun _ => 0)).2
theorem tc_wf_01 (o : Nat → Int32) (L : Nat) : tc_wf o L = 0 ∨ tc_wf o L = 1 := tc_sc_01 L 0 0 _ _ _ _
theorem xm_match {post : Int32 → SX → Prop} (hL : L ≤ 16) (h : ∀ xl xe xo xb : Nat → Int32, (tc_wf o L = 1 → tc_JM o L xl xe xo (tc_aim o L)) → post (tc_wf o L) (cp, nI L, wf, rc, fp, fc, mc, ms, dn, rq, rs, cl, o, a, b, xl, xe, xo, xb, ir, rd, 34000, 34000)) : wpX_matchBlocks post (cp, nI L, wf, rc, fp, fc, mc, ms, dn, rq, rs, cl, o, a, b, xl, xe, xo, xb, ir, rd, 34000, 34000) := by
  unfold wpX_matchBlocks
  exact ⟨L + 1, xm_scan hL L 0 0 xl xe xo xb _ _ _ _ (by omega) (tc_MI_0 (fun _ _ => rfl)) (L + 1) (by omega) h⟩
theorem ym_match {post : Int32 → SY → Prop} (hL : L ≤ 16) (h : ∀ yl ye yo ys : Nat → Int32, (tc_wf o L = 1 → tc_JM o L yl ye yo (tc_aim o L)) → post (tc_wf o L) (cp, nI L, wp, mp, mt, o, a, b, ye, yl, yo, ys, dn, rq, rs, cl, wl, ws, ml, mz, yr, 34000)) : wpY_wellFormed post (cp, nI L, wp, mp, mt, o, a, b, ye, yl, yo, ys, dn, rq, rs, cl, wl, ws, ml, mz, yr, 34000) := by
  unfold wpY_wellFormed
  refine ⟨17, ym_fill (fun yl ye yo hz => ⟨L + 1, ?_⟩) 17 0 yl ye yo (by omega) (by omega) (fun p hp => absurd hp (by omega))⟩
  exact ym_scan hL L 0 0 yl ye yo ys _ _ _ _ (by omega) (tc_MI_0 (fun _ _ => rfl)) (fun p _ hp => hz p hp) (L + 1) (by omega) h
end
