/-! the two runs against the pure one -/
theorem tc_dcE {k : Nat} (hk : k < 2 ^ 31) (ch : Int32) : (ch.toUInt32 >>> ((nI k - nI k / 32 * 32).toUInt32 &&& Int32.toUInt32 31)).toInt32 &&& 1 = tc_dc ch k := by
  rw [show nI k - nI k / 32 * 32 = nI (k % 32) from pk_rem (d := 32) hk (by omega) (by omega)]
  rfl
section
variable {cp ct wf rc fp fc mc ms : Int32} {dn rq rs cl o a b xl xe xo xb ir rd : Nat → Int32} {L B : Nat} {T : Nat → Nat} {ch : Int32}
theorem xh_run_l {post : Int32 → SX → Prop} (hV : tc_VP o a b L) (hD : tc_VD rq rs cl) (hJ : tc_JM o L xl xe xo T) (hL : L ≤ 16) (hB : B ≤ 4096) :
    ∀ (n k i c : Nat), i + n = B → k ≤ i → tc_g c → c / 2000 ≤ L → ∀ m, n < m → post (tc_run L o (tc_F o a b dn rq rs cl) (tc_N o a b rs cl T) ch n c k i).1 (cp, nI L, wf, rc, fp, fc, nI (tc_run L o (tc_F o a b dn rq rs cl) (tc_N o a b rs cl T) ch n c k i).2.1, nI (tc_run L o (tc_F o a b dn rq rs cl) (tc_N o a b rs cl T) ch n c k i).2.2, dn, rq, rs, cl, o, a, b, xl, xe, xo, xb, ir, rd, 34000, 34000) →
      wX_run_29 post ch (nI B) cp (nI L) wf rc fp fc dn rq rs cl o a b xl xe xo xb ir rd 34000 34000 m (nI k) (nI i) (nI c) (nI i) := by
  intro n
  induction n with
  | zero =>
    intro k i c e hk hg hc m hm h
    obtain ⟨m', rfl⟩ : ∃ m', m = m' + 1 := ⟨m - 1, by omega⟩
    rw [wX_run_29]
    refine br_t (nI_le (by omega) (by omega)) (xh_pcOf (by omega) ?_)
    rw [tc_run] at h
    by_cases z : c / 2000 = L
    · rw [if_pos z] at h
      exact br_t (by rw [z]) h
    · rw [if_neg z] at h
      exact br_f (fun w => z ((nI_eq (by omega) (by omega)).mp w)) h
  | succ n ih =>
    intro k i c e hk hg hc m hm h
    obtain ⟨m', rfl⟩ : ∃ m', m = m' + 1 := ⟨m - 1, by omega⟩
    rw [wX_run_29]
    refine br_f (nI_ge (by omega) (by omega)) (xh_pcOf (by omega) ?_)
    rw [tc_run] at h
    by_cases z : c / 2000 = L
    · rw [if_pos z] at h
      exact br_f (nI_nlt (by omega) (by omega)) h
    · have hp : c / 2000 < L := by omega
      rw [if_neg z] at h
      refine br_t (nI_lt hp (by omega)) ⟨by decide, nm_r (tc_dcE (by omega) ch) (xh_step hV hD hJ hL (by omega) hp hg ?_)⟩
      by_cases f : tc_F o a b dn rq rs cl c = 0
      · rw [if_neg (fun w => w f)] at h
        have hN := tc_step_g hV hD (tc_JM_T hJ) (tc_dc ch k) hg hp f
        rw [f, tc_rs, if_pos rfl]
        have vi : vp_in (nI (c / 2000)) 16 := vp_in_nI (by omega) (by omega)
        refine br_t (nI_pos' (by omega)) ⟨vi, ?_⟩
        rw [nI_clamp (by omega)]
        by_cases o5 : o (c / 2000) = 5
        · rw [if_pos (Or.inl o5)] at h
          refine br_t o5 ?_
          unfold wX_run_111 wX_run_114
          exact nm_r (nI_1 k) (nm_r (nI_1 i) (nm_r (nI_1 i) (ih (k + 1) (i + 1) _ (by omega) (by omega) hN.1 hN.2 m' (by omega) h)))
        · by_cases o8 : o (c / 2000) = 8
          · rw [if_pos (Or.inr o8)] at h
            refine br_f o5 ⟨vi, br_t o8 ?_⟩
            unfold wX_run_111 wX_run_114
            exact nm_r (nI_1 k) (nm_r (nI_1 i) (nm_r (nI_1 i) (ih (k + 1) (i + 1) _ (by omega) (by omega) hN.1 hN.2 m' (by omega) h)))
          · have n58 : ¬ (o (c / 2000) = 5 ∨ o (c / 2000) = 8) := fun w => w.elim o5 o8
            rw [if_neg n58] at h
            refine br_f o5 ⟨vi, br_f o8 ?_⟩
            unfold wX_run_114
            exact nm_r (nI_1 i) (nm_r (nI_1 i) (ih k (i + 1) _ (by omega) (by omega) hN.1 hN.2 m' (by omega) h))
      · rw [if_pos f] at h
        have hle := tc_F_le (o := o) (a := a) (b := b) (dn := dn) (rq := rq) (rs := rs) (cl := cl) c
        obtain ⟨n1, n2⟩ := xh_neg f hle
        rw [tc_rs, if_neg f]
        refine br_f n1 ?_
        rw [n2]
        exact h
end
section
variable {cp ct wp mp mt : Int32} {o a b ye yl yo ys dn rq rs cl wl ws ml mz yr : Nat → Int32} {L B : Nat} {T : Nat → Nat} {ch : Int32}
theorem yh_copy {l l' s s' : Nat → Int32} {pc : Int32} {c : Nat} (h : tc_W pc l s c) : tc_W pc (upd (upd (upd l' 0 (l 0)) 1 (l 1)) 2 (l 2)) (upd (upd s' 0 (s 0)) 1 (s 1)) c := by
  refine ⟨h.1, fun j hj => ?_, fun j hj => ?_⟩
  · rcases tc_c3 hj with rfl | rfl | rfl
    · rw [pk_un (by omega), pk_un (by omega), pk_us]; exact h.2.1 0 hj
    · rw [pk_un (by omega), pk_us]; exact h.2.1 1 hj
    · rw [pk_us]; exact h.2.1 2 hj
  · rcases tc_c2 hj with rfl | rfl
    · rw [pk_un (by omega), pk_us]; exact h.2.2 0 hj
    · rw [pk_us]; exact h.2.2 1 hj
theorem yh_219 {post : Int32 → SY → Prop} {J : Int32 → Int32 → Int32 → Int32 → Int32 → Int32 → Int32 → (Nat → Int32) → (Nat → Int32) → (Nat → Int32) → (Nat → Int32) → (Nat → Int32) → (Nat → Int32) → (Nat → Int32) → (Nat → Int32) → (Nat → Int32) → (Nat → Int32) → (Nat → Int32) → (Nat → Int32) → (Nat → Int32) → (Nat → Int32) → (Nat → Int32) → (Nat → Int32) → Nat → Prop} {x1 x3 x4 : Int32} {i c : Nat} (hW : tc_W wp wl ws c)
    (h : ∀ (mp : Int32) (ml mz : Nat → Int32), tc_W mp ml mz c → J x4 (nI (i + 1)) cp (nI L) wp mp (nI (i + 1)) o a b ye yl yo ys dn rq rs cl wl ws ml mz yr 34000) : wY_run_219 post J x1 x3 x4 (nI i) cp (nI L) wp mp (nI i) o a b ye yl yo ys dn rq rs cl wl ws ml mz yr 34000 := by
  unfold wY_run_219
  exact nm_e (nm_e (nm_e (nm_e (nm_e (nm_r (nI_1 i) (nm_r (nI_1 i) (h _ _ _ (yh_copy hW))))))))
theorem yh_run_l {post : Int32 → SY → Prop} (hV : tc_VP o a b L) (hD : tc_VD rq rs cl) (hJ : tc_JM o L yl ye yo T) (hL : L ≤ 16) (hB : B ≤ 4096) :
    ∀ (n k i c : Nat) (wp mp : Int32) (wl ws ml mz : Nat → Int32), i + n = B → k ≤ i → tc_g c → c / 2000 ≤ L → tc_W mp ml mz c → ∀ m, n < m → (∀ (wp mp : Int32) (wl ws ml mz : Nat → Int32), tc_W mp ml mz (tc_run L o (tc_F o a b dn rq rs cl) (tc_N o a b rs cl T) ch n c k i).2.1 → post (tc_run L o (tc_F o a b dn rq rs cl) (tc_N o a b rs cl T) ch n c k i).1 (cp, nI L, wp, mp, nI (tc_run L o (tc_F o a b dn rq rs cl) (tc_N o a b rs cl T) ch n c k i).2.2, o, a, b, ye, yl, yo, ys, dn, rq, rs, cl, wl, ws, ml, mz, yr, 34000)) →
      wY_run_43 post ch (nI B) m (nI k) (nI i) cp (nI L) wp mp (nI i) o a b ye yl yo ys dn rq rs cl wl ws ml mz yr 34000 := by
  intro n
  induction n with
  | zero =>
    intro k i c wp mp wl ws ml mz e hk hg hc hW m hm h
    obtain ⟨m', rfl⟩ : ∃ m', m = m' + 1 := ⟨m - 1, by omega⟩
    have hm1 := hW.1
    subst hm1
    rw [wY_run_43]
    rw [tc_run] at h
    refine br_f (nI_nlt (a := 4096) (by omega) (by omega)) ?_
    by_cases z : c / 2000 = L
    · rw [if_pos z] at h
      exact br_t (by rw [z]) (h _ _ _ _ _ _ hW)
    · rw [if_neg z] at h
      exact br_f (fun w => z ((nI_eq (by omega) (by omega)).mp w)) (br_t (congrArg nI (by omega)) (h _ _ _ _ _ _ hW))
  | succ n ih =>
    intro k i c wp mp wl ws ml mz e hk hg hc hW m hm h
    obtain ⟨m', rfl⟩ : ∃ m', m = m' + 1 := ⟨m - 1, by omega⟩
    have hm1 := hW.1
    subst hm1
    rw [wY_run_43]
    rw [tc_run] at h
    refine br_f (nI_nlt (a := 4096) (by omega) (by omega)) ?_
    by_cases z : c / 2000 = L
    · rw [if_pos z] at h
      exact br_t (by rw [z]) (h _ _ _ _ _ _ hW)
    · have hp : c / 2000 < L := by omega
      rw [if_neg z] at h
      have hW' := yh_copy (l' := wl) (s' := ws) hW
      refine br_f (fun w => z ((nI_eq (by omega) (by omega)).mp w)) (br_f (fun w => by have := (nI_eq (by omega) (by omega)).mp w; omega) (nm_e (nm_e (nm_e (nm_e (nm_e ⟨vp_in_nI (by omega) (by omega), ?_⟩))))))
      rw [nI_clamp (by omega)]
      have hle := tc_F_le (o := o) (a := a) (b := b) (dn := dn) (rq := rq) (rs := rs) (cl := cl) c
      have takes : (o (c / 2000) = 5 ∨ o (c / 2000) = 8) → wY_run_168 post (wY_run_43 post ch (nI B) m') ch (nI B) (nI k) (nI i) cp (nI L) (nI (c / 2000)) (nI (c / 2000)) (nI i) o a b ye yl yo ys dn rq rs cl (upd (upd (upd wl 0 (ml 0)) 1 (ml 1)) 2 (ml 2)) (upd (upd ws 0 (mz 0)) 1 (mz 1)) ml mz yr 34000 := by
        intro h58
        unfold wY_run_168 wY_run_173
        refine br_f (by decide) ⟨by decide, ?_⟩
        unfold wY_run_193
        rw [tc_dcE (by omega) ch]
        refine yh_step hV hD hJ hL (by omega) hp hW' (fun hf => ?_) (fun hf wp2 wl2 ws2 hW2 => ?_)
        · rw [if_pos hf] at h
          exact br_f (nI_ne0 (by omega) (by omega)) (h _ _ _ _ _ _ hW)
        · rw [if_neg (fun w => w hf), if_pos h58] at h
          have hN := tc_step_g hV hD (tc_JM_T hJ) (tc_dc ch k) hg hp hf
          refine br_t rfl (br_f (by decide) (nm_r (nI_1 k) (yh_219 hW2 (fun mp3 ml3 mz3 hW3 => ?_))))
          exact ih (k + 1) (i + 1) _ _ _ _ _ _ _ (by omega) (by omega) hN.1 hN.2 hW3 m' (by omega) h
      by_cases o5 : o (c / 2000) = 5
      · exact nm_r o5 (br_t rfl (takes (Or.inl o5)))
      · by_cases o8 : o (c / 2000) = 8
        · exact nm_r o8 (br_f (by decide) (br_t rfl (takes (Or.inr o8))))
        · have n58 : ¬ (o (c / 2000) = 5 ∨ o (c / 2000) = 8) := fun w => w.elim o5 o8
          refine nm_e (br_f o5 (br_f o8 ?_))
          unfold wY_run_173
          refine br_t rfl ?_
          unfold wY_run_193
          refine yh_step hV hD hJ hL (by omega) hp hW' (fun hf => ?_) (fun hf wp2 wl2 ws2 hW2 => ?_)
          · rw [if_pos hf] at h
            exact br_f (nI_ne0 (by omega) (by omega)) (h _ _ _ _ _ _ hW)
          · rw [if_neg (fun w => w hf), if_neg n58] at h
            rw [tc_N_nd (hV _ hp) o5 o8 0 (tc_dc ch k)] at hW2
            have hN := tc_step_g hV hD (tc_JM_T hJ) (tc_dc ch k) hg hp hf
            refine br_t rfl (br_t rfl (yh_219 hW2 (fun mp3 ml3 mz3 hW3 => ?_)))
            exact ih k (i + 1) _ _ _ _ _ _ _ (by omega) (by omega) hN.1 hN.2 hW3 m' (by omega) h
theorem yh_reset {post : SY → Prop} (h : ∀ ml mz : Nat → Int32, tc_W (nI 0) ml mz 1120 → post (cp, ct, wp, nI 0, nI 0, o, a, b, ye, yl, yo, ys, dn, rq, rs, cl, wl, ws, ml, mz, yr, 34000)) : wpY_resetMachine post (cp, ct, wp, mp, mt, o, a, b, ye, yl, yo, ys, dn, rq, rs, cl, wl, ws, ml, mz, yr, 34000) := by
  unfold wpY_resetMachine
  refine nm_e (nm_e (nm_e (nm_e (nm_e (h _ _ ⟨rfl, fun j hj => ?_, fun j hj => ?_⟩)))))
  · rcases tc_c3 hj with rfl | rfl | rfl
    · rw [pk_un (by omega), pk_un (by omega), pk_us]; rfl
    · rw [pk_un (by omega), pk_us]; rfl
    · rw [pk_us]; rfl
  · rcases tc_c2 hj with rfl | rfl
    · rw [pk_un (by omega), pk_us]; rfl
    · rw [pk_us]; rfl
end
