/-! Y's questions -/
section
variable {cp ct wp mp mt : Int32} {o a b ye yl yo ys dn rq rs cl wl ws ml mz yr : Nat → Int32} {c x y L n i p q : Nat} {T : Nat → Nat} {d : Int32}
theorem yh_fpl {post : Int32 → SY → Prop} {R : Nat → Prop} (hV : tc_VP o a b L) (hD : tc_VD rq rs cl) (hJ : tc_JM o L yl ye yo T) (hL : L ≤ 16)
    (hR : ∀ c, c < 34000 → (yr c ≠ 0 ↔ R c))
    (h : ∀ (r wp : Int32) (wl ws : Nat → Int32), tc_FP L (tc_F o a b dn rq rs cl) R r → post r (cp, nI L, wp, mp, mt, o, a, b, ye, yl, yo, ys, dn, rq, rs, cl, wl, ws, ml, mz, yr, 34000)) :
    ∀ (m i : Nat) (wp : Int32) (wl ws : Nat → Int32), L * 2000 < m + i → i ≤ L * 2000 → (∀ c, c < i → R c → tc_F o a b dn rq rs cl c = 0) → wY_faultPc_15 post m (nI i) cp (nI L) wp mp mt o a b ye yl yo ys dn rq rs cl wl ws ml mz yr 34000 := by
  intro m
  induction m with
  | zero => intro i wp wl ws g1 g2; omega
  | succ m ih =>
    intro i wp wl ws g1 g2 hz
    rw [wY_faultPc_15]
    by_cases e : i = L * 2000
    · refine br_t (by rw [yh_l2, e]; exact nI_le (Nat.le_refl _) (by omega)) (h _ _ _ _ (Or.inl ⟨rfl, fun c hc hl => ?_⟩))
      exact hz c (by omega) hc
    · refine br_f (by rw [yh_l2]; exact nI_ge (by omega) (by omega)) ⟨vp_in_nI (by omega) (by omega), ?_⟩
      rw [nI_clamp (by omega)]
      by_cases z : yr i = 0
      · refine br_t z (nm_r (nI_1 i) (ih (i + 1) wp wl ws (by omega) (by omega) (fun c hc hr => ?_)))
        by_cases ec : c = i
        · rw [ec] at hr
          exact absurd z ((hR i (by omega)).mpr hr)
        · exact hz c (by omega) hr
      · refine br_f z (yh_faultAt hV hD hJ hL (by omega) (by omega) (fun wp wl ws => ?_))
        have hle := tc_F_le (o := o) (a := a) (b := b) (dn := dn) (rq := rq) (rs := rs) (cl := cl) i
        by_cases f : tc_F o a b dn rq rs cl i = 0
        · refine br_t (by rw [f]; rfl) (nm_r (nI_1 i) (ih (i + 1) wp wl ws (by omega) (by omega) (fun c hc hr => ?_)))
          by_cases ec : c = i
          · rw [ec]; exact f
          · exact hz c (by omega) hr
        · refine br_f (nI_ne0 (by omega) (by omega)) ⟨by decide, ?_⟩
          rw [show nI i / 2000 = nI (i / 2000) from pk_div (d := 2000) (by omega) (by omega) (by omega)]
          refine h _ _ _ _ (Or.inr ⟨i, (hR i (by omega)).mp z, by omega, f, rfl, fun c' hc' hl' hf' => ?_⟩)
          by_cases w : c' < i
          · exact absurd (hz c' w hc') hf'
          · omega
theorem yh_faultPc {post : Int32 → SY → Prop} (hV : tc_VP o a b L) (hD : tc_VD rq rs cl) (hL : L ≤ 16)
    (h0 : tc_wf o L = 0 → ∀ yl ye yo ys : Nat → Int32, post (-1) (cp, nI L, wp, mp, mt, o, a, b, ye, yl, yo, ys, dn, rq, rs, cl, wl, ws, ml, mz, yr, 34000))
    (h1 : tc_wf o L = 1 → ∀ (r wp : Int32) (yl ye yo ys wl ws yr : Nat → Int32), tc_JM o L yl ye yo (tc_aim o L) → (∀ c, c < 34000 → (yr c ≠ 0 ↔ tc_RR o a b dn rq rs cl L c)) → tc_FP L (tc_F o a b dn rq rs cl) (tc_RR o a b dn rq rs cl L) r → post r (cp, nI L, wp, mp, mt, o, a, b, ye, yl, yo, ys, dn, rq, rs, cl, wl, ws, ml, mz, yr, 34000)) :
    wpY_faultPc post (cp, nI L, wp, mp, mt, o, a, b, ye, yl, yo, ys, dn, rq, rs, cl, wl, ws, ml, mz, yr, 34000) := by
  unfold wpY_faultPc
  refine ym_match hL (fun yl ye yo ys hJ => ?_)
  rcases tc_wf_01 o L with e | e
  · have k0 := h0 e yl ye yo ys
    rw [e]
    exact br_t rfl k0
  · have hJ' := hJ e
    rw [e]
    refine br_f (by decide) (yh_compute hV hD hJ' hL (fun wp wl ws yr hR => ⟨L * 2000 + 1, ?_⟩))
    exact yh_fpl hV hD hJ' hL hR (fun r wp wl ws hF => h1 e r wp yl ye yo ys wl ws yr hJ' hR hF) (L * 2000 + 1) 0 wp wl ws (by omega) (by omega) (fun c hc => absurd hc (by omega))
theorem yh_check {post : Int32 → SY → Prop} (hV : tc_VP o a b L) (hD : tc_VD rq rs cl) (hL : L ≤ 16)
    (h0 : tc_wf o L = 0 → ∀ yl ye yo ys : Nat → Int32, post 12 (cp, nI L, wp, mp, mt, o, a, b, ye, yl, yo, ys, dn, rq, rs, cl, wl, ws, ml, mz, yr, 34000))
    (h1 : tc_wf o L = 1 → ∀ (r wp : Int32) (yl ye yo ys wl ws yr : Nat → Int32), tc_FP L (tc_F o a b dn rq rs cl) (tc_RR o a b dn rq rs cl L) r → (r < 0 → post 10 (cp, nI L, wp, mp, mt, o, a, b, ye, yl, yo, ys, dn, rq, rs, cl, wl, ws, ml, mz, yr, 34000)) ∧ (¬ r < 0 → post 11 (cp, nI L, wp, mp, mt, o, a, b, ye, yl, yo, ys, dn, rq, rs, cl, wl, ws, ml, mz, yr, 34000))) :
    wpY_check post (cp, nI L, wp, mp, mt, o, a, b, ye, yl, yo, ys, dn, rq, rs, cl, wl, ws, ml, mz, yr, 34000) := by
  unfold wpY_check
  refine ym_match hL (fun yl ye yo ys hJ => ?_)
  rcases tc_wf_01 o L with e | e
  · have k0 := h0 e yl ye yo ys
    rw [e]
    exact br_t rfl k0
  · rw [e]
    refine br_f (by decide) (yh_faultPc hV hD hL (fun w => ?_) (fun _ r wp yl ye yo ys wl ws yr _ _ hF => h1 e r wp yl ye yo ys wl ws yr hF))
    rw [e] at w
    exact absurd w (by decide)
/-- the least fault among the first of a statement's configurations -/
def tc_BF (F : Nat → Nat) (R : Nat → Prop) (p r : Nat) (b : Int32) : Prop :=
  (b = -1 ∧ ∀ c, p * 2000 ≤ c → c < p * 2000 + r → R c → F c = 0) ∨
  ∃ c, p * 2000 ≤ c ∧ c < p * 2000 + r ∧ R c ∧ F c ≠ 0 ∧ b = nI (F c) ∧ ∀ c', p * 2000 ≤ c' → c' < p * 2000 + r → R c' → F c' ≠ 0 → F c ≤ F c'
theorem tc_BF_n {F : Nat → Nat} {R : Nat → Prop} {p r : Nat} {b : Int32} (h : tc_BF F R p r b) (hn : R (p * 2000 + r) → F (p * 2000 + r) = 0) : tc_BF F R p (r + 1) b := by
  rcases h with ⟨e, h⟩ | ⟨c, h1, h2, h3, h4, h5, h6⟩
  · refine Or.inl ⟨e, fun c g1 g2 g3 => ?_⟩
    by_cases w : c = p * 2000 + r
    · rw [w] at g3 ⊢; exact hn g3
    · exact h c g1 (by omega) g3
  · refine Or.inr ⟨c, h1, by omega, h3, h4, h5, fun c' g1 g2 g3 g4 => ?_⟩
    by_cases w : c' = p * 2000 + r
    · rw [w] at g3 g4; exact absurd (hn g3) g4
    · exact h6 c' g1 (by omega) g3 g4
theorem tc_BF_a {F : Nat → Nat} {R : Nat → Prop} {p r : Nat} {b : Int32} (h : tc_BF F R p r b) (hr : R (p * 2000 + r)) (hf : F (p * 2000 + r) ≠ 0) (hl : b = -1 ∨ ∃ j, b = nI j ∧ j < 2 ^ 31 ∧ F (p * 2000 + r) ≤ j) (hF : ∀ c, F c ≤ 7) : tc_BF F R p (r + 1) (nI (F (p * 2000 + r))) := by
  refine Or.inr ⟨p * 2000 + r, by omega, by omega, hr, hf, rfl, fun c' g1 g2 g3 g4 => ?_⟩
  by_cases w : c' = p * 2000 + r
  · rw [w]; exact Nat.le_refl _
  · rcases h with ⟨e, h⟩ | ⟨c, h1, h2, h3, h4, h5, h6⟩
    · exact absurd (h c' g1 (by omega) g3) g4
    · have q := h6 c' g1 (by omega) g3 g4
      have := hF c
      rcases hl with z | ⟨j, ej, hj, hle⟩
      · rw [h5] at z; exact absurd z (tc_m1_ne (by omega))
      · rw [h5, nI_eq (by omega) hj] at ej
        omega
theorem tc_BF_b {F : Nat → Nat} {R : Nat → Prop} {p r j : Nat} {b : Int32} (h : tc_BF F R p r b) (eb : b = nI j) (hj : j < 2 ^ 31) (hle : j ≤ F (p * 2000 + r)) (hF : ∀ c, F c ≤ 7) : tc_BF F R p (r + 1) b := by
  rcases h with ⟨e, h⟩ | ⟨c, h1, h2, h3, h4, h5, h6⟩
  · rw [eb] at e; exact absurd e (tc_m1_ne hj)
  · refine Or.inr ⟨c, h1, by omega, h3, h4, h5, fun c' g1 g2 g3 g4 => ?_⟩
    by_cases w : c' = p * 2000 + r
    · have := hF c
      rw [eb, nI_eq hj (by omega)] at h5
      rw [w]; omega
    · exact h6 c' g1 (by omega) g3 g4
theorem tc_BF_e {F : Nat → Nat} {R : Nat → Prop} {b : Int32} (h : tc_BF F R p 2000 b) (hP : tc_FP L F R (nI p)) (hL : L ≤ 16) (hp : p < 16) : tc_FS L F R (nI p) b := by
  rcases hP with ⟨e, _⟩ | ⟨c0, g1, g2, g3, g4, g5⟩
  · exact absurd e (tc_m1_ne (by omega))
  · rw [nI_eq (by omega) (by omega)] at g4
    rcases h with ⟨e, h⟩ | ⟨c, h1, h2, h3, h4, h5, h6⟩
    · exact absurd (h c0 (by omega) (by omega) g1) g3
    · refine Or.inr ⟨c, h3, by omega, h4, congrArg nI (by omega), h5, fun c' k1 k2 k3 => ?_⟩
      have := g5 c' k1 k2 k3
      by_cases w : c' / 2000 = p
      · have := h6 c' (by omega) (by omega) k1 k3
        omega
      · omega
theorem yh_pr (p r : Nat) : nI p * 2000 + nI r = nI (p * 2000 + r) := by
  rw [yh_l2, nI_add]
theorem yh_fkl {post : Int32 → SY → Prop} {R : Nat → Prop} (hV : tc_VP o a b L) (hD : tc_VD rq rs cl) (hJ : tc_JM o L yl ye yo T) (hL : L ≤ 16) (hp : p < L)
    (hR : ∀ c, c < 34000 → (yr c ≠ 0 ↔ R c))
    (h : ∀ (r wp : Int32) (wl ws : Nat → Int32), tc_BF (tc_F o a b dn rq rs cl) R p 2000 r → post r (cp, nI L, wp, mp, mt, o, a, b, ye, yl, yo, ys, dn, rq, rs, cl, wl, ws, ml, mz, yr, 34000)) :
    ∀ (m i : Nat) (bb wp : Int32) (wl ws : Nat → Int32), 2000 < m + i → i ≤ 2000 → tc_BF (tc_F o a b dn rq rs cl) R p i bb → wY_faultKind_15 post (nI p) m bb (nI i) cp (nI L) wp mp mt o a b ye yl yo ys dn rq rs cl wl ws ml mz yr 34000 := by
  intro m
  induction m with
  | zero => intro i bb wp wl ws g1 g2; omega
  | succ m ih =>
    intro i bb wp wl ws g1 g2 hB
    rw [wY_faultKind_15]
    by_cases e : i = 2000
    · rw [e] at hB
      exact br_t (by rw [e]; exact nI_le (a := 2000) (b := 2000) (by omega) (by omega)) (h _ _ _ _ hB)
    · refine br_f (nI_ge (b := 2000) (by omega) (by omega)) ?_
      rw [yh_pr]
      refine ⟨vp_in_nI (by omega) (by omega), ?_⟩
      rw [nI_clamp (by omega)]
      by_cases z : yr (p * 2000 + i) = 0
      · refine br_t z (nm_r (nI_1 i) (ih (i + 1) bb wp wl ws (by omega) (by omega) (tc_BF_n hB (fun hr => ?_))))
        exact absurd z ((hR _ (by omega)).mpr hr)
      · refine br_f z (yh_faultAt hV hD hJ hL (by omega) (by omega) (fun wp wl ws => ?_))
        have hr := (hR _ (by omega)).mp z
        have hle := tc_F_le (o := o) (a := a) (b := b) (dn := dn) (rq := rq) (rs := rs) (cl := cl) (p * 2000 + i)
        by_cases f : tc_F o a b dn rq rs cl (p * 2000 + i) = 0
        · exact br_t (by rw [f]; rfl) (nm_r (nI_1 i) (ih (i + 1) bb wp wl ws (by omega) (by omega) (tc_BF_n hB (fun _ => f))))
        · refine br_f (nI_ne0 (by omega) (by omega)) ?_
          have hB' := hB
          rcases hB with ⟨eb, _⟩ | ⟨c, _, _, _, _, eb, _⟩
          · exact br_t (by rw [eb]; decide) (nm_r (nI_1 i) (ih (i + 1) _ wp wl ws (by omega) (by omega) (tc_BF_a hB' hr f (Or.inl eb) tc_F_le)))
          · have hle2 := tc_F_le (o := o) (a := a) (b := b) (dn := dn) (rq := rq) (rs := rs) (cl := cl) c
            refine br_f (by rw [eb]; exact nI_pos (by omega)) ?_
            by_cases w : tc_F o a b dn rq rs cl c ≤ tc_F o a b dn rq rs cl (p * 2000 + i)
            · exact br_t (by rw [eb]; exact nI_le w (by omega)) (nm_r (nI_1 i) (ih (i + 1) bb wp wl ws (by omega) (by omega) (tc_BF_b hB' eb (by omega) w tc_F_le)))
            · exact br_f (by rw [eb]; exact nI_ge (by omega) (by omega)) (nm_r (nI_1 i) (ih (i + 1) _ wp wl ws (by omega) (by omega) (tc_BF_a hB' hr f (Or.inr ⟨_, eb, by omega, by omega⟩) tc_F_le)))
theorem yh_faultKind {post : Int32 → SY → Prop} (hV : tc_VP o a b L) (hD : tc_VD rq rs cl) (hL : L ≤ 16)
    (h0 : tc_wf o L = 0 → ∀ yl ye yo ys : Nat → Int32, post (-1) (cp, nI L, wp, mp, mt, o, a, b, ye, yl, yo, ys, dn, rq, rs, cl, wl, ws, ml, mz, yr, 34000))
    (h1 : tc_wf o L = 1 → ∀ (r k wp : Int32) (yl ye yo ys wl ws yr : Nat → Int32), tc_FS L (tc_F o a b dn rq rs cl) (tc_RR o a b dn rq rs cl L) r k → post k (cp, nI L, wp, mp, mt, o, a, b, ye, yl, yo, ys, dn, rq, rs, cl, wl, ws, ml, mz, yr, 34000)) :
    wpY_faultKind post (cp, nI L, wp, mp, mt, o, a, b, ye, yl, yo, ys, dn, rq, rs, cl, wl, ws, ml, mz, yr, 34000) := by
  unfold wpY_faultKind
  refine yh_faultPc hV hD hL (fun e yl ye yo ys => br_f (by decide) (h0 e yl ye yo ys)) (fun e r wp yl ye yo ys wl ws yr hJ hR hF => ?_)
  rcases tc_FP_neg hF hL with ⟨er, hn⟩ | ⟨p, hp, er⟩
  · subst er
    exact br_f (by decide) (h1 e (-1) (-1) wp yl ye yo ys wl ws yr (Or.inl ⟨rfl, rfl, hn⟩))
  · subst er
    refine br_t (nI_pos' (by omega)) ⟨2001, ?_⟩
    exact yh_fkl hV hD hJ hL hp hR (fun k wp wl ws hB => h1 e (nI p) k wp yl ye yo ys wl ws yr (tc_BF_e hB hF hL (by omega))) 2001 0 (-1) wp wl ws (by omega) (by omega) (Or.inl ⟨rfl, fun c g1 g2 => by omega⟩)
theorem yh_sset {post : Int32 → SY → Prop} {R : Nat → Prop} (hp : p ≤ 16) (hq : q < 2)
    (hR : ∀ c, c < 34000 → (yr c ≠ 0 ↔ R c))
    (h : ∀ (s wp : Int32) (wl ws : Nat → Int32), tc_BS (fun c => R c ∧ p * 2000 ≤ c ∧ c < p * 2000 + 2000) (fun c => tc_s c q) s → post s (cp, nI L, wp, mp, mt, o, a, b, ye, yl, yo, ys, dn, rq, rs, cl, wl, ws, ml, mz, yr, 34000)) :
    ∀ (m i : Nat) (s wp : Int32) (wl ws : Nat → Int32), 2000 < m + i → i ≤ 2000 → tc_BS (fun c => R c ∧ p * 2000 ≤ c ∧ c < p * 2000 + i) (fun c => tc_s c q) s → wY_stateSet_39 post (nI p) (nI q) m s (nI i) cp (nI L) wp mp mt o a b ye yl yo ys dn rq rs cl wl ws ml mz yr 34000 := by
  intro m
  induction m with
  | zero => intro i s wp wl ws g1 g2; omega
  | succ m ih =>
    intro i s wp wl ws g1 g2 hB
    rw [wY_stateSet_39]
    by_cases e : i = 2000
    · rw [e] at hB
      exact br_t (by rw [e]; exact nI_le (a := 2000) (b := 2000) (by omega) (by omega)) (h _ _ _ _ hB)
    · refine br_f (nI_ge (b := 2000) (by omega) (by omega)) ?_
      rw [yh_pr]
      refine ⟨vp_in_nI (by omega) (by omega), ?_⟩
      rw [nI_clamp (by omega)]
      by_cases z : yr (p * 2000 + i) = 0
      · refine br_t z (nm_r (nI_1 i) (ih (i + 1) s wp wl ws (by omega) (by omega) (tc_BS_c hB (fun x => ?_))))
        constructor
        · rintro ⟨w1, w2, w3⟩
          refine ⟨w1, w2, ?_⟩
          by_cases w : x = p * 2000 + i
          · rw [w] at w1
            exact absurd z ((hR _ (by omega)).mpr w1)
          · omega
        · rintro ⟨w1, w2, w3⟩
          exact ⟨w1, w2, by omega⟩
      · have hr := (hR _ (by omega)).mp z
        refine br_f z (yh_load (by omega) (fun wp wl ws hW => ⟨vp_in_nI hq (by omega), ?_⟩))
        rw [nI_clamp (by omega), hW.2.2 q hq]
        refine nm_e (nm_r (nI_1 i) (ih (i + 1) _ wp wl ws (by omega) (by omega) ?_))
        refine tc_BS_s (c := p * 2000 + i) hB (Nat.lt_succ_of_lt (tc_s_lt _ q)) (fun x => ?_)
        constructor
        · rintro ⟨w1, w2, w3⟩
          by_cases w : x = p * 2000 + i
          · exact Or.inr w
          · exact Or.inl ⟨w1, w2, by omega⟩
        · rintro (⟨w1, w2, w3⟩ | w)
          · exact ⟨w1, w2, by omega⟩
          · rw [w]; exact ⟨hr, by omega, by omega⟩
theorem yh_lset {post : Int32 → SY → Prop} {R : Nat → Prop} (hp : p ≤ 16) (hq : q < 3)
    (hR : ∀ c, c < 34000 → (yr c ≠ 0 ↔ R c))
    (h : ∀ (s wp : Int32) (wl ws : Nat → Int32), tc_BS (fun c => R c ∧ p * 2000 ≤ c ∧ c < p * 2000 + 2000) (fun c => tc_l c q) s → post s (cp, nI L, wp, mp, mt, o, a, b, ye, yl, yo, ys, dn, rq, rs, cl, wl, ws, ml, mz, yr, 34000)) :
    ∀ (m i : Nat) (s wp : Int32) (wl ws : Nat → Int32), 2000 < m + i → i ≤ 2000 → tc_BS (fun c => R c ∧ p * 2000 ≤ c ∧ c < p * 2000 + i) (fun c => tc_l c q) s → wY_localSet_39 post (nI p) (nI q) m s (nI i) cp (nI L) wp mp mt o a b ye yl yo ys dn rq rs cl wl ws ml mz yr 34000 := by
  intro m
  induction m with
  | zero => intro i s wp wl ws g1 g2; omega
  | succ m ih =>
    intro i s wp wl ws g1 g2 hB
    rw [wY_localSet_39]
    by_cases e : i = 2000
    · rw [e] at hB
      exact br_t (by rw [e]; exact nI_le (a := 2000) (b := 2000) (by omega) (by omega)) (h _ _ _ _ hB)
    · refine br_f (nI_ge (b := 2000) (by omega) (by omega)) ?_
      rw [yh_pr]
      refine ⟨vp_in_nI (by omega) (by omega), ?_⟩
      rw [nI_clamp (by omega)]
      by_cases z : yr (p * 2000 + i) = 0
      · refine br_t z (nm_r (nI_1 i) (ih (i + 1) s wp wl ws (by omega) (by omega) (tc_BS_c hB (fun x => ?_))))
        constructor
        · rintro ⟨w1, w2, w3⟩
          refine ⟨w1, w2, ?_⟩
          by_cases w : x = p * 2000 + i
          · rw [w] at w1
            exact absurd z ((hR _ (by omega)).mpr w1)
          · omega
        · rintro ⟨w1, w2, w3⟩
          exact ⟨w1, w2, by omega⟩
      · have hr := (hR _ (by omega)).mp z
        refine br_f z (yh_load (by omega) (fun wp wl ws hW => ⟨vp_in_nI hq (by omega), ?_⟩))
        rw [nI_clamp (by omega), hW.2.1 q hq]
        refine nm_e (nm_r (nI_1 i) (ih (i + 1) _ wp wl ws (by omega) (by omega) ?_))
        refine tc_BS_s (c := p * 2000 + i) hB (tc_l_lt _ q) (fun x => ?_)
        constructor
        · rintro ⟨w1, w2, w3⟩
          by_cases w : x = p * 2000 + i
          · exact Or.inr w
          · exact Or.inl ⟨w1, w2, by omega⟩
        · rintro (⟨w1, w2, w3⟩ | w)
          · exact ⟨w1, w2, by omega⟩
          · rw [w]; exact ⟨hr, by omega, by omega⟩
end
