/-! Y's expansion of one configuration, its passes, its fault at one -/
section
variable {cp ct wp mp mt : Int32} {o a b ye yl yo ys dn rq rs cl wl ws ml mz yr : Nat → Int32} {c x y L n i : Nat} {T : Nat → Nat} {d : Int32}
theorem yh_ex1 {post : Int32 → SY → Prop} {m : Nat} {x2 d d' : Int32} (hV : tc_VP o a b L) (hD : tc_VD rq rs cl) (hJ : tc_JM o L yl ye yo T) (hL : L ≤ 16) (hR : tc_R L (tc_F o a b dn rq rs cl) (tc_N o a b rs cl T) c) (hp : c / 2000 < L) (hd : ¬ 2 ≤ d) (hd' : d + 1 = d')
    (h1 : tc_F o a b dn rq rs cl c ≠ 0 → ∀ (wp : Int32) (wl ws : Nat → Int32), wY_expand_4 post (nI c) m x2 d' cp (nI L) wp mp mt o a b ye yl yo ys dn rq rs cl wl ws ml mz yr 34000)
    (h2 : tc_F o a b dn rq rs cl c = 0 → yr (tc_N o a b rs cl T c d) ≠ 0 → ∀ (wp : Int32) (wl ws : Nat → Int32), wY_expand_4 post (nI c) m x2 d' cp (nI L) wp mp mt o a b ye yl yo ys dn rq rs cl wl ws ml mz yr 34000)
    (h3 : tc_F o a b dn rq rs cl c = 0 → yr (tc_N o a b rs cl T c d) = 0 → ∀ (wp : Int32) (wl ws : Nat → Int32), wY_expand_4 post (nI c) m 1 d' cp (nI L) wp mp mt o a b ye yl yo ys dn rq rs cl wl ws ml mz (upd yr (tc_N o a b rs cl T c d) 1) 34000) :
    wY_expand_4 post (nI c) (m + 1) x2 d cp (nI L) wp mp mt o a b ye yl yo ys dn rq rs cl wl ws ml mz yr 34000 := by
  have hI := tc_RI hV hD (tc_JM_T hJ) hR
  rw [wY_expand_4]
  refine br_f hd (yh_load (by omega) (fun wp wl ws hW => yh_step hV hD hJ hL (by omega) hp hW (fun hf => ?_) (fun hf wp' wl' ws' hW' => ?_)))
  · have hle := tc_F_le (o := o) (a := a) (b := b) (dn := dn) (rq := rq) (rs := rs) (cl := cl) c
    exact br_f (nI_ne0 (by omega) (by omega)) (nm_r hd' (h1 hf _ _ _))
  · have hN := tc_RI hV hD (tc_JM_T hJ) (tc_RS d hR hp hf)
    have hNl : tc_N o a b rs cl T c d < 34000 := by omega
    refine br_t rfl (nm_r (tc_W_pack hW') (br_f (nI_pos (by omega)) (br_f (nI_ge (b := 34000) hNl (by omega)) ⟨vp_in_nI hNl (by omega), ?_⟩)))
    rw [nI_clamp (by omega), tc_vb1]
    by_cases z : yr (tc_N o a b rs cl T c d) = 0
    · exact br_t z ⟨vp_in_nI hNl (by omega), nm_e (nm_r hd' (h3 hf z _ _ _))⟩
    · exact br_f z (nm_r hd' (h2 hf z _ _ _))
theorem yh_expand {post : Int32 → SY → Prop} (hV : tc_VP o a b L) (hD : tc_VD rq rs cl) (hJ : tc_JM o L yl ye yo T) (hL : L ≤ 16) (hY : tc_YI L (tc_F o a b dn rq rs cl) (tc_N o a b rs cl T) yr) (hR : tc_R L (tc_F o a b dn rq rs cl) (tc_N o a b rs cl T) c) (hp : c / 2000 < L)
    (h : ∀ (r wp : Int32) (wl ws yr' : Nat → Int32), tc_YE L (tc_F o a b dn rq rs cl) (tc_N o a b rs cl T) c yr yr' r → post r (cp, nI L, wp, mp, mt, o, a, b, ye, yl, yo, ys, dn, rq, rs, cl, wl, ws, ml, mz, yr', 34000)) : wpY_expand post (cp, nI L, wp, mp, mt, o, a, b, ye, yl, yo, ys, dn, rq, rs, cl, wl, ws, ml, mz, yr, 34000) (nI c) := by
  unfold wpY_expand
  have hb : ∀ d, tc_F o a b dn rq rs cl c = 0 → tc_N o a b rs cl T c d < 34000 := by
    intro d hf
    have := tc_RI hV hD (tc_JM_T hJ) (tc_RS d hR hp hf)
    omega
  have n1 : ¬ (1 : Int32) = 0 := by decide
  have fin : ∀ (r wp : Int32) (wl ws yr' : Nat → Int32), (r = 0 ∨ r = 1) → tc_YE L (tc_F o a b dn rq rs cl) (tc_N o a b rs cl T) c yr yr' r → wY_expand_4 post (nI c) 1 r 2 cp (nI L) wp mp mt o a b ye yl yo ys dn rq rs cl wl ws ml mz yr' 34000 := by
    intro r wp wl ws yr' hr hE
    rw [wY_expand_4]
    refine br_t (by decide) ⟨?_, h r wp wl ws yr' hE⟩
    rcases hr with rfl | rfl <;> rfl
  refine ⟨3, yh_ex1 hV hD hJ hL hR hp (d := 0) (d' := 1) (by decide) (by decide) ?_ ?_ ?_⟩
  · intro hf wp wl ws
    refine yh_ex1 hV hD hJ hL hR hp (d := 1) (d' := 2) (by decide) (by decide) ?_ ?_ ?_
    · intro _ wp wl ws
      exact fin 0 wp wl ws yr (Or.inl rfl) ⟨hY, Nat.le_refl _, Or.inl ⟨rfl, rfl, fun w => absurd w hf⟩⟩
    · intro w; exact absurd w hf
    · intro w; exact absurd w hf
  · intro hf z0 wp wl ws
    refine yh_ex1 hV hD hJ hL hR hp (d := 1) (d' := 2) (by decide) (by decide) ?_ ?_ ?_
    · intro w; exact absurd hf w
    · intro _ z1 wp wl ws
      exact fin 0 wp wl ws yr (Or.inl rfl) ⟨hY, Nat.le_refl _, Or.inl ⟨rfl, rfl, fun _ => ⟨z0, z1⟩⟩⟩
    · intro _ z1 wp wl ws
      have e := tc_n_upd n1 z1 34000 (hb 1 hf)
      exact fin 1 wp wl ws _ (Or.inr rfl) ⟨tc_YI_a hY n1 (tc_RS 1 hR hp hf), by omega, Or.inr ⟨rfl, by omega⟩⟩
  · intro hf z0 wp wl ws
    have e := tc_n_upd n1 z0 34000 (hb 0 hf)
    have hY1 := tc_YI_a hY n1 (tc_RS 0 hR hp hf)
    refine yh_ex1 hV hD hJ hL hR hp (d := 1) (d' := 2) (by decide) (by decide) ?_ ?_ ?_
    · intro w; exact absurd hf w
    · intro _ z1 wp wl ws
      exact fin 1 wp wl ws _ (Or.inr rfl) ⟨hY1, by omega, Or.inr ⟨rfl, by omega⟩⟩
    · intro _ z1 wp wl ws
      have e' := tc_n_upd n1 z1 34000 (hb 1 hf)
      exact fin 1 wp wl ws _ (Or.inr rfl) ⟨tc_YI_a hY1 n1 (tc_RS 1 hR hp hf), by omega, Or.inr ⟨rfl, by omega⟩⟩
theorem yh_l2 (L : Nat) : nI L * 2000 = nI (L * 2000) := pk_mul L 2000
theorem yh_pass {post : SY → Prop} {J : Int32 → Int32 → Int32 → Int32 → Int32 → Int32 → (Nat → Int32) → (Nat → Int32) → (Nat → Int32) → (Nat → Int32) → (Nat → Int32) → (Nat → Int32) → (Nat → Int32) → (Nat → Int32) → (Nat → Int32) → (Nat → Int32) → (Nat → Int32) → (Nat → Int32) → (Nat → Int32) → (Nat → Int32) → (Nat → Int32) → (Nat → Int32) → Nat → Prop} {x1 : Int32} {n0 : Nat}
    (hV : tc_VP o a b L) (hD : tc_VD rq rs cl) (hJ : tc_JM o L yl ye yo T) (hL : L ≤ 16)
    (h0 : ∀ (wp : Int32) (wl ws yr : Nat → Int32), tc_YP L (tc_F o a b dn rq rs cl) (tc_N o a b rs cl T) n0 (L * 2000) yr 0 → post (cp, nI L, wp, mp, mt, o, a, b, ye, yl, yo, ys, dn, rq, rs, cl, wl, ws, ml, mz, yr, 34000))
    (h1 : ∀ (wp : Int32) (wl ws yr : Nat → Int32), tc_YI L (tc_F o a b dn rq rs cl) (tc_N o a b rs cl T) yr → n0 < tc_n yr 34000 → J (x1 + 1) cp (nI L) wp mp mt o a b ye yl yo ys dn rq rs cl wl ws ml mz yr 34000) :
    ∀ (m i : Nat) (ch wp : Int32) (wl ws yr : Nat → Int32), L * 2000 < m + i → i ≤ L * 2000 → tc_YP L (tc_F o a b dn rq rs cl) (tc_N o a b rs cl T) n0 i yr ch → wY_compute_42 post J x1 m ch (nI i) cp (nI L) wp mp mt o a b ye yl yo ys dn rq rs cl wl ws ml mz yr 34000 := by
  intro m
  induction m with
  | zero => intro i ch wp wl ws yr g1 g2; omega
  | succ m ih =>
    intro i ch wp wl ws yr g1 g2 hP
    rw [wY_compute_42]
    by_cases e : i = L * 2000
    · refine br_t (by rw [yh_l2, e]; exact nI_le (Nat.le_refl _) (by omega)) ?_
      rw [e] at hP
      rcases hP.2.2 with ⟨z, _⟩ | ⟨z, w⟩
      · rw [z] at hP ⊢
        exact br_t rfl (h0 wp wl ws yr hP)
      · rw [z]
        exact br_f (by decide) (nm_e (h1 wp wl ws yr hP.1 w))
    · refine br_f (by rw [yh_l2]; exact nI_ge (by omega) (by omega)) ⟨vp_in_nI (by omega) (by omega), ?_⟩
      rw [nI_clamp (by omega)]
      by_cases z : yr i = 0
      · exact br_t z (nm_r (nI_1 i) (ih (i + 1) ch wp wl ws yr (by omega) (by omega) (tc_YP_n hP z)))
      · have hR := hP.1.2 i (by omega) z
        refine br_f z (yh_expand hV hD hJ hL hP.1 hR (by omega) (fun r wp wl ws yr' hE => ?_))
        rcases hE.2.2 with ⟨hr, _, _⟩ | ⟨hr, _⟩
        · subst hr
          exact br_t rfl (nm_r (nI_1 i) (ih (i + 1) ch wp wl ws yr' (by omega) (by omega) (tc_YP_f hP hE)))
        · subst hr
          exact br_f (by decide) (nm_r (nI_1 i) (ih (i + 1) 1 wp wl ws yr' (by omega) (by omega) (tc_YP_t hP hE)))
theorem yh_passes {post : SY → Prop} (hV : tc_VP o a b L) (hD : tc_VD rq rs cl) (hJ : tc_JM o L yl ye yo T) (hL : L ≤ 16)
    (h : ∀ (wp : Int32) (wl ws yr : Nat → Int32), (∀ c, c < 34000 → (yr c ≠ 0 ↔ tc_R L (tc_F o a b dn rq rs cl) (tc_N o a b rs cl T) c)) → post (cp, nI L, wp, mp, mt, o, a, b, ye, yl, yo, ys, dn, rq, rs, cl, wl, ws, ml, mz, yr, 34000)) :
    ∀ (m k : Nat) (wp : Int32) (wl ws yr : Nat → Int32), 34001 < m + k → k < tc_n yr 34000 → tc_YI L (tc_F o a b dn rq rs cl) (tc_N o a b rs cl T) yr → wY_compute_32 post m (nI k) cp (nI L) wp mp mt o a b ye yl yo ys dn rq rs cl wl ws ml mz yr 34000 := by
  have hb : ∀ c, tc_R L (tc_F o a b dn rq rs cl) (tc_N o a b rs cl T) c → c < 34000 := by
    intro c hr
    have := tc_RI hV hD (tc_JM_T hJ) hr
    omega
  intro m
  induction m with
  | zero =>
    intro k wp wl ws yr g1 g2
    have := tc_n_le yr 34000
    omega
  | succ m ih =>
    intro k wp wl ws yr g1 g2 hY
    have q := tc_n_le yr 34000
    rw [wY_compute_32]
    refine br_f (nI_nlt (a := 34000) (by omega) (by omega)) ⟨L * 2000 + 1, ?_⟩
    refine yh_pass (n0 := tc_n yr 34000) hV hD hJ hL ?_ ?_ (L * 2000 + 1) 0 0 wp wl ws yr (by omega) (by omega) (tc_YP_0 hY)
    · intro wp wl ws yr' hP
      exact h wp wl ws yr' (tc_YP_e hP hb (fun c d => tc_N01 c d))
    · intro wp wl ws yr' hY' hn
      rw [nI_1]
      exact ih (k + 1) wp wl ws yr' (by omega) (by omega) hY'
theorem yh_fill {post : SY → Prop} (hV : tc_VP o a b L) (hD : tc_VD rq rs cl) (hJ : tc_JM o L yl ye yo T) (hL : L ≤ 16)
    (h : ∀ (wp : Int32) (wl ws yr : Nat → Int32), (∀ c, c < 34000 → (yr c ≠ 0 ↔ tc_R L (tc_F o a b dn rq rs cl) (tc_N o a b rs cl T) c)) → post (cp, nI L, wp, mp, mt, o, a, b, ye, yl, yo, ys, dn, rq, rs, cl, wl, ws, ml, mz, yr, 34000)) :
    ∀ (m i : Nat) (yr : Nat → Int32), 34000 < m + i → i ≤ 34000 → (∀ c, c < i → yr c = 0) → wY_compute_2 post cp (nI L) wp mp mt 34000 m (nI i) o a b ye yl yo ys dn rq rs cl wl ws ml mz yr := by
  intro m
  induction m with
  | zero => intro i yr g1 g2; omega
  | succ m ih =>
    intro i yr g1 g2 hz
    rw [wY_compute_2]
    by_cases e : i = 34000
    · refine br_t (by rw [e]; exact nI_le (a := 34000) (b := 34000) (by omega) (by omega)) ⟨vp_in_nI (n := 1120) (by omega) (by omega), ?_⟩
      rw [show (1120 : Int32).toNatClampNeg = 1120 from by decide, tc_vb1]
      rw [e] at hz
      refine nm_e ⟨34002, ?_⟩
      have hY := tc_YI_0 (L := L) (F := tc_F o a b dn rq rs cl) (N := tc_N o a b rs cl T) hz (x := 1) (by decide)
      have hn := tc_n_upd (f := yr) (j := 1120) (x := 1) (by decide) (hz 1120 (by omega)) 34000 (by omega)
      exact yh_passes hV hD hJ hL h 34002 0 _ _ _ _ (by omega) (by omega) hY
    · refine br_f (nI_ge (b := 34000) (by omega) (by omega)) ⟨vp_in_nI (by omega) (by omega), ?_⟩
      rw [nI_clamp (by omega), tc_vb0]
      refine nm_e (nm_r (nI_1 i) (ih (i + 1) _ (by omega) (by omega) (fun c hc => ?_)))
      by_cases ec : c = i
      · rw [ec, pk_us]
      · rw [pk_un ec]; exact hz c (by omega)
theorem yh_compute {post : SY → Prop} (hV : tc_VP o a b L) (hD : tc_VD rq rs cl) (hJ : tc_JM o L yl ye yo T) (hL : L ≤ 16)
    (h : ∀ (wp : Int32) (wl ws yr : Nat → Int32), (∀ c, c < 34000 → (yr c ≠ 0 ↔ tc_R L (tc_F o a b dn rq rs cl) (tc_N o a b rs cl T) c)) → post (cp, nI L, wp, mp, mt, o, a, b, ye, yl, yo, ys, dn, rq, rs, cl, wl, ws, ml, mz, yr, 34000)) : wpY_compute post (cp, nI L, wp, mp, mt, o, a, b, ye, yl, yo, ys, dn, rq, rs, cl, wl, ws, ml, mz, yr, 34000) := by
  unfold wpY_compute
  exact ⟨34001, yh_fill hV hD hJ hL h 34001 0 yr (by omega) (by omega) (fun c hc => absurd hc (by omega))⟩
theorem yh_faultAt {post : Int32 → SY → Prop} (hV : tc_VP o a b L) (hD : tc_VD rq rs cl) (hJ : tc_JM o L yl ye yo T) (hL : L ≤ 16) (hc : c < 34000) (hp : c / 2000 < L)
    (h : ∀ (wp : Int32) (wl ws : Nat → Int32), post (nI (tc_F o a b dn rq rs cl c)) (cp, nI L, wp, mp, mt, o, a, b, ye, yl, yo, ys, dn, rq, rs, cl, wl, ws, ml, mz, yr, 34000)) : wpY_faultAt post (cp, nI L, wp, mp, mt, o, a, b, ye, yl, yo, ys, dn, rq, rs, cl, wl, ws, ml, mz, yr, 34000) (nI c) := by
  unfold wpY_faultAt
  refine yh_load (by omega) (fun wp wl ws hW => yh_step hV hD hJ hL hc hp hW (fun hf => h _ _ _) (fun hf wp' wl' ws' hW' => ?_))
  have q := h wp' wl' ws'
  rw [hf] at q
  exact q
end
