/-! what add accepts, by both -/
theorem tc_V1_rng {o a b : Int32} (h : tc_V1 o a b) : ∃ j, 1 ≤ j ∧ j < 10 ∧ o = nI j := by
  rcases h with ⟨ho, _⟩ | ⟨ho, _⟩ | ⟨ho, _⟩ | ⟨ho, _⟩ | ho | ⟨ho, _⟩ | ho | ho | ho
  · exact ⟨1, by omega, by omega, ho⟩
  · exact ⟨2, by omega, by omega, ho⟩
  · exact ⟨3, by omega, by omega, ho⟩
  · exact ⟨4, by omega, by omega, ho⟩
  · exact ⟨5, by omega, by omega, ho⟩
  · exact ⟨6, by omega, by omega, ho⟩
  · exact ⟨7, by omega, by omega, ho⟩
  · exact ⟨8, by omega, by omega, ho⟩
  · exact ⟨9, by omega, by omega, ho⟩
/-- what is asked of the two places, by the code -/
def tc_V2 (j : Nat) (a b : Int32) : Prop :=
  if j = 1 ∨ j = 6 then tc_in 3 a ∧ tc_in 4 b else if j = 2 ∨ j = 3 then tc_in 3 a ∧ tc_in 3 b ∧ a ≠ b else if j = 4 then tc_in 3 a else True
theorem tc_V12 {j : Nat} {a b : Int32} (h1 : 1 ≤ j) (h2 : j < 10) (h : tc_V2 j a b) : tc_V1 (nI j) a b := by
  unfold tc_V2 at h
  by_cases e1 : j = 1 ∨ j = 6
  · rw [if_pos e1] at h
    obtain ⟨⟨x, hx, ex⟩, y, hy, ey⟩ := h
    rcases e1 with rfl | rfl
    · exact Or.inl ⟨rfl, x, y, hx, hy, ex, ey⟩
    · exact Or.inr (Or.inr (Or.inr (Or.inr (Or.inr (Or.inl ⟨rfl, x, y, hx, hy, ex, ey⟩)))))
  · rw [if_neg e1] at h
    by_cases e2 : j = 2 ∨ j = 3
    · rw [if_pos e2] at h
      obtain ⟨⟨x, hx, ex⟩, ⟨y, hy, ey⟩, hn⟩ := h
      have hxy : x ≠ y := fun w => hn (by rw [ex, ey, w])
      rcases e2 with rfl | rfl
      · exact Or.inr (Or.inl ⟨rfl, x, y, hx, hy, hxy, ex, ey⟩)
      · exact Or.inr (Or.inr (Or.inl ⟨rfl, x, y, hx, hy, hxy, ex, ey⟩))
    · rw [if_neg e2] at h
      by_cases e3 : j = 4
      · rw [if_pos e3] at h
        obtain ⟨x, hx, ex⟩ := h
        subst e3
        exact Or.inr (Or.inr (Or.inr (Or.inl ⟨rfl, x, hx, ex⟩)))
      · have e : j = 5 ∨ j = 7 ∨ j = 8 ∨ j = 9 := by omega
        rcases e with rfl | rfl | rfl | rfl
        · exact Or.inr (Or.inr (Or.inr (Or.inr (Or.inl rfl))))
        · exact Or.inr (Or.inr (Or.inr (Or.inr (Or.inr (Or.inr (Or.inl rfl))))))
        · exact Or.inr (Or.inr (Or.inr (Or.inr (Or.inr (Or.inr (Or.inr (Or.inl rfl)))))))
        · exact Or.inr (Or.inr (Or.inr (Or.inr (Or.inr (Or.inr (Or.inr (Or.inr rfl)))))))
/-- the codes: below 1, beyond 9, or one of them -/
theorem tc_codes (x : Int32) : x < 1 ∨ (¬ x < 1 ∧ 9 < x) ∨ ∃ j, 1 ≤ j ∧ j < 10 ∧ x = nI j := by
  rcases pk_ix x (n := 10) (by omega) with h | h | ⟨j, hj, rfl⟩
  · left
    rw [Int32.lt_iff_toInt_lt] at h ⊢
    rw [show (0 : Int32).toInt = 0 from by decide] at h
    rw [show (1 : Int32).toInt = 1 from by decide]
    omega
  · right; left
    obtain ⟨_, j, hj, hn, rfl⟩ := tc_in_ge h (by omega)
    exact ⟨nI_nlt (b := 1) (by omega) hj, nI_lt (a := 9) (by omega) hj⟩
  · by_cases e : j = 0
    · left; rw [e]; decide
    · exact Or.inr (Or.inr ⟨j, by omega, hj, rfl⟩)
theorem xh_isSt {post : Int32 → Prop} {x a b : Int32} (h1 : ∀ j, 1 ≤ j → j < 10 → x = nI j → tc_V2 j a b → post 1) (h0 : (x < 1 ∨ (¬ x < 1 ∧ 9 < x) ∨ ∃ j, 1 ≤ j ∧ j < 10 ∧ x = nI j ∧ ¬ tc_V2 j a b) → post 0) : wpX_isStatement post x a b := by
  unfold wpX_isStatement
  rcases tc_codes x with h | ⟨n1, h⟩ | ⟨j, j1, j2, rfl⟩
  · exact br_t h (h0 (Or.inl h))
  · exact br_f n1 (br_t h (h0 (Or.inr (Or.inl ⟨n1, h⟩))))
  · refine br_f (nI_nlt (b := 1) j1 (by omega)) (br_f (nI_nlt (a := 9) (by omega) (by omega)) ?_)
    have p1 := h1 j j1 j2 rfl
    have p0 : ¬ tc_V2 j a b → post 0 := fun w => h0 (Or.inr (Or.inr ⟨j, j1, j2, rfl, w⟩))
    have two : (tc_V2 j a b ↔ tc_in 3 a ∧ tc_in 4 b) → wpX_isBelow (fun r_4 => (((r_4 = 0 → (post 0)) ∧ (¬ r_4 = 0 → (wpX_isBelow (fun r_6 => (((r_6 = 0 → (post 0)) ∧ (¬ r_6 = 0 → (post 1))))) b 4))))) a 3 := by
      intro e
      refine xh_below 3 (by omega) (fun w => br_t rfl (p0 (fun q => w (e.mp q).1))) (fun w1 => br_f (by decide) ?_)
      exact xh_below 4 (by omega) (fun w => br_t rfl (p0 (fun q => w (e.mp q).2))) (fun w2 => br_f (by decide) (p1 (e.mpr ⟨w1, w2⟩)))
    have three : (tc_V2 j a b ↔ tc_in 3 a ∧ tc_in 3 b ∧ a ≠ b) → wX_isStatement_74 post a b := by
      intro e
      unfold wX_isStatement_74
      refine xh_below 3 (by omega) (fun w => br_t rfl (p0 (fun q => w (e.mp q).1))) (fun w1 => br_f (by decide) ?_)
      refine xh_below 3 (by omega) (fun w => br_t rfl (p0 (fun q => w (e.mp q).2.1))) (fun w2 => br_f (by decide) ?_)
      by_cases w3 : a = b
      · exact br_t w3 (p0 (fun q => (e.mp q).2.2 w3))
      · exact br_f w3 (p1 (e.mpr ⟨w1, w2, w3⟩))
    have ec : j = 1 ∨ j = 2 ∨ j = 3 ∨ j = 4 ∨ j = 5 ∨ j = 6 ∨ j = 7 ∨ j = 8 ∨ j = 9 := by omega
    rcases ec with rfl | rfl | rfl | rfl | rfl | rfl | rfl | rfl | rfl
    · exact br_t rfl (two Iff.rfl)
    · exact br_f (by decide) (br_t rfl (three Iff.rfl))
    · exact br_f (by decide) (br_f (by decide) (br_t rfl (three Iff.rfl)))
    · refine br_f (by decide) (br_f (by decide) (br_f (by decide) (br_t rfl ?_)))
      exact xh_below 3 (by omega) (fun w => ⟨rfl, p0 w⟩) (fun w => ⟨rfl, p1 w⟩)
    · exact br_f (by decide) (br_f (by decide) (br_f (by decide) (br_f (by decide) (br_t rfl (p1 True.intro)))))
    · exact br_f (by decide) (br_f (by decide) (br_f (by decide) (br_f (by decide) (br_f (by decide) (br_t rfl (two Iff.rfl))))))
    · exact br_f (by decide) (br_f (by decide) (br_f (by decide) (br_f (by decide) (br_f (by decide) (br_f (by decide) (br_t rfl (p1 True.intro)))))))
    · exact br_f (by decide) (br_f (by decide) (br_f (by decide) (br_f (by decide) (br_f (by decide) (br_f (by decide) (br_f (by decide) (br_t rfl (p1 True.intro))))))))
    · exact br_f (by decide) (br_f (by decide) (br_f (by decide) (br_f (by decide) (br_f (by decide) (br_f (by decide) (br_f (by decide) (br_f (by decide) (br_t rfl (p1 True.intro)))))))))
section
variable {cp ct wp mp mt : Int32} {o a b ye yl yo ys dn rq rs cl wl ws ml mz yr : Nat → Int32}
theorem yh_add {post : Int32 → SY → Prop} {x v w : Int32} (hc : ¬ cp ≤ ct) (h1 : ∀ j, 1 ≤ j → j < 10 → x = nI j → tc_V2 j v w → wY_add_106 post x v w cp ct wp mp mt o a b ye yl yo ys dn rq rs cl wl ws ml mz yr 34000) (h0 : (x < 1 ∨ (¬ x < 1 ∧ 9 < x) ∨ ∃ j, 1 ≤ j ∧ j < 10 ∧ x = nI j ∧ ¬ tc_V2 j v w) → post (-1) (cp, ct, wp, mp, mt, o, a, b, ye, yl, yo, ys, dn, rq, rs, cl, wl, ws, ml, mz, yr, 34000)) : wpY_add post (cp, ct, wp, mp, mt, o, a, b, ye, yl, yo, ys, dn, rq, rs, cl, wl, ws, ml, mz, yr, 34000) x v w := by
  unfold wpY_add
  refine br_f hc ?_
  rcases tc_codes x with h | ⟨n1, h⟩ | ⟨j, j1, j2, rfl⟩
  · exact br_t h (h0 (Or.inl h))
  · exact br_f n1 (br_f (Int32.not_le.mpr h) (h0 (Or.inr (Or.inl ⟨n1, h⟩))))
  · refine br_f (nI_nlt (b := 1) j1 (by omega)) (br_t (nI_le (b := 9) (by omega) (by omega)) ?_)
    have p1 := h1 j j1 j2 rfl
    have p0 : ¬ tc_V2 j v w → post (-1) (cp, ct, wp, mp, mt, o, a, b, ye, yl, yo, ys, dn, rq, rs, cl, wl, ws, ml, mz, yr, 34000) := fun z => h0 (Or.inr (Or.inr ⟨j, j1, j2, rfl, z⟩))
    have k90 : j ≠ 4 → tc_V2 j v w → wY_add_90 post (nI j) v w cp ct wp mp mt o a b ye yl yo ys dn rq rs cl wl ws ml mz yr 34000 := by
      intro z g
      unfold wY_add_90
      exact br_f (fun q => z ((nI_eq (b := 4) (by omega) (by omega)).mp q)) (p1 g)
    have k35 : (j = 1 ∨ j = 6) → (tc_V2 j v w ↔ tc_in 3 v ∧ tc_in 4 w) → wY_add_35 post (nI j) v w cp ct wp mp mt o a b ye yl yo ys dn rq rs cl wl ws ml mz yr 34000 := by
      intro z e
      unfold wY_add_35
      refine yh_lt 2 (by omega) (fun q => p0 (fun g => q (e.mp g).1)) (fun q1 => ?_)
      refine yh_le 3 (by omega) (fun q => p0 (fun g => q (e.mp g).2)) (fun q2 => ?_)
      unfold wY_add_55
      exact br_f (fun q => by have := (nI_eq (b := 2) (by omega) (by omega)).mp q; omega) (br_f (fun q => by have := (nI_eq (b := 3) (by omega) (by omega)).mp q; omega) (k90 (by omega) (e.mpr ⟨q1, q2⟩)))
    have k65 : (j = 2 ∨ j = 3) → (tc_V2 j v w ↔ tc_in 3 v ∧ tc_in 3 w ∧ v ≠ w) → wY_add_65 post (nI j) v w cp ct wp mp mt o a b ye yl yo ys dn rq rs cl wl ws ml mz yr 34000 := by
      intro z e
      unfold wY_add_65
      refine yh_lt 2 (by omega) (fun q => p0 (fun g => q (e.mp g).1)) (fun q1 => ?_)
      refine yh_lt 2 (by omega) (fun q => p0 (fun g => q (e.mp g).2.1)) (fun q2 => ?_)
      by_cases q3 : v = w
      · exact br_t q3 (p0 (fun g => (e.mp g).2.2 q3))
      · exact br_f q3 (k90 (by omega) (e.mpr ⟨q1, q2, q3⟩))
    have ec : j = 1 ∨ j = 2 ∨ j = 3 ∨ j = 4 ∨ j = 5 ∨ j = 6 ∨ j = 7 ∨ j = 8 ∨ j = 9 := by omega
    rcases ec with rfl | rfl | rfl | rfl | rfl | rfl | rfl | rfl | rfl
    · exact br_t rfl (k35 (by omega) Iff.rfl)
    · refine br_f (by decide) (br_f (by decide) ?_)
      unfold wY_add_55
      exact br_t rfl (k65 (by omega) Iff.rfl)
    · refine br_f (by decide) (br_f (by decide) ?_)
      unfold wY_add_55
      exact br_f (by decide) (br_t rfl (k65 (by omega) Iff.rfl))
    · refine br_f (by decide) (br_f (by decide) ?_)
      unfold wY_add_55
      refine br_f (by decide) (br_f (by decide) ?_)
      unfold wY_add_90
      exact br_t rfl (yh_le 2 (by omega) (fun q => p0 q) (fun q => p1 q))
    · refine br_f (by decide) (br_f (by decide) ?_)
      unfold wY_add_55
      exact br_f (by decide) (br_f (by decide) (k90 (by omega) True.intro))
    · exact br_f (by decide) (br_t rfl (k35 (by omega) Iff.rfl))
    · refine br_f (by decide) (br_f (by decide) ?_)
      unfold wY_add_55
      exact br_f (by decide) (br_f (by decide) (k90 (by omega) True.intro))
    · refine br_f (by decide) (br_f (by decide) ?_)
      unfold wY_add_55
      exact br_f (by decide) (br_f (by decide) (k90 (by omega) True.intro))
    · refine br_f (by decide) (br_f (by decide) ?_)
      unfold wY_add_55
      exact br_f (by decide) (br_f (by decide) (k90 (by omega) True.intro))
end
