/-! the pure step: fault code (0: none) and next configuration -/
def tc_k (cl : Nat → Int32) (v y : Nat) : Nat := (cl (tc_ob v)).toNatClampNeg * 4 + y
def tc_Fc (dn rq rs cl : Nat → Int32) (c x y : Nat) : Nat :=
  if tc_l c x = 0 then 1 else if dn (tc_k cl (tc_l c x) y) = 0 then 2
  else if ¬ nI (tc_s c (tc_ob (tc_l c x))) = rq (tc_k cl (tc_l c x) y) then 3
  else if ¬ rs (tc_k cl (tc_l c x) y) = rq (tc_k cl (tc_l c x) y) ∧ ¬ tc_pm (tc_l c x) = 2 then 4 else 0
def tc_Nc (rs cl : Nat → Int32) (c x y : Nat) : Nat := tc_ws c (tc_ob (tc_l c x)) (rs (tc_k cl (tc_l c x) y)).toNatClampNeg + 2000
def tc_Fs (c x y : Nat) : Nat := if tc_l c y = 0 then 1 else if ¬ tc_l c x = 0 then 5 else if ¬ tc_pm (tc_l c y) = 2 then 6 else 0
def tc_h (c y : Nat) : Nat := 2 * tc_ob (tc_l c y) + 1
def tc_Ns (c x y : Nat) : Nat := tc_wl (tc_wl c y (tc_h c y)) x (tc_h c y) + 2000
def tc_Fm (c x y : Nat) : Nat := if tc_l c x = 0 then 1 else if tc_l c y = 0 then 1 else if ¬ tc_ob (tc_l c x) = tc_ob (tc_l c y) then 7 else 0
def tc_ms (u v : Nat) : Nat := if 2 < tc_pm u + tc_pm v then 2 else tc_pm u + tc_pm v
def tc_Nm (c x y : Nat) : Nat := tc_wl (tc_wl c x (2 * tc_ob (tc_l c x) + tc_ms (tc_l c x) (tc_l c y))) y 0 + 2000
def tc_Nd (c x : Nat) : Nat := tc_wl c x 0 + 2000
def tc_Fi (c x : Nat) : Nat := if tc_l c x = 0 then 1 else 0
def tc_Ni (T : Nat → Nat) (c x y : Nat) : Nat := if tc_s c (tc_ob (tc_l c x)) = y then c + 2000 else tc_wp c (T (c / 2000))
def tc_F (o a b dn rq rs cl : Nat → Int32) (c : Nat) : Nat :=
  if o (c / 2000) = 1 then tc_Fc dn rq rs cl c (a (c / 2000)).toNatClampNeg (b (c / 2000)).toNatClampNeg
  else if o (c / 2000) = 2 then tc_Fs c (a (c / 2000)).toNatClampNeg (b (c / 2000)).toNatClampNeg
  else if o (c / 2000) = 3 then tc_Fm c (a (c / 2000)).toNatClampNeg (b (c / 2000)).toNatClampNeg
  else if o (c / 2000) = 6 then tc_Fi c (a (c / 2000)).toNatClampNeg else 0
def tc_N (o a b rs cl : Nat → Int32) (T : Nat → Nat) (c : Nat) (d : Int32) : Nat :=
  if o (c / 2000) = 1 then tc_Nc rs cl c (a (c / 2000)).toNatClampNeg (b (c / 2000)).toNatClampNeg
  else if o (c / 2000) = 2 then tc_Ns c (a (c / 2000)).toNatClampNeg (b (c / 2000)).toNatClampNeg
  else if o (c / 2000) = 3 then tc_Nm c (a (c / 2000)).toNatClampNeg (b (c / 2000)).toNatClampNeg
  else if o (c / 2000) = 4 then tc_Nd c (a (c / 2000)).toNatClampNeg
  else if o (c / 2000) = 6 then tc_Ni T c (a (c / 2000)).toNatClampNeg (b (c / 2000)).toNatClampNeg
  else if o (c / 2000) = 7 then tc_wp c (T (c / 2000))
  else if o (c / 2000) = 9 then tc_wp c (T (c / 2000))
  else if d = 1 then c + 2000 else tc_wp c (T (c / 2000))
/-! a statement that add accepts -/
def tc_V1 (o a b : Int32) : Prop :=
  (o = 1 ∧ ∃ x y, x < 3 ∧ y < 4 ∧ a = nI x ∧ b = nI y) ∨ (o = 2 ∧ ∃ x y, x < 3 ∧ y < 3 ∧ x ≠ y ∧ a = nI x ∧ b = nI y)
  ∨ (o = 3 ∧ ∃ x y, x < 3 ∧ y < 3 ∧ x ≠ y ∧ a = nI x ∧ b = nI y) ∨ (o = 4 ∧ ∃ x, x < 3 ∧ a = nI x) ∨ o = 5
  ∨ (o = 6 ∧ ∃ x y, x < 3 ∧ y < 4 ∧ a = nI x ∧ b = nI y) ∨ o = 7 ∨ o = 8 ∨ o = 9
def tc_VP (o a b : Nat → Int32) (L : Nat) : Prop := ∀ p, p < L → tc_V1 (o p) (a p) (b p)
def tc_VD (rq rs cl : Nat → Int32) : Prop := (∀ j, j < 8 → ∃ r, r < 4 ∧ rq j = nI r) ∧ (∀ j, j < 8 → ∃ r, r < 4 ∧ rs j = nI r) ∧ (∀ j, j < 2 → ∃ r, r < 2 ∧ cl j = nI r)
def tc_VT (o : Nat → Int32) (T : Nat → Nat) (L : Nat) : Prop := ∀ p, p < L → (o p = 5 ∨ o p = 6 ∨ o p = 7 ∨ o p = 8 ∨ o p = 9) → T p ≤ L
section
variable {o a b dn rq rs cl : Nat → Int32} {T : Nat → Nat} {c x y L : Nat} {d : Int32}
theorem tc_F1 (h : o (c / 2000) = 1) (ha : a (c / 2000) = nI x) (hb : b (c / 2000) = nI y) (hx : x < 3) (hy : y < 4) : tc_F o a b dn rq rs cl c = tc_Fc dn rq rs cl c x y ∧ tc_N o a b rs cl T c d = tc_Nc rs cl c x y := by
  unfold tc_F tc_N
  rw [if_pos h, if_pos h, ha, hb, nI_clamp (by omega), nI_clamp (by omega)]
  exact ⟨rfl, rfl⟩
theorem tc_F2 (h : o (c / 2000) = 2) (ha : a (c / 2000) = nI x) (hb : b (c / 2000) = nI y) (hx : x < 3) (hy : y < 4) : tc_F o a b dn rq rs cl c = tc_Fs c x y ∧ tc_N o a b rs cl T c d = tc_Ns c x y := by
  unfold tc_F tc_N
  rw [h, ha, hb, nI_clamp (by omega), nI_clamp (by omega)]
  exact ⟨rfl, rfl⟩
theorem tc_F3 (h : o (c / 2000) = 3) (ha : a (c / 2000) = nI x) (hb : b (c / 2000) = nI y) (hx : x < 3) (hy : y < 4) : tc_F o a b dn rq rs cl c = tc_Fm c x y ∧ tc_N o a b rs cl T c d = tc_Nm c x y := by
  unfold tc_F tc_N
  rw [h, ha, hb, nI_clamp (by omega), nI_clamp (by omega)]
  exact ⟨rfl, rfl⟩
theorem tc_F4 (h : o (c / 2000) = 4) (ha : a (c / 2000) = nI x) (hx : x < 3) : tc_F o a b dn rq rs cl c = 0 ∧ tc_N o a b rs cl T c d = tc_Nd c x := by
  unfold tc_F tc_N
  rw [h, ha, nI_clamp (by omega)]
  exact ⟨rfl, rfl⟩
theorem tc_F6 (h : o (c / 2000) = 6) (ha : a (c / 2000) = nI x) (hb : b (c / 2000) = nI y) (hx : x < 3) (hy : y < 4) : tc_F o a b dn rq rs cl c = tc_Fi c x ∧ tc_N o a b rs cl T c d = tc_Ni T c x y := by
  unfold tc_F tc_N
  rw [h, ha, hb, nI_clamp (by omega), nI_clamp (by omega)]
  exact ⟨rfl, rfl⟩
theorem tc_F5 (h : o (c / 2000) = 5) : tc_F o a b dn rq rs cl c = 0 ∧ tc_N o a b rs cl T c d = if d = 1 then c + 2000 else tc_wp c (T (c / 2000)) := by
  unfold tc_F tc_N
  rw [h]
  exact ⟨rfl, rfl⟩
theorem tc_F8 (h : o (c / 2000) = 8) : tc_F o a b dn rq rs cl c = 0 ∧ tc_N o a b rs cl T c d = if d = 1 then c + 2000 else tc_wp c (T (c / 2000)) := by
  unfold tc_F tc_N
  rw [h]
  exact ⟨rfl, rfl⟩
theorem tc_F7 (h : o (c / 2000) = 7) : tc_F o a b dn rq rs cl c = 0 ∧ tc_N o a b rs cl T c d = tc_wp c (T (c / 2000)) := by
  unfold tc_F tc_N
  rw [h]
  exact ⟨rfl, rfl⟩
theorem tc_F9 (h : o (c / 2000) = 9) : tc_F o a b dn rq rs cl c = 0 ∧ tc_N o a b rs cl T c d = tc_wp c (T (c / 2000)) := by
  unfold tc_F tc_N
  rw [h]
  exact ⟨rfl, rfl⟩
theorem tc_Fc_le (c x y : Nat) : tc_Fc dn rq rs cl c x y ≤ 7 := by
  unfold tc_Fc
  repeat' split
  all_goals omega
theorem tc_F_le (c : Nat) : tc_F o a b dn rq rs cl c ≤ 7 := by
  unfold tc_F tc_Fs tc_Fm tc_Fi
  have h := fun x y => tc_Fc_le (dn := dn) (rq := rq) (rs := rs) (cl := cl) c x y
  repeat' split
  all_goals first | exact h _ _ | omega
/-! how many permissions on an object are out -/
def tc_e (v j : Nat) : Nat := if v = 0 then 0 else if tc_ob v = j then tc_pm v else 0
def tc_g (c : Nat) : Prop := ∀ j, j < 2 → tc_e (tc_l c 0) j + tc_e (tc_l c 1) j + tc_e (tc_l c 2) j ≤ 2
theorem tc_third {i j : Nat} (hi : i < 3) (hj : j < 3) (h : i ≠ j) : ∃ k, k < 3 ∧ k ≠ i ∧ k ≠ j ∧ ∀ f : Nat → Nat, f 0 + f 1 + f 2 = f i + f j + f k := by
  rcases tc_c3 hi with rfl | rfl | rfl <;> rcases tc_c3 hj with rfl | rfl | rfl
  · exact absurd rfl h
  · exact ⟨2, by omega, by omega, by omega, fun f => by omega⟩
  · exact ⟨1, by omega, by omega, by omega, fun f => by omega⟩
  · exact ⟨2, by omega, by omega, by omega, fun f => by omega⟩
  · exact absurd rfl h
  · exact ⟨0, by omega, by omega, by omega, fun f => by omega⟩
  · exact ⟨1, by omega, by omega, by omega, fun f => by omega⟩
  · exact ⟨0, by omega, by omega, by omega, fun f => by omega⟩
  · exact absurd rfl h
theorem tc_g_eq {c c' : Nat} (h : tc_g c) (e : ∀ j, j < 3 → tc_l c' j = tc_l c j) : tc_g c' := by
  intro j hj
  rw [e 0 (by omega), e 1 (by omega), e 2 (by omega)]
  exact h j hj
theorem tc_e0 (j : Nat) : tc_e 0 j = 0 := rfl
theorem tc_e_half : ∀ u, u < 5 → ∀ j, j < 2 → tc_pm u = 2 → tc_e (2 * tc_ob u + 1) j + tc_e (2 * tc_ob u + 1) j = tc_e u j := by decide
theorem tc_e_sum0 : ∀ u, u < 5 → ∀ v, v < 5 → (u ≠ 0 ∧ v ≠ 0 ∧ tc_ob u = tc_ob v) → tc_e (2 * tc_ob u + tc_ms u v) 0 ≤ tc_e u 0 + tc_e v 0 := by decide
theorem tc_e_sum1 : ∀ u, u < 5 → ∀ v, v < 5 → (u ≠ 0 ∧ v ≠ 0 ∧ tc_ob u = tc_ob v) → tc_e (2 * tc_ob u + tc_ms u v) 1 ≤ tc_e u 1 + tc_e v 1 := by decide
theorem tc_e_sum (u : Nat) (hu : u < 5) (v : Nat) (hv : v < 5) (j : Nat) (hj : j < 2) (h : u ≠ 0 ∧ v ≠ 0 ∧ tc_ob u = tc_ob v) : tc_e (2 * tc_ob u + tc_ms u v) j ≤ tc_e u j + tc_e v j := by
  rcases tc_c2 hj with rfl | rfl
  · exact tc_e_sum0 u hu v hv h
  · exact tc_e_sum1 u hu v hv h
theorem tc_e_ms : ∀ u, u < 5 → ∀ v, v < 5 → u ≠ 0 → v ≠ 0 → 2 * tc_ob u + tc_ms u v < 5 := by decide
theorem tc_h_lt (c y : Nat) : tc_h c y < 5 := by
  have := tc_ob_lt (tc_l c y)
  unfold tc_h; omega
theorem tc_e_two : ∀ u, u < 5 → ∀ v, v < 5 → (u ≠ 0 ∧ v ≠ 0 ∧ tc_ob u = tc_ob v ∧ tc_e u (tc_ob u) + tc_e v (tc_ob u) ≤ 2) → u + tc_pm v = 2 * tc_ob u + tc_ms u v := by decide
theorem tc_g_merge {c x y : Nat} (h : tc_g c) (hx : x < 3) (hy : y < 3) (hn : x ≠ y) (h1 : tc_l c x ≠ 0) (h2 : tc_l c y ≠ 0) (h3 : tc_ob (tc_l c x) = tc_ob (tc_l c y)) :
    tc_l c x + tc_pm (tc_l c y) = 2 * tc_ob (tc_l c x) + tc_ms (tc_l c x) (tc_l c y) := by
  refine tc_e_two _ (tc_l_lt c x) _ (tc_l_lt c y) ⟨h1, h2, h3, ?_⟩
  have g := h (tc_ob (tc_l c x)) (tc_ob_lt _)
  obtain ⟨k, hk, k1, k2, hs⟩ := tc_third hx hy hn
  have e := hs (fun i => tc_e (tc_l c i) (tc_ob (tc_l c x)))
  omega
theorem tc_g_Ns {c x y : Nat} (h : tc_g c) (hx : x < 3) (hy : y < 3) (hn : x ≠ y) (hf : tc_Fs c x y = 0) : tc_g (tc_Ns c x y) ∧ tc_Ns c x y / 2000 = c / 2000 + 1 := by
  have h1 : ¬ tc_l c y = 0 := by intro z; rw [tc_Fs, if_pos z] at hf; omega
  have h2 : tc_l c x = 0 := by
    by_cases z : tc_l c x = 0
    · exact z
    · rw [tc_Fs, if_neg h1, if_pos z] at hf; omega
  have h3 : tc_pm (tc_l c y) = 2 := by
    by_cases z : tc_pm (tc_l c y) = 2
    · exact z
    · rw [tc_Fs, if_neg h1, if_neg (fun w => w h2), if_pos z] at hf; omega
  obtain ⟨d0, d1, _⟩ := tc_wl_d (c := c) hy (tc_h_lt c y)
  obtain ⟨f0, f1, _⟩ := tc_wl_d (c := tc_wl c y (tc_h c y)) hx (tc_h_lt c y)
  obtain ⟨g0, g1, _⟩ := tc_p1_d (tc_wl (tc_wl c y (tc_h c y)) x (tc_h c y))
  refine ⟨?_, ?_⟩
  · intro j hj
    obtain ⟨k, hk, k1, k2, hs⟩ := tc_third hx hy hn
    have e := hs (fun i => tc_e (tc_l (tc_Ns c x y) i) j)
    have e' := hs (fun i => tc_e (tc_l c i) j)
    have ex : tc_l (tc_Ns c x y) x = tc_h c y := by
      show tc_l (_ + 2000) x = _
      rw [g1 x hx, f1 x hx, if_pos rfl]
    have ey : tc_l (tc_Ns c x y) y = tc_h c y := by
      show tc_l (_ + 2000) y = _
      rw [g1 y hy, f1 y hy, if_neg (fun z => hn z.symm), d1 y hy, if_pos rfl]
    have ek : tc_l (tc_Ns c x y) k = tc_l c k := by
      show tc_l (_ + 2000) k = _
      rw [g1 k hk, f1 k hk, if_neg k1, d1 k hk, if_neg k2]
    rw [ex, ey, ek] at e
    have q := tc_e_half _ (tc_l_lt c y) j hj h3
    have g := h j hj
    rw [h2, tc_e0] at e'
    unfold tc_h at e
    omega
  · show (_ + 2000) / 2000 = _
    rw [g0, f0, d0]
theorem tc_g_Nm {c x y : Nat} (h : tc_g c) (hx : x < 3) (hy : y < 3) (hn : x ≠ y) (hf : tc_Fm c x y = 0) : tc_g (tc_Nm c x y) ∧ tc_Nm c x y / 2000 = c / 2000 + 1 := by
  have h1 : ¬ tc_l c x = 0 := by intro z; rw [tc_Fm, if_pos z] at hf; omega
  have h2 : ¬ tc_l c y = 0 := by intro z; rw [tc_Fm, if_neg h1, if_pos z] at hf; omega
  have h3 : tc_ob (tc_l c x) = tc_ob (tc_l c y) := by
    by_cases z : tc_ob (tc_l c x) = tc_ob (tc_l c y)
    · exact z
    · rw [tc_Fm, if_neg h1, if_neg h2, if_pos z] at hf; omega
  have hm := tc_e_ms _ (tc_l_lt c x) _ (tc_l_lt c y) h1 h2
  obtain ⟨d0, d1, _⟩ := tc_wl_d (c := c) hx hm
  obtain ⟨f0, f1, _⟩ := tc_wl_d (c := tc_wl c x (2 * tc_ob (tc_l c x) + tc_ms (tc_l c x) (tc_l c y))) hy (show 0 < 5 by omega)
  obtain ⟨g0, g1, _⟩ := tc_p1_d (tc_wl (tc_wl c x (2 * tc_ob (tc_l c x) + tc_ms (tc_l c x) (tc_l c y))) y 0)
  refine ⟨?_, ?_⟩
  · intro j hj
    obtain ⟨k, hk, k1, k2, hs⟩ := tc_third hx hy hn
    have e := hs (fun i => tc_e (tc_l (tc_Nm c x y) i) j)
    have e' := hs (fun i => tc_e (tc_l c i) j)
    have ex : tc_l (tc_Nm c x y) x = 2 * tc_ob (tc_l c x) + tc_ms (tc_l c x) (tc_l c y) := by
      show tc_l (_ + 2000) x = _
      rw [g1 x hx, f1 x hx, if_neg hn, d1 x hx, if_pos rfl]
    have ey : tc_l (tc_Nm c x y) y = 0 := by
      show tc_l (_ + 2000) y = _
      rw [g1 y hy, f1 y hy, if_pos rfl]
    have ek : tc_l (tc_Nm c x y) k = tc_l c k := by
      show tc_l (_ + 2000) k = _
      rw [g1 k hk, f1 k hk, if_neg k2, d1 k hk, if_neg k1]
    rw [ex, ey, ek, tc_e0] at e
    have q := tc_e_sum _ (tc_l_lt c x) _ (tc_l_lt c y) j hj ⟨h1, h2, h3⟩
    have g := h j hj
    omega
  · show (_ + 2000) / 2000 = _
    rw [g0, f0, d0]
theorem tc_g_Nd {c x : Nat} (h : tc_g c) (hx : x < 3) : tc_g (tc_Nd c x) ∧ tc_Nd c x / 2000 = c / 2000 + 1 := by
  obtain ⟨d0, d1, _⟩ := tc_wl_d (c := c) hx (show 0 < 5 by omega)
  obtain ⟨g0, g1, _⟩ := tc_p1_d (tc_wl c x 0)
  refine ⟨?_, ?_⟩
  · intro j hj
    have g := h j hj
    have q : ∀ i, i < 3 → tc_e (tc_l (tc_Nd c x) i) j ≤ tc_e (tc_l c i) j := by
      intro i hi
      have e : tc_l (tc_Nd c x) i = if i = x then 0 else tc_l c i := by
        show tc_l (_ + 2000) i = _
        rw [g1 i hi, d1 i hi]
      rw [e]
      by_cases z : i = x
      · rw [if_pos z, tc_e0]; omega
      · rw [if_neg z]; omega
    have q0 := q 0 (by omega)
    have q1 := q 1 (by omega)
    have q2 := q 2 (by omega)
    omega
  · show (_ + 2000) / 2000 = _
    rw [g0, d0]
theorem tc_k_lt (hD : tc_VD rq rs cl) {v y : Nat} (hy : y < 4) : tc_k cl v y < 8 := by
  obtain ⟨r, hr, e⟩ := hD.2.2 (tc_ob v) (tc_ob_lt v)
  unfold tc_k
  rw [e, nI_clamp (by omega)]
  omega
theorem tc_g_Nc (hD : tc_VD rq rs cl) {c x y : Nat} (h : tc_g c) (hy : y < 4) : tc_g (tc_Nc rs cl c x y) ∧ tc_Nc rs cl c x y / 2000 = c / 2000 + 1 := by
  obtain ⟨r, hr, e⟩ := hD.2.1 (tc_k cl (tc_l c x) y) (tc_k_lt hD hy)
  unfold tc_Nc
  rw [e, nI_clamp (by omega)]
  obtain ⟨d0, d1, _⟩ := tc_ws_d (c := c) (tc_ob_lt (tc_l c x)) hr
  obtain ⟨g0, g1, _⟩ := tc_p1_d (tc_ws c (tc_ob (tc_l c x)) r)
  exact ⟨tc_g_eq h (fun j hj => by rw [g1 j hj, d1 j hj]), by rw [g0, d0]⟩
theorem tc_g_wp {c : Nat} (h : tc_g c) (q : Nat) : tc_g (tc_wp c q) ∧ tc_wp c q / 2000 = q :=
  ⟨tc_g_eq h (tc_wp_d c q).2.1, (tc_wp_d c q).1⟩
theorem tc_g_p1 {c : Nat} (h : tc_g c) : tc_g (c + 2000) ∧ (c + 2000) / 2000 = c / 2000 + 1 :=
  ⟨tc_g_eq h (tc_p1_d c).2.1, (tc_p1_d c).1⟩
theorem tc_le_of {c p L : Nat} (h : tc_g c ∧ c / 2000 = p) (hp : p ≤ L) : tc_g c ∧ c / 2000 ≤ L := ⟨h.1, by rw [h.2]; exact hp⟩
/-- the step keeps the invariant -/
theorem tc_step_g (hV : tc_VP o a b L) (hD : tc_VD rq rs cl) (hT : tc_VT o T L) (d : Int32) (h : tc_g c) (hc : c / 2000 < L) (hf : tc_F o a b dn rq rs cl c = 0) : tc_g (tc_N o a b rs cl T c d) ∧ tc_N o a b rs cl T c d / 2000 ≤ L := by
  have hb : tc_g (if d = 1 then c + 2000 else tc_wp c (T (c / 2000))) ∧ (if d = 1 then c + 2000 else tc_wp c (T (c / 2000))) / 2000 ≤ L ∨ ¬ T (c / 2000) ≤ L := by
    by_cases hTL : T (c / 2000) ≤ L
    · by_cases hd : d = 1
      · rw [if_pos hd]; exact Or.inl (tc_le_of (tc_g_p1 h) (by omega))
      · rw [if_neg hd]; exact Or.inl (tc_le_of (tc_g_wp h _) hTL)
    · exact Or.inr hTL
  rcases hV _ hc with ⟨ho, x, y, hx, hy, ea, eb⟩ | ⟨ho, x, y, hx, hy, hn, ea, eb⟩ | ⟨ho, x, y, hx, hy, hn, ea, eb⟩ | ⟨ho, x, hx, ea⟩ | ho | ⟨ho, x, y, hx, hy, ea, eb⟩ | ho | ho | ho
  · obtain ⟨e1, e2⟩ := tc_F1 (dn := dn) (rq := rq) (rs := rs) (cl := cl) (T := T) (d := d) ho ea eb hx hy
    rw [e2]; exact tc_le_of (tc_g_Nc hD h hy) (by omega)
  · obtain ⟨e1, e2⟩ := tc_F2 (dn := dn) (rq := rq) (rs := rs) (cl := cl) (T := T) (d := d) ho ea eb hx (by omega)
    rw [e2]; exact tc_le_of (tc_g_Ns h hx hy hn (e1.symm.trans hf)) (by omega)
  · obtain ⟨e1, e2⟩ := tc_F3 (dn := dn) (rq := rq) (rs := rs) (cl := cl) (T := T) (d := d) ho ea eb hx (by omega)
    rw [e2]; exact tc_le_of (tc_g_Nm h hx hy hn (e1.symm.trans hf)) (by omega)
  · obtain ⟨e1, e2⟩ := tc_F4 (b := b) (dn := dn) (rq := rq) (rs := rs) (cl := cl) (T := T) (d := d) ho ea hx
    rw [e2]; exact tc_le_of (tc_g_Nd h hx) (by omega)
  · obtain ⟨e1, e2⟩ := tc_F5 (a := a) (b := b) (dn := dn) (rq := rq) (rs := rs) (cl := cl) (T := T) (d := d) ho
    rw [e2]; exact hb.resolve_right (fun z => z (hT _ hc (Or.inl ho)))
  · obtain ⟨e1, e2⟩ := tc_F6 (dn := dn) (rq := rq) (rs := rs) (cl := cl) (T := T) (d := d) ho ea eb hx hy
    rw [e2, tc_Ni]
    by_cases z : tc_s c (tc_ob (tc_l c x)) = y
    · rw [if_pos z]; exact tc_le_of (tc_g_p1 h) (by omega)
    · rw [if_neg z]; exact tc_le_of (tc_g_wp h _) (hT _ hc (Or.inr (Or.inl ho)))
  · obtain ⟨e1, e2⟩ := tc_F7 (a := a) (b := b) (dn := dn) (rq := rq) (rs := rs) (cl := cl) (T := T) (d := d) ho
    rw [e2]; exact tc_le_of (tc_g_wp h _) (hT _ hc (Or.inr (Or.inr (Or.inl ho))))
  · obtain ⟨e1, e2⟩ := tc_F8 (a := a) (b := b) (dn := dn) (rq := rq) (rs := rs) (cl := cl) (T := T) (d := d) ho
    rw [e2]; exact hb.resolve_right (fun z => z (hT _ hc (Or.inr (Or.inr (Or.inr (Or.inl ho))))))
  · obtain ⟨e1, e2⟩ := tc_F9 (a := a) (b := b) (dn := dn) (rq := rq) (rs := rs) (cl := cl) (T := T) (d := d) ho
    rw [e2]; exact tc_le_of (tc_g_wp h _) (hT _ hc (Or.inr (Or.inr (Or.inr (Or.inr ho)))))
end
