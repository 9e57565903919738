/-! the digits of a configuration -/
def tc_l (c i : Nat) : Nat := if i = 0 then c / 400 % 5 else if i = 1 then c / 80 % 5 else c / 16 % 5
def tc_U (i : Nat) : Nat := if i = 0 then 400 else if i = 1 then 80 else 16
def tc_wl (c i v : Nat) : Nat := c + v * tc_U i - tc_l c i * tc_U i
def tc_s (c j : Nat) : Nat := if j = 0 then c / 4 % 4 else c % 4
def tc_V (j : Nat) : Nat := if j = 0 then 4 else 1
def tc_ws (c j v : Nat) : Nat := c + v * tc_V j - tc_s c j * tc_V j
def tc_wp (c p : Nat) : Nat := c % 2000 + p * 2000
def tc_ob (v : Nat) : Nat := if 2 < v then 1 else 0
def tc_pm (v : Nat) : Nat := if 2 < v then v - 2 else v
theorem tc_c3 {i : Nat} (h : i < 3) : i = 0 ∨ i = 1 ∨ i = 2 := by omega
theorem tc_c2 {i : Nat} (h : i < 2) : i = 0 ∨ i = 1 := by omega
theorem tc_l_lt (c i : Nat) : tc_l c i < 5 := by
  unfold tc_l; split
  · omega
  · split <;> omega
theorem tc_s_lt (c j : Nat) : tc_s c j < 4 := by
  unfold tc_s; split <;> omega
theorem tc_ob_lt (v : Nat) : tc_ob v < 2 := by
  unfold tc_ob; split <;> omega
theorem tc_l_le (c i : Nat) : tc_l c i * tc_U i ≤ c := by
  unfold tc_l tc_U; split
  · omega
  · split <;> omega
theorem tc_s_le (c j : Nat) : tc_s c j * tc_V j ≤ c := by
  unfold tc_s tc_V; split <;> omega
theorem tc_l_0 (c : Nat) : tc_l c 0 = c / 400 % 5 := rfl
theorem tc_l_1 (c : Nat) : tc_l c 1 = c / 80 % 5 := rfl
theorem tc_l_2 (c : Nat) : tc_l c 2 = c / 16 % 5 := rfl
theorem tc_s_0 (c : Nat) : tc_s c 0 = c / 4 % 4 := rfl
theorem tc_s_1 (c : Nat) : tc_s c 1 = c % 4 := rfl
theorem tc_dec (c : Nat) : ∃ p x y z s t, x < 5 ∧ y < 5 ∧ z < 5 ∧ s < 4 ∧ t < 4 ∧ c = p * 2000 + x * 400 + y * 80 + z * 16 + s * 4 + t :=
  ⟨c / 2000, c / 400 % 5, c / 80 % 5, c / 16 % 5, c / 4 % 4, c % 4, by omega, by omega, by omega, by omega, by omega, by omega⟩
theorem tc_dg {c p x y z s t : Nat} (hx : x < 5) (hy : y < 5) (hz : z < 5) (hs : s < 4) (ht : t < 4) (e : c = p * 2000 + x * 400 + y * 80 + z * 16 + s * 4 + t) :
    c / 2000 = p ∧ tc_l c 0 = x ∧ tc_l c 1 = y ∧ tc_l c 2 = z ∧ tc_s c 0 = s ∧ tc_s c 1 = t := by
  rw [tc_l_0, tc_l_1, tc_l_2, tc_s_0, tc_s_1]
  refine ⟨by omega, by omega, by omega, by omega, by omega, by omega⟩
theorem tc_eq {c p : Nat} {x y z s t : Nat} (hp : c / 2000 = p) (hx : tc_l c 0 = x) (hy : tc_l c 1 = y) (hz : tc_l c 2 = z) (hs : tc_s c 0 = s) (ht : tc_s c 1 = t) :
    p * 2000 + x * 400 + y * 80 + z * 16 + s * 4 + t = c := by
  rw [tc_l_0] at hx; rw [tc_l_1] at hy; rw [tc_l_2] at hz; rw [tc_s_0] at hs; rw [tc_s_1] at ht
  omega
/-- all digits when one holder gets another value -/
theorem tc_wl_d {c i v : Nat} (hi : i < 3) (hv : v < 5) : (tc_wl c i v) / 2000 = c / 2000 ∧ (∀ j, j < 3 → tc_l (tc_wl c i v) j = if j = i then v else tc_l c j) ∧ (∀ j, j < 2 → tc_s (tc_wl c i v) j = tc_s c j) := by
  obtain ⟨p, x, y, z, s, t, hx, hy, hz, hs, ht, e⟩ := tc_dec c
  obtain ⟨e0, e1, e2, e3, e4, e5⟩ := tc_dg hx hy hz hs ht e
  rcases tc_c3 hi with rfl | rfl | rfl
  · have w : tc_wl c 0 v = p * 2000 + v * 400 + y * 80 + z * 16 + s * 4 + t := by
      have : tc_wl c 0 v = c + v * 400 - tc_l c 0 * 400 := rfl
      rw [this, e1]; omega
    obtain ⟨d0, d1, d2, d3, d4, d5⟩ := tc_dg hv hy hz hs ht w
    refine ⟨by rw [d0, e0], fun j hj => ?_, fun j hj => ?_⟩
    · rcases tc_c3 hj with rfl | rfl | rfl
      · rw [d1]; rfl
      · rw [d2, e2]; rfl
      · rw [d3, e3]; rfl
    · rcases tc_c2 hj with rfl | rfl
      · rw [d4, e4]
      · rw [d5, e5]
  · have w : tc_wl c 1 v = p * 2000 + x * 400 + v * 80 + z * 16 + s * 4 + t := by
      have : tc_wl c 1 v = c + v * 80 - tc_l c 1 * 80 := rfl
      rw [this, e2]; omega
    obtain ⟨d0, d1, d2, d3, d4, d5⟩ := tc_dg hx hv hz hs ht w
    refine ⟨by rw [d0, e0], fun j hj => ?_, fun j hj => ?_⟩
    · rcases tc_c3 hj with rfl | rfl | rfl
      · rw [d1, e1]; rfl
      · rw [d2]; rfl
      · rw [d3, e3]; rfl
    · rcases tc_c2 hj with rfl | rfl
      · rw [d4, e4]
      · rw [d5, e5]
  · have w : tc_wl c 2 v = p * 2000 + x * 400 + y * 80 + v * 16 + s * 4 + t := by
      have : tc_wl c 2 v = c + v * 16 - tc_l c 2 * 16 := rfl
      rw [this, e3]; omega
    obtain ⟨d0, d1, d2, d3, d4, d5⟩ := tc_dg hx hy hv hs ht w
    refine ⟨by rw [d0, e0], fun j hj => ?_, fun j hj => ?_⟩
    · rcases tc_c3 hj with rfl | rfl | rfl
      · rw [d1, e1]; rfl
      · rw [d2, e2]; rfl
      · rw [d3]; rfl
    · rcases tc_c2 hj with rfl | rfl
      · rw [d4, e4]
      · rw [d5, e5]
theorem tc_ws_d {c i v : Nat} (hi : i < 2) (hv : v < 4) : (tc_ws c i v) / 2000 = c / 2000 ∧ (∀ j, j < 3 → tc_l (tc_ws c i v) j = tc_l c j) ∧ (∀ j, j < 2 → tc_s (tc_ws c i v) j = if j = i then v else tc_s c j) := by
  obtain ⟨p, x, y, z, s, t, hx, hy, hz, hs, ht, e⟩ := tc_dec c
  obtain ⟨e0, e1, e2, e3, e4, e5⟩ := tc_dg hx hy hz hs ht e
  rcases tc_c2 hi with rfl | rfl
  · have w : tc_ws c 0 v = p * 2000 + x * 400 + y * 80 + z * 16 + v * 4 + t := by
      have : tc_ws c 0 v = c + v * 4 - tc_s c 0 * 4 := rfl
      rw [this, e4]; omega
    obtain ⟨d0, d1, d2, d3, d4, d5⟩ := tc_dg hx hy hz hv ht w
    refine ⟨by rw [d0, e0], fun j hj => ?_, fun j hj => ?_⟩
    · rcases tc_c3 hj with rfl | rfl | rfl
      · rw [d1, e1]
      · rw [d2, e2]
      · rw [d3, e3]
    · rcases tc_c2 hj with rfl | rfl
      · rw [d4]; rfl
      · rw [d5, e5]; rfl
  · have w : tc_ws c 1 v = p * 2000 + x * 400 + y * 80 + z * 16 + s * 4 + v := by
      have : tc_ws c 1 v = c + v * 1 - tc_s c 1 * 1 := rfl
      rw [this, e5]; omega
    obtain ⟨d0, d1, d2, d3, d4, d5⟩ := tc_dg hx hy hz hs hv w
    refine ⟨by rw [d0, e0], fun j hj => ?_, fun j hj => ?_⟩
    · rcases tc_c3 hj with rfl | rfl | rfl
      · rw [d1, e1]
      · rw [d2, e2]
      · rw [d3, e3]
    · rcases tc_c2 hj with rfl | rfl
      · rw [d4, e4]; rfl
      · rw [d5]; rfl
theorem tc_wp_d (c q : Nat) : (tc_wp c q) / 2000 = q ∧ (∀ j, j < 3 → tc_l (tc_wp c q) j = tc_l c j) ∧ (∀ j, j < 2 → tc_s (tc_wp c q) j = tc_s c j) := by
  obtain ⟨p, x, y, z, s, t, hx, hy, hz, hs, ht, e⟩ := tc_dec c
  obtain ⟨e0, e1, e2, e3, e4, e5⟩ := tc_dg hx hy hz hs ht e
  have w : tc_wp c q = q * 2000 + x * 400 + y * 80 + z * 16 + s * 4 + t := by
    unfold tc_wp; omega
  obtain ⟨d0, d1, d2, d3, d4, d5⟩ := tc_dg hx hy hz hs ht w
  refine ⟨d0, fun j hj => ?_, fun j hj => ?_⟩
  · rcases tc_c3 hj with rfl | rfl | rfl
    · rw [d1, e1]
    · rw [d2, e2]
    · rw [d3, e3]
  · rcases tc_c2 hj with rfl | rfl
    · rw [d4, e4]
    · rw [d5, e5]
theorem tc_p1 (c : Nat) : c + 2000 = tc_wp c (c / 2000 + 1) := by
  unfold tc_wp; omega
theorem tc_p1_d (c : Nat) : (c + 2000) / 2000 = c / 2000 + 1 ∧ (∀ j, j < 3 → tc_l (c + 2000) j = tc_l c j) ∧ (∀ j, j < 2 → tc_s (c + 2000) j = tc_s c j) := by
  rw [tc_p1]; exact tc_wp_d c _
/-! Y's working copy of a configuration -/
def tc_W (pc : Int32) (l s : Nat → Int32) (c : Nat) : Prop := pc = nI (c / 2000) ∧ (∀ i, i < 3 → l i = nI (tc_l c i)) ∧ (∀ j, j < 2 → s j = nI (tc_s c j))
theorem tc_W_l {pc : Int32} {l s : Nat → Int32} {c i v : Nat} (h : tc_W pc l s c) (hi : i < 3) (hv : v < 5) : tc_W pc (upd l i (nI v)) s (tc_wl c i v) := by
  obtain ⟨d0, d1, d2⟩ := tc_wl_d (c := c) hi hv
  refine ⟨by rw [d0]; exact h.1, fun j hj => ?_, fun j hj => by rw [d2 j hj]; exact h.2.2 j hj⟩
  rw [d1 j hj]
  by_cases e : j = i
  · rw [if_pos e, e, pk_us]
  · rw [if_neg e, pk_un e]; exact h.2.1 j hj
theorem tc_W_s {pc : Int32} {l s : Nat → Int32} {c i v : Nat} (h : tc_W pc l s c) (hi : i < 2) (hv : v < 4) : tc_W pc l (upd s i (nI v)) (tc_ws c i v) := by
  obtain ⟨d0, d1, d2⟩ := tc_ws_d (c := c) hi hv
  refine ⟨by rw [d0]; exact h.1, fun j hj => by rw [d1 j hj]; exact h.2.1 j hj, fun j hj => ?_⟩
  rw [d2 j hj]
  by_cases e : j = i
  · rw [if_pos e, e, pk_us]
  · rw [if_neg e, pk_un e]; exact h.2.2 j hj
theorem tc_W_p {pc : Int32} {l s : Nat → Int32} {c : Nat} (h : tc_W pc l s c) (q : Nat) : tc_W (nI q) l s (tc_wp c q) := by
  obtain ⟨d0, d1, d2⟩ := tc_wp_d c q
  exact ⟨by rw [d0], fun j hj => by rw [d1 j hj]; exact h.2.1 j hj, fun j hj => by rw [d2 j hj]; exact h.2.2 j hj⟩
theorem tc_W_1 {pc : Int32} {l s : Nat → Int32} {c : Nat} (h : tc_W pc l s c) : tc_W (nI (c / 2000 + 1)) l s (c + 2000) := by
  rw [tc_p1]; exact tc_W_p h _
theorem tc_W_pack {pc : Int32} {l s : Nat → Int32} {c : Nat} (h : tc_W pc l s c) : pc * 2000 + l 0 * 400 + l 1 * 80 + l 2 * 16 + s 0 * 4 + s 1 = nI c := by
  rw [h.1, h.2.1 0 (by omega), h.2.1 1 (by omega), h.2.1 2 (by omega), h.2.2 0 (by omega), h.2.2 1 (by omega)]
  show nI _ * nI 2000 + nI _ * nI 400 + nI _ * nI 80 + nI _ * nI 16 + nI _ * nI 4 + nI _ = nI c
  rw [pk_mul, pk_mul, pk_mul, pk_mul, pk_mul, nI_add, nI_add, nI_add, nI_add, nI_add]
  exact congrArg nI (tc_eq rfl rfl rfl rfl rfl rfl)
/-! X's arithmetic on the code -/
theorem tc_xl {c i v : Nat} : nI c + (nI v - nI (tc_l c i)) * nI (tc_U i) = nI (tc_wl c i v) := by
  have h := tc_l_le c i
  have e : nI (tc_wl c i v) = nI (c + v * tc_U i) - nI (tc_l c i * tc_U i) := (pk_sub (by omega)).symm
  rw [e, ← nI_add, ← pk_mul, ← pk_mul]
  grind
theorem tc_xs {c j v : Nat} : nI c + (nI v - nI (tc_s c j)) * nI (tc_V j) = nI (tc_ws c j v) := by
  have h := tc_s_le c j
  have e : nI (tc_ws c j v) = nI (c + v * tc_V j) - nI (tc_s c j * tc_V j) := (pk_sub (by omega)).symm
  rw [e, ← nI_add, ← pk_mul, ← pk_mul]
  grind
