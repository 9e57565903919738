/-! the least set of reachable configurations -/
section
variable (L : Nat) (F : Nat → Nat) (N : Nat → Int32 → Nat)
def tc_R (c : Nat) : Prop := ∀ S : Nat → Prop, S 1120 → (∀ (c : Nat) (d : Int32), S c → c / 2000 < L → F c = 0 → S (N c d)) → S c
theorem tc_R0 : tc_R L F N 1120 := fun _ h _ => h
theorem tc_RS {L : Nat} {F : Nat → Nat} {N : Nat → Int32 → Nat} {c : Nat} (d : Int32) (h : tc_R L F N c) (hc : c / 2000 < L) (hf : F c = 0) : tc_R L F N (N c d) := fun S h0 hs => hs c d (h S h0 hs) hc hf
end
/-- the decisions 0 and 1 are all that there are -/
theorem tc_N01 {o a b rs cl : Nat → Int32} {T : Nat → Nat} (c : Nat) (d : Int32) : tc_N o a b rs cl T c d = tc_N o a b rs cl T c 0 ∨ tc_N o a b rs cl T c d = tc_N o a b rs cl T c 1 := by
  by_cases h : d = 1
  · exact Or.inr (by rw [h])
  · left
    unfold tc_N
    rw [if_neg h, if_neg (show ¬ (0 : Int32) = 1 by decide)]
theorem tc_g0 : tc_g 1120 := by
  intro j hj
  rcases tc_c2 hj with rfl | rfl <;> decide
/-- every reachable configuration keeps the invariant -/
theorem tc_RI {o a b dn rq rs cl : Nat → Int32} {T : Nat → Nat} {L : Nat} (hV : tc_VP o a b L) (hD : tc_VD rq rs cl) (hT : tc_VT o T L) {c : Nat} (h : tc_R L (tc_F o a b dn rq rs cl) (tc_N o a b rs cl T) c) : tc_g c ∧ c / 2000 ≤ L :=
  h (fun c => tc_g c ∧ c / 2000 ≤ L) ⟨tc_g0, by omega⟩ (fun c d hS hc hf => tc_step_g hV hD hT d hS.1 hc hf)
/-! how many marks there are -/
def tc_n (f : Nat → Int32) : Nat → Nat
  | 0 => 0
  | k + 1 => tc_n f k + if f k = 0 then 0 else 1
theorem tc_n_le (f : Nat → Int32) : ∀ k, tc_n f k ≤ k
  | 0 => Nat.le_refl 0
  | k + 1 => by
    have := tc_n_le f k
    show tc_n f k + (if f k = 0 then 0 else 1) ≤ k + 1
    split <;> omega
theorem tc_n_lt {f : Nat → Int32} {j : Nat} (h : f j = 0) : ∀ k, j < k → tc_n f k < k
  | 0, hj => absurd hj (by omega)
  | k + 1, hj => by
    show tc_n f k + (if f k = 0 then 0 else 1) < k + 1
    have := tc_n_le f k
    by_cases e : j = k
    · rw [← e, if_pos h]; rw [← e] at this; omega
    · have := tc_n_lt h k (by omega)
      split <;> omega
theorem tc_n_ge {f : Nat → Int32} {j : Nat} {x : Int32} : ∀ k, k ≤ j → tc_n (upd f j x) k = tc_n f k
  | 0, _ => rfl
  | k + 1, hj => by
    show tc_n (upd f j x) k + (if upd f j x k = 0 then 0 else 1) = tc_n f k + (if f k = 0 then 0 else 1)
    rw [tc_n_ge k (by omega), pk_un (by omega)]
theorem tc_n_upd {f : Nat → Int32} {j : Nat} {x : Int32} (hx : ¬ x = 0) (h : f j = 0) : ∀ k, j < k → tc_n (upd f j x) k = tc_n f k + 1
  | 0, hj => absurd hj (by omega)
  | k + 1, hj => by
    show tc_n (upd f j x) k + (if upd f j x k = 0 then 0 else 1) = tc_n f k + (if f k = 0 then 0 else 1) + 1
    by_cases e : j = k
    · rw [← e, tc_n_ge j (Nat.le_refl j), pk_us, if_neg hx, if_pos h]
    · rw [tc_n_upd hx h k (by omega), pk_un (fun z => e z.symm)]; omega
theorem tc_n_0 {f : Nat → Int32} : ∀ k, (∀ j, j < k → f j = 0) → tc_n f k = 0
  | 0, _ => rfl
  | k + 1, h => by
    show tc_n f k + (if f k = 0 then 0 else 1) = 0
    rw [tc_n_0 k (fun j hj => h j (by omega)), if_pos (h k (by omega))]
/-! the least fault over a set -/
section
variable (L : Nat) (F : Nat → Nat)
def tc_FS (S : Nat → Prop) (p k : Int32) : Prop :=
  (p = -1 ∧ k = -1 ∧ ∀ c, S c → c / 2000 < L → F c = 0) ∨
  ∃ c, S c ∧ c / 2000 < L ∧ F c ≠ 0 ∧ p = nI (c / 2000) ∧ k = nI (F c) ∧ ∀ c', S c' → c' / 2000 < L → F c' ≠ 0 → c / 2000 < c' / 2000 ∨ (c / 2000 = c' / 2000 ∧ F c ≤ F c')
def tc_FP (S : Nat → Prop) (p : Int32) : Prop :=
  (p = -1 ∧ ∀ c, S c → c / 2000 < L → F c = 0) ∨
  ∃ c, S c ∧ c / 2000 < L ∧ F c ≠ 0 ∧ p = nI (c / 2000) ∧ ∀ c', S c' → c' / 2000 < L → F c' ≠ 0 → c / 2000 ≤ c' / 2000
end
section
variable {L : Nat} {F : Nat → Nat} {S S' : Nat → Prop} {p p' k k' : Int32}
theorem tc_FS_P (h : tc_FS L F S p k) : tc_FP L F S p := by
  rcases h with ⟨h1, _, h3⟩ | ⟨c, h1, h2, h3, h4, _, h6⟩
  · exact Or.inl ⟨h1, h3⟩
  · exact Or.inr ⟨c, h1, h2, h3, h4, fun c' a1 a2 a3 => by have := h6 c' a1 a2 a3; omega⟩
theorem tc_FP_u (h : tc_FP L F S p) (h' : tc_FP L F S p') : p = p' := by
  rcases h with ⟨h1, h3⟩ | ⟨c, h1, h2, h3, h4, h6⟩
  · rcases h' with ⟨g1, _⟩ | ⟨d, g1, g2, g3, _⟩
    · rw [h1, g1]
    · exact absurd (h3 d g1 g2) g3
  · rcases h' with ⟨_, g3⟩ | ⟨d, g1, g2, g3, g4, g6⟩
    · exact absurd (g3 c h1 h2) h3
    · have a1 := h6 d g1 g2 g3
      have a2 := g6 c h1 h2 h3
      rw [h4, g4, Nat.le_antisymm a1 a2]
theorem tc_FS_u (h : tc_FS L F S p k) (h' : tc_FS L F S p' k') : p = p' ∧ k = k' := by
  refine ⟨tc_FP_u (tc_FS_P h) (tc_FS_P h'), ?_⟩
  rcases h with ⟨_, h2, h3⟩ | ⟨c, h1, h2, h3, _, h4, h6⟩
  · rcases h' with ⟨_, g1, _⟩ | ⟨d, g1, g2, g3, _⟩
    · rw [h2, g1]
    · exact absurd (h3 d g1 g2) g3
  · rcases h' with ⟨_, _, g3⟩ | ⟨d, g1, g2, g3, _, g4, g6⟩
    · exact absurd (g3 c h1 h2) h3
    · have a1 := h6 d g1 g2 g3
      have a2 := g6 c h1 h2 h3
      have : F c = F d := by omega
      rw [h4, g4, this]
theorem tc_FS_c (h : tc_FS L F S p k) (e : ∀ c, S c ↔ S' c) : tc_FS L F S' p k := by
  have : S = S' := funext (fun c => propext (e c))
  rw [← this]; exact h
theorem tc_FP_neg (h : tc_FP L F S p) (hL : L ≤ 16) : (p = -1 ∧ ∀ c, S c → c / 2000 < L → F c = 0) ∨ ∃ q, q < L ∧ p = nI q := by
  rcases h with h | ⟨c, _, h2, _, h4, _⟩
  · exact Or.inl h
  · exact Or.inr ⟨c / 2000, h2, h4⟩
/-- no new fault -/
theorem tc_FS_n {c0 : Nat} (h : tc_FS L F S p k) (e : ∀ c, S' c ↔ S c ∨ c = c0) (hf : c0 / 2000 < L → F c0 = 0) : tc_FS L F S' p k := by
  rcases h with ⟨h1, h2, h3⟩ | ⟨c, h1, h2, h3, h4, h5, h6⟩
  · refine Or.inl ⟨h1, h2, fun c hc hl => ?_⟩
    rcases (e c).mp hc with g | rfl
    · exact h3 c g hl
    · exact hf hl
  · refine Or.inr ⟨c, (e c).mpr (Or.inl h1), h2, h3, h4, h5, fun c' hc hl hn => ?_⟩
    rcases (e c').mp hc with g | rfl
    · exact h6 c' g hl hn
    · exact absurd (hf hl) hn
/-- a fault at c0 that is less than what was noted -/
theorem tc_FS_a {c0 : Nat} (h : tc_FS L F S p k) (e : ∀ c, S' c ↔ S c ∨ c = c0) (hc : c0 / 2000 < L) (hf : F c0 ≠ 0) (hl : p = -1 ∨ ∃ q j, p = nI q ∧ k = nI j ∧ q < 2 ^ 31 ∧ j < 2 ^ 31 ∧ (c0 / 2000 < q ∨ (c0 / 2000 = q ∧ F c0 < j))) (hL : L ≤ 16) (hF : ∀ c, F c ≤ 7) : tc_FS L F S' (nI (c0 / 2000)) (nI (F c0)) := by
  refine Or.inr ⟨c0, (e c0).mpr (Or.inr rfl), hc, hf, rfl, rfl, fun c' hs hl' hn => ?_⟩
  rcases (e c').mp hs with g | rfl
  · rcases h with ⟨h1, h2, h3⟩ | ⟨c, h1, h2, h3, h4, h5, h6⟩
    · exact absurd (h3 c' g hl') hn
    · have q := h6 c' g hl' hn
      rcases hl with hl | ⟨q1, j, e1, e2, b1, b2, hl⟩
      · rw [h4] at hl
        have : (nI (c / 2000)).toInt = (-1 : Int32).toInt := by rw [hl]
        rw [nI_toInt (by omega)] at this
        have w : (-1 : Int32).toInt = -1 := by decide
        omega
      · rw [h4, nI_eq (by omega) b1] at e1
        have := hF c
        rw [h5, nI_eq (by omega) b2] at e2
        omega
  · omega
/-- a fault at c0 that isn't -/
theorem tc_FS_b {c0 : Nat} (h : tc_FS L F S p k) (e : ∀ c, S' c ↔ S c ∨ c = c0) (hl : ∃ q j, p = nI q ∧ k = nI j ∧ q < 2 ^ 31 ∧ j < 2 ^ 31 ∧ ¬ c0 / 2000 < q ∧ ¬ (c0 / 2000 = q ∧ F c0 < j)) (hL : L ≤ 16) (hF : ∀ c, F c ≤ 7) : tc_FS L F S' p k := by
  obtain ⟨q1, j, e1, e2, b1, b2, hl⟩ := hl
  rcases h with ⟨h1, h2, h3⟩ | ⟨c, h1, h2, h3, h4, h5, h6⟩
  · rw [e1] at h1
    have : (nI q1).toInt = (-1 : Int32).toInt := by rw [h1]
    rw [nI_toInt b1] at this
    have w : (-1 : Int32).toInt = -1 := by decide
    omega
  · refine Or.inr ⟨c, (e c).mpr (Or.inl h1), h2, h3, h4, h5, fun c' hc hl' hn => ?_⟩
    rcases (e c').mp hc with g | rfl
    · exact h6 c' g hl' hn
    · rw [h4, nI_eq (by omega) b1] at e1
      have := hF c
      rw [h5, nI_eq (by omega) b2] at e2
      omega
end
