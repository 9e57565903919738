/-! the blocks: X's and Y's scans side by side -/
def tc_op (x : Int32) : Prop := x = 5 ∨ x = 6 ∨ x = 8
def tc_JM (o : Nat → Int32) (L : Nat) (el en ow : Nat → Int32) (T : Nat → Nat) : Prop :=
  ∀ p, p < L → (tc_op (o p) → (el p = -1 ∧ ∃ e, e < L ∧ en p = nI e ∧ T p = e + 1) ∨ (o p ≠ 8 ∧ ∃ e, e < L ∧ el p = nI e ∧ T p = e + 1))
    ∧ (o p = 7 → ∃ t e, t < L ∧ e < L ∧ ow p = nI t ∧ en t = nI e ∧ T p = e + 1)
    ∧ (o p = 9 → ∃ t, t < L ∧ ow p = nI t ∧ ((o t = 8 ∧ T p = t) ∨ (o t ≠ 8 ∧ T p = p + 1)))
theorem tc_JM_T {o el en ow : Nat → Int32} {T : Nat → Nat} {L : Nat} (h : tc_JM o L el en ow T) : tc_VT o T L := by
  intro p hp ho
  obtain ⟨h1, h2, h3⟩ := h p hp
  have key : tc_op (o p) → T p ≤ L := by
    intro z
    rcases h1 z with ⟨_, e, he, _, ht⟩ | ⟨_, e, he, _, ht⟩ <;> omega
  rcases ho with z | z | z | z | z
  · exact key (Or.inl z)
  · exact key (Or.inr (Or.inl z))
  · obtain ⟨t, e, _, he, _, _, ht⟩ := h2 z; omega
  · exact key (Or.inr (Or.inr z))
  · obtain ⟨t, ht, _, ⟨_, e⟩ | ⟨_, e⟩⟩ := h3 z <;> omega
def tc_MI (o : Nat → Int32) (i dp : Nat) (xl xe xo xb yl ye yo ys : Nat → Int32) : Prop :=
  dp ≤ i ∧ (∀ k, k < dp → ∃ t, t < i ∧ xb k = nI t ∧ ys k = nI t ∧ tc_op (o t))
  ∧ (∀ p, p < i → tc_op (o p) → xl p = yl p ∧ (yl p = -1 ∨ (o p ≠ 8 ∧ ∃ e, e < i ∧ yl p = nI e)) ∧ ((∃ k, k < dp ∧ ys k = nI p) ∨ (xe p = ye p ∧ ∃ e, e < i ∧ ye p = nI e)))
  ∧ (∀ p, p < i → (o p = 7 ∨ o p = 9) → xo p = yo p ∧ ∃ t, t < p ∧ yo p = nI t ∧ tc_op (o t))
  ∧ (∀ p, i ≤ p → p < 16 → yl p = -1)
section
variable {o xl xe xo xb yl ye yo ys : Nat → Int32} {i dp L : Nat}
theorem tc_MI_0 (h : ∀ p, p < 16 → yl p = -1) : tc_MI o 0 0 xl xe xo xb yl ye yo ys :=
  ⟨Nat.le_refl 0, fun k hk => absurd hk (by omega), fun p hp => absurd hp (by omega), fun p hp => absurd hp (by omega), fun p _ hp => h p hp⟩
theorem tc_MI_open (h : tc_MI o i dp xl xe xo xb yl ye yo ys) (hi : i < 16) (ho : tc_op (o i)) : tc_MI o (i + 1) (dp + 1) (upd xl i (-1)) xe xo (upd xb dp (nI i)) yl ye yo (upd ys dp (nI i)) := by
  obtain ⟨h1, h2, h3, h4, h5⟩ := h
  refine ⟨by omega, fun k hk => ?_, fun p hp hop => ?_, fun p hp hop => ?_, fun p h6 h7 => h5 p (by omega) h7⟩
  · by_cases e : k = dp
    · exact ⟨i, by omega, by rw [e, pk_us], by rw [e, pk_us], ho⟩
    · obtain ⟨t, ht, e1, e2, e3⟩ := h2 k (by omega)
      exact ⟨t, by omega, by rw [pk_un e]; exact e1, by rw [pk_un e]; exact e2, e3⟩
  · by_cases e : p = i
    · refine ⟨by rw [e, pk_us, h5 i (Nat.le_refl i) hi], Or.inl (by rw [e]; exact h5 i (Nat.le_refl i) hi), Or.inl ⟨dp, by omega, by rw [pk_us, e]⟩⟩
    · obtain ⟨a1, a2, a3⟩ := h3 p (by omega) hop
      refine ⟨by rw [pk_un e]; exact a1, ?_, ?_⟩
      · rcases a2 with z | ⟨z, q, hq, eq⟩
        · exact Or.inl z
        · exact Or.inr ⟨z, q, by omega, eq⟩
      · rcases a3 with ⟨k, hk, ek⟩ | ⟨z, q, hq, eq⟩
        · exact Or.inl ⟨k, by omega, by rw [pk_un (by omega)]; exact ek⟩
        · exact Or.inr ⟨z, q, by omega, eq⟩
  · have e : p ≠ i := by
      intro e
      rw [e] at hop
      rcases ho with z | z | z <;> rw [z] at hop <;> revert hop <;> decide
    exact h4 p (by omega) hop
theorem tc_MI_skip (h : tc_MI o i dp xl xe xo xb yl ye yo ys) (h8 : ¬ tc_op (o i)) (h7 : ¬ o i = 7) (h9 : ¬ o i = 9) : tc_MI o (i + 1) dp xl xe xo xb yl ye yo ys := by
  obtain ⟨h1, h2, h3, h4, h5⟩ := h
  refine ⟨by omega, fun k hk => ?_, fun p hp hop => ?_, fun p hp hop => ?_, fun p h6 h7 => h5 p (by omega) h7⟩
  · obtain ⟨t, ht, e⟩ := h2 k hk
    exact ⟨t, by omega, e⟩
  · have e : p ≠ i := fun e => h8 (e ▸ hop)
    obtain ⟨a1, a2, a3⟩ := h3 p (by omega) hop
    refine ⟨a1, ?_, ?_⟩
    · rcases a2 with z | ⟨z, q, hq, eq⟩
      · exact Or.inl z
      · exact Or.inr ⟨z, q, by omega, eq⟩
    · rcases a3 with z | ⟨z, q, hq, eq⟩
      · exact Or.inl z
      · exact Or.inr ⟨z, q, by omega, eq⟩
  · have e : p ≠ i := by
      intro e
      rw [e] at hop
      rcases hop with z | z
      · exact h7 z
      · exact h9 z
    exact h4 p (by omega) hop
theorem tc_op_9 {x : Int32} (h : x = 9) : ¬ tc_op x := by
  rw [h]; unfold tc_op; decide
theorem tc_op_7 {x : Int32} (h : x = 7) : ¬ tc_op x := by
  rw [h]; unfold tc_op; decide
theorem tc_MI_end {t : Nat} (h : tc_MI o i (dp + 1) xl xe xo xb yl ye yo ys) (hi : i < 16) (ht : ys dp = nI t) (ht2 : t < i) (hto : tc_op (o t)) (h9 : o i = 9) : tc_MI o (i + 1) dp xl (upd xe t (nI i)) (upd xo i (nI t)) xb yl (upd ye t (nI i)) (upd yo i (nI t)) ys := by
  obtain ⟨h1, h2, h3, h4, h5⟩ := h
  refine ⟨by omega, fun k hk => ?_, fun p hp hop => ?_, fun p hp hop => ?_, fun p h6 h7 => h5 p (by omega) h7⟩
  · obtain ⟨t', ht', e⟩ := h2 k (by omega)
    exact ⟨t', by omega, e⟩
  · have e : p ≠ i := fun e => tc_op_9 h9 (e ▸ hop)
    obtain ⟨a1, a2, a3⟩ := h3 p (by omega) hop
    refine ⟨a1, ?_, ?_⟩
    · rcases a2 with z | ⟨z, q, hq, eq⟩
      · exact Or.inl z
      · exact Or.inr ⟨z, q, by omega, eq⟩
    · by_cases ep : p = t
      · exact Or.inr ⟨by rw [ep, pk_us, pk_us], i, by omega, by rw [ep, pk_us]⟩
      · rw [pk_un ep, pk_un ep]
        rcases a3 with ⟨k, hk, ek⟩ | ⟨z, q, hq, eq⟩
        · refine Or.inl ⟨k, ?_, ek⟩
          by_cases ekd : k = dp
          · rw [ekd, ht, nI_eq (by omega) (by omega)] at ek
            exact absurd ek.symm ep
          · omega
        · exact Or.inr ⟨z, q, by omega, eq⟩
  · by_cases e : p = i
    · rw [e, pk_us, pk_us]
      exact ⟨rfl, t, ht2, rfl, hto⟩
    · rw [pk_un e, pk_un e]
      exact h4 p (by omega) hop
theorem tc_MI_else {t : Nat} (h : tc_MI o i (dp + 1) xl xe xo xb yl ye yo ys) (hi : i < 16) (ht2 : t < i) (hto : tc_op (o t)) (h8 : o t ≠ 8) (h7 : o i = 7) : tc_MI o (i + 1) (dp + 1) (upd xl t (nI i)) xe (upd xo i (nI t)) xb (upd yl t (nI i)) ye (upd yo i (nI t)) ys := by
  obtain ⟨h1, h2, h3, h4, h5⟩ := h
  refine ⟨by omega, fun k hk => ?_, fun p hp hop => ?_, fun p hp hop => ?_, fun p h6 h7 => by rw [pk_un (by omega)]; exact h5 p (by omega) h7⟩
  · obtain ⟨t', ht', e⟩ := h2 k (by omega)
    exact ⟨t', by omega, e⟩
  · have e : p ≠ i := fun e => tc_op_7 h7 (e ▸ hop)
    obtain ⟨a1, a2, a3⟩ := h3 p (by omega) hop
    refine ⟨?_, ?_, ?_⟩
    · by_cases ep : p = t
      · rw [ep, pk_us, pk_us]
      · rw [pk_un ep, pk_un ep]; exact a1
    · by_cases ep : p = t
      · exact Or.inr ⟨by rw [ep]; exact h8, i, by omega, by rw [ep, pk_us]⟩
      · rw [pk_un ep]
        rcases a2 with z | ⟨z, q, hq, eq⟩
        · exact Or.inl z
        · exact Or.inr ⟨z, q, by omega, eq⟩
    · rcases a3 with z | ⟨z, q, hq, eq⟩
      · exact Or.inl z
      · exact Or.inr ⟨z, q, by omega, eq⟩
  · by_cases e : p = i
    · rw [e, pk_us, pk_us]
      exact ⟨rfl, t, ht2, rfl, hto⟩
    · rw [pk_un e, pk_un e]
      exact h4 p (by omega) hop
/-- the jump's aim -/
def tc_T (o yl ye yo : Nat → Int32) (p : Nat) : Nat :=
  if o p = 7 then (ye (yo p).toNatClampNeg).toNatClampNeg + 1
  else if o p = 9 then (if o (yo p).toNatClampNeg = 8 then (yo p).toNatClampNeg else p + 1)
  else if yl p = -1 then (ye p).toNatClampNeg + 1 else (yl p).toNatClampNeg + 1
theorem tc_m1_ne {e : Nat} (h : e < 2 ^ 31) : ¬ nI e = -1 := by
  intro z
  have : (nI e).toInt = (-1 : Int32).toInt := by rw [z]
  rw [nI_toInt h] at this
  have w : (-1 : Int32).toInt = -1 := by decide
  omega
theorem tc_MI_done (h : tc_MI o L 0 xl xe xo xb yl ye yo ys) (hL : L ≤ 16) : tc_JM o L xl xe xo (tc_T o yl ye yo) ∧ tc_JM o L yl ye yo (tc_T o yl ye yo) := by
  obtain ⟨h1, h2, h3, h4, h5⟩ := h
  have key : ∀ p, p < L → tc_op (o p) → xl p = yl p ∧ (yl p = -1 ∨ (o p ≠ 8 ∧ ∃ e, e < L ∧ yl p = nI e)) ∧ (xe p = ye p ∧ ∃ e, e < L ∧ ye p = nI e) := by
    intro p hp hop
    obtain ⟨a1, a2, a3⟩ := h3 p hp hop
    refine ⟨a1, a2, ?_⟩
    rcases a3 with ⟨k, hk, _⟩ | z
    · omega
    · exact z
  have n7 : ∀ p, tc_op (o p) → ¬ o p = 7 := fun p z w => tc_op_7 w z
  have n9 : ∀ p, tc_op (o p) → ¬ o p = 9 := fun p z w => tc_op_9 w z
  have both : ∀ p, p < L → (tc_op (o p) → (yl p = -1 ∧ ∃ e, e < L ∧ ye p = nI e ∧ tc_T o yl ye yo p = e + 1) ∨ (o p ≠ 8 ∧ ∃ e, e < L ∧ yl p = nI e ∧ tc_T o yl ye yo p = e + 1))
    ∧ (o p = 7 → ∃ t e, t < L ∧ e < L ∧ yo p = nI t ∧ ye t = nI e ∧ tc_T o yl ye yo p = e + 1 ∧ tc_op (o t))
    ∧ (o p = 9 → ∃ t, t < L ∧ yo p = nI t ∧ ((o t = 8 ∧ tc_T o yl ye yo p = t) ∨ (o t ≠ 8 ∧ tc_T o yl ye yo p = p + 1))) := by
    intro p hp
    refine ⟨fun hop => ?_, fun h7 => ?_, fun h9 => ?_⟩
    · obtain ⟨a1, a2, a3, e, he, ee⟩ := key p hp hop
      by_cases z : yl p = -1
      · refine Or.inl ⟨z, e, he, ee, ?_⟩
        unfold tc_T
        rw [if_neg (n7 p hop), if_neg (n9 p hop), if_pos z, ee, nI_clamp (by omega)]
      · rcases a2 with w | ⟨w, q, hq, eq⟩
        · exact absurd w z
        · refine Or.inr ⟨w, q, hq, eq, ?_⟩
          unfold tc_T
          rw [if_neg (n7 p hop), if_neg (n9 p hop), if_neg z, eq, nI_clamp (by omega)]
    · obtain ⟨a1, t, ht, et, hot⟩ := h4 p hp (Or.inl h7)
      obtain ⟨_, _, _, e, he, ee⟩ := key t (by omega) hot
      refine ⟨t, e, by omega, he, et, ee, ?_, hot⟩
      unfold tc_T
      rw [if_pos h7, et, nI_clamp (by omega), ee, nI_clamp (by omega)]
    · obtain ⟨a1, t, ht, et, hot⟩ := h4 p hp (Or.inr h9)
      refine ⟨t, by omega, et, ?_⟩
      have n : ¬ o p = 7 := by rw [h9]; decide
      by_cases z : o t = 8
      · refine Or.inl ⟨z, ?_⟩
        unfold tc_T
        rw [if_neg n, if_pos h9, et, nI_clamp (by omega), if_pos z]
      · refine Or.inr ⟨z, ?_⟩
        unfold tc_T
        rw [if_neg n, if_pos h9, et, nI_clamp (by omega), if_neg z]
  constructor
  · intro p hp
    obtain ⟨b1, b2, b3⟩ := both p hp
    refine ⟨fun hop => ?_, fun h7 => ?_, fun h9 => ?_⟩
    · obtain ⟨a1, a2, a3, _⟩ := key p hp hop
      rw [a1, a3]; exact b1 hop
    · obtain ⟨t, e, ht, he, et, ee, eT, hot⟩ := b2 h7
      refine ⟨t, e, ht, he, ?_, ?_, eT⟩
      · rw [(h4 p hp (Or.inl h7)).1]; exact et
      · rw [(key t ht hot).2.2.1]; exact ee
    · rw [(h4 p hp (Or.inr h9)).1]; exact b3 h9
  · intro p hp
    obtain ⟨b1, b2, b3⟩ := both p hp
    refine ⟨b1, fun h7 => ?_, b3⟩
    obtain ⟨t, e, ht, he, et, ee, eT, hot⟩ := b2 h7
    exact ⟨t, e, ht, he, et, ee, eT⟩
end
