/-! the machine's run, as a pure function of the steps that are left -/
def tc_dc (ch : Int32) (k : Nat) : Int32 := ((ch.toUInt32 >>> ((nI (k % 32)).toUInt32 &&& Int32.toUInt32 31)).toInt32) &&& 1
def tc_run (L : Nat) (o : Nat → Int32) (F : Nat → Nat) (N : Nat → Int32 → Nat) (ch : Int32) : Nat → Nat → Nat → Nat → Int32 × Nat × Nat
  | 0, c, _, i => (if c / 2000 = L then 20 else 21, c, i)
  | n + 1, c, k, i => if c / 2000 = L then (20, c, i) else if ¬ F c = 0 then (nI (F c), c, i)
    else tc_run L o F N ch n (N c (tc_dc ch k)) (if o (c / 2000) = 5 ∨ o (c / 2000) = 8 then k + 1 else k) (i + 1)
theorem tc_N_nd {o a b rs cl : Nat → Int32} {T : Nat → Nat} {c : Nat} (hV : tc_V1 (o (c / 2000)) (a (c / 2000)) (b (c / 2000))) (h5 : ¬ o (c / 2000) = 5) (h8 : ¬ o (c / 2000) = 8) (d d' : Int32) : tc_N o a b rs cl T c d = tc_N o a b rs cl T c d' := by
  unfold tc_N
  rcases hV with ⟨ho, _⟩ | ⟨ho, _⟩ | ⟨ho, _⟩ | ⟨ho, _⟩ | ho | ⟨ho, _⟩ | ho | ho | ho
  all_goals first | exact absurd ho h5 | exact absurd ho h8 | (rw [ho]; rfl)
theorem tc_run_i {L : Nat} {o : Nat → Int32} {F : Nat → Nat} {N : Nat → Int32 → Nat} {ch : Int32} (I : Nat → Prop) (hs : ∀ c d, I c → ¬ c / 2000 = L → F c = 0 → I (N c d)) : ∀ n c k i, I c → I (tc_run L o F N ch n c k i).2.1 ∧ i ≤ (tc_run L o F N ch n c k i).2.2 ∧ (tc_run L o F N ch n c k i).2.2 ≤ i + n
  | 0, c, k, i, h => ⟨h, Nat.le_refl i, Nat.le_refl i⟩
  | n + 1, c, k, i, h => by
    rw [tc_run]
    by_cases e : c / 2000 = L
    · rw [if_pos e]; exact ⟨h, Nat.le_refl i, Nat.le_add_right i (n + 1)⟩
    · rw [if_neg e]
      by_cases f : F c = 0
      · rw [if_neg (fun z => z f)]
        have q := tc_run_i (o := o) (ch := ch) I hs n (N c (tc_dc ch k)) (if o (c / 2000) = 5 ∨ o (c / 2000) = 8 then k + 1 else k) (i + 1) (hs c _ h e f)
        exact ⟨q.1, by omega, by omega⟩
      · rw [if_pos f]; exact ⟨h, Nat.le_refl i, Nat.le_add_right i (n + 1)⟩
theorem tc_upd_comm {f : Nat → Int32} {i j : Nat} {x y : Int32} (h : i ≠ j) : upd (upd f i x) j y = upd (upd f j y) i x := by
  funext k
  unfold upd
  by_cases e1 : k = j
  · have e2 : ¬ k = i := by omega
    rw [if_pos e1, if_neg e2, if_pos e1]
  · rw [if_neg e1]
    by_cases e2 : k = i
    · rw [if_pos e2, if_pos e2]
    · rw [if_neg e2, if_neg e2, if_neg e1]
