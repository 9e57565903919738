/-! X's exploration, whole, and its questions -/
def tc_RR (o a b dn rq rs cl : Nat → Int32) (L : Nat) : Nat → Prop := tc_R L (tc_F o a b dn rq rs cl) (tc_N o a b rs cl (tc_aim o L))
section
variable {cp ct wf rc fp fc mc ms : Int32} {dn rq rs cl o a b xl xe xo xb ir rd : Nat → Int32} {c x y L n i p q : Nat} {d : Int32}
theorem xh_explore {post : SX → Prop} (hV : tc_VP o a b L) (hD : tc_VD rq rs cl) (hL : L ≤ 16) (hM : tc_MR ir rd n)
    (h0 : tc_wf o L = 0 → ∀ xl xe xo xb ir : Nat → Int32, (∀ c, c < 34000 → ir c = 0) → post (cp, nI L, 0, nI 0, -1, -1, mc, ms, dn, rq, rs, cl, o, a, b, xl, xe, xo, xb, ir, rd, 34000, 34000))
    (h1 : tc_wf o L = 1 → ∀ (xl xe xo xb ir rd : Nat → Int32) (n : Nat) (fp fc : Int32), tc_MK ir rd n → (∀ c, c < 34000 → ((∃ j, j < n ∧ rd j = nI c) ↔ tc_RR o a b dn rq rs cl L c)) → tc_FS L (tc_F o a b dn rq rs cl) (tc_RR o a b dn rq rs cl L) fp fc → post (cp, nI L, 1, nI n, fp, fc, mc, ms, dn, rq, rs, cl, o, a, b, xl, xe, xo, xb, ir, rd, 34000, 34000)) :
    wpX_explore post (cp, nI L, wf, nI n, fp, fc, mc, ms, dn, rq, rs, cl, o, a, b, xl, xe, xo, xb, ir, rd, 34000, 34000) := by
  unfold wpX_explore
  refine xh_forget hM (fun ir' hz => xm_match hL (fun xl xe xo xb hJ => ?_))
  rcases tc_wf_01 o L with e | e
  · have k0 := h0 e xl xe xo xb ir' hz
    rw [e]
    exact ⟨rfl, rfl, br_t rfl k0⟩
  · have hJ' := hJ e
    rw [e]
    refine ⟨rfl, rfl, br_f (by decide) ?_⟩
    refine xh_reach (n := 0) (c := 1120) (S := tc_RR o a b dn rq rs cl L) (tc_MK_0 hz) (by omega) (tc_R0 _ _ _) (fun ir2 rd2 n2 hG hz2 => ⟨34001, ?_⟩)
    refine xh_list hV hD hJ' hL (fun ir rd n fp fc g1 g2 g3 => h1 e xl xe xo xb ir rd n fp fc g1 g2 g3) 34001 0 ir2 rd2 n2 (-1) (-1) (by omega) ?_
    refine ⟨hG.1, by omega, hz2, fun j hj => hG.2.2.2.2 j (by omega) hj, fun j hj => absurd hj (by omega), Or.inl ⟨rfl, rfl, fun c hc => ?_⟩⟩
    obtain ⟨_, j, hj, _⟩ := hc
    omega
/-- X's loop over the list for a set of bits: by what reads a bit number out of a configuration -/
theorem xh_sset {post : Int32 → SX → Prop} (hb : ∀ j, j < n → ∃ c, c < 34000 ∧ rd j = nI c) (hn : n ≤ 34000) (hp : p ≤ 16) (hq : q < 2)
    (h : ∀ s : Int32, tc_BS (fun c => c < 34000 ∧ c / 2000 = p ∧ ∃ j, j < n ∧ rd j = nI c) (fun c => tc_s c q) s → post s (cp, ct, wf, nI n, fp, fc, mc, ms, dn, rq, rs, cl, o, a, b, xl, xe, xo, xb, ir, rd, 34000, 34000)) :
    ∀ (m i : Nat) (s : Int32), n < m + i → i ≤ n → tc_BS (fun c => c < 34000 ∧ c / 2000 = p ∧ ∃ j, j < i ∧ rd j = nI c) (fun c => tc_s c q) s → wX_stateSet_32 post (nI p) (nI q) cp ct wf (nI n) fp fc mc ms dn rq rs cl o a b xl xe xo xb ir rd 34000 34000 m s (nI i) := by
  intro m
  induction m with
  | zero => intro i s g1 g2; omega
  | succ m ih =>
    intro i s g1 g2 hS
    rw [wX_stateSet_32]
    by_cases e : i = n
    · rw [e] at hS
      exact br_t (by rw [e]; exact nI_le (Nat.le_refl n) (by omega)) (h s hS)
    · obtain ⟨c, hc, ec⟩ := hb i (by omega)
      refine br_f (nI_ge (by omega) (by omega)) ⟨vp_in_nI (by omega) (by omega), ?_⟩
      rw [nI_clamp (by omega)]
      refine nm_r ec (xh_pcOf (by omega) ?_)
      by_cases z : c / 2000 = p
      · refine br_t (by rw [z]) (xh_stateOf (by omega) hq (nm_e (nm_r (nI_1 i) (ih (i + 1) _ (by omega) (by omega) ?_))))
        refine tc_BS_s (c := c) hS (Nat.lt_succ_of_lt (tc_s_lt c q)) (fun x => ?_)
        constructor
        · rintro ⟨w1, w2, j, hj, ej⟩
          by_cases w : j = i
          · rw [w, ec, nI_eq (by omega) (by omega)] at ej
            exact Or.inr ej.symm
          · exact Or.inl ⟨w1, w2, j, by omega, ej⟩
        · rintro (⟨w1, w2, j, hj, ej⟩ | w)
          · exact ⟨w1, w2, j, by omega, ej⟩
          · rw [w]; exact ⟨hc, z, i, by omega, ec⟩
      · refine br_f (fun w => z ((nI_eq (by omega) (by omega)).mp w)) (nm_r (nI_1 i) (ih (i + 1) _ (by omega) (by omega) ?_))
        refine tc_BS_c hS (fun x => ?_)
        constructor
        · rintro ⟨w1, w2, j, hj, ej⟩
          by_cases w : j = i
          · rw [w, ec, nI_eq (by omega) (by omega)] at ej
            rw [← ej] at w2
            exact absurd w2 z
          · exact ⟨w1, w2, j, by omega, ej⟩
        · rintro ⟨w1, w2, j, hj, ej⟩
          exact ⟨w1, w2, j, by omega, ej⟩
theorem xh_lset {post : Int32 → SX → Prop} (hb : ∀ j, j < n → ∃ c, c < 34000 ∧ rd j = nI c) (hn : n ≤ 34000) (hp : p ≤ 16) (hq : q < 3)
    (h : ∀ s : Int32, tc_BS (fun c => c < 34000 ∧ c / 2000 = p ∧ ∃ j, j < n ∧ rd j = nI c) (fun c => tc_l c q) s → post s (cp, ct, wf, nI n, fp, fc, mc, ms, dn, rq, rs, cl, o, a, b, xl, xe, xo, xb, ir, rd, 34000, 34000)) :
    ∀ (m i : Nat) (s : Int32), n < m + i → i ≤ n → tc_BS (fun c => c < 34000 ∧ c / 2000 = p ∧ ∃ j, j < i ∧ rd j = nI c) (fun c => tc_l c q) s → wX_localSet_32 post (nI p) (nI q) cp ct wf (nI n) fp fc mc ms dn rq rs cl o a b xl xe xo xb ir rd 34000 34000 m s (nI i) := by
  intro m
  induction m with
  | zero => intro i s g1 g2; omega
  | succ m ih =>
    intro i s g1 g2 hS
    rw [wX_localSet_32]
    by_cases e : i = n
    · rw [e] at hS
      exact br_t (by rw [e]; exact nI_le (Nat.le_refl n) (by omega)) (h s hS)
    · obtain ⟨c, hc, ec⟩ := hb i (by omega)
      refine br_f (nI_ge (by omega) (by omega)) ⟨vp_in_nI (by omega) (by omega), ?_⟩
      rw [nI_clamp (by omega)]
      refine nm_r ec (xh_pcOf (by omega) ?_)
      by_cases z : c / 2000 = p
      · refine br_t (by rw [z]) (xh_localOf (by omega) hq (nm_e (nm_r (nI_1 i) (ih (i + 1) _ (by omega) (by omega) ?_))))
        refine tc_BS_s (c := c) hS (tc_l_lt c q) (fun x => ?_)
        constructor
        · rintro ⟨w1, w2, j, hj, ej⟩
          by_cases w : j = i
          · rw [w, ec, nI_eq (by omega) (by omega)] at ej
            exact Or.inr ej.symm
          · exact Or.inl ⟨w1, w2, j, by omega, ej⟩
        · rintro (⟨w1, w2, j, hj, ej⟩ | w)
          · exact ⟨w1, w2, j, by omega, ej⟩
          · rw [w]; exact ⟨hc, z, i, by omega, ec⟩
      · refine br_f (fun w => z ((nI_eq (by omega) (by omega)).mp w)) (nm_r (nI_1 i) (ih (i + 1) _ (by omega) (by omega) ?_))
        refine tc_BS_c hS (fun x => ?_)
        constructor
        · rintro ⟨w1, w2, j, hj, ej⟩
          by_cases w : j = i
          · rw [w, ec, nI_eq (by omega) (by omega)] at ej
            rw [← ej] at w2
            exact absurd w2 z
          · exact ⟨w1, w2, j, by omega, ej⟩
        · rintro ⟨w1, w2, j, hj, ej⟩
          exact ⟨w1, w2, j, by omega, ej⟩
end
