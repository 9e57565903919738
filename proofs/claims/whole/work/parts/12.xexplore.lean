/-! X's forgetting, reaching, noting -/
theorem tc_vb0 : vp_nar .boolean 0 = 0 := by rfl
theorem tc_vb1 : vp_nar .boolean 1 = 1 := by rfl
section
variable {cp ct wf rc fp fc mc ms : Int32} {dn rq rs cl o a b xl xe xo xb ir rd : Nat → Int32} {c x y L n i : Nat} {T : Nat → Nat} {d : Int32}
theorem xh_forget_l {post : SX → Prop} (hn : n ≤ 34000) (hr : ∀ j, j < n → ∃ c, c < 34000 ∧ rd j = nI c)
    (h : ∀ ir' : Nat → Int32, (∀ c, c < 34000 → ir' c = 0) → post (cp, ct, wf, 0, -1, -1, mc, ms, dn, rq, rs, cl, o, a, b, xl, xe, xo, xb, ir', rd, 34000, 34000)) :
    ∀ (m i : Nat) (ir : Nat → Int32), n < m + i → i ≤ n → tc_FG ir rd n i → wX_forgetReached_2 post cp ct wf (nI n) fp fc mc ms 34000 34000 m (nI i) dn rq rs cl o a b xl xe xo xb ir rd := by
  intro m
  induction m with
  | zero => intro i ir h1 h2; omega
  | succ m ih =>
    intro i ir h1 h2 hF
    rw [wX_forgetReached_2]
    by_cases e : i = n
    · refine br_t (by rw [e]; exact nI_le (Nat.le_refl n) (by omega)) ?_
      rw [e] at hF
      exact h ir (tc_FG_e hF)
    · obtain ⟨c, hc, ec⟩ := hr i (by omega)
      refine br_f (nI_ge (by omega) (by omega)) ⟨vp_in_nI (by omega) (by omega), ?_⟩
      rw [nI_clamp (by omega), ec, nI_clamp (by omega), tc_vb0]
      refine ⟨vp_in_nI hc (by omega), nm_e (nm_r (nI_1 i) ?_)⟩
      exact ih (i + 1) _ (by omega) (by omega) (tc_FG_s hF hc ec)
theorem xh_forget {post : SX → Prop} (hM : tc_MR ir rd n)
    (h : ∀ ir' : Nat → Int32, (∀ c, c < 34000 → ir' c = 0) → post (cp, ct, wf, 0, -1, -1, mc, ms, dn, rq, rs, cl, o, a, b, xl, xe, xo, xb, ir', rd, 34000, 34000)) : wpX_forgetReached post (cp, ct, wf, nI n, fp, fc, mc, ms, dn, rq, rs, cl, o, a, b, xl, xe, xo, xb, ir, rd, 34000, 34000) := by
  unfold wpX_forgetReached
  exact ⟨n + 1, xh_forget_l hM.1 hM.2.2 h (n + 1) 0 ir (by omega) (by omega) (tc_FG_0 hM)⟩
theorem xh_reach {post : SX → Prop} {S : Nat → Prop} (hM : tc_MK ir rd n) (hc : c < 34000) (hS : S c)
    (h : ∀ (ir' rd' : Nat → Int32) (n' : Nat), tc_GR ir rd n ir' rd' n' S → ir' c ≠ 0 → post (cp, ct, wf, nI n', fp, fc, mc, ms, dn, rq, rs, cl, o, a, b, xl, xe, xo, xb, ir', rd', 34000, 34000)) : wpX_reach post (cp, ct, wf, nI n, fp, fc, mc, ms, dn, rq, rs, cl, o, a, b, xl, xe, xo, xb, ir, rd, 34000, 34000) (nI c) := by
  unfold wpX_reach
  have hn := (tc_MK_R hM).1
  by_cases z : ir c = 0
  · have hl := tc_MK_lt hM hc z
    refine xh_below 34000 (by omega) (fun w => absurd ⟨c, hc, rfl⟩ w) (fun _ => br_f (by decide) ?_)
    refine xh_below 34000 (by omega) (fun w => absurd ⟨n, hl, rfl⟩ w) (fun _ => br_f (by decide) ?_)
    refine ⟨vp_in_nI hc (by omega), ?_⟩
    rw [nI_clamp (by omega), nI_clamp (by omega), tc_vb1]
    refine br_t z ⟨vp_in_nI hc (by omega), nm_e ⟨vp_in_nI hl (by omega), nm_e (nm_r (nI_1 n) ?_)⟩⟩
    exact h _ _ (n + 1) (tc_GR_a hM hc z (by decide) hS) (by rw [pk_us]; decide)
  · have he := h ir rd n (tc_GR_r hM) z
    refine xh_below 34000 (by omega) (fun w => absurd ⟨c, hc, rfl⟩ w) (fun _ => br_f (by decide) ?_)
    refine xh_below 34000 (by omega) (fun _ => br_t rfl he) (fun _ => br_f (by decide) ?_)
    refine ⟨vp_in_nI hc (by omega), ?_⟩
    rw [nI_clamp (by omega)]
    exact br_f z he
theorem xh_note {post : SX → Prop} {F : Nat → Nat} {S : Nat → Prop} (hL : L ≤ 16) (hF : ∀ c, F c ≤ 7) (hS : tc_FS L F S fp fc) (hc : c / 2000 < L) (hf : F c ≠ 0)
    (h : ∀ p' k' : Int32, (∀ S' : Nat → Prop, (∀ x, S' x ↔ S x ∨ x = c) → tc_FS L F S' p' k') → post (cp, ct, wf, rc, p', k', mc, ms, dn, rq, rs, cl, o, a, b, xl, xe, xo, xb, ir, rd, 34000, 34000)) : wpX_noteFault post (cp, ct, wf, rc, fp, fc, mc, ms, dn, rq, rs, cl, o, a, b, xl, xe, xo, xb, ir, rd, 34000, 34000) (nI (c / 2000)) (nI (F c)) := by
  unfold wpX_noteFault
  have hFc := hF c
  have hS' := hS
  rcases hS with ⟨e1, _, _⟩ | ⟨c', h1, h2, h3, h4, h5, h6⟩
  · refine br_t e1 ?_
    unfold wX_noteFault_16 wX_noteFault_21
    exact br_f (by decide) (h _ _ (fun S' e => tc_FS_a hS' e hc hf (Or.inl e1) hL hF))
  · have hFc' := hF c'
    refine br_f (by rw [h4]; exact tc_m1_ne (by omega)) ?_
    by_cases q : c' / 2000 ≤ c / 2000
    · refine br_t (by rw [h4]; exact nI_le q (by omega)) ?_
      unfold wX_noteFault_21
      refine br_t rfl ?_
      by_cases q2 : c / 2000 = c' / 2000
      · refine br_t (by rw [h4, q2]) ?_
        by_cases q3 : F c' ≤ F c
        · refine br_t (by rw [h5]; exact nI_le q3 (by omega)) (h _ _ (fun S' e => ?_))
          exact tc_FS_b hS' e ⟨_, _, h4, h5, by omega, by omega, by omega, by omega⟩ hL hF
        · refine br_f (by rw [h5]; exact nI_ge (by omega) (by omega)) (h _ _ (fun S' e => ?_))
          exact tc_FS_a hS' e hc hf (Or.inr ⟨_, _, h4, h5, by omega, by omega, by omega⟩) hL hF
      · refine br_f (by rw [h4]; exact fun w => q2 ((nI_eq (by omega) (by omega)).mp w)) (h _ _ (fun S' e => ?_))
        exact tc_FS_b hS' e ⟨_, _, h4, h5, by omega, by omega, by omega, by omega⟩ hL hF
    · refine br_f (by rw [h4]; exact nI_ge (by omega) (by omega)) ?_
      unfold wX_noteFault_16 wX_noteFault_21
      exact br_f (by decide) (h _ _ (fun S' e => tc_FS_a hS' e hc hf (Or.inr ⟨_, _, h4, h5, by omega, by omega, by omega⟩) hL hF))
/-! X's worklist -/
theorem xh_neg {f : Nat} (h0 : f ≠ 0) (h7 : f ≤ 7) : ¬ (0 : Int32) ≤ -nI f ∧ -(-nI f) = nI f := by
  constructor
  · rw [Int32.le_iff_toInt_le, sb_negT (by omega), show (0 : Int32).toInt = 0 from by decide]
    omega
  · exact Int32.neg_neg
/-- one decision -/
theorem xh_dec {post : SX → Prop} {J : Int32 → Int32 → Int32 → Int32 → Int32 → Int32 → Int32 → Int32 → Int32 → (Nat → Int32) → (Nat → Int32) → (Nat → Int32) → (Nat → Int32) → (Nat → Int32) → (Nat → Int32) → (Nat → Int32) → (Nat → Int32) → (Nat → Int32) → (Nat → Int32) → (Nat → Int32) → (Nat → Int32) → (Nat → Int32) → Nat → Nat → Prop} {x1 : Int32} {m : Nat}
    (hV : tc_VP o a b L) (hD : tc_VD rq rs cl) (hJ : tc_JM o L xl xe xo T) (hL : L ≤ 16) (hc : c < 34000) (hp : c / 2000 < L) (hg : tc_g c) (hM : tc_MK ir rd n)
    {S : Nat → Prop} (hS : tc_FS L (tc_F o a b dn rq rs cl) S fp fc) (hR : tc_R L (tc_F o a b dn rq rs cl) (tc_N o a b rs cl T) c)
    {d d' : Int32} (hd : ¬ 1 < d) (hd' : d + 1 = d')
    (h0 : tc_F o a b dn rq rs cl c = 0 → ∀ (ir' rd' : Nat → Int32) (n' : Nat), tc_GR ir rd n ir' rd' n' (tc_R L (tc_F o a b dn rq rs cl) (tc_N o a b rs cl T)) → ir' (tc_N o a b rs cl T c d) ≠ 0 → wX_explore_69 post J x1 (nI c) (nI (c / 2000)) m d' cp ct wf (nI n') fp fc mc ms dn rq rs cl o a b xl xe xo xb ir' rd' 34000 34000)
    (h1 : tc_F o a b dn rq rs cl c ≠ 0 → ∀ p' k' : Int32, (∀ S' : Nat → Prop, (∀ x, S' x ↔ S x ∨ x = c) → tc_FS L (tc_F o a b dn rq rs cl) S' p' k') → wX_explore_69 post J x1 (nI c) (nI (c / 2000)) m d' cp ct wf (nI n) p' k' mc ms dn rq rs cl o a b xl xe xo xb ir rd 34000 34000) :
    wX_explore_69 post J x1 (nI c) (nI (c / 2000)) (m + 1) d cp ct wf (nI n) fp fc mc ms dn rq rs cl o a b xl xe xo xb ir rd 34000 34000 := by
  rw [wX_explore_69]
  refine br_f hd (xh_step hV hD hJ hL hc hp hg ?_)
  by_cases hf : tc_F o a b dn rq rs cl c = 0
  · have hN := tc_RI hV hD (tc_JM_T hJ) (tc_RS d hR hp hf)
    have hNl : tc_N o a b rs cl T c d < 34000 := by omega
    rw [hf, tc_rs, if_pos rfl]
    refine br_t (nI_pos' (by omega)) (xh_reach hM hNl (tc_RS d hR hp hf) (fun ir' rd' n' hG hz => nm_r hd' ?_))
    exact h0 hf ir' rd' n' hG hz
  · have hle := tc_F_le (o := o) (a := a) (b := b) (dn := dn) (rq := rq) (rs := rs) (cl := cl) c
    obtain ⟨n1, n2⟩ := xh_neg hf hle
    rw [tc_rs, if_neg hf]
    refine br_f n1 ?_
    rw [n2]
    exact xh_note hL tc_F_le hS hp hf (fun p' k' hq => nm_r hd' (h1 hf p' k' hq))
theorem xh_list {post : SX → Prop} (hV : tc_VP o a b L) (hD : tc_VD rq rs cl) (hJ : tc_JM o L xl xe xo T) (hL : L ≤ 16)
    (h : ∀ (ir rd : Nat → Int32) (n : Nat) (fp fc : Int32), tc_MK ir rd n → (∀ c, c < 34000 → ((∃ j, j < n ∧ rd j = nI c) ↔ tc_R L (tc_F o a b dn rq rs cl) (tc_N o a b rs cl T) c)) → tc_FS L (tc_F o a b dn rq rs cl) (tc_R L (tc_F o a b dn rq rs cl) (tc_N o a b rs cl T)) fp fc → post (cp, nI L, wf, nI n, fp, fc, mc, ms, dn, rq, rs, cl, o, a, b, xl, xe, xo, xb, ir, rd, 34000, 34000)) :
    ∀ (m i : Nat) (ir rd : Nat → Int32) (n : Nat) (fp fc : Int32), 34000 < m + i → tc_WI L (tc_F o a b dn rq rs cl) (tc_N o a b rs cl T) i ir rd n fp fc → wX_explore_29 post m (nI i) cp (nI L) wf (nI n) fp fc mc ms dn rq rs cl o a b xl xe xo xb ir rd 34000 34000 := by
  have hb : ∀ c, tc_R L (tc_F o a b dn rq rs cl) (tc_N o a b rs cl T) c → c < 34000 := by
    intro c hr
    have := tc_RI hV hD (tc_JM_T hJ) hr
    omega
  intro m
  induction m with
  | zero =>
    intro i ir rd n fp fc h1 hW
    have h2 := (tc_MK_R hW.1).1
    have h3 := hW.2.1
    omega
  | succ m ih =>
    intro i ir rd n fp fc h1 hW
    have h2 := (tc_MK_R hW.1).1
    have h3 := hW.2.1
    rw [wX_explore_29]
    by_cases e : i = n
    · refine br_t (by rw [e]; exact nI_le (Nat.le_refl n) (by omega)) ?_
      rw [e] at hW
      obtain ⟨w1, w2, w3⟩ := tc_WI_e hW hb (fun c d => tc_N01 c d)
      exact h ir rd n fp fc w1 w2 w3
    · have hin : i < n := by omega
      obtain ⟨c, ec, hR⟩ := hW.2.2.2.1 i hin
      have hc := hb c hR
      have hI := tc_RI hV hD (tc_JM_T hJ) hR
      refine br_f (nI_ge hin (by omega)) (br_f (nI_ge (b := 34000) (by omega) (by omega)) ⟨vp_in_nI (by omega) (by omega), ?_⟩)
      rw [nI_clamp (by omega)]
      refine nm_r ec (xh_pcOf (by omega) ?_)
      by_cases hp : c / 2000 < L
      · refine br_t (nI_lt hp (by omega)) ⟨3, ?_⟩
        refine xh_dec hV hD hJ hL hc hp hI.1 hW.1 hW.2.2.2.2.2 hR (d := 0) (d' := 1) (by decide) (by decide) ?_ ?_
        · intro hf ir1 rd1 n1 g1 z1
          refine xh_dec hV hD hJ hL hc hp hI.1 g1.1 hW.2.2.2.2.2 hR (d := 1) (d' := 2) (by decide) (by decide) ?_ ?_
          · intro _ ir2 rd2 n2 g2 z2
            rw [wX_explore_69]
            refine br_t (by decide) (nm_r (nI_1 i) ?_)
            refine ih (i + 1) ir2 rd2 n2 fp fc (by omega) (tc_WI_s hW hin hc ec (tc_GR_t g1 g2) (fun _ _ => ⟨g2.2.2.2.1 _ z1, z2⟩) (fun S' e => tc_FS_n hW.2.2.2.2.2 e (fun _ => hf)))
          · intro hf' ; exact absurd hf hf'
        · intro hf p1 k1 q1
          have fs1 := q1 (fun x => (fun c => c < 34000 ∧ ∃ j, j < i ∧ rd j = nI c) x ∨ x = c) (fun x => Iff.rfl)
          refine xh_dec hV hD hJ hL hc hp hI.1 hW.1 fs1 hR (d := 1) (d' := 2) (by decide) (by decide) ?_ ?_
          · intro hf'; exact absurd hf' hf
          · intro _ p2 k2 q2
            rw [wX_explore_69]
            refine br_t (by decide) (nm_r (nI_1 i) ?_)
            refine ih (i + 1) ir rd n p2 k2 (by omega) (tc_WI_s hW hin hc ec (tc_GR_r hW.1) (fun _ w => absurd w hf) (fun S' e => q2 S' (fun x => ?_)))
            rw [e x]
            constructor
            · rintro (w | w)
              · exact Or.inl (Or.inl w)
              · exact Or.inr w
            · rintro ((w | w) | w)
              · exact Or.inl w
              · exact Or.inr w
              · exact Or.inr w
      · refine br_f (nI_nlt (by omega) (by omega)) (nm_r (nI_1 i) ?_)
        exact ih (i + 1) ir rd n fp fc (by omega) (tc_WI_s hW hin hc ec (tc_GR_r hW.1) (fun w => absurd w hp) (fun S' e => tc_FS_n hW.2.2.2.2.2 e (fun w => absurd w hp)))
end
