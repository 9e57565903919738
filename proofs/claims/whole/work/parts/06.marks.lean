/-! X's marks and list -/
def tc_MK (ir rd : Nat → Int32) (n : Nat) : Prop :=
  n = tc_n ir 34000 ∧ (∀ c, c < 34000 → (ir c ≠ 0 ↔ ∃ j, j < n ∧ rd j = nI c)) ∧ (∀ j, j < n → ∃ c, c < 34000 ∧ rd j = nI c)
/-- what the relation keeps of them -/
def tc_MR (ir rd : Nat → Int32) (n : Nat) : Prop :=
  n ≤ 34000 ∧ (∀ c, c < 34000 → ir c ≠ 0 → ∃ j, j < n ∧ rd j = nI c) ∧ (∀ j, j < n → ∃ c, c < 34000 ∧ rd j = nI c)
theorem tc_MK_R {ir rd : Nat → Int32} {n : Nat} (h : tc_MK ir rd n) : tc_MR ir rd n :=
  ⟨by rw [h.1]; exact tc_n_le ir 34000, fun c hc z => (h.2.1 c hc).mp z, h.2.2⟩
theorem tc_MR_0 : tc_MR (fun _ => 0) (fun _ => 0) 0 := ⟨by omega, fun c _ z => absurd rfl z, fun j hj => absurd hj (by omega)⟩
theorem tc_MK_0 {ir rd : Nat → Int32} (h : ∀ c, c < 34000 → ir c = 0) : tc_MK ir rd 0 :=
  ⟨(tc_n_0 34000 h).symm, fun c hc => ⟨fun z => absurd (h c hc) z, fun ⟨j, hj, _⟩ => absurd hj (by omega)⟩, fun j hj => absurd hj (by omega)⟩
theorem tc_MK_lt {ir rd : Nat → Int32} {n c : Nat} (h : tc_MK ir rd n) (hc : c < 34000) (hz : ir c = 0) : n < 34000 := by
  rw [h.1]; exact tc_n_lt hz 34000 hc
theorem tc_MK_add {ir rd : Nat → Int32} {n c : Nat} {x : Int32} (h : tc_MK ir rd n) (hc : c < 34000) (hz : ir c = 0) (hx : ¬ x = 0) : tc_MK (upd ir c x) (upd rd n (nI c)) (n + 1) := by
  refine ⟨by rw [tc_n_upd hx hz 34000 hc, ← h.1], fun c' hc' => ?_, fun j hj => ?_⟩
  · by_cases e : c' = c
    · rw [e, pk_us]
      exact ⟨fun _ => ⟨n, by omega, pk_us⟩, fun _ => hx⟩
    · rw [pk_un e, h.2.1 c' hc']
      constructor
      · rintro ⟨j, hj, ej⟩
        exact ⟨j, by omega, by rw [pk_un (by omega)]; exact ej⟩
      · rintro ⟨j, hj, ej⟩
        by_cases ejn : j = n
        · rw [ejn, pk_us, nI_eq (by omega) (by omega)] at ej
          exact absurd ej.symm e
        · rw [pk_un ejn] at ej
          exact ⟨j, by omega, ej⟩
  · by_cases ejn : j = n
    · exact ⟨c, hc, by rw [ejn, pk_us]⟩
    · rw [pk_un ejn]; exact h.2.2 j (by omega)
/-- forgetting: what is left behind i -/
def tc_FG (ir rd : Nat → Int32) (n i : Nat) : Prop := ∀ c, c < 34000 → ir c ≠ 0 → ∃ j, i ≤ j ∧ j < n ∧ rd j = nI c
theorem tc_FG_0 {ir rd : Nat → Int32} {n : Nat} (h : tc_MR ir rd n) : tc_FG ir rd n 0 := by
  intro c hc z
  obtain ⟨j, hj, e⟩ := h.2.1 c hc z
  exact ⟨j, by omega, hj, e⟩
theorem tc_FG_s {ir rd : Nat → Int32} {n i c : Nat} (h : tc_FG ir rd n i) (hc : c < 34000) (e : rd i = nI c) : tc_FG (upd ir c 0) rd n (i + 1) := by
  intro c' hc' z
  by_cases ec : c' = c
  · rw [ec, pk_us] at z; exact absurd rfl z
  · rw [pk_un ec] at z
    obtain ⟨j, h1, h2, h3⟩ := h c' hc' z
    refine ⟨j, ?_, h2, h3⟩
    by_cases ej : j = i
    · rw [ej, e, nI_eq (by omega) (by omega)] at h3
      exact absurd h3.symm ec
    · omega
theorem tc_FG_e {ir rd : Nat → Int32} {n : Nat} (h : tc_FG ir rd n n) : ∀ c, c < 34000 → ir c = 0 := by
  intro c hc
  by_cases z : ir c = 0
  · exact z
  · obtain ⟨j, h1, h2, _⟩ := h c hc z
    omega
/-- a grown list -/
def tc_GR (ir rd : Nat → Int32) (n : Nat) (ir' rd' : Nat → Int32) (n' : Nat) (S : Nat → Prop) : Prop :=
  tc_MK ir' rd' n' ∧ n ≤ n' ∧ (∀ j, j < n → rd' j = rd j) ∧ (∀ c, ir c ≠ 0 → ir' c ≠ 0) ∧ (∀ j, n ≤ j → j < n' → ∃ c, rd' j = nI c ∧ S c)
theorem tc_GR_r {ir rd : Nat → Int32} {n : Nat} {S : Nat → Prop} (h : tc_MK ir rd n) : tc_GR ir rd n ir rd n S :=
  ⟨h, Nat.le_refl n, fun _ _ => rfl, fun _ z => z, fun j h1 h2 => by omega⟩
theorem tc_GR_a {ir rd : Nat → Int32} {n c : Nat} {x : Int32} {S : Nat → Prop} (h : tc_MK ir rd n) (hc : c < 34000) (hz : ir c = 0) (hx : ¬ x = 0) (hS : S c) : tc_GR ir rd n (upd ir c x) (upd rd n (nI c)) (n + 1) S := by
  refine ⟨tc_MK_add h hc hz hx, by omega, fun j hj => pk_un (by omega), fun c' z => ?_, fun j h1 h2 => ⟨c, ?_, hS⟩⟩
  · by_cases e : c' = c
    · rw [e, pk_us]; exact hx
    · rw [pk_un e]; exact z
  · rw [show j = n by omega, pk_us]
theorem tc_GR_t {ir rd ir' rd' ir'' rd'' : Nat → Int32} {n n' n'' : Nat} {S : Nat → Prop} (h : tc_GR ir rd n ir' rd' n' S) (h' : tc_GR ir' rd' n' ir'' rd'' n'' S) : tc_GR ir rd n ir'' rd'' n'' S := by
  obtain ⟨a1, a2, a3, a4, a5⟩ := h
  obtain ⟨b1, b2, b3, b4, b5⟩ := h'
  refine ⟨b1, by omega, fun j hj => by rw [b3 j (by omega), a3 j hj], fun c z => b4 c (a4 c z), fun j h1 h2 => ?_⟩
  by_cases z : j < n'
  · rw [b3 j z]; exact a5 j h1 z
  · exact b5 j (by omega) h2
/-! X's worklist -/
section
variable (L : Nat) (F : Nat → Nat) (N : Nat → Int32 → Nat)
def tc_WI (i : Nat) (ir rd : Nat → Int32) (n : Nat) (p k : Int32) : Prop :=
  tc_MK ir rd n ∧ i ≤ n ∧ ir 1120 ≠ 0 ∧ (∀ j, j < n → ∃ c, rd j = nI c ∧ tc_R L F N c)
  ∧ (∀ j, j < i → ∀ c, c < 34000 → rd j = nI c → c / 2000 < L → F c = 0 → ir (N c 0) ≠ 0 ∧ ir (N c 1) ≠ 0)
  ∧ tc_FS L F (fun c => c < 34000 ∧ ∃ j, j < i ∧ rd j = nI c) p k
end
section
variable {L : Nat} {F : Nat → Nat} {N : Nat → Int32 → Nat} {i n n' c : Nat} {ir rd ir' rd' : Nat → Int32} {p k p' k' : Int32}
theorem tc_WI_s (h : tc_WI L F N i ir rd n p k) (hi : i < n) (hc : c < 34000) (e : rd i = nI c) (hg : tc_GR ir rd n ir' rd' n' (tc_R L F N)) (hn : c / 2000 < L → F c = 0 → ir' (N c 0) ≠ 0 ∧ ir' (N c 1) ≠ 0)
    (hf : ∀ S' : Nat → Prop, (∀ x, S' x ↔ (fun c => c < 34000 ∧ ∃ j, j < i ∧ rd j = nI c) x ∨ x = c) → tc_FS L F S' p' k') : tc_WI L F N (i + 1) ir' rd' n' p' k' := by
  obtain ⟨h1, h2, h3, h4, h5, h6⟩ := h
  obtain ⟨g1, g2, g3, g4, g5⟩ := hg
  refine ⟨g1, by omega, g4 _ h3, fun j hj => ?_, fun j hj c' hc' ec hl hf0 => ?_, hf _ (fun x => ?_)⟩
  · by_cases z : j < n
    · rw [g3 j z]; exact h4 j z
    · exact g5 j (by omega) hj
  · rw [g3 j (by omega)] at ec
    by_cases z : j = i
    · rw [z, e, nI_eq (by omega) (by omega)] at ec
      rw [← ec] at hl hf0 ⊢
      exact hn hl hf0
    · have q := h5 j (by omega) c' hc' ec hl hf0
      exact ⟨g4 _ q.1, g4 _ q.2⟩
  · dsimp only
    constructor
    · rintro ⟨hx, j, hj, ej⟩
      rw [g3 j (by omega)] at ej
      by_cases z : j = i
      · rw [z, e, nI_eq (by omega) (by omega)] at ej
        exact Or.inr ej.symm
      · exact Or.inl ⟨hx, j, by omega, ej⟩
    · rintro (⟨hx, j, hj, ej⟩ | rfl)
      · exact ⟨hx, j, by omega, by rw [g3 j (by omega)]; exact ej⟩
      · exact ⟨hc, i, by omega, by rw [g3 i hi]; exact e⟩
theorem tc_WI_e (h : tc_WI L F N n ir rd n p k) (hb : ∀ c, tc_R L F N c → c < 34000) (h01 : ∀ c d, N c d = N c 0 ∨ N c d = N c 1) :
    tc_MK ir rd n ∧ (∀ c, c < 34000 → ((∃ j, j < n ∧ rd j = nI c) ↔ tc_R L F N c)) ∧ tc_FS L F (tc_R L F N) p k := by
  obtain ⟨h1, h2, h3, h4, h5, h6⟩ := h
  have a1 : ∀ c, c < 34000 → (∃ j, j < n ∧ rd j = nI c) → tc_R L F N c := by
    rintro c hc ⟨j, hj, ej⟩
    obtain ⟨c', e', hr⟩ := h4 j hj
    have := hb c' hr
    rw [ej, nI_eq (by omega) (by omega)] at e'
    rw [e']; exact hr
  have a2 : ∀ c, tc_R L F N c → c < 34000 ∧ ir c ≠ 0 := by
    intro c hr
    have q := hr (fun c => tc_R L F N c ∧ ir c ≠ 0) ⟨tc_R0 L F N, h3⟩ (fun c d hS hl hf => by
      have hc := hb c hS.1
      obtain ⟨j, hj, ej⟩ := (h1.2.1 c hc).mp hS.2
      have w := h5 j hj c hc ej hl hf
      refine ⟨tc_RS d hS.1 hl hf, ?_⟩
      rcases h01 c d with z | z
      · rw [z]; exact w.1
      · rw [z]; exact w.2)
    exact ⟨hb c hr, q.2⟩
  have a3 : ∀ c, c < 34000 → ((∃ j, j < n ∧ rd j = nI c) ↔ tc_R L F N c) := fun c hc => ⟨a1 c hc, fun hr => (h1.2.1 c hc).mp (a2 c hr).2⟩
  refine ⟨h1, a3, tc_FS_c h6 (fun c => ?_)⟩
  exact ⟨fun z => (a3 c z.1).mp z.2, fun z => ⟨hb c z, (a3 c (hb c z)).mpr z⟩⟩
end
/-! Y's passes -/
section
variable (L : Nat) (F : Nat → Nat) (N : Nat → Int32 → Nat)
/-- y holds the start, and reachable ones alone -/
def tc_YI (y : Nat → Int32) : Prop := y 1120 ≠ 0 ∧ ∀ c, c < 34000 → y c ≠ 0 → tc_R L F N c
/-- one expansion: from y to y' with answer r -/
def tc_YE (c : Nat) (y y' : Nat → Int32) (r : Int32) : Prop :=
  tc_YI L F N y' ∧ tc_n y 34000 ≤ tc_n y' 34000 ∧ ((r = 0 ∧ y' = y ∧ (F c = 0 → y (N c 0) ≠ 0 ∧ y (N c 1) ≠ 0)) ∨ (r = 1 ∧ tc_n y 34000 < tc_n y' 34000))
/-- in a pass that began with n marks -/
def tc_YP (n i : Nat) (y : Nat → Int32) (ch : Int32) : Prop :=
  tc_YI L F N y ∧ n ≤ tc_n y 34000 ∧ ((ch = 0 ∧ ∀ c, c < i → y c ≠ 0 → F c = 0 → y (N c 0) ≠ 0 ∧ y (N c 1) ≠ 0) ∨ (ch = 1 ∧ n < tc_n y 34000))
end
section
variable {L : Nat} {F : Nat → Nat} {N : Nat → Int32 → Nat} {i n c : Nat} {y y' : Nat → Int32} {ch r : Int32}
theorem tc_YP_0 (h : tc_YI L F N y) : tc_YP L F N (tc_n y 34000) 0 y 0 := ⟨h, Nat.le_refl _, Or.inl ⟨rfl, fun c hc => absurd hc (by omega)⟩⟩
theorem tc_YP_n (h : tc_YP L F N n i y ch) (hz : y i = 0) : tc_YP L F N n (i + 1) y ch := by
  obtain ⟨h1, h2, h3⟩ := h
  refine ⟨h1, h2, ?_⟩
  rcases h3 with ⟨e, h3⟩ | h3
  · refine Or.inl ⟨e, fun c hc hy hf => ?_⟩
    by_cases z : c = i
    · rw [z] at hy; exact absurd hz hy
    · exact h3 c (by omega) hy hf
  · exact Or.inr h3
/-- the expansion said no -/
theorem tc_YP_f (h : tc_YP L F N n i y ch) (he : tc_YE L F N i y y' 0) : tc_YP L F N n (i + 1) y' ch := by
  obtain ⟨h1, h2, h3⟩ := h
  obtain ⟨g1, g2, g3⟩ := he
  rcases g3 with ⟨_, ey, g3⟩ | ⟨z, _⟩
  · subst ey
    refine ⟨g1, h2, ?_⟩
    rcases h3 with ⟨e, h3⟩ | h3
    · refine Or.inl ⟨e, fun c hc hy hf => ?_⟩
      by_cases z : c = i
      · rw [z] at hf ⊢; exact g3 hf
      · exact h3 c (by omega) hy hf
    · exact Or.inr h3
  · exact absurd z (by decide)
theorem tc_YP_t (h : tc_YP L F N n i y ch) (he : tc_YE L F N i y y' 1) : tc_YP L F N n (i + 1) y' 1 := by
  obtain ⟨h1, h2, h3⟩ := h
  obtain ⟨g1, g2, g3⟩ := he
  rcases g3 with ⟨z, _⟩ | ⟨_, g3⟩
  · exact absurd z (by decide)
  · exact ⟨g1, by omega, Or.inr ⟨rfl, by omega⟩⟩
theorem tc_YP_e (h : tc_YP L F N n (L * 2000) y 0) (hb : ∀ c, tc_R L F N c → c < 34000) (h01 : ∀ c d, N c d = N c 0 ∨ N c d = N c 1) : ∀ c, c < 34000 → (y c ≠ 0 ↔ tc_R L F N c) := by
  obtain ⟨h1, h2, h3⟩ := h
  rcases h3 with ⟨_, h3⟩ | ⟨z, _⟩
  · intro c hc
    refine ⟨h1.2 c hc, fun hr => ?_⟩
    have q := hr (fun c => tc_R L F N c ∧ y c ≠ 0) ⟨tc_R0 L F N, h1.1⟩ (fun c d hS hl hf => by
      have w := h3 c (by omega) hS.2 hf
      refine ⟨tc_RS d hS.1 hl hf, ?_⟩
      rcases h01 c d with z | z
      · rw [z]; exact w.1
      · rw [z]; exact w.2)
    exact q.2
  · exact absurd z (by decide)
theorem tc_YI_0 (h : ∀ c, c < 34000 → y c = 0) {x : Int32} (hx : ¬ x = 0) : tc_YI L F N (upd y 1120 x) := by
  refine ⟨by rw [pk_us]; exact hx, fun c hc z => ?_⟩
  by_cases e : c = 1120
  · rw [e]; exact tc_R0 L F N
  · rw [pk_un e] at z; exact absurd (h c hc) z
theorem tc_YI_a (h : tc_YI L F N y) {x : Int32} (hx : ¬ x = 0) (hr : tc_R L F N c) : tc_YI L F N (upd y c x) := by
  constructor
  · by_cases e : 1120 = c
    · rw [← e, pk_us]; exact hx
    · rw [pk_un e]; exact h.1
  · intro c' hc' z
    by_cases e : c' = c
    · rw [e]; exact hr
    · rw [pk_un e] at z; exact h.2 c' hc' z
end
/-! sets of bits -/
theorem tc_bit1 : ∀ n, n < 5 → ∀ j, j < 32 → bt ((1 : Int32) <<< (nI n &&& 31)) j = decide (j = n) := by decide +kernel
/-- s has just the bits g c of the c in S -/
def tc_BS (S : Nat → Prop) (g : Nat → Nat) (s : Int32) : Prop := ∀ j, j < 32 → (bt s j = true ↔ ∃ c, S c ∧ g c = j)
theorem tc_BS_u {S S' : Nat → Prop} {g : Nat → Nat} {s s' : Int32} (h : tc_BS S g s) (h' : tc_BS S' g s') (e : ∀ c, S c ↔ S' c) : s = s' := by
  have : S = S' := funext (fun c => propext (e c))
  subst this
  apply b_ext
  intro j hj
  have a := h j hj
  have b := h' j hj
  by_cases z : bt s j = true
  · rw [z, b.mpr (a.mp z)]
  · have w : ¬ bt s' j = true := fun q => z (a.mpr (b.mp q))
    rw [Bool.eq_false_iff.mpr z, Bool.eq_false_iff.mpr w]
theorem tc_BS_0 {S : Nat → Prop} {g : Nat → Nat} (h : ∀ c, ¬ S c) : tc_BS S g 0 := by
  intro j hj
  rw [b_0]
  exact ⟨fun z => absurd z (by decide), fun ⟨c, hc, _⟩ => absurd hc (h c)⟩
theorem tc_BS_s {S S' : Nat → Prop} {g : Nat → Nat} {s : Int32} {c : Nat} (h : tc_BS S g s) (hg : g c < 5) (e : ∀ x, S' x ↔ S x ∨ x = c) : tc_BS S' g (s ||| ((1 : Int32) <<< (nI (g c) &&& 31))) := by
  intro j hj
  rw [b_or, tc_bit1 _ hg j hj, Bool.or_eq_true, h j hj, decide_eq_true_eq]
  constructor
  · rintro (⟨x, hx, ex⟩ | z)
    · exact ⟨x, (e x).mpr (Or.inl hx), ex⟩
    · exact ⟨c, (e c).mpr (Or.inr rfl), z.symm⟩
  · rintro ⟨x, hx, ex⟩
    rcases (e x).mp hx with z | rfl
    · exact Or.inl ⟨x, z, ex⟩
    · exact Or.inr ex.symm
theorem tc_BS_c {S S' : Nat → Prop} {g : Nat → Nat} {s : Int32} (h : tc_BS S g s) (e : ∀ x, S' x ↔ S x) : tc_BS S' g s := by
  have : S' = S := funext (fun c => propext (e c))
  rw [this]; exact h
