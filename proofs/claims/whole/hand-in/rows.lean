section
theorem pk_us {f : Nat → Int32} {k : Nat} {x : Int32} : upd f k x k = x := if_pos rfl
theorem pk_un {f : Nat → Int32} {k j : Nat} {x : Int32} (h : j ≠ k) : upd f k x j = f j := if_neg h
theorem pk_sub {a b : Nat} (h : b ≤ a) : nI a - nI b = nI (a - b) := by
  obtain ⟨c, rfl⟩ : ∃ c, a = c + b := ⟨a - b, by omega⟩
  rw [← nI_add, Int32.add_sub_cancel, Nat.add_sub_cancel]
theorem pk_m1 (n : Nat) : nI (n + 1) + (-1) = nI n := by
  rw [← nI_1, Int32.add_assoc, show (1 : Int32) + (-1) = 0 from rfl, Int32.add_zero]
theorem pk_mul (a b : Nat) : nI a * nI b = nI (a * b) := (Int32.ofNat_mul a b).symm
theorem pk_div {a d : Nat} (ha : a < 2 ^ 31) (h0 : 0 < d) (hd : d < 2 ^ 31) : nI a / nI d = nI (a / d) := by
  apply Int32.toInt_inj.mp
  rw [lg_idiv_nonneg (by rw [nI_toInt ha]; omega) (by rw [nI_toInt hd]; omega), nI_toInt ha, nI_toInt hd, nI_toInt (Nat.lt_of_le_of_lt (Nat.div_le_self a d) ha)]
  first | rfl | exact (Int.natCast_ediv _ _).symm
theorem pk_rem {a d : Nat} (ha : a < 2 ^ 31) (h0 : 0 < d) (hd : d < 2 ^ 31) : nI a - nI a / nI d * nI d = nI (a % d) := by
  rw [pk_div ha h0 hd, pk_mul, pk_sub (Nat.div_mul_le_self a d)]
  exact congrArg nI (by have := Nat.div_add_mod' a d; omega)
theorem pk_sub_toInt {a b : Nat} (ha : a < 2 ^ 30) (hb : b < 2 ^ 30) : (nI a - nI b).toInt = (a : Int) - b := by
  rw [Int32.toInt_sub, nI_toInt (by omega), nI_toInt (by omega)]
  exact Int.bmod_eq_of_le (by omega) (by omega)
theorem pk_sneg {a b : Nat} (hb : b < 2 ^ 30) (h : a < b) : nI a - nI b < 0 := by
  rw [Int32.lt_iff_toInt_lt, pk_sub_toInt (by omega) hb, show (0 : Int32).toInt = 0 from by decide]
  omega
theorem pk_ix (x : Int32) {n : Nat} (hn : n < 2 ^ 31) : x < 0 ∨ nI n ≤ x ∨ ∃ j : Nat, j < n ∧ x = nI j := by
  by_cases h : x < 0
  · exact Or.inl h
  · obtain ⟨j, hj, rfl⟩ := nI_of h
    by_cases h2 : j < n
    · exact Or.inr (Or.inr ⟨j, h2, rfl⟩)
    · exact Or.inr (Or.inl (nI_le (by omega) hj))
theorem pk_le {x y : Int32} {A B : Prop} (a b : Nat) (f : a ≤ b → A) (g : b < a → B) (hx : x = nI a := by rfl) (hy : y = nI b := by rfl) (ha : a < 2 ^ 31 := by omega) (hb : b < 2 ^ 31 := by omega) : (x ≤ y → A) ∧ (¬ x ≤ y → B) := by
  subst hx hy
  rw [nI_leI ha hb]
  exact ⟨f, fun z => g (by omega)⟩
theorem pk_lt {x y : Int32} {A B : Prop} (a b : Nat) (f : a < b → A) (g : b ≤ a → B) (hx : x = nI a := by rfl) (hy : y = nI b := by rfl) (ha : a < 2 ^ 31 := by omega) (hb : b < 2 ^ 31 := by omega) : (x < y → A) ∧ (¬ x < y → B) := by
  subst hx hy
  rw [nI_ltI ha hb]
  exact ⟨f, fun z => g (by omega)⟩
theorem pk_eq {x y : Int32} {A B : Prop} (a b : Nat) (f : a = b → A) (g : a ≠ b → B) (hx : x = nI a := by rfl) (hy : y = nI b := by rfl) (ha : a < 2 ^ 31 := by omega) (hb : b < 2 ^ 31 := by omega) : (x = y → A) ∧ (¬ x = y → B) := by
  subst hx hy
  rw [nI_eq ha hb]
  exact ⟨f, g⟩
theorem pk_in {x : Int32} (n N : Nat) (h : n < N) (hx : x = nI n := by rfl) (hN : N < 2 ^ 31 := by omega) : vp_in x N := by
  subst hx
  exact vp_in_nI h hN
theorem pk_cl {x : Int32} (n : Nat) (hx : x = nI n := by rfl) (h : n < 2 ^ 31 := by omega) : x.toNatClampNeg = n := by
  subst hx
  exact nI_clamp h
theorem pk_tn {n : Nat} (h : n < 2 ^ 32) : (nI n).toBitVec.toNat = n := Nat.mod_eq_of_lt h
theorem pk_and (x : Int32) {m : Int32} (k : Nat) (hm : m.toBitVec.toNat = 2 ^ k - 1) : x &&& m = nI (x.toBitVec.toNat % 2 ^ k) := by
  apply Int32.toBitVec_inj.mp
  apply BitVec.eq_of_toNat_eq
  rw [Int32.toBitVec_and, BitVec.toNat_and, hm, Nat.and_two_pow_sub_one_eq_mod]
  show _ = (BitVec.ofNat 32 _).toNat
  rw [BitVec.toNat_ofNat]
  exact (Nat.mod_eq_of_lt (Nat.lt_of_le_of_lt (Nat.mod_le _ _) x.toBitVec.isLt)).symm
theorem pk_andN {n : Nat} (h : n < 2 ^ 32) {m : Int32} (k : Nat) (hm : m.toBitVec.toNat = 2 ^ k - 1) : nI n &&& m = nI (n % 2 ^ k) := by
  rw [pk_and _ k hm, pk_tn h]
theorem pk_andE (x : Int32) {m : Int32} (k : Nat) (hm : m.toBitVec.toNat = 2 ^ k - 1) : ∃ j : Nat, j < 2 ^ k ∧ x &&& m = nI j := ⟨_, Nat.mod_lt _ (Nat.two_pow_pos k), pk_and x k hm⟩
theorem pk_loop {σ : Type} (W : Nat → Nat → σ → Prop) (I : Nat → σ → Prop) (e i0 : Nat) (s : σ) (hi : i0 ≤ e) (h0 : I i0 s) (hx : ∀ n s, I e s → W (n + 1) e s)
    (hs : ∀ n i s, i < e → I i s → (∀ s', I (i + 1) s' → W n (i + 1) s') → W (n + 1) i s) : ∃ n, W n i0 s :=
  ⟨e + 1, loop_i W I e hx hs (e + 1) i0 s hi (by omega) h0⟩
theorem lp1 {A1 : Type} (W : Nat → A1 → Prop) (I : A1 → Prop) (μ : A1 → Nat) (hs : ∀ (n : Nat) (a1 : A1), I a1 → (∀ (b1 : A1), I b1 → μ b1 < μ a1 → W n b1) → W (n + 1) a1) (a1 : A1) (h : I a1) : ∃ n, W n a1 :=
  loop_m (σ := A1) (fun n s => W n s) (fun s => I s) (fun s => μ s) (fun n s hI hk => hs n s hI (fun b1 h9 hm => hk b1 h9 hm)) a1 h
theorem lp2 {A1 A2 : Type} (W : Nat → A1 → A2 → Prop) (I : A1 → A2 → Prop) (μ : A1 → A2 → Nat) (hs : ∀ (n : Nat) (a1 : A1) (a2 : A2), I a1 a2 → (∀ (b1 : A1) (b2 : A2), I b1 b2 → μ b1 b2 < μ a1 a2 → W n b1 b2) → W (n + 1) a1 a2) (a1 : A1) (a2 : A2) (h : I a1 a2) : ∃ n, W n a1 a2 :=
  loop_m (σ := A1 × A2) (fun n s => W n s.1 s.2) (fun s => I s.1 s.2) (fun s => μ s.1 s.2) (fun n s hI hk => hs n s.1 s.2 hI (fun b1 b2 h9 hm => hk (b1, b2) h9 hm)) (a1, a2) h
theorem lp3 {A1 A2 A3 : Type} (W : Nat → A1 → A2 → A3 → Prop) (I : A1 → A2 → A3 → Prop) (μ : A1 → A2 → A3 → Nat) (hs : ∀ (n : Nat) (a1 : A1) (a2 : A2) (a3 : A3), I a1 a2 a3 → (∀ (b1 : A1) (b2 : A2) (b3 : A3), I b1 b2 b3 → μ b1 b2 b3 < μ a1 a2 a3 → W n b1 b2 b3) → W (n + 1) a1 a2 a3) (a1 : A1) (a2 : A2) (a3 : A3) (h : I a1 a2 a3) : ∃ n, W n a1 a2 a3 :=
  loop_m (σ := A1 × A2 × A3) (fun n s => W n s.1 s.2.1 s.2.2) (fun s => I s.1 s.2.1 s.2.2) (fun s => μ s.1 s.2.1 s.2.2) (fun n s hI hk => hs n s.1 s.2.1 s.2.2 hI (fun b1 b2 b3 h9 hm => hk (b1, b2, b3) h9 hm)) (a1, a2, a3) h
theorem lp4 {A1 A2 A3 A4 : Type} (W : Nat → A1 → A2 → A3 → A4 → Prop) (I : A1 → A2 → A3 → A4 → Prop) (μ : A1 → A2 → A3 → A4 → Nat) (hs : ∀ (n : Nat) (a1 : A1) (a2 : A2) (a3 : A3) (a4 : A4), I a1 a2 a3 a4 → (∀ (b1 : A1) (b2 : A2) (b3 : A3) (b4 : A4), I b1 b2 b3 b4 → μ b1 b2 b3 b4 < μ a1 a2 a3 a4 → W n b1 b2 b3 b4) → W (n + 1) a1 a2 a3 a4) (a1 : A1) (a2 : A2) (a3 : A3) (a4 : A4) (h : I a1 a2 a3 a4) : ∃ n, W n a1 a2 a3 a4 :=
  loop_m (σ := A1 × A2 × A3 × A4) (fun n s => W n s.1 s.2.1 s.2.2.1 s.2.2.2) (fun s => I s.1 s.2.1 s.2.2.1 s.2.2.2) (fun s => μ s.1 s.2.1 s.2.2.1 s.2.2.2) (fun n s hI hk => hs n s.1 s.2.1 s.2.2.1 s.2.2.2 hI (fun b1 b2 b3 b4 h9 hm => hk (b1, b2, b3, b4) h9 hm)) (a1, a2, a3, a4) h
theorem lp5 {A1 A2 A3 A4 A5 : Type} (W : Nat → A1 → A2 → A3 → A4 → A5 → Prop) (I : A1 → A2 → A3 → A4 → A5 → Prop) (μ : A1 → A2 → A3 → A4 → A5 → Nat) (hs : ∀ (n : Nat) (a1 : A1) (a2 : A2) (a3 : A3) (a4 : A4) (a5 : A5), I a1 a2 a3 a4 a5 → (∀ (b1 : A1) (b2 : A2) (b3 : A3) (b4 : A4) (b5 : A5), I b1 b2 b3 b4 b5 → μ b1 b2 b3 b4 b5 < μ a1 a2 a3 a4 a5 → W n b1 b2 b3 b4 b5) → W (n + 1) a1 a2 a3 a4 a5) (a1 : A1) (a2 : A2) (a3 : A3) (a4 : A4) (a5 : A5) (h : I a1 a2 a3 a4 a5) : ∃ n, W n a1 a2 a3 a4 a5 :=
  loop_m (σ := A1 × A2 × A3 × A4 × A5) (fun n s => W n s.1 s.2.1 s.2.2.1 s.2.2.2.1 s.2.2.2.2) (fun s => I s.1 s.2.1 s.2.2.1 s.2.2.2.1 s.2.2.2.2) (fun s => μ s.1 s.2.1 s.2.2.1 s.2.2.2.1 s.2.2.2.2) (fun n s hI hk => hs n s.1 s.2.1 s.2.2.1 s.2.2.2.1 s.2.2.2.2 hI (fun b1 b2 b3 b4 b5 h9 hm => hk (b1, b2, b3, b4, b5) h9 hm)) (a1, a2, a3, a4, a5) h
theorem lp6 {A1 A2 A3 A4 A5 A6 : Type} (W : Nat → A1 → A2 → A3 → A4 → A5 → A6 → Prop) (I : A1 → A2 → A3 → A4 → A5 → A6 → Prop) (μ : A1 → A2 → A3 → A4 → A5 → A6 → Nat) (hs : ∀ (n : Nat) (a1 : A1) (a2 : A2) (a3 : A3) (a4 : A4) (a5 : A5) (a6 : A6), I a1 a2 a3 a4 a5 a6 → (∀ (b1 : A1) (b2 : A2) (b3 : A3) (b4 : A4) (b5 : A5) (b6 : A6), I b1 b2 b3 b4 b5 b6 → μ b1 b2 b3 b4 b5 b6 < μ a1 a2 a3 a4 a5 a6 → W n b1 b2 b3 b4 b5 b6) → W (n + 1) a1 a2 a3 a4 a5 a6) (a1 : A1) (a2 : A2) (a3 : A3) (a4 : A4) (a5 : A5) (a6 : A6) (h : I a1 a2 a3 a4 a5 a6) : ∃ n, W n a1 a2 a3 a4 a5 a6 :=
  loop_m (σ := A1 × A2 × A3 × A4 × A5 × A6) (fun n s => W n s.1 s.2.1 s.2.2.1 s.2.2.2.1 s.2.2.2.2.1 s.2.2.2.2.2) (fun s => I s.1 s.2.1 s.2.2.1 s.2.2.2.1 s.2.2.2.2.1 s.2.2.2.2.2) (fun s => μ s.1 s.2.1 s.2.2.1 s.2.2.2.1 s.2.2.2.2.1 s.2.2.2.2.2) (fun n s hI hk => hs n s.1 s.2.1 s.2.2.1 s.2.2.2.1 s.2.2.2.2.1 s.2.2.2.2.2 hI (fun b1 b2 b3 b4 b5 b6 h9 hm => hk (b1, b2, b3, b4, b5, b6) h9 hm)) (a1, a2, a3, a4, a5, a6) h
theorem pk_least (P : Nat → Prop) (h : ∃ k, P k) : ∃ k, P k ∧ ∀ j, j < k → ¬ P j := by
  obtain ⟨k, hk⟩ := h
  induction k using Nat.strongRecOn with
  | ind k ih =>
    by_cases e : ∃ j, j < k ∧ P j
    · obtain ⟨j, hj, pj⟩ := e
      exact ih j hj pj
    · exact ⟨k, hk, fun j hj pj => e ⟨j, hj, pj⟩⟩
def bt (x : Int32) (i : Nat) : Bool := x.toBitVec.getLsbD i
theorem b_ext {x y : Int32} (h : ∀ i, i < 32 → bt x i = bt y i) : x = y := Int32.toBitVec_inj.mp (BitVec.eq_of_getLsbD_eq (fun i hi => h i hi))
theorem b_or (x y : Int32) (i : Nat) : bt (x ||| y) i = (bt x i || bt y i) := by unfold bt; rw [Int32.toBitVec_or, BitVec.getLsbD_or]
theorem b_and (x y : Int32) (i : Nat) : bt (x &&& y) i = (bt x i && bt y i) := by unfold bt; rw [Int32.toBitVec_and, BitVec.getLsbD_and]
theorem b_big {x : Int32} {i : Nat} (h : 32 ≤ i) : bt x i = false := BitVec.getLsbD_of_ge _ _ h
theorem b_0 (i : Nat) : bt 0 i = false := BitVec.getLsbD_zero
theorem s_l : ∀ n, n < 32 → ((nI n &&& 31).toBitVec.smod 32).toNat = n := by decide +kernel
theorem b_shl (n : Nat) (hn : n < 32) (x : Int32) {i : Nat} (hi : i < 32) : bt (x <<< (nI n &&& 31)) i = (decide (n ≤ i) && bt x (i - n)) := by
  unfold bt
  rw [Int32.toBitVec_shiftLeft]
  show (x.toBitVec <<< ((nI n &&& 31).toBitVec.smod 32).toNat).getLsbD i = _
  rw [s_l n hn, BitVec.getLsbD_shiftLeft]
  rcases Nat.lt_or_ge i n with h | h
  · simp [h, Nat.not_le.mpr h]
  · simp [hi, h, Nat.not_lt.mpr h]
theorem sb_negT {w : Nat} (h : w < 2 ^ 31) : (-nI w).toInt = -(w : Int) := by
  rw [Int32.toInt_neg, nI_toInt h]
  exact Int.bmod_eq_of_le (by omega) (by omega)
end
section
/-! the digits of a configuration -/
def tc_l (c i : Nat) : Nat := if i = 0 then c / 400 % 5 else if i = 1 then c / 80 % 5 else c / 16 % 5
def tc_U (i : Nat) : Nat := if i = 0 then 400 else if i = 1 then 80 else 16
def tc_wl (c i v : Nat) : Nat := c + v * tc_U i - tc_l c i * tc_U i
def tc_s (c j : Nat) : Nat := if j = 0 then c / 4 % 4 else c % 4
def tc_V (j : Nat) : Nat := if j = 0 then 4 else 1
def tc_ws (c j v : Nat) : Nat := c + v * tc_V j - tc_s c j * tc_V j
def tc_wp (c p : Nat) : Nat := c % 2000 + p * 2000
def tc_ob (v : Nat) : Nat := if 2 < v then 1 else 0
def tc_pm (v : Nat) : Nat := if 2 < v then v - 2 else v
theorem tc_c3 {i : Nat} (h : i < 3) : i = 0 ∨ i = 1 ∨ i = 2 := by omega
theorem tc_c2 {i : Nat} (h : i < 2) : i = 0 ∨ i = 1 := by omega
theorem tc_l_lt (c i : Nat) : tc_l c i < 5 := by
  unfold tc_l; split
  · omega
  · split <;> omega
theorem tc_s_lt (c j : Nat) : tc_s c j < 4 := by
  unfold tc_s; split <;> omega
theorem tc_ob_lt (v : Nat) : tc_ob v < 2 := by
  unfold tc_ob; split <;> omega
theorem tc_l_le (c i : Nat) : tc_l c i * tc_U i ≤ c := by
  unfold tc_l tc_U; split
  · omega
  · split <;> omega
theorem tc_s_le (c j : Nat) : tc_s c j * tc_V j ≤ c := by
  unfold tc_s tc_V; split <;> omega
theorem tc_l_0 (c : Nat) : tc_l c 0 = c / 400 % 5 := rfl
theorem tc_l_1 (c : Nat) : tc_l c 1 = c / 80 % 5 := rfl
theorem tc_l_2 (c : Nat) : tc_l c 2 = c / 16 % 5 := rfl
theorem tc_s_0 (c : Nat) : tc_s c 0 = c / 4 % 4 := rfl
theorem tc_s_1 (c : Nat) : tc_s c 1 = c % 4 := rfl
theorem tc_dec (c : Nat) : ∃ p x y z s t, x < 5 ∧ y < 5 ∧ z < 5 ∧ s < 4 ∧ t < 4 ∧ c = p * 2000 + x * 400 + y * 80 + z * 16 + s * 4 + t :=
  ⟨c / 2000, c / 400 % 5, c / 80 % 5, c / 16 % 5, c / 4 % 4, c % 4, by omega, by omega, by omega, by omega, by omega, by omega⟩
theorem tc_dg {c p x y z s t : Nat} (hx : x < 5) (hy : y < 5) (hz : z < 5) (hs : s < 4) (ht : t < 4) (e : c = p * 2000 + x * 400 + y * 80 + z * 16 + s * 4 + t) :
    c / 2000 = p ∧ tc_l c 0 = x ∧ tc_l c 1 = y ∧ tc_l c 2 = z ∧ tc_s c 0 = s ∧ tc_s c 1 = t := by
  rw [tc_l_0, tc_l_1, tc_l_2, tc_s_0, tc_s_1]
  refine ⟨by omega, by omega, by omega, by omega, by omega, by omega⟩
theorem tc_eq {c p : Nat} {x y z s t : Nat} (hp : c / 2000 = p) (hx : tc_l c 0 = x) (hy : tc_l c 1 = y) (hz : tc_l c 2 = z) (hs : tc_s c 0 = s) (ht : tc_s c 1 = t) :
    p * 2000 + x * 400 + y * 80 + z * 16 + s * 4 + t = c := by
  rw [tc_l_0] at hx; rw [tc_l_1] at hy; rw [tc_l_2] at hz; rw [tc_s_0] at hs; rw [tc_s_1] at ht
  omega
/-- all digits when one holder gets another value -/
theorem tc_wl_d {c i v : Nat} (hi : i < 3) (hv : v < 5) : (tc_wl c i v) / 2000 = c / 2000 ∧ (∀ j, j < 3 → tc_l (tc_wl c i v) j = if j = i then v else tc_l c j) ∧ (∀ j, j < 2 → tc_s (tc_wl c i v) j = tc_s c j) := by
  obtain ⟨p, x, y, z, s, t, hx, hy, hz, hs, ht, e⟩ := tc_dec c
  obtain ⟨e0, e1, e2, e3, e4, e5⟩ := tc_dg hx hy hz hs ht e
  rcases tc_c3 hi with rfl | rfl | rfl
  · have w : tc_wl c 0 v = p * 2000 + v * 400 + y * 80 + z * 16 + s * 4 + t := by
      have : tc_wl c 0 v = c + v * 400 - tc_l c 0 * 400 := rfl
      rw [this, e1]; omega
    obtain ⟨d0, d1, d2, d3, d4, d5⟩ := tc_dg hv hy hz hs ht w
    refine ⟨by rw [d0, e0], fun j hj => ?_, fun j hj => ?_⟩
    · rcases tc_c3 hj with rfl | rfl | rfl
      · rw [d1]; rfl
      · rw [d2, e2]; rfl
      · rw [d3, e3]; rfl
    · rcases tc_c2 hj with rfl | rfl
      · rw [d4, e4]
      · rw [d5, e5]
  · have w : tc_wl c 1 v = p * 2000 + x * 400 + v * 80 + z * 16 + s * 4 + t := by
      have : tc_wl c 1 v = c + v * 80 - tc_l c 1 * 80 := rfl
      rw [this, e2]; omega
    obtain ⟨d0, d1, d2, d3, d4, d5⟩ := tc_dg hx hv hz hs ht w
    refine ⟨by rw [d0, e0], fun j hj => ?_, fun j hj => ?_⟩
    · rcases tc_c3 hj with rfl | rfl | rfl
      · rw [d1, e1]; rfl
      · rw [d2]; rfl
      · rw [d3, e3]; rfl
    · rcases tc_c2 hj with rfl | rfl
      · rw [d4, e4]
      · rw [d5, e5]
  · have w : tc_wl c 2 v = p * 2000 + x * 400 + y * 80 + v * 16 + s * 4 + t := by
      have : tc_wl c 2 v = c + v * 16 - tc_l c 2 * 16 := rfl
      rw [this, e3]; omega
    obtain ⟨d0, d1, d2, d3, d4, d5⟩ := tc_dg hx hy hv hs ht w
    refine ⟨by rw [d0, e0], fun j hj => ?_, fun j hj => ?_⟩
    · rcases tc_c3 hj with rfl | rfl | rfl
      · rw [d1, e1]; rfl
      · rw [d2, e2]; rfl
      · rw [d3]; rfl
    · rcases tc_c2 hj with rfl | rfl
      · rw [d4, e4]
      · rw [d5, e5]
theorem tc_ws_d {c i v : Nat} (hi : i < 2) (hv : v < 4) : (tc_ws c i v) / 2000 = c / 2000 ∧ (∀ j, j < 3 → tc_l (tc_ws c i v) j = tc_l c j) ∧ (∀ j, j < 2 → tc_s (tc_ws c i v) j = if j = i then v else tc_s c j) := by
  obtain ⟨p, x, y, z, s, t, hx, hy, hz, hs, ht, e⟩ := tc_dec c
  obtain ⟨e0, e1, e2, e3, e4, e5⟩ := tc_dg hx hy hz hs ht e
  rcases tc_c2 hi with rfl | rfl
  · have w : tc_ws c 0 v = p * 2000 + x * 400 + y * 80 + z * 16 + v * 4 + t := by
      have : tc_ws c 0 v = c + v * 4 - tc_s c 0 * 4 := rfl
      rw [this, e4]; omega
    obtain ⟨d0, d1, d2, d3, d4, d5⟩ := tc_dg hx hy hz hv ht w
    refine ⟨by rw [d0, e0], fun j hj => ?_, fun j hj => ?_⟩
    · rcases tc_c3 hj with rfl | rfl | rfl
      · rw [d1, e1]
      · rw [d2, e2]
      · rw [d3, e3]
    · rcases tc_c2 hj with rfl | rfl
      · rw [d4]; rfl
      · rw [d5, e5]; rfl
  · have w : tc_ws c 1 v = p * 2000 + x * 400 + y * 80 + z * 16 + s * 4 + v := by
      have : tc_ws c 1 v = c + v * 1 - tc_s c 1 * 1 := rfl
      rw [this, e5]; omega
    obtain ⟨d0, d1, d2, d3, d4, d5⟩ := tc_dg hx hy hz hs hv w
    refine ⟨by rw [d0, e0], fun j hj => ?_, fun j hj => ?_⟩
    · rcases tc_c3 hj with rfl | rfl | rfl
      · rw [d1, e1]
      · rw [d2, e2]
      · rw [d3, e3]
    · rcases tc_c2 hj with rfl | rfl
      · rw [d4, e4]; rfl
      · rw [d5]; rfl
theorem tc_wp_d (c q : Nat) : (tc_wp c q) / 2000 = q ∧ (∀ j, j < 3 → tc_l (tc_wp c q) j = tc_l c j) ∧ (∀ j, j < 2 → tc_s (tc_wp c q) j = tc_s c j) := by
  obtain ⟨p, x, y, z, s, t, hx, hy, hz, hs, ht, e⟩ := tc_dec c
  obtain ⟨e0, e1, e2, e3, e4, e5⟩ := tc_dg hx hy hz hs ht e
  have w : tc_wp c q = q * 2000 + x * 400 + y * 80 + z * 16 + s * 4 + t := by
    unfold tc_wp; omega
  obtain ⟨d0, d1, d2, d3, d4, d5⟩ := tc_dg hx hy hz hs ht w
  refine ⟨d0, fun j hj => ?_, fun j hj => ?_⟩
  · rcases tc_c3 hj with rfl | rfl | rfl
    · rw [d1, e1]
    · rw [d2, e2]
    · rw [d3, e3]
  · rcases tc_c2 hj with rfl | rfl
    · rw [d4, e4]
    · rw [d5, e5]
theorem tc_p1 (c : Nat) : c + 2000 = tc_wp c (c / 2000 + 1) := by
  unfold tc_wp; omega
theorem tc_p1_d (c : Nat) : (c + 2000) / 2000 = c / 2000 + 1 ∧ (∀ j, j < 3 → tc_l (c + 2000) j = tc_l c j) ∧ (∀ j, j < 2 → tc_s (c + 2000) j = tc_s c j) := by
  rw [tc_p1]; exact tc_wp_d c _
/-! Y's working copy of a configuration -/
def tc_W (pc : Int32) (l s : Nat → Int32) (c : Nat) : Prop := pc = nI (c / 2000) ∧ (∀ i, i < 3 → l i = nI (tc_l c i)) ∧ (∀ j, j < 2 → s j = nI (tc_s c j))
theorem tc_W_l {pc : Int32} {l s : Nat → Int32} {c i v : Nat} (h : tc_W pc l s c) (hi : i < 3) (hv : v < 5) : tc_W pc (upd l i (nI v)) s (tc_wl c i v) := by
  obtain ⟨d0, d1, d2⟩ := tc_wl_d (c := c) hi hv
  refine ⟨by rw [d0]; exact h.1, fun j hj => ?_, fun j hj => by rw [d2 j hj]; exact h.2.2 j hj⟩
  rw [d1 j hj]
  by_cases e : j = i
  · rw [if_pos e, e, pk_us]
  · rw [if_neg e, pk_un e]; exact h.2.1 j hj
theorem tc_W_s {pc : Int32} {l s : Nat → Int32} {c i v : Nat} (h : tc_W pc l s c) (hi : i < 2) (hv : v < 4) : tc_W pc l (upd s i (nI v)) (tc_ws c i v) := by
  obtain ⟨d0, d1, d2⟩ := tc_ws_d (c := c) hi hv
  refine ⟨by rw [d0]; exact h.1, fun j hj => by rw [d1 j hj]; exact h.2.1 j hj, fun j hj => ?_⟩
  rw [d2 j hj]
  by_cases e : j = i
  · rw [if_pos e, e, pk_us]
  · rw [if_neg e, pk_un e]; exact h.2.2 j hj
theorem tc_W_p {pc : Int32} {l s : Nat → Int32} {c : Nat} (h : tc_W pc l s c) (q : Nat) : tc_W (nI q) l s (tc_wp c q) := by
  obtain ⟨d0, d1, d2⟩ := tc_wp_d c q
  exact ⟨by rw [d0], fun j hj => by rw [d1 j hj]; exact h.2.1 j hj, fun j hj => by rw [d2 j hj]; exact h.2.2 j hj⟩
theorem tc_W_1 {pc : Int32} {l s : Nat → Int32} {c : Nat} (h : tc_W pc l s c) : tc_W (nI (c / 2000 + 1)) l s (c + 2000) := by
  rw [tc_p1]; exact tc_W_p h _
theorem tc_W_pack {pc : Int32} {l s : Nat → Int32} {c : Nat} (h : tc_W pc l s c) : pc * 2000 + l 0 * 400 + l 1 * 80 + l 2 * 16 + s 0 * 4 + s 1 = nI c := by
  rw [h.1, h.2.1 0 (by omega), h.2.1 1 (by omega), h.2.1 2 (by omega), h.2.2 0 (by omega), h.2.2 1 (by omega)]
  show nI _ * nI 2000 + nI _ * nI 400 + nI _ * nI 80 + nI _ * nI 16 + nI _ * nI 4 + nI _ = nI c
  rw [pk_mul, pk_mul, pk_mul, pk_mul, pk_mul, nI_add, nI_add, nI_add, nI_add, nI_add]
  exact congrArg nI (tc_eq rfl rfl rfl rfl rfl rfl)
/-! X's arithmetic on the code -/
theorem tc_xl {c i v : Nat} : nI c + (nI v - nI (tc_l c i)) * nI (tc_U i) = nI (tc_wl c i v) := by
  have h := tc_l_le c i
  have e : nI (tc_wl c i v) = nI (c + v * tc_U i) - nI (tc_l c i * tc_U i) := (pk_sub (by omega)).symm
  rw [e, ← nI_add, ← pk_mul, ← pk_mul]
  grind
theorem tc_xs {c j v : Nat} : nI c + (nI v - nI (tc_s c j)) * nI (tc_V j) = nI (tc_ws c j v) := by
  have h := tc_s_le c j
  have e : nI (tc_ws c j v) = nI (c + v * tc_V j) - nI (tc_s c j * tc_V j) := (pk_sub (by omega)).symm
  rw [e, ← nI_add, ← pk_mul, ← pk_mul]
  grind
end
section
/-! the pure step: fault code (0: none) and next configuration -/
def tc_k (cl : Nat → Int32) (v y : Nat) : Nat := (cl (tc_ob v)).toNatClampNeg * 4 + y
def tc_Fc (dn rq rs cl : Nat → Int32) (c x y : Nat) : Nat :=
  if tc_l c x = 0 then 1 else if dn (tc_k cl (tc_l c x) y) = 0 then 2
  else if ¬ nI (tc_s c (tc_ob (tc_l c x))) = rq (tc_k cl (tc_l c x) y) then 3
  else if ¬ rs (tc_k cl (tc_l c x) y) = rq (tc_k cl (tc_l c x) y) ∧ ¬ tc_pm (tc_l c x) = 2 then 4 else 0
def tc_Nc (rs cl : Nat → Int32) (c x y : Nat) : Nat := tc_ws c (tc_ob (tc_l c x)) (rs (tc_k cl (tc_l c x) y)).toNatClampNeg + 2000
def tc_Fs (c x y : Nat) : Nat := if tc_l c y = 0 then 1 else if ¬ tc_l c x = 0 then 5 else if ¬ tc_pm (tc_l c y) = 2 then 6 else 0
def tc_h (c y : Nat) : Nat := 2 * tc_ob (tc_l c y) + 1
def tc_Ns (c x y : Nat) : Nat := tc_wl (tc_wl c y (tc_h c y)) x (tc_h c y) + 2000
def tc_Fm (c x y : Nat) : Nat := if tc_l c x = 0 then 1 else if tc_l c y = 0 then 1 else if ¬ tc_ob (tc_l c x) = tc_ob (tc_l c y) then 7 else 0
def tc_ms (u v : Nat) : Nat := if 2 < tc_pm u + tc_pm v then 2 else tc_pm u + tc_pm v
def tc_Nm (c x y : Nat) : Nat := tc_wl (tc_wl c x (2 * tc_ob (tc_l c x) + tc_ms (tc_l c x) (tc_l c y))) y 0 + 2000
def tc_Nd (c x : Nat) : Nat := tc_wl c x 0 + 2000
def tc_Fi (c x : Nat) : Nat := if tc_l c x = 0 then 1 else 0
def tc_Ni (T : Nat → Nat) (c x y : Nat) : Nat := if tc_s c (tc_ob (tc_l c x)) = y then c + 2000 else tc_wp c (T (c / 2000))
def tc_F (o a b dn rq rs cl : Nat → Int32) (c : Nat) : Nat :=
  if o (c / 2000) = 1 then tc_Fc dn rq rs cl c (a (c / 2000)).toNatClampNeg (b (c / 2000)).toNatClampNeg
  else if o (c / 2000) = 2 then tc_Fs c (a (c / 2000)).toNatClampNeg (b (c / 2000)).toNatClampNeg
  else if o (c / 2000) = 3 then tc_Fm c (a (c / 2000)).toNatClampNeg (b (c / 2000)).toNatClampNeg
  else if o (c / 2000) = 6 then tc_Fi c (a (c / 2000)).toNatClampNeg else 0
def tc_N (o a b rs cl : Nat → Int32) (T : Nat → Nat) (c : Nat) (d : Int32) : Nat :=
  if o (c / 2000) = 1 then tc_Nc rs cl c (a (c / 2000)).toNatClampNeg (b (c / 2000)).toNatClampNeg
  else if o (c / 2000) = 2 then tc_Ns c (a (c / 2000)).toNatClampNeg (b (c / 2000)).toNatClampNeg
  else if o (c / 2000) = 3 then tc_Nm c (a (c / 2000)).toNatClampNeg (b (c / 2000)).toNatClampNeg
  else if o (c / 2000) = 4 then tc_Nd c (a (c / 2000)).toNatClampNeg
  else if o (c / 2000) = 6 then tc_Ni T c (a (c / 2000)).toNatClampNeg (b (c / 2000)).toNatClampNeg
  else if o (c / 2000) = 7 then tc_wp c (T (c / 2000))
  else if o (c / 2000) = 9 then tc_wp c (T (c / 2000))
  else if d = 1 then c + 2000 else tc_wp c (T (c / 2000))
/-! a statement that add accepts -/
def tc_V1 (o a b : Int32) : Prop :=
  (o = 1 ∧ ∃ x y, x < 3 ∧ y < 4 ∧ a = nI x ∧ b = nI y) ∨ (o = 2 ∧ ∃ x y, x < 3 ∧ y < 3 ∧ x ≠ y ∧ a = nI x ∧ b = nI y)
  ∨ (o = 3 ∧ ∃ x y, x < 3 ∧ y < 3 ∧ x ≠ y ∧ a = nI x ∧ b = nI y) ∨ (o = 4 ∧ ∃ x, x < 3 ∧ a = nI x) ∨ o = 5
  ∨ (o = 6 ∧ ∃ x y, x < 3 ∧ y < 4 ∧ a = nI x ∧ b = nI y) ∨ o = 7 ∨ o = 8 ∨ o = 9
def tc_VP (o a b : Nat → Int32) (L : Nat) : Prop := ∀ p, p < L → tc_V1 (o p) (a p) (b p)
def tc_VD (rq rs cl : Nat → Int32) : Prop := (∀ j, j < 8 → ∃ r, r < 4 ∧ rq j = nI r) ∧ (∀ j, j < 8 → ∃ r, r < 4 ∧ rs j = nI r) ∧ (∀ j, j < 2 → ∃ r, r < 2 ∧ cl j = nI r)
def tc_VT (o : Nat → Int32) (T : Nat → Nat) (L : Nat) : Prop := ∀ p, p < L → (o p = 5 ∨ o p = 6 ∨ o p = 7 ∨ o p = 8 ∨ o p = 9) → T p ≤ L
section
variable {o a b dn rq rs cl : Nat → Int32} {T : Nat → Nat} {c x y L : Nat} {d : Int32}
theorem tc_F1 (h : o (c / 2000) = 1) (ha : a (c / 2000) = nI x) (hb : b (c / 2000) = nI y) (hx : x < 3) (hy : y < 4) : tc_F o a b dn rq rs cl c = tc_Fc dn rq rs cl c x y ∧ tc_N o a b rs cl T c d = tc_Nc rs cl c x y := by
  unfold tc_F tc_N
  rw [if_pos h, if_pos h, ha, hb, nI_clamp (by omega), nI_clamp (by omega)]
  exact ⟨rfl, rfl⟩
theorem tc_F2 (h : o (c / 2000) = 2) (ha : a (c / 2000) = nI x) (hb : b (c / 2000) = nI y) (hx : x < 3) (hy : y < 4) : tc_F o a b dn rq rs cl c = tc_Fs c x y ∧ tc_N o a b rs cl T c d = tc_Ns c x y := by
  unfold tc_F tc_N
  rw [h, ha, hb, nI_clamp (by omega), nI_clamp (by omega)]
  exact ⟨rfl, rfl⟩
theorem tc_F3 (h : o (c / 2000) = 3) (ha : a (c / 2000) = nI x) (hb : b (c / 2000) = nI y) (hx : x < 3) (hy : y < 4) : tc_F o a b dn rq rs cl c = tc_Fm c x y ∧ tc_N o a b rs cl T c d = tc_Nm c x y := by
  unfold tc_F tc_N
  rw [h, ha, hb, nI_clamp (by omega), nI_clamp (by omega)]
  exact ⟨rfl, rfl⟩
theorem tc_F4 (h : o (c / 2000) = 4) (ha : a (c / 2000) = nI x) (hx : x < 3) : tc_F o a b dn rq rs cl c = 0 ∧ tc_N o a b rs cl T c d = tc_Nd c x := by
  unfold tc_F tc_N
  rw [h, ha, nI_clamp (by omega)]
  exact ⟨rfl, rfl⟩
theorem tc_F6 (h : o (c / 2000) = 6) (ha : a (c / 2000) = nI x) (hb : b (c / 2000) = nI y) (hx : x < 3) (hy : y < 4) : tc_F o a b dn rq rs cl c = tc_Fi c x ∧ tc_N o a b rs cl T c d = tc_Ni T c x y := by
  unfold tc_F tc_N
  rw [h, ha, hb, nI_clamp (by omega), nI_clamp (by omega)]
  exact ⟨rfl, rfl⟩
theorem tc_F5 (h : o (c / 2000) = 5) : tc_F o a b dn rq rs cl c = 0 ∧ tc_N o a b rs cl T c d = if d = 1 then c + 2000 else tc_wp c (T (c / 2000)) := by
  unfold tc_F tc_N
  rw [h]
  exact ⟨rfl, rfl⟩
theorem tc_F8 (h : o (c / 2000) = 8) : tc_F o a b dn rq rs cl c = 0 ∧ tc_N o a b rs cl T c d = if d = 1 then c + 2000 else tc_wp c (T (c / 2000)) := by
  unfold tc_F tc_N
  rw [h]
  exact ⟨rfl, rfl⟩
theorem tc_F7 (h : o (c / 2000) = 7) : tc_F o a b dn rq rs cl c = 0 ∧ tc_N o a b rs cl T c d = tc_wp c (T (c / 2000)) := by
  unfold tc_F tc_N
  rw [h]
  exact ⟨rfl, rfl⟩
theorem tc_F9 (h : o (c / 2000) = 9) : tc_F o a b dn rq rs cl c = 0 ∧ tc_N o a b rs cl T c d = tc_wp c (T (c / 2000)) := by
  unfold tc_F tc_N
  rw [h]
  exact ⟨rfl, rfl⟩
theorem tc_Fc_le (c x y : Nat) : tc_Fc dn rq rs cl c x y ≤ 7 := by
  unfold tc_Fc
  repeat' split
  all_goals omega
theorem tc_F_le (c : Nat) : tc_F o a b dn rq rs cl c ≤ 7 := by
  unfold tc_F tc_Fs tc_Fm tc_Fi
  have h := fun x y => tc_Fc_le (dn := dn) (rq := rq) (rs := rs) (cl := cl) c x y
  repeat' split
  all_goals first | exact h _ _ | omega
/-! how many permissions on an object are out -/
def tc_e (v j : Nat) : Nat := if v = 0 then 0 else if tc_ob v = j then tc_pm v else 0
def tc_g (c : Nat) : Prop := ∀ j, j < 2 → tc_e (tc_l c 0) j + tc_e (tc_l c 1) j + tc_e (tc_l c 2) j ≤ 2
theorem tc_third {i j : Nat} (hi : i < 3) (hj : j < 3) (h : i ≠ j) : ∃ k, k < 3 ∧ k ≠ i ∧ k ≠ j ∧ ∀ f : Nat → Nat, f 0 + f 1 + f 2 = f i + f j + f k := by
  rcases tc_c3 hi with rfl | rfl | rfl <;> rcases tc_c3 hj with rfl | rfl | rfl
  · exact absurd rfl h
  · exact ⟨2, by omega, by omega, by omega, fun f => by omega⟩
  · exact ⟨1, by omega, by omega, by omega, fun f => by omega⟩
  · exact ⟨2, by omega, by omega, by omega, fun f => by omega⟩
  · exact absurd rfl h
  · exact ⟨0, by omega, by omega, by omega, fun f => by omega⟩
  · exact ⟨1, by omega, by omega, by omega, fun f => by omega⟩
  · exact ⟨0, by omega, by omega, by omega, fun f => by omega⟩
  · exact absurd rfl h
theorem tc_g_eq {c c' : Nat} (h : tc_g c) (e : ∀ j, j < 3 → tc_l c' j = tc_l c j) : tc_g c' := by
  intro j hj
  rw [e 0 (by omega), e 1 (by omega), e 2 (by omega)]
  exact h j hj
theorem tc_e0 (j : Nat) : tc_e 0 j = 0 := rfl
theorem tc_e_half : ∀ u, u < 5 → ∀ j, j < 2 → tc_pm u = 2 → tc_e (2 * tc_ob u + 1) j + tc_e (2 * tc_ob u + 1) j = tc_e u j := by decide
theorem tc_e_sum0 : ∀ u, u < 5 → ∀ v, v < 5 → (u ≠ 0 ∧ v ≠ 0 ∧ tc_ob u = tc_ob v) → tc_e (2 * tc_ob u + tc_ms u v) 0 ≤ tc_e u 0 + tc_e v 0 := by decide
theorem tc_e_sum1 : ∀ u, u < 5 → ∀ v, v < 5 → (u ≠ 0 ∧ v ≠ 0 ∧ tc_ob u = tc_ob v) → tc_e (2 * tc_ob u + tc_ms u v) 1 ≤ tc_e u 1 + tc_e v 1 := by decide
theorem tc_e_sum (u : Nat) (hu : u < 5) (v : Nat) (hv : v < 5) (j : Nat) (hj : j < 2) (h : u ≠ 0 ∧ v ≠ 0 ∧ tc_ob u = tc_ob v) : tc_e (2 * tc_ob u + tc_ms u v) j ≤ tc_e u j + tc_e v j := by
  rcases tc_c2 hj with rfl | rfl
  · exact tc_e_sum0 u hu v hv h
  · exact tc_e_sum1 u hu v hv h
theorem tc_e_ms : ∀ u, u < 5 → ∀ v, v < 5 → u ≠ 0 → v ≠ 0 → 2 * tc_ob u + tc_ms u v < 5 := by decide
theorem tc_h_lt (c y : Nat) : tc_h c y < 5 := by
  have := tc_ob_lt (tc_l c y)
  unfold tc_h; omega
theorem tc_e_two : ∀ u, u < 5 → ∀ v, v < 5 → (u ≠ 0 ∧ v ≠ 0 ∧ tc_ob u = tc_ob v ∧ tc_e u (tc_ob u) + tc_e v (tc_ob u) ≤ 2) → u + tc_pm v = 2 * tc_ob u + tc_ms u v := by decide
theorem tc_g_merge {c x y : Nat} (h : tc_g c) (hx : x < 3) (hy : y < 3) (hn : x ≠ y) (h1 : tc_l c x ≠ 0) (h2 : tc_l c y ≠ 0) (h3 : tc_ob (tc_l c x) = tc_ob (tc_l c y)) :
    tc_l c x + tc_pm (tc_l c y) = 2 * tc_ob (tc_l c x) + tc_ms (tc_l c x) (tc_l c y) := by
  refine tc_e_two _ (tc_l_lt c x) _ (tc_l_lt c y) ⟨h1, h2, h3, ?_⟩
  have g := h (tc_ob (tc_l c x)) (tc_ob_lt _)
  obtain ⟨k, hk, k1, k2, hs⟩ := tc_third hx hy hn
  have e := hs (fun i => tc_e (tc_l c i) (tc_ob (tc_l c x)))
  omega
theorem tc_g_Ns {c x y : Nat} (h : tc_g c) (hx : x < 3) (hy : y < 3) (hn : x ≠ y) (hf : tc_Fs c x y = 0) : tc_g (tc_Ns c x y) ∧ tc_Ns c x y / 2000 = c / 2000 + 1 := by
  have h1 : ¬ tc_l c y = 0 := by intro z; rw [tc_Fs, if_pos z] at hf; omega
  have h2 : tc_l c x = 0 := by
    by_cases z : tc_l c x = 0
    · exact z
    · rw [tc_Fs, if_neg h1, if_pos z] at hf; omega
  have h3 : tc_pm (tc_l c y) = 2 := by
    by_cases z : tc_pm (tc_l c y) = 2
    · exact z
    · rw [tc_Fs, if_neg h1, if_neg (fun w => w h2), if_pos z] at hf; omega
  obtain ⟨d0, d1, _⟩ := tc_wl_d (c := c) hy (tc_h_lt c y)
  obtain ⟨f0, f1, _⟩ := tc_wl_d (c := tc_wl c y (tc_h c y)) hx (tc_h_lt c y)
  obtain ⟨g0, g1, _⟩ := tc_p1_d (tc_wl (tc_wl c y (tc_h c y)) x (tc_h c y))
  refine ⟨?_, ?_⟩
  · intro j hj
    obtain ⟨k, hk, k1, k2, hs⟩ := tc_third hx hy hn
    have e := hs (fun i => tc_e (tc_l (tc_Ns c x y) i) j)
    have e' := hs (fun i => tc_e (tc_l c i) j)
    have ex : tc_l (tc_Ns c x y) x = tc_h c y := by
      show tc_l (_ + 2000) x = _
      rw [g1 x hx, f1 x hx, if_pos rfl]
    have ey : tc_l (tc_Ns c x y) y = tc_h c y := by
      show tc_l (_ + 2000) y = _
      rw [g1 y hy, f1 y hy, if_neg (fun z => hn z.symm), d1 y hy, if_pos rfl]
    have ek : tc_l (tc_Ns c x y) k = tc_l c k := by
      show tc_l (_ + 2000) k = _
      rw [g1 k hk, f1 k hk, if_neg k1, d1 k hk, if_neg k2]
    rw [ex, ey, ek] at e
    have q := tc_e_half _ (tc_l_lt c y) j hj h3
    have g := h j hj
    rw [h2, tc_e0] at e'
    unfold tc_h at e
    omega
  · show (_ + 2000) / 2000 = _
    rw [g0, f0, d0]
theorem tc_g_Nm {c x y : Nat} (h : tc_g c) (hx : x < 3) (hy : y < 3) (hn : x ≠ y) (hf : tc_Fm c x y = 0) : tc_g (tc_Nm c x y) ∧ tc_Nm c x y / 2000 = c / 2000 + 1 := by
  have h1 : ¬ tc_l c x = 0 := by intro z; rw [tc_Fm, if_pos z] at hf; omega
  have h2 : ¬ tc_l c y = 0 := by intro z; rw [tc_Fm, if_neg h1, if_pos z] at hf; omega
  have h3 : tc_ob (tc_l c x) = tc_ob (tc_l c y) := by
    by_cases z : tc_ob (tc_l c x) = tc_ob (tc_l c y)
    · exact z
    · rw [tc_Fm, if_neg h1, if_neg h2, if_pos z] at hf; omega
  have hm := tc_e_ms _ (tc_l_lt c x) _ (tc_l_lt c y) h1 h2
  obtain ⟨d0, d1, _⟩ := tc_wl_d (c := c) hx hm
  obtain ⟨f0, f1, _⟩ := tc_wl_d (c := tc_wl c x (2 * tc_ob (tc_l c x) + tc_ms (tc_l c x) (tc_l c y))) hy (show 0 < 5 by omega)
  obtain ⟨g0, g1, _⟩ := tc_p1_d (tc_wl (tc_wl c x (2 * tc_ob (tc_l c x) + tc_ms (tc_l c x) (tc_l c y))) y 0)
  refine ⟨?_, ?_⟩
  · intro j hj
    obtain ⟨k, hk, k1, k2, hs⟩ := tc_third hx hy hn
    have e := hs (fun i => tc_e (tc_l (tc_Nm c x y) i) j)
    have e' := hs (fun i => tc_e (tc_l c i) j)
    have ex : tc_l (tc_Nm c x y) x = 2 * tc_ob (tc_l c x) + tc_ms (tc_l c x) (tc_l c y) := by
      show tc_l (_ + 2000) x = _
      rw [g1 x hx, f1 x hx, if_neg hn, d1 x hx, if_pos rfl]
    have ey : tc_l (tc_Nm c x y) y = 0 := by
      show tc_l (_ + 2000) y = _
      rw [g1 y hy, f1 y hy, if_pos rfl]
    have ek : tc_l (tc_Nm c x y) k = tc_l c k := by
      show tc_l (_ + 2000) k = _
      rw [g1 k hk, f1 k hk, if_neg k2, d1 k hk, if_neg k1]
    rw [ex, ey, ek, tc_e0] at e
    have q := tc_e_sum _ (tc_l_lt c x) _ (tc_l_lt c y) j hj ⟨h1, h2, h3⟩
    have g := h j hj
    omega
  · show (_ + 2000) / 2000 = _
    rw [g0, f0, d0]
theorem tc_g_Nd {c x : Nat} (h : tc_g c) (hx : x < 3) : tc_g (tc_Nd c x) ∧ tc_Nd c x / 2000 = c / 2000 + 1 := by
  obtain ⟨d0, d1, _⟩ := tc_wl_d (c := c) hx (show 0 < 5 by omega)
  obtain ⟨g0, g1, _⟩ := tc_p1_d (tc_wl c x 0)
  refine ⟨?_, ?_⟩
  · intro j hj
    have g := h j hj
    have q : ∀ i, i < 3 → tc_e (tc_l (tc_Nd c x) i) j ≤ tc_e (tc_l c i) j := by
      intro i hi
      have e : tc_l (tc_Nd c x) i = if i = x then 0 else tc_l c i := by
        show tc_l (_ + 2000) i = _
        rw [g1 i hi, d1 i hi]
      rw [e]
      by_cases z : i = x
      · rw [if_pos z, tc_e0]; omega
      · rw [if_neg z]; omega
    have q0 := q 0 (by omega)
    have q1 := q 1 (by omega)
    have q2 := q 2 (by omega)
    omega
  · show (_ + 2000) / 2000 = _
    rw [g0, d0]
theorem tc_k_lt (hD : tc_VD rq rs cl) {v y : Nat} (hy : y < 4) : tc_k cl v y < 8 := by
  obtain ⟨r, hr, e⟩ := hD.2.2 (tc_ob v) (tc_ob_lt v)
  unfold tc_k
  rw [e, nI_clamp (by omega)]
  omega
theorem tc_g_Nc (hD : tc_VD rq rs cl) {c x y : Nat} (h : tc_g c) (hy : y < 4) : tc_g (tc_Nc rs cl c x y) ∧ tc_Nc rs cl c x y / 2000 = c / 2000 + 1 := by
  obtain ⟨r, hr, e⟩ := hD.2.1 (tc_k cl (tc_l c x) y) (tc_k_lt hD hy)
  unfold tc_Nc
  rw [e, nI_clamp (by omega)]
  obtain ⟨d0, d1, _⟩ := tc_ws_d (c := c) (tc_ob_lt (tc_l c x)) hr
  obtain ⟨g0, g1, _⟩ := tc_p1_d (tc_ws c (tc_ob (tc_l c x)) r)
  exact ⟨tc_g_eq h (fun j hj => by rw [g1 j hj, d1 j hj]), by rw [g0, d0]⟩
theorem tc_g_wp {c : Nat} (h : tc_g c) (q : Nat) : tc_g (tc_wp c q) ∧ tc_wp c q / 2000 = q :=
  ⟨tc_g_eq h (tc_wp_d c q).2.1, (tc_wp_d c q).1⟩
theorem tc_g_p1 {c : Nat} (h : tc_g c) : tc_g (c + 2000) ∧ (c + 2000) / 2000 = c / 2000 + 1 :=
  ⟨tc_g_eq h (tc_p1_d c).2.1, (tc_p1_d c).1⟩
theorem tc_le_of {c p L : Nat} (h : tc_g c ∧ c / 2000 = p) (hp : p ≤ L) : tc_g c ∧ c / 2000 ≤ L := ⟨h.1, by rw [h.2]; exact hp⟩
/-- the step keeps the invariant -/
theorem tc_step_g (hV : tc_VP o a b L) (hD : tc_VD rq rs cl) (hT : tc_VT o T L) (d : Int32) (h : tc_g c) (hc : c / 2000 < L) (hf : tc_F o a b dn rq rs cl c = 0) : tc_g (tc_N o a b rs cl T c d) ∧ tc_N o a b rs cl T c d / 2000 ≤ L := by
  have hb : tc_g (if d = 1 then c + 2000 else tc_wp c (T (c / 2000))) ∧ (if d = 1 then c + 2000 else tc_wp c (T (c / 2000))) / 2000 ≤ L ∨ ¬ T (c / 2000) ≤ L := by
    by_cases hTL : T (c / 2000) ≤ L
    · by_cases hd : d = 1
      · rw [if_pos hd]; exact Or.inl (tc_le_of (tc_g_p1 h) (by omega))
      · rw [if_neg hd]; exact Or.inl (tc_le_of (tc_g_wp h _) hTL)
    · exact Or.inr hTL
  rcases hV _ hc with ⟨ho, x, y, hx, hy, ea, eb⟩ | ⟨ho, x, y, hx, hy, hn, ea, eb⟩ | ⟨ho, x, y, hx, hy, hn, ea, eb⟩ | ⟨ho, x, hx, ea⟩ | ho | ⟨ho, x, y, hx, hy, ea, eb⟩ | ho | ho | ho
  · obtain ⟨e1, e2⟩ := tc_F1 (dn := dn) (rq := rq) (rs := rs) (cl := cl) (T := T) (d := d) ho ea eb hx hy
    rw [e2]; exact tc_le_of (tc_g_Nc hD h hy) (by omega)
  · obtain ⟨e1, e2⟩ := tc_F2 (dn := dn) (rq := rq) (rs := rs) (cl := cl) (T := T) (d := d) ho ea eb hx (by omega)
    rw [e2]; exact tc_le_of (tc_g_Ns h hx hy hn (e1.symm.trans hf)) (by omega)
  · obtain ⟨e1, e2⟩ := tc_F3 (dn := dn) (rq := rq) (rs := rs) (cl := cl) (T := T) (d := d) ho ea eb hx (by omega)
    rw [e2]; exact tc_le_of (tc_g_Nm h hx hy hn (e1.symm.trans hf)) (by omega)
  · obtain ⟨e1, e2⟩ := tc_F4 (b := b) (dn := dn) (rq := rq) (rs := rs) (cl := cl) (T := T) (d := d) ho ea hx
    rw [e2]; exact tc_le_of (tc_g_Nd h hx) (by omega)
  · obtain ⟨e1, e2⟩ := tc_F5 (a := a) (b := b) (dn := dn) (rq := rq) (rs := rs) (cl := cl) (T := T) (d := d) ho
    rw [e2]; exact hb.resolve_right (fun z => z (hT _ hc (Or.inl ho)))
  · obtain ⟨e1, e2⟩ := tc_F6 (dn := dn) (rq := rq) (rs := rs) (cl := cl) (T := T) (d := d) ho ea eb hx hy
    rw [e2, tc_Ni]
    by_cases z : tc_s c (tc_ob (tc_l c x)) = y
    · rw [if_pos z]; exact tc_le_of (tc_g_p1 h) (by omega)
    · rw [if_neg z]; exact tc_le_of (tc_g_wp h _) (hT _ hc (Or.inr (Or.inl ho)))
  · obtain ⟨e1, e2⟩ := tc_F7 (a := a) (b := b) (dn := dn) (rq := rq) (rs := rs) (cl := cl) (T := T) (d := d) ho
    rw [e2]; exact tc_le_of (tc_g_wp h _) (hT _ hc (Or.inr (Or.inr (Or.inl ho))))
  · obtain ⟨e1, e2⟩ := tc_F8 (a := a) (b := b) (dn := dn) (rq := rq) (rs := rs) (cl := cl) (T := T) (d := d) ho
    rw [e2]; exact hb.resolve_right (fun z => z (hT _ hc (Or.inr (Or.inr (Or.inr (Or.inl ho))))))
  · obtain ⟨e1, e2⟩ := tc_F9 (a := a) (b := b) (dn := dn) (rq := rq) (rs := rs) (cl := cl) (T := T) (d := d) ho
    rw [e2]; exact tc_le_of (tc_g_wp h _) (hT _ hc (Or.inr (Or.inr (Or.inr (Or.inr ho)))))
end
end
section
/-! the least set of reachable configurations -/
section
variable (L : Nat) (F : Nat → Nat) (N : Nat → Int32 → Nat)
def tc_R (c : Nat) : Prop := ∀ S : Nat → Prop, S 1120 → (∀ (c : Nat) (d : Int32), S c → c / 2000 < L → F c = 0 → S (N c d)) → S c
theorem tc_R0 : tc_R L F N 1120 := fun _ h _ => h
theorem tc_RS {L : Nat} {F : Nat → Nat} {N : Nat → Int32 → Nat} {c : Nat} (d : Int32) (h : tc_R L F N c) (hc : c / 2000 < L) (hf : F c = 0) : tc_R L F N (N c d) := fun S h0 hs => hs c d (h S h0 hs) hc hf
end
/-- the decisions 0 and 1 are all that there are -/
theorem tc_N01 {o a b rs cl : Nat → Int32} {T : Nat → Nat} (c : Nat) (d : Int32) : tc_N o a b rs cl T c d = tc_N o a b rs cl T c 0 ∨ tc_N o a b rs cl T c d = tc_N o a b rs cl T c 1 := by
  by_cases h : d = 1
  · exact Or.inr (by rw [h])
  · left
    unfold tc_N
    rw [if_neg h, if_neg (show ¬ (0 : Int32) = 1 by decide)]
theorem tc_g0 : tc_g 1120 := by
  intro j hj
  rcases tc_c2 hj with rfl | rfl <;> decide
/-- every reachable configuration keeps the invariant -/
theorem tc_RI {o a b dn rq rs cl : Nat → Int32} {T : Nat → Nat} {L : Nat} (hV : tc_VP o a b L) (hD : tc_VD rq rs cl) (hT : tc_VT o T L) {c : Nat} (h : tc_R L (tc_F o a b dn rq rs cl) (tc_N o a b rs cl T) c) : tc_g c ∧ c / 2000 ≤ L :=
  h (fun c => tc_g c ∧ c / 2000 ≤ L) ⟨tc_g0, by omega⟩ (fun c d hS hc hf => tc_step_g hV hD hT d hS.1 hc hf)
/-! how many marks there are -/
def tc_n (f : Nat → Int32) : Nat → Nat
  | 0 => 0
  | k + 1 => tc_n f k + if f k = 0 then 0 else 1
theorem tc_n_le (f : Nat → Int32) : ∀ k, tc_n f k ≤ k
  | 0 => Nat.le_refl 0
  | k + 1 => by
    have := tc_n_le f k
    show tc_n f k + (if f k = 0 then 0 else 1) ≤ k + 1
    split <;> omega
theorem tc_n_lt {f : Nat → Int32} {j : Nat} (h : f j = 0) : ∀ k, j < k → tc_n f k < k
  | 0, hj => absurd hj (by omega)
  | k + 1, hj => by
    show tc_n f k + (if f k = 0 then 0 else 1) < k + 1
    have := tc_n_le f k
    by_cases e : j = k
    · rw [← e, if_pos h]; rw [← e] at this; omega
    · have := tc_n_lt h k (by omega)
      split <;> omega
theorem tc_n_ge {f : Nat → Int32} {j : Nat} {x : Int32} : ∀ k, k ≤ j → tc_n (upd f j x) k = tc_n f k
  | 0, _ => rfl
  | k + 1, hj => by
    show tc_n (upd f j x) k + (if upd f j x k = 0 then 0 else 1) = tc_n f k + (if f k = 0 then 0 else 1)
    rw [tc_n_ge k (by omega), pk_un (by omega)]
theorem tc_n_upd {f : Nat → Int32} {j : Nat} {x : Int32} (hx : ¬ x = 0) (h : f j = 0) : ∀ k, j < k → tc_n (upd f j x) k = tc_n f k + 1
  | 0, hj => absurd hj (by omega)
  | k + 1, hj => by
    show tc_n (upd f j x) k + (if upd f j x k = 0 then 0 else 1) = tc_n f k + (if f k = 0 then 0 else 1) + 1
    by_cases e : j = k
    · rw [← e, tc_n_ge j (Nat.le_refl j), pk_us, if_neg hx, if_pos h]
    · rw [tc_n_upd hx h k (by omega), pk_un (fun z => e z.symm)]; omega
theorem tc_n_0 {f : Nat → Int32} : ∀ k, (∀ j, j < k → f j = 0) → tc_n f k = 0
  | 0, _ => rfl
  | k + 1, h => by
    show tc_n f k + (if f k = 0 then 0 else 1) = 0
    rw [tc_n_0 k (fun j hj => h j (by omega)), if_pos (h k (by omega))]
/-! the least fault over a set -/
section
variable (L : Nat) (F : Nat → Nat)
def tc_FS (S : Nat → Prop) (p k : Int32) : Prop :=
  (p = -1 ∧ k = -1 ∧ ∀ c, S c → c / 2000 < L → F c = 0) ∨
  ∃ c, S c ∧ c / 2000 < L ∧ F c ≠ 0 ∧ p = nI (c / 2000) ∧ k = nI (F c) ∧ ∀ c', S c' → c' / 2000 < L → F c' ≠ 0 → c / 2000 < c' / 2000 ∨ (c / 2000 = c' / 2000 ∧ F c ≤ F c')
def tc_FP (S : Nat → Prop) (p : Int32) : Prop :=
  (p = -1 ∧ ∀ c, S c → c / 2000 < L → F c = 0) ∨
  ∃ c, S c ∧ c / 2000 < L ∧ F c ≠ 0 ∧ p = nI (c / 2000) ∧ ∀ c', S c' → c' / 2000 < L → F c' ≠ 0 → c / 2000 ≤ c' / 2000
end
section
variable {L : Nat} {F : Nat → Nat} {S S' : Nat → Prop} {p p' k k' : Int32}
theorem tc_FS_P (h : tc_FS L F S p k) : tc_FP L F S p := by
  rcases h with ⟨h1, _, h3⟩ | ⟨c, h1, h2, h3, h4, _, h6⟩
  · exact Or.inl ⟨h1, h3⟩
  · exact Or.inr ⟨c, h1, h2, h3, h4, fun c' a1 a2 a3 => by have := h6 c' a1 a2 a3; omega⟩
theorem tc_FP_u (h : tc_FP L F S p) (h' : tc_FP L F S p') : p = p' := by
  rcases h with ⟨h1, h3⟩ | ⟨c, h1, h2, h3, h4, h6⟩
  · rcases h' with ⟨g1, _⟩ | ⟨d, g1, g2, g3, _⟩
    · rw [h1, g1]
    · exact absurd (h3 d g1 g2) g3
  · rcases h' with ⟨_, g3⟩ | ⟨d, g1, g2, g3, g4, g6⟩
    · exact absurd (g3 c h1 h2) h3
    · have a1 := h6 d g1 g2 g3
      have a2 := g6 c h1 h2 h3
      rw [h4, g4, Nat.le_antisymm a1 a2]
theorem tc_FS_u (h : tc_FS L F S p k) (h' : tc_FS L F S p' k') : p = p' ∧ k = k' := by
  refine ⟨tc_FP_u (tc_FS_P h) (tc_FS_P h'), ?_⟩
  rcases h with ⟨_, h2, h3⟩ | ⟨c, h1, h2, h3, _, h4, h6⟩
  · rcases h' with ⟨_, g1, _⟩ | ⟨d, g1, g2, g3, _⟩
    · rw [h2, g1]
    · exact absurd (h3 d g1 g2) g3
  · rcases h' with ⟨_, _, g3⟩ | ⟨d, g1, g2, g3, _, g4, g6⟩
    · exact absurd (g3 c h1 h2) h3
    · have a1 := h6 d g1 g2 g3
      have a2 := g6 c h1 h2 h3
      have : F c = F d := by omega
      rw [h4, g4, this]
theorem tc_FS_c (h : tc_FS L F S p k) (e : ∀ c, S c ↔ S' c) : tc_FS L F S' p k := by
  have : S = S' := funext (fun c => propext (e c))
  rw [← this]; exact h
theorem tc_FP_neg (h : tc_FP L F S p) (hL : L ≤ 16) : (p = -1 ∧ ∀ c, S c → c / 2000 < L → F c = 0) ∨ ∃ q, q < L ∧ p = nI q := by
  rcases h with h | ⟨c, _, h2, _, h4, _⟩
  · exact Or.inl h
  · exact Or.inr ⟨c / 2000, h2, h4⟩
/-- no new fault -/
theorem tc_FS_n {c0 : Nat} (h : tc_FS L F S p k) (e : ∀ c, S' c ↔ S c ∨ c = c0) (hf : c0 / 2000 < L → F c0 = 0) : tc_FS L F S' p k := by
  rcases h with ⟨h1, h2, h3⟩ | ⟨c, h1, h2, h3, h4, h5, h6⟩
  · refine Or.inl ⟨h1, h2, fun c hc hl => ?_⟩
    rcases (e c).mp hc with g | rfl
    · exact h3 c g hl
    · exact hf hl
  · refine Or.inr ⟨c, (e c).mpr (Or.inl h1), h2, h3, h4, h5, fun c' hc hl hn => ?_⟩
    rcases (e c').mp hc with g | rfl
    · exact h6 c' g hl hn
    · exact absurd (hf hl) hn
/-- a fault at c0 that is less than what was noted -/
theorem tc_FS_a {c0 : Nat} (h : tc_FS L F S p k) (e : ∀ c, S' c ↔ S c ∨ c = c0) (hc : c0 / 2000 < L) (hf : F c0 ≠ 0) (hl : p = -1 ∨ ∃ q j, p = nI q ∧ k = nI j ∧ q < 2 ^ 31 ∧ j < 2 ^ 31 ∧ (c0 / 2000 < q ∨ (c0 / 2000 = q ∧ F c0 < j))) (hL : L ≤ 16) (hF : ∀ c, F c ≤ 7) : tc_FS L F S' (nI (c0 / 2000)) (nI (F c0)) := by
  refine Or.inr ⟨c0, (e c0).mpr (Or.inr rfl), hc, hf, rfl, rfl, fun c' hs hl' hn => ?_⟩
  rcases (e c').mp hs with g | rfl
  · rcases h with ⟨h1, h2, h3⟩ | ⟨c, h1, h2, h3, h4, h5, h6⟩
    · exact absurd (h3 c' g hl') hn
    · have q := h6 c' g hl' hn
      rcases hl with hl | ⟨q1, j, e1, e2, b1, b2, hl⟩
      · rw [h4] at hl
        have : (nI (c / 2000)).toInt = (-1 : Int32).toInt := by rw [hl]
        rw [nI_toInt (by omega)] at this
        have w : (-1 : Int32).toInt = -1 := by decide
        omega
      · rw [h4, nI_eq (by omega) b1] at e1
        have := hF c
        rw [h5, nI_eq (by omega) b2] at e2
        omega
  · omega
/-- a fault at c0 that isn't -/
theorem tc_FS_b {c0 : Nat} (h : tc_FS L F S p k) (e : ∀ c, S' c ↔ S c ∨ c = c0) (hl : ∃ q j, p = nI q ∧ k = nI j ∧ q < 2 ^ 31 ∧ j < 2 ^ 31 ∧ ¬ c0 / 2000 < q ∧ ¬ (c0 / 2000 = q ∧ F c0 < j)) (hL : L ≤ 16) (hF : ∀ c, F c ≤ 7) : tc_FS L F S' p k := by
  obtain ⟨q1, j, e1, e2, b1, b2, hl⟩ := hl
  rcases h with ⟨h1, h2, h3⟩ | ⟨c, h1, h2, h3, h4, h5, h6⟩
  · rw [e1] at h1
    have : (nI q1).toInt = (-1 : Int32).toInt := by rw [h1]
    rw [nI_toInt b1] at this
    have w : (-1 : Int32).toInt = -1 := by decide
    omega
  · refine Or.inr ⟨c, (e c).mpr (Or.inl h1), h2, h3, h4, h5, fun c' hc hl' hn => ?_⟩
    rcases (e c').mp hc with g | rfl
    · exact h6 c' g hl' hn
    · rw [h4, nI_eq (by omega) b1] at e1
      have := hF c
      rw [h5, nI_eq (by omega) b2] at e2
      omega
end
end
section
/-! the blocks: X's and Y's scans side by side -/
def tc_op (x : Int32) : Prop := x = 5 ∨ x = 6 ∨ x = 8
def tc_JM (o : Nat → Int32) (L : Nat) (el en ow : Nat → Int32) (T : Nat → Nat) : Prop :=
  ∀ p, p < L → (tc_op (o p) → (el p = -1 ∧ ∃ e, e < L ∧ en p = nI e ∧ T p = e + 1) ∨ (o p ≠ 8 ∧ ∃ e, e < L ∧ el p = nI e ∧ T p = e + 1))
    ∧ (o p = 7 → ∃ t e, t < L ∧ e < L ∧ ow p = nI t ∧ en t = nI e ∧ T p = e + 1)
    ∧ (o p = 9 → ∃ t, t < L ∧ ow p = nI t ∧ ((o t = 8 ∧ T p = t) ∨ (o t ≠ 8 ∧ T p = p + 1)))
theorem tc_JM_T {o el en ow : Nat → Int32} {T : Nat → Nat} {L : Nat} (h : tc_JM o L el en ow T) : tc_VT o T L := by
  intro p hp ho
  obtain ⟨h1, h2, h3⟩ := h p hp
  have key : tc_op (o p) → T p ≤ L := by
    intro z
    rcases h1 z with ⟨_, e, he, _, ht⟩ | ⟨_, e, he, _, ht⟩ <;> omega
  rcases ho with z | z | z | z | z
  · exact key (Or.inl z)
  · exact key (Or.inr (Or.inl z))
  · obtain ⟨t, e, _, he, _, _, ht⟩ := h2 z; omega
  · exact key (Or.inr (Or.inr z))
  · obtain ⟨t, ht, _, ⟨_, e⟩ | ⟨_, e⟩⟩ := h3 z <;> omega
def tc_MI (o : Nat → Int32) (i dp : Nat) (xl xe xo xb yl ye yo ys : Nat → Int32) : Prop :=
  dp ≤ i ∧ (∀ k, k < dp → ∃ t, t < i ∧ xb k = nI t ∧ ys k = nI t ∧ tc_op (o t))
  ∧ (∀ p, p < i → tc_op (o p) → xl p = yl p ∧ (yl p = -1 ∨ (o p ≠ 8 ∧ ∃ e, e < i ∧ yl p = nI e)) ∧ ((∃ k, k < dp ∧ ys k = nI p) ∨ (xe p = ye p ∧ ∃ e, e < i ∧ ye p = nI e)))
  ∧ (∀ p, p < i → (o p = 7 ∨ o p = 9) → xo p = yo p ∧ ∃ t, t < p ∧ yo p = nI t ∧ tc_op (o t))
  ∧ (∀ p, i ≤ p → p < 16 → yl p = -1)
section
variable {o xl xe xo xb yl ye yo ys : Nat → Int32} {i dp L : Nat}
theorem tc_MI_0 (h : ∀ p, p < 16 → yl p = -1) : tc_MI o 0 0 xl xe xo xb yl ye yo ys :=
  ⟨Nat.le_refl 0, fun k hk => absurd hk (by omega), fun p hp => absurd hp (by omega), fun p hp => absurd hp (by omega), fun p _ hp => h p hp⟩
theorem tc_MI_open (h : tc_MI o i dp xl xe xo xb yl ye yo ys) (hi : i < 16) (ho : tc_op (o i)) : tc_MI o (i + 1) (dp + 1) (upd xl i (-1)) xe xo (upd xb dp (nI i)) yl ye yo (upd ys dp (nI i)) := by
  obtain ⟨h1, h2, h3, h4, h5⟩ := h
  refine ⟨by omega, fun k hk => ?_, fun p hp hop => ?_, fun p hp hop => ?_, fun p h6 h7 => h5 p (by omega) h7⟩
  · by_cases e : k = dp
    · exact ⟨i, by omega, by rw [e, pk_us], by rw [e, pk_us], ho⟩
    · obtain ⟨t, ht, e1, e2, e3⟩ := h2 k (by omega)
      exact ⟨t, by omega, by rw [pk_un e]; exact e1, by rw [pk_un e]; exact e2, e3⟩
  · by_cases e : p = i
    · refine ⟨by rw [e, pk_us, h5 i (Nat.le_refl i) hi], Or.inl (by rw [e]; exact h5 i (Nat.le_refl i) hi), Or.inl ⟨dp, by omega, by rw [pk_us, e]⟩⟩
    · obtain ⟨a1, a2, a3⟩ := h3 p (by omega) hop
      refine ⟨by rw [pk_un e]; exact a1, ?_, ?_⟩
      · rcases a2 with z | ⟨z, q, hq, eq⟩
        · exact Or.inl z
        · exact Or.inr ⟨z, q, by omega, eq⟩
      · rcases a3 with ⟨k, hk, ek⟩ | ⟨z, q, hq, eq⟩
        · exact Or.inl ⟨k, by omega, by rw [pk_un (by omega)]; exact ek⟩
        · exact Or.inr ⟨z, q, by omega, eq⟩
  · have e : p ≠ i := by
      intro e
      rw [e] at hop
      rcases ho with z | z | z <;> rw [z] at hop <;> revert hop <;> decide
    exact h4 p (by omega) hop
theorem tc_MI_skip (h : tc_MI o i dp xl xe xo xb yl ye yo ys) (h8 : ¬ tc_op (o i)) (h7 : ¬ o i = 7) (h9 : ¬ o i = 9) : tc_MI o (i + 1) dp xl xe xo xb yl ye yo ys := by
  obtain ⟨h1, h2, h3, h4, h5⟩ := h
  refine ⟨by omega, fun k hk => ?_, fun p hp hop => ?_, fun p hp hop => ?_, fun p h6 h7 => h5 p (by omega) h7⟩
  · obtain ⟨t, ht, e⟩ := h2 k hk
    exact ⟨t, by omega, e⟩
  · have e : p ≠ i := fun e => h8 (e ▸ hop)
    obtain ⟨a1, a2, a3⟩ := h3 p (by omega) hop
    refine ⟨a1, ?_, ?_⟩
    · rcases a2 with z | ⟨z, q, hq, eq⟩
      · exact Or.inl z
      · exact Or.inr ⟨z, q, by omega, eq⟩
    · rcases a3 with z | ⟨z, q, hq, eq⟩
      · exact Or.inl z
      · exact Or.inr ⟨z, q, by omega, eq⟩
  · have e : p ≠ i := by
      intro e
      rw [e] at hop
      rcases hop with z | z
      · exact h7 z
      · exact h9 z
    exact h4 p (by omega) hop
theorem tc_op_9 {x : Int32} (h : x = 9) : ¬ tc_op x := by
  rw [h]; unfold tc_op; decide
theorem tc_op_7 {x : Int32} (h : x = 7) : ¬ tc_op x := by
  rw [h]; unfold tc_op; decide
theorem tc_MI_end {t : Nat} (h : tc_MI o i (dp + 1) xl xe xo xb yl ye yo ys) (hi : i < 16) (ht : ys dp = nI t) (ht2 : t < i) (hto : tc_op (o t)) (h9 : o i = 9) : tc_MI o (i + 1) dp xl (upd xe t (nI i)) (upd xo i (nI t)) xb yl (upd ye t (nI i)) (upd yo i (nI t)) ys := by
  obtain ⟨h1, h2, h3, h4, h5⟩ := h
  refine ⟨by omega, fun k hk => ?_, fun p hp hop => ?_, fun p hp hop => ?_, fun p h6 h7 => h5 p (by omega) h7⟩
  · obtain ⟨t', ht', e⟩ := h2 k (by omega)
    exact ⟨t', by omega, e⟩
  · have e : p ≠ i := fun e => tc_op_9 h9 (e ▸ hop)
    obtain ⟨a1, a2, a3⟩ := h3 p (by omega) hop
    refine ⟨a1, ?_, ?_⟩
    · rcases a2 with z | ⟨z, q, hq, eq⟩
      · exact Or.inl z
      · exact Or.inr ⟨z, q, by omega, eq⟩
    · by_cases ep : p = t
      · exact Or.inr ⟨by rw [ep, pk_us, pk_us], i, by omega, by rw [ep, pk_us]⟩
      · rw [pk_un ep, pk_un ep]
        rcases a3 with ⟨k, hk, ek⟩ | ⟨z, q, hq, eq⟩
        · refine Or.inl ⟨k, ?_, ek⟩
          by_cases ekd : k = dp
          · rw [ekd, ht, nI_eq (by omega) (by omega)] at ek
            exact absurd ek.symm ep
          · omega
        · exact Or.inr ⟨z, q, by omega, eq⟩
  · by_cases e : p = i
    · rw [e, pk_us, pk_us]
      exact ⟨rfl, t, ht2, rfl, hto⟩
    · rw [pk_un e, pk_un e]
      exact h4 p (by omega) hop
theorem tc_MI_else {t : Nat} (h : tc_MI o i (dp + 1) xl xe xo xb yl ye yo ys) (hi : i < 16) (ht2 : t < i) (hto : tc_op (o t)) (h8 : o t ≠ 8) (h7 : o i = 7) : tc_MI o (i + 1) (dp + 1) (upd xl t (nI i)) xe (upd xo i (nI t)) xb (upd yl t (nI i)) ye (upd yo i (nI t)) ys := by
  obtain ⟨h1, h2, h3, h4, h5⟩ := h
  refine ⟨by omega, fun k hk => ?_, fun p hp hop => ?_, fun p hp hop => ?_, fun p h6 h7 => by rw [pk_un (by omega)]; exact h5 p (by omega) h7⟩
  · obtain ⟨t', ht', e⟩ := h2 k (by omega)
    exact ⟨t', by omega, e⟩
  · have e : p ≠ i := fun e => tc_op_7 h7 (e ▸ hop)
    obtain ⟨a1, a2, a3⟩ := h3 p (by omega) hop
    refine ⟨?_, ?_, ?_⟩
    · by_cases ep : p = t
      · rw [ep, pk_us, pk_us]
      · rw [pk_un ep, pk_un ep]; exact a1
    · by_cases ep : p = t
      · exact Or.inr ⟨by rw [ep]; exact h8, i, by omega, by rw [ep, pk_us]⟩
      · rw [pk_un ep]
        rcases a2 with z | ⟨z, q, hq, eq⟩
        · exact Or.inl z
        · exact Or.inr ⟨z, q, by omega, eq⟩
    · rcases a3 with z | ⟨z, q, hq, eq⟩
      · exact Or.inl z
      · exact Or.inr ⟨z, q, by omega, eq⟩
  · by_cases e : p = i
    · rw [e, pk_us, pk_us]
      exact ⟨rfl, t, ht2, rfl, hto⟩
    · rw [pk_un e, pk_un e]
      exact h4 p (by omega) hop
/-- the jump's aim -/
def tc_T (o yl ye yo : Nat → Int32) (p : Nat) : Nat :=
  if o p = 7 then (ye (yo p).toNatClampNeg).toNatClampNeg + 1
  else if o p = 9 then (if o (yo p).toNatClampNeg = 8 then (yo p).toNatClampNeg else p + 1)
  else if yl p = -1 then (ye p).toNatClampNeg + 1 else (yl p).toNatClampNeg + 1
theorem tc_m1_ne {e : Nat} (h : e < 2 ^ 31) : ¬ nI e = -1 := by
  intro z
  have : (nI e).toInt = (-1 : Int32).toInt := by rw [z]
  rw [nI_toInt h] at this
  have w : (-1 : Int32).toInt = -1 := by decide
  omega
theorem tc_MI_done (h : tc_MI o L 0 xl xe xo xb yl ye yo ys) (hL : L ≤ 16) : tc_JM o L xl xe xo (tc_T o yl ye yo) ∧ tc_JM o L yl ye yo (tc_T o yl ye yo) := by
  obtain ⟨h1, h2, h3, h4, h5⟩ := h
  have key : ∀ p, p < L → tc_op (o p) → xl p = yl p ∧ (yl p = -1 ∨ (o p ≠ 8 ∧ ∃ e, e < L ∧ yl p = nI e)) ∧ (xe p = ye p ∧ ∃ e, e < L ∧ ye p = nI e) := by
    intro p hp hop
    obtain ⟨a1, a2, a3⟩ := h3 p hp hop
    refine ⟨a1, a2, ?_⟩
    rcases a3 with ⟨k, hk, _⟩ | z
    · omega
    · exact z
  have n7 : ∀ p, tc_op (o p) → ¬ o p = 7 := fun p z w => tc_op_7 w z
  have n9 : ∀ p, tc_op (o p) → ¬ o p = 9 := fun p z w => tc_op_9 w z
  have both : ∀ p, p < L → (tc_op (o p) → (yl p = -1 ∧ ∃ e, e < L ∧ ye p = nI e ∧ tc_T o yl ye yo p = e + 1) ∨ (o p ≠ 8 ∧ ∃ e, e < L ∧ yl p = nI e ∧ tc_T o yl ye yo p = e + 1))
    ∧ (o p = 7 → ∃ t e, t < L ∧ e < L ∧ yo p = nI t ∧ ye t = nI e ∧ tc_T o yl ye yo p = e + 1 ∧ tc_op (o t))
    ∧ (o p = 9 → ∃ t, t < L ∧ yo p = nI t ∧ ((o t = 8 ∧ tc_T o yl ye yo p = t) ∨ (o t ≠ 8 ∧ tc_T o yl ye yo p = p + 1))) := by
    intro p hp
    refine ⟨fun hop => ?_, fun h7 => ?_, fun h9 => ?_⟩
    · obtain ⟨a1, a2, a3, e, he, ee⟩ := key p hp hop
      by_cases z : yl p = -1
      · refine Or.inl ⟨z, e, he, ee, ?_⟩
        unfold tc_T
        rw [if_neg (n7 p hop), if_neg (n9 p hop), if_pos z, ee, nI_clamp (by omega)]
      · rcases a2 with w | ⟨w, q, hq, eq⟩
        · exact absurd w z
        · refine Or.inr ⟨w, q, hq, eq, ?_⟩
          unfold tc_T
          rw [if_neg (n7 p hop), if_neg (n9 p hop), if_neg z, eq, nI_clamp (by omega)]
    · obtain ⟨a1, t, ht, et, hot⟩ := h4 p hp (Or.inl h7)
      obtain ⟨_, _, _, e, he, ee⟩ := key t (by omega) hot
      refine ⟨t, e, by omega, he, et, ee, ?_, hot⟩
      unfold tc_T
      rw [if_pos h7, et, nI_clamp (by omega), ee, nI_clamp (by omega)]
    · obtain ⟨a1, t, ht, et, hot⟩ := h4 p hp (Or.inr h9)
      refine ⟨t, by omega, et, ?_⟩
      have n : ¬ o p = 7 := by rw [h9]; decide
      by_cases z : o t = 8
      · refine Or.inl ⟨z, ?_⟩
        unfold tc_T
        rw [if_neg n, if_pos h9, et, nI_clamp (by omega), if_pos z]
      · refine Or.inr ⟨z, ?_⟩
        unfold tc_T
        rw [if_neg n, if_pos h9, et, nI_clamp (by omega), if_neg z]
  constructor
  · intro p hp
    obtain ⟨b1, b2, b3⟩ := both p hp
    refine ⟨fun hop => ?_, fun h7 => ?_, fun h9 => ?_⟩
    · obtain ⟨a1, a2, a3, _⟩ := key p hp hop
      rw [a1, a3]; exact b1 hop
    · obtain ⟨t, e, ht, he, et, ee, eT, hot⟩ := b2 h7
      refine ⟨t, e, ht, he, ?_, ?_, eT⟩
      · rw [(h4 p hp (Or.inl h7)).1]; exact et
      · rw [(key t ht hot).2.2.1]; exact ee
    · rw [(h4 p hp (Or.inr h9)).1]; exact b3 h9
  · intro p hp
    obtain ⟨b1, b2, b3⟩ := both p hp
    refine ⟨b1, fun h7 => ?_, b3⟩
    obtain ⟨t, e, ht, he, et, ee, eT, hot⟩ := b2 h7
    exact ⟨t, e, ht, he, et, ee, eT⟩
end
end
section
/-! X's marks and list -/
def tc_MK (ir rd : Nat → Int32) (n : Nat) : Prop :=
  n = tc_n ir 34000 ∧ (∀ c, c < 34000 → (ir c ≠ 0 ↔ ∃ j, j < n ∧ rd j = nI c)) ∧ (∀ j, j < n → ∃ c, c < 34000 ∧ rd j = nI c)
/-- what the relation keeps of them -/
def tc_MR (ir rd : Nat → Int32) (n : Nat) : Prop :=
  n ≤ 34000 ∧ (∀ c, c < 34000 → ir c ≠ 0 → ∃ j, j < n ∧ rd j = nI c) ∧ (∀ j, j < n → ∃ c, c < 34000 ∧ rd j = nI c)
theorem tc_MK_R {ir rd : Nat → Int32} {n : Nat} (h : tc_MK ir rd n) : tc_MR ir rd n :=
  ⟨by rw [h.1]; exact tc_n_le ir 34000, fun c hc z => (h.2.1 c hc).mp z, h.2.2⟩
theorem tc_MR_0 : tc_MR (fun _ => 0) (fun _ => 0) 0 := ⟨by omega, fun c _ z => absurd rfl z, fun j hj => absurd hj (by omega)⟩
theorem tc_MK_0 {ir rd : Nat → Int32} (h : ∀ c, c < 34000 → ir c = 0) : tc_MK ir rd 0 :=
  ⟨(tc_n_0 34000 h).symm, fun c hc => ⟨fun z => absurd (h c hc) z, fun ⟨j, hj, _⟩ => absurd hj (by omega)⟩, fun j hj => absurd hj (by omega)⟩
theorem tc_MK_lt {ir rd : Nat → Int32} {n c : Nat} (h : tc_MK ir rd n) (hc : c < 34000) (hz : ir c = 0) : n < 34000 := by
  rw [h.1]; exact tc_n_lt hz 34000 hc
theorem tc_MK_add {ir rd : Nat → Int32} {n c : Nat} {x : Int32} (h : tc_MK ir rd n) (hc : c < 34000) (hz : ir c = 0) (hx : ¬ x = 0) : tc_MK (upd ir c x) (upd rd n (nI c)) (n + 1) := by
  refine ⟨by rw [tc_n_upd hx hz 34000 hc, ← h.1], fun c' hc' => ?_, fun j hj => ?_⟩
  · by_cases e : c' = c
    · rw [e, pk_us]
      exact ⟨fun _ => ⟨n, by omega, pk_us⟩, fun _ => hx⟩
    · rw [pk_un e, h.2.1 c' hc']
      constructor
      · rintro ⟨j, hj, ej⟩
        exact ⟨j, by omega, by rw [pk_un (by omega)]; exact ej⟩
      · rintro ⟨j, hj, ej⟩
        by_cases ejn : j = n
        · rw [ejn, pk_us, nI_eq (by omega) (by omega)] at ej
          exact absurd ej.symm e
        · rw [pk_un ejn] at ej
          exact ⟨j, by omega, ej⟩
  · by_cases ejn : j = n
    · exact ⟨c, hc, by rw [ejn, pk_us]⟩
    · rw [pk_un ejn]; exact h.2.2 j (by omega)
/-- forgetting: what is left behind i -/
def tc_FG (ir rd : Nat → Int32) (n i : Nat) : Prop := ∀ c, c < 34000 → ir c ≠ 0 → ∃ j, i ≤ j ∧ j < n ∧ rd j = nI c
theorem tc_FG_0 {ir rd : Nat → Int32} {n : Nat} (h : tc_MR ir rd n) : tc_FG ir rd n 0 := by
  intro c hc z
  obtain ⟨j, hj, e⟩ := h.2.1 c hc z
  exact ⟨j, by omega, hj, e⟩
theorem tc_FG_s {ir rd : Nat → Int32} {n i c : Nat} (h : tc_FG ir rd n i) (hc : c < 34000) (e : rd i = nI c) : tc_FG (upd ir c 0) rd n (i + 1) := by
  intro c' hc' z
  by_cases ec : c' = c
  · rw [ec, pk_us] at z; exact absurd rfl z
  · rw [pk_un ec] at z
    obtain ⟨j, h1, h2, h3⟩ := h c' hc' z
    refine ⟨j, ?_, h2, h3⟩
    by_cases ej : j = i
    · rw [ej, e, nI_eq (by omega) (by omega)] at h3
      exact absurd h3.symm ec
    · omega
theorem tc_FG_e {ir rd : Nat → Int32} {n : Nat} (h : tc_FG ir rd n n) : ∀ c, c < 34000 → ir c = 0 := by
  intro c hc
  by_cases z : ir c = 0
  · exact z
  · obtain ⟨j, h1, h2, _⟩ := h c hc z
    omega
/-- a grown list -/
def tc_GR (ir rd : Nat → Int32) (n : Nat) (ir' rd' : Nat → Int32) (n' : Nat) (S : Nat → Prop) : Prop :=
  tc_MK ir' rd' n' ∧ n ≤ n' ∧ (∀ j, j < n → rd' j = rd j) ∧ (∀ c, ir c ≠ 0 → ir' c ≠ 0) ∧ (∀ j, n ≤ j → j < n' → ∃ c, rd' j = nI c ∧ S c)
theorem tc_GR_r {ir rd : Nat → Int32} {n : Nat} {S : Nat → Prop} (h : tc_MK ir rd n) : tc_GR ir rd n ir rd n S :=
  ⟨h, Nat.le_refl n, fun _ _ => rfl, fun _ z => z, fun j h1 h2 => by omega⟩
theorem tc_GR_a {ir rd : Nat → Int32} {n c : Nat} {x : Int32} {S : Nat → Prop} (h : tc_MK ir rd n) (hc : c < 34000) (hz : ir c = 0) (hx : ¬ x = 0) (hS : S c) : tc_GR ir rd n (upd ir c x) (upd rd n (nI c)) (n + 1) S := by
  refine ⟨tc_MK_add h hc hz hx, by omega, fun j hj => pk_un (by omega), fun c' z => ?_, fun j h1 h2 => ⟨c, ?_, hS⟩⟩
  · by_cases e : c' = c
    · rw [e, pk_us]; exact hx
    · rw [pk_un e]; exact z
  · rw [show j = n by omega, pk_us]
theorem tc_GR_t {ir rd ir' rd' ir'' rd'' : Nat → Int32} {n n' n'' : Nat} {S : Nat → Prop} (h : tc_GR ir rd n ir' rd' n' S) (h' : tc_GR ir' rd' n' ir'' rd'' n'' S) : tc_GR ir rd n ir'' rd'' n'' S := by
  obtain ⟨a1, a2, a3, a4, a5⟩ := h
  obtain ⟨b1, b2, b3, b4, b5⟩ := h'
  refine ⟨b1, by omega, fun j hj => by rw [b3 j (by omega), a3 j hj], fun c z => b4 c (a4 c z), fun j h1 h2 => ?_⟩
  by_cases z : j < n'
  · rw [b3 j z]; exact a5 j h1 z
  · exact b5 j (by omega) h2
/-! X's worklist -/
section
variable (L : Nat) (F : Nat → Nat) (N : Nat → Int32 → Nat)
def tc_WI (i : Nat) (ir rd : Nat → Int32) (n : Nat) (p k : Int32) : Prop :=
  tc_MK ir rd n ∧ i ≤ n ∧ ir 1120 ≠ 0 ∧ (∀ j, j < n → ∃ c, rd j = nI c ∧ tc_R L F N c)
  ∧ (∀ j, j < i → ∀ c, c < 34000 → rd j = nI c → c / 2000 < L → F c = 0 → ir (N c 0) ≠ 0 ∧ ir (N c 1) ≠ 0)
  ∧ tc_FS L F (fun c => c < 34000 ∧ ∃ j, j < i ∧ rd j = nI c) p k
end
section
variable {L : Nat} {F : Nat → Nat} {N : Nat → Int32 → Nat} {i n n' c : Nat} {ir rd ir' rd' : Nat → Int32} {p k p' k' : Int32}
theorem tc_WI_s (h : tc_WI L F N i ir rd n p k) (hi : i < n) (hc : c < 34000) (e : rd i = nI c) (hg : tc_GR ir rd n ir' rd' n' (tc_R L F N)) (hn : c / 2000 < L → F c = 0 → ir' (N c 0) ≠ 0 ∧ ir' (N c 1) ≠ 0)
    (hf : ∀ S' : Nat → Prop, (∀ x, S' x ↔ (fun c => c < 34000 ∧ ∃ j, j < i ∧ rd j = nI c) x ∨ x = c) → tc_FS L F S' p' k') : tc_WI L F N (i + 1) ir' rd' n' p' k' := by
  obtain ⟨h1, h2, h3, h4, h5, h6⟩ := h
  obtain ⟨g1, g2, g3, g4, g5⟩ := hg
  refine ⟨g1, by omega, g4 _ h3, fun j hj => ?_, fun j hj c' hc' ec hl hf0 => ?_, hf _ (fun x => ?_)⟩
  · by_cases z : j < n
    · rw [g3 j z]; exact h4 j z
    · exact g5 j (by omega) hj
  · rw [g3 j (by omega)] at ec
    by_cases z : j = i
    · rw [z, e, nI_eq (by omega) (by omega)] at ec
      rw [← ec] at hl hf0 ⊢
      exact hn hl hf0
    · have q := h5 j (by omega) c' hc' ec hl hf0
      exact ⟨g4 _ q.1, g4 _ q.2⟩
  · dsimp only
    constructor
    · rintro ⟨hx, j, hj, ej⟩
      rw [g3 j (by omega)] at ej
      by_cases z : j = i
      · rw [z, e, nI_eq (by omega) (by omega)] at ej
        exact Or.inr ej.symm
      · exact Or.inl ⟨hx, j, by omega, ej⟩
    · rintro (⟨hx, j, hj, ej⟩ | rfl)
      · exact ⟨hx, j, by omega, by rw [g3 j (by omega)]; exact ej⟩
      · exact ⟨hc, i, by omega, by rw [g3 i hi]; exact e⟩
theorem tc_WI_e (h : tc_WI L F N n ir rd n p k) (hb : ∀ c, tc_R L F N c → c < 34000) (h01 : ∀ c d, N c d = N c 0 ∨ N c d = N c 1) :
    tc_MK ir rd n ∧ (∀ c, c < 34000 → ((∃ j, j < n ∧ rd j = nI c) ↔ tc_R L F N c)) ∧ tc_FS L F (tc_R L F N) p k := by
  obtain ⟨h1, h2, h3, h4, h5, h6⟩ := h
  have a1 : ∀ c, c < 34000 → (∃ j, j < n ∧ rd j = nI c) → tc_R L F N c := by
    rintro c hc ⟨j, hj, ej⟩
    obtain ⟨c', e', hr⟩ := h4 j hj
    have := hb c' hr
    rw [ej, nI_eq (by omega) (by omega)] at e'
    rw [e']; exact hr
  have a2 : ∀ c, tc_R L F N c → c < 34000 ∧ ir c ≠ 0 := by
    intro c hr
    have q := hr (fun c => tc_R L F N c ∧ ir c ≠ 0) ⟨tc_R0 L F N, h3⟩ (fun c d hS hl hf => by
      have hc := hb c hS.1
      obtain ⟨j, hj, ej⟩ := (h1.2.1 c hc).mp hS.2
      have w := h5 j hj c hc ej hl hf
      refine ⟨tc_RS d hS.1 hl hf, ?_⟩
      rcases h01 c d with z | z
      · rw [z]; exact w.1
      · rw [z]; exact w.2)
    exact ⟨hb c hr, q.2⟩
  have a3 : ∀ c, c < 34000 → ((∃ j, j < n ∧ rd j = nI c) ↔ tc_R L F N c) := fun c hc => ⟨a1 c hc, fun hr => (h1.2.1 c hc).mp (a2 c hr).2⟩
  refine ⟨h1, a3, tc_FS_c h6 (fun c => ?_)⟩
  exact ⟨fun z => (a3 c z.1).mp z.2, fun z => ⟨hb c z, (a3 c (hb c z)).mpr z⟩⟩
end
/-! Y's passes -/
section
variable (L : Nat) (F : Nat → Nat) (N : Nat → Int32 → Nat)
/-- y holds the start, and reachable ones alone -/
def tc_YI (y : Nat → Int32) : Prop := y 1120 ≠ 0 ∧ ∀ c, c < 34000 → y c ≠ 0 → tc_R L F N c
/-- one expansion: from y to y' with answer r -/
def tc_YE (c : Nat) (y y' : Nat → Int32) (r : Int32) : Prop :=
  tc_YI L F N y' ∧ tc_n y 34000 ≤ tc_n y' 34000 ∧ ((r = 0 ∧ y' = y ∧ (F c = 0 → y (N c 0) ≠ 0 ∧ y (N c 1) ≠ 0)) ∨ (r = 1 ∧ tc_n y 34000 < tc_n y' 34000))
/-- in a pass that began with n marks -/
def tc_YP (n i : Nat) (y : Nat → Int32) (ch : Int32) : Prop :=
  tc_YI L F N y ∧ n ≤ tc_n y 34000 ∧ ((ch = 0 ∧ ∀ c, c < i → y c ≠ 0 → F c = 0 → y (N c 0) ≠ 0 ∧ y (N c 1) ≠ 0) ∨ (ch = 1 ∧ n < tc_n y 34000))
end
section
variable {L : Nat} {F : Nat → Nat} {N : Nat → Int32 → Nat} {i n c : Nat} {y y' : Nat → Int32} {ch r : Int32}
theorem tc_YP_0 (h : tc_YI L F N y) : tc_YP L F N (tc_n y 34000) 0 y 0 := ⟨h, Nat.le_refl _, Or.inl ⟨rfl, fun c hc => absurd hc (by omega)⟩⟩
theorem tc_YP_n (h : tc_YP L F N n i y ch) (hz : y i = 0) : tc_YP L F N n (i + 1) y ch := by
  obtain ⟨h1, h2, h3⟩ := h
  refine ⟨h1, h2, ?_⟩
  rcases h3 with ⟨e, h3⟩ | h3
  · refine Or.inl ⟨e, fun c hc hy hf => ?_⟩
    by_cases z : c = i
    · rw [z] at hy; exact absurd hz hy
    · exact h3 c (by omega) hy hf
  · exact Or.inr h3
/-- the expansion said no -/
theorem tc_YP_f (h : tc_YP L F N n i y ch) (he : tc_YE L F N i y y' 0) : tc_YP L F N n (i + 1) y' ch := by
  obtain ⟨h1, h2, h3⟩ := h
  obtain ⟨g1, g2, g3⟩ := he
  rcases g3 with ⟨_, ey, g3⟩ | ⟨z, _⟩
  · subst ey
    refine ⟨g1, h2, ?_⟩
    rcases h3 with ⟨e, h3⟩ | h3
    · refine Or.inl ⟨e, fun c hc hy hf => ?_⟩
      by_cases z : c = i
      · rw [z] at hf ⊢; exact g3 hf
      · exact h3 c (by omega) hy hf
    · exact Or.inr h3
  · exact absurd z (by decide)
theorem tc_YP_t (h : tc_YP L F N n i y ch) (he : tc_YE L F N i y y' 1) : tc_YP L F N n (i + 1) y' 1 := by
  obtain ⟨h1, h2, h3⟩ := h
  obtain ⟨g1, g2, g3⟩ := he
  rcases g3 with ⟨z, _⟩ | ⟨_, g3⟩
  · exact absurd z (by decide)
  · exact ⟨g1, by omega, Or.inr ⟨rfl, by omega⟩⟩
theorem tc_YP_e (h : tc_YP L F N n (L * 2000) y 0) (hb : ∀ c, tc_R L F N c → c < 34000) (h01 : ∀ c d, N c d = N c 0 ∨ N c d = N c 1) : ∀ c, c < 34000 → (y c ≠ 0 ↔ tc_R L F N c) := by
  obtain ⟨h1, h2, h3⟩ := h
  rcases h3 with ⟨_, h3⟩ | ⟨z, _⟩
  · intro c hc
    refine ⟨h1.2 c hc, fun hr => ?_⟩
    have q := hr (fun c => tc_R L F N c ∧ y c ≠ 0) ⟨tc_R0 L F N, h1.1⟩ (fun c d hS hl hf => by
      have w := h3 c (by omega) hS.2 hf
      refine ⟨tc_RS d hS.1 hl hf, ?_⟩
      rcases h01 c d with z | z
      · rw [z]; exact w.1
      · rw [z]; exact w.2)
    exact q.2
  · exact absurd z (by decide)
theorem tc_YI_0 (h : ∀ c, c < 34000 → y c = 0) {x : Int32} (hx : ¬ x = 0) : tc_YI L F N (upd y 1120 x) := by
  refine ⟨by rw [pk_us]; exact hx, fun c hc z => ?_⟩
  by_cases e : c = 1120
  · rw [e]; exact tc_R0 L F N
  · rw [pk_un e] at z; exact absurd (h c hc) z
theorem tc_YI_a (h : tc_YI L F N y) {x : Int32} (hx : ¬ x = 0) (hr : tc_R L F N c) : tc_YI L F N (upd y c x) := by
  constructor
  · by_cases e : 1120 = c
    · rw [← e, pk_us]; exact hx
    · rw [pk_un e]; exact h.1
  · intro c' hc' z
    by_cases e : c' = c
    · rw [e]; exact hr
    · rw [pk_un e] at z; exact h.2 c' hc' z
end
/-! sets of bits -/
theorem tc_bit1 : ∀ n, n < 5 → ∀ j, j < 32 → bt ((1 : Int32) <<< (nI n &&& 31)) j = decide (j = n) := by decide +kernel
/-- s has just the bits g c of the c in S -/
def tc_BS (S : Nat → Prop) (g : Nat → Nat) (s : Int32) : Prop := ∀ j, j < 32 → (bt s j = true ↔ ∃ c, S c ∧ g c = j)
theorem tc_BS_u {S S' : Nat → Prop} {g : Nat → Nat} {s s' : Int32} (h : tc_BS S g s) (h' : tc_BS S' g s') (e : ∀ c, S c ↔ S' c) : s = s' := by
  have : S = S' := funext (fun c => propext (e c))
  subst this
  apply b_ext
  intro j hj
  have a := h j hj
  have b := h' j hj
  by_cases z : bt s j = true
  · rw [z, b.mpr (a.mp z)]
  · have w : ¬ bt s' j = true := fun q => z (a.mpr (b.mp q))
    rw [Bool.eq_false_iff.mpr z, Bool.eq_false_iff.mpr w]
theorem tc_BS_0 {S : Nat → Prop} {g : Nat → Nat} (h : ∀ c, ¬ S c) : tc_BS S g 0 := by
  intro j hj
  rw [b_0]
  exact ⟨fun z => absurd z (by decide), fun ⟨c, hc, _⟩ => absurd hc (h c)⟩
theorem tc_BS_s {S S' : Nat → Prop} {g : Nat → Nat} {s : Int32} {c : Nat} (h : tc_BS S g s) (hg : g c < 5) (e : ∀ x, S' x ↔ S x ∨ x = c) : tc_BS S' g (s ||| ((1 : Int32) <<< (nI (g c) &&& 31))) := by
  intro j hj
  rw [b_or, tc_bit1 _ hg j hj, Bool.or_eq_true, h j hj, decide_eq_true_eq]
  constructor
  · rintro (⟨x, hx, ex⟩ | z)
    · exact ⟨x, (e x).mpr (Or.inl hx), ex⟩
    · exact ⟨c, (e c).mpr (Or.inr rfl), z.symm⟩
  · rintro ⟨x, hx, ex⟩
    rcases (e x).mp hx with z | rfl
    · exact Or.inl ⟨x, z, ex⟩
    · exact Or.inr ex.symm
theorem tc_BS_c {S S' : Nat → Prop} {g : Nat → Nat} {s : Int32} (h : tc_BS S g s) (e : ∀ x, S' x ↔ S x) : tc_BS S' g s := by
  have : S' = S := funext (fun c => propext (e c))
  rw [this]; exact h
end
section
/-! the machine's run, as a pure function of the steps that are left -/
def tc_dc (ch : Int32) (k : Nat) : Int32 := ((ch.toUInt32 >>> ((nI (k % 32)).toUInt32 &&& Int32.toUInt32 31)).toInt32) &&& 1
def tc_run (L : Nat) (o : Nat → Int32) (F : Nat → Nat) (N : Nat → Int32 → Nat) (ch : Int32) : Nat → Nat → Nat → Nat → Int32 × Nat × Nat
  | 0, c, _, i => (if c / 2000 = L then 20 else 21, c, i)
  | n + 1, c, k, i => if c / 2000 = L then (20, c, i) else if ¬ F c = 0 then (nI (F c), c, i)
    else tc_run L o F N ch n (N c (tc_dc ch k)) (if o (c / 2000) = 5 ∨ o (c / 2000) = 8 then k + 1 else k) (i + 1)
theorem tc_N_nd {o a b rs cl : Nat → Int32} {T : Nat → Nat} {c : Nat} (hV : tc_V1 (o (c / 2000)) (a (c / 2000)) (b (c / 2000))) (h5 : ¬ o (c / 2000) = 5) (h8 : ¬ o (c / 2000) = 8) (d d' : Int32) : tc_N o a b rs cl T c d = tc_N o a b rs cl T c d' := by
  unfold tc_N
  rcases hV with ⟨ho, _⟩ | ⟨ho, _⟩ | ⟨ho, _⟩ | ⟨ho, _⟩ | ho | ⟨ho, _⟩ | ho | ho | ho
  all_goals first | exact absurd ho h5 | exact absurd ho h8 | (rw [ho]; rfl)
theorem tc_run_i {L : Nat} {o : Nat → Int32} {F : Nat → Nat} {N : Nat → Int32 → Nat} {ch : Int32} (I : Nat → Prop) (hs : ∀ c d, I c → ¬ c / 2000 = L → F c = 0 → I (N c d)) : ∀ n c k i, I c → I (tc_run L o F N ch n c k i).2.1 ∧ i ≤ (tc_run L o F N ch n c k i).2.2 ∧ (tc_run L o F N ch n c k i).2.2 ≤ i + n
  | 0, c, k, i, h => ⟨h, Nat.le_refl i, Nat.le_refl i⟩
  | n + 1, c, k, i, h => by
    rw [tc_run]
    by_cases e : c / 2000 = L
    · rw [if_pos e]; exact ⟨h, Nat.le_refl i, Nat.le_add_right i (n + 1)⟩
    · rw [if_neg e]
      by_cases f : F c = 0
      · rw [if_neg (fun z => z f)]
        have q := tc_run_i (o := o) (ch := ch) I hs n (N c (tc_dc ch k)) (if o (c / 2000) = 5 ∨ o (c / 2000) = 8 then k + 1 else k) (i + 1) (hs c _ h e f)
        exact ⟨q.1, by omega, by omega⟩
      · rw [if_pos f]; exact ⟨h, Nat.le_refl i, Nat.le_add_right i (n + 1)⟩
theorem tc_upd_comm {f : Nat → Int32} {i j : Nat} {x y : Int32} (h : i ≠ j) : upd (upd f i x) j y = upd (upd f j y) i x := by
  funext k
  unfold upd
  by_cases e1 : k = j
  · have e2 : ¬ k = i := by omega
    rw [if_pos e1, if_neg e2, if_pos e1]
  · rw [if_neg e1]
    by_cases e2 : k = i
    · rw [if_pos e2, if_pos e2]
    · rw [if_neg e2, if_neg e2, if_neg e1]
end
section
/-! X's helpers -/
def tc_in (N : Nat) (x : Int32) : Prop := ∃ j, j < N ∧ x = nI j
theorem tc_in_ge {n : Nat} {x : Int32} (h : nI n ≤ x) (hn : n < 2 ^ 31) : ¬ x < 0 ∧ ∃ j, j < 2 ^ 31 ∧ n ≤ j ∧ x = nI j := by
  have h0 : ¬ x < 0 := by
    rw [Int32.lt_iff_toInt_lt, show (0 : Int32).toInt = 0 from by decide]
    rw [Int32.le_iff_toInt_le, nI_toInt hn] at h
    omega
  obtain ⟨j, hj, rfl⟩ := nI_of h0
  rw [nI_leI hn hj] at h
  exact ⟨h0, j, hj, h, rfl⟩
theorem xh_below {post : Int32 → Prop} {x : Int32} (N : Nat) (hN : N < 2 ^ 31) (h0 : ¬ tc_in N x → post 0) (h1 : tc_in N x → post 1) : wpX_isBelow post x (nI N) := by
  unfold wpX_isBelow
  rcases pk_ix x hN with h | h | ⟨j, hj, rfl⟩
  · exact br_t h (h0 (fun ⟨j, hj, e⟩ => nI_pos (n := j) (by omega) (e ▸ h)))
  · obtain ⟨a1, j, hj, hn, rfl⟩ := tc_in_ge h hN
    refine br_f a1 (br_t h (h0 ?_))
    rintro ⟨i, hi, e⟩
    rw [nI_eq hj (by omega)] at e
    omega
  · exact br_f (nI_pos (by omega)) (br_f (nI_ge hj hN) (h1 ⟨j, hj, rfl⟩))
theorem yh_lt {A B : Prop} {x : Int32} (N : Nat) (hN : N + 1 < 2 ^ 31) (h0 : ¬ tc_in (N + 1) x → A) (h1 : tc_in (N + 1) x → B) : (x < 0 → A) ∧ (¬ x < 0 → ((nI N < x → A) ∧ (¬ nI N < x → B))) := by
  rcases pk_ix x hN with h | h | ⟨j, hj, rfl⟩
  · exact br_t h (h0 (fun ⟨j, hj, e⟩ => nI_pos (n := j) (by omega) (e ▸ h)))
  · obtain ⟨a1, j, hj, hn, rfl⟩ := tc_in_ge h hN
    refine br_f a1 (br_t (nI_lt (by omega) hj) (h0 ?_))
    rintro ⟨i, hi, e⟩
    rw [nI_eq hj (by omega)] at e
    omega
  · exact br_f (nI_pos (by omega)) (br_f (nI_nlt (by omega) (by omega)) (h1 ⟨j, hj, rfl⟩))
theorem yh_le {A B : Prop} {x : Int32} (N : Nat) (hN : N + 1 < 2 ^ 31) (h0 : ¬ tc_in (N + 1) x → A) (h1 : tc_in (N + 1) x → B) : (x < 0 → A) ∧ (¬ x < 0 → ((x ≤ nI N → B) ∧ (¬ x ≤ nI N → A))) := by
  rcases pk_ix x hN with h | h | ⟨j, hj, rfl⟩
  · exact br_t h (h0 (fun ⟨j, hj, e⟩ => nI_pos (n := j) (by omega) (e ▸ h)))
  · obtain ⟨a1, j, hj, hn, rfl⟩ := tc_in_ge h hN
    refine br_f a1 (br_f (nI_ge (by omega) hj) (h0 ?_))
    rintro ⟨i, hi, e⟩
    rw [nI_eq hj (by omega)] at e
    omega
  · exact br_f (nI_pos (by omega)) (br_t (nI_le (by omega) (by omega)) (h1 ⟨j, hj, rfl⟩))
theorem xh_dr {c U d : Nat} (hc : c < 2 ^ 31) (hU : 0 < U) (hU2 : U < 2 ^ 31) (hd : 0 < d) (hd2 : d < 2 ^ 31) : nI c / nI U - nI c / nI U / nI d * nI d = nI (c / U % d) := by
  rw [pk_div hc hU hU2, pk_rem (Nat.lt_of_le_of_lt (Nat.div_le_self _ _) hc) hd hd2]
theorem xh_pcOf {post : Int32 → Prop} {c : Nat} (hc : c < 2 ^ 31) (h : post (nI (c / 2000))) : wpX_pcOf post (nI c) := by
  refine ⟨by decide, ?_⟩
  show post (nI c / nI 2000)
  rw [pk_div hc (by omega) (by omega)]
  exact h
theorem xh_localOf {post : Int32 → Prop} {c i : Nat} (hc : c < 2 ^ 31) (hi : i < 3) (h : post (nI (tc_l c i))) : wpX_localOf post (nI c) (nI i) := by
  unfold wpX_localOf
  rcases tc_c3 hi with rfl | rfl | rfl
  · refine br_t (by decide) ⟨by decide, by decide, ?_⟩
    show post (nI c / nI 400 - nI c / nI 400 / nI 5 * nI 5)
    rw [xh_dr hc (by omega) (by omega) (by omega) (by omega)]; exact h
  · refine br_f (by decide) (br_t (by decide) ⟨by decide, by decide, ?_⟩)
    show post (nI c / nI 80 - nI c / nI 80 / nI 5 * nI 5)
    rw [xh_dr hc (by omega) (by omega) (by omega) (by omega)]; exact h
  · refine br_f (by decide) (br_f (by decide) ⟨by decide, by decide, ?_⟩)
    show post (nI c / nI 16 - nI c / nI 16 / nI 5 * nI 5)
    rw [xh_dr hc (by omega) (by omega) (by omega) (by omega)]; exact h
theorem xh_stateOf {post : Int32 → Prop} {c j : Nat} (hc : c < 2 ^ 31) (hj : j < 2) (h : post (nI (tc_s c j))) : wpX_stateOf post (nI c) (nI j) := by
  unfold wpX_stateOf
  rcases tc_c2 hj with rfl | rfl
  · refine br_t (by decide) ⟨by decide, by decide, ?_⟩
    show post (nI c / nI 4 - nI c / nI 4 / nI 4 * nI 4)
    rw [xh_dr hc (by omega) (by omega) (by omega) (by omega)]; exact h
  · refine br_f (by decide) ⟨by decide, ?_⟩
    show post (nI c - nI c / nI 4 * nI 4)
    rw [pk_rem hc (by omega) (by omega)]; exact h
theorem xh_objectIn {post : Int32 → Prop} {v : Nat} (hv : v < 5) (h : post (nI (tc_ob v))) : wpX_objectIn post (nI v) := by
  unfold wpX_objectIn
  by_cases e : 2 < v
  · refine br_f (nI_ge e (by omega)) ?_
    rw [tc_ob, if_pos e] at h; exact h
  · refine br_t (nI_le (b := 2) (by omega) (by omega)) ?_
    rw [tc_ob, if_neg e] at h; exact h
theorem xh_permIn {post : Int32 → Prop} {v : Nat} (hv : v < 5) (h : post (nI (tc_pm v))) : wpX_permissionIn post (nI v) := by
  unfold wpX_permissionIn
  by_cases e : 2 < v
  · refine br_f (nI_ge e (by omega)) ?_
    rw [tc_pm, if_pos e] at h
    show post (nI v - nI 2)
    rw [pk_sub (by omega)]; exact h
  · refine br_t (nI_le (b := 2) (by omega) (by omega)) ?_
    rw [tc_pm, if_neg e] at h; exact h
theorem xh_withState {post : Int32 → Prop} {c j v : Nat} (hc : c < 2 ^ 31) (hj : j < 2) (h : post (nI (tc_ws c j v))) : wpX_withState post (nI c) (nI j) (nI v) := by
  unfold wpX_withState
  refine xh_stateOf hc hj (nm_e ?_)
  rw [← tc_xs] at h
  rcases tc_c2 hj with rfl | rfl
  · exact br_t (by decide) h
  · exact br_f (by decide) h
theorem xh_withLocal {post : Int32 → Prop} {c i v : Nat} (hc : c < 2 ^ 31) (hi : i < 3) (h : post (nI (tc_wl c i v))) : wpX_withLocal post (nI c) (nI i) (nI v) := by
  unfold wpX_withLocal
  refine xh_localOf hc hi (nm_e ?_)
  rw [← tc_xl] at h
  rcases tc_c3 hi with rfl | rfl | rfl
  · exact br_t (by decide) h
  · exact br_f (by decide) (br_t (by decide) h)
  · exact br_f (by decide) (br_f (by decide) h)
theorem xh_withPc {post : Int32 → Prop} {c p : Nat} (hc : c < 2 ^ 31) (h : post (nI (tc_wp c p))) : wpX_withPc post (nI c) (nI p) := by
  refine ⟨by decide, ?_⟩
  show post (nI c - nI c / nI 2000 * nI 2000 + nI p * nI 2000)
  rw [pk_rem hc (by omega) (by omega), pk_mul, nI_add]
  exact h
theorem xh_wl_lt {c i v : Nat} (hc : c < 34000) (hv : v < 5) (hi : i < 3) : tc_wl c i v < 2 ^ 31 := by
  unfold tc_wl tc_U
  rcases tc_c3 hi with rfl | rfl | rfl
  · rw [if_pos rfl]; omega
  · rw [if_neg (by omega), if_pos rfl]; omega
  · rw [if_neg (by omega), if_neg (by omega)]; omega
theorem xh_2000 {post : Int32 → Prop} {n : Nat} (h : post (nI (n + 2000))) : post (nI n + 2000) := by
  rw [← nI_add] at h; exact h
/-! X's step -/
def tc_rs (f n : Nat) : Int32 := if f = 0 then nI n else -nI f
section
variable {cp ct wf rc fp fc mc ms : Int32} {dn rq rs cl o a b xl xe xo xb ir rd : Nat → Int32} {c x y L : Nat} {T : Nat → Nat} {post : Int32 → Prop} {d : Int32}
theorem xh_call (hD : tc_VD rq rs cl) (hc : c < 34000) (hx : x < 3) (hy : y < 4) (h : post (tc_rs (tc_Fc dn rq rs cl c x y) (tc_Nc rs cl c x y))) : wpX_stepCall post (cp, ct, wf, rc, fp, fc, mc, ms, dn, rq, rs, cl, o, a, b, xl, xe, xo, xb, ir, rd, 34000, 34000) (nI c) (nI x) (nI y) := by
  unfold wpX_stepCall
  have hv := tc_l_lt c x
  refine xh_localOf (by omega) hx ?_
  by_cases z1 : tc_l c x = 0
  · refine br_t (by rw [z1]; rfl) ?_
    rw [show tc_Fc dn rq rs cl c x y = 1 from if_pos z1] at h; exact h
  refine br_f (nI_ne0 (by omega) (by omega)) (xh_objectIn hv ?_)
  have ho := tc_ob_lt (tc_l c x)
  have hk := tc_k_lt hD (v := tc_l c x) hy
  obtain ⟨q, hq, eq⟩ := hD.2.2 _ ho
  obtain ⟨r1, hr1, er1⟩ := hD.1 _ hk
  obtain ⟨r2, hr2, er2⟩ := hD.2.1 _ hk
  have ek : cl (nI (tc_ob (tc_l c x))).toNatClampNeg * 4 + nI y = nI (tc_k cl (tc_l c x) y) := by
    rw [nI_clamp (by omega), eq]
    show nI q * nI 4 + nI y = _
    rw [pk_mul, nI_add]
    unfold tc_k
    rw [eq, nI_clamp (by omega)]
  have ci := nI_clamp (n := tc_k cl (tc_l c x) y) (by omega)
  have vi : vp_in (nI (tc_k cl (tc_l c x) y)) 8 := vp_in_nI hk (by omega)
  refine ⟨vp_in_nI ho (by omega), nm_r ek ⟨vi, ?_⟩⟩
  rw [ci]
  by_cases z2 : dn (tc_k cl (tc_l c x) y) = 0
  · refine br_t z2 ?_
    rw [show tc_Fc dn rq rs cl c x y = 2 from (if_neg z1).trans (if_pos z2)] at h; exact h
  refine br_f z2 (xh_stateOf (by omega) ho ⟨vi, ?_⟩)
  by_cases z3 : nI (tc_s c (tc_ob (tc_l c x))) = rq (tc_k cl (tc_l c x) y)
  · refine br_t z3 ⟨vi, vi, ?_⟩
    have fin : tc_Fc dn rq rs cl c x y = 0 → wX_stepCall_107 post (nI c) (nI (tc_ob (tc_l c x))) (nI (tc_k cl (tc_l c x) y)) cp ct wf rc fp fc mc ms dn rq rs cl o a b xl xe xo xb ir rd 34000 34000 := by
      intro hf
      unfold wX_stepCall_107
      refine ⟨vi, ?_⟩
      rw [ci, er2]
      refine xh_withState (by omega) ho (xh_2000 ?_)
      rw [hf, tc_rs, if_pos rfl, tc_Nc, er2, nI_clamp (by omega)] at h
      exact h
    by_cases z4 : rs (tc_k cl (tc_l c x) y) = rq (tc_k cl (tc_l c x) y)
    · refine br_t z4 ?_
      unfold wX_stepCall_88
      exact br_t rfl (fin ((if_neg z1).trans ((if_neg z2).trans ((if_neg (fun w => w z3)).trans (if_neg (fun w => w.1 z4))))))
    · refine br_f z4 ?_
      unfold wX_stepCall_88
      refine br_f (by decide) (xh_permIn hv ?_)
      by_cases z5 : tc_pm (tc_l c x) = 2
      · exact br_t (by rw [z5]; rfl) (fin ((if_neg z1).trans ((if_neg z2).trans ((if_neg (fun w => w z3)).trans (if_neg (fun w => w.2 z5))))))
      · have hp : tc_pm (tc_l c x) < 5 := by unfold tc_pm; split <;> omega
        refine br_f (fun w => z5 ((nI_eq (b := 2) (by omega) (by omega)).mp w)) ?_
        rw [show tc_Fc dn rq rs cl c x y = 4 from (if_neg z1).trans ((if_neg z2).trans ((if_neg (fun w => w z3)).trans (if_pos ⟨z4, z5⟩)))] at h; exact h
  · refine br_f z3 ?_
    rw [show tc_Fc dn rq rs cl c x y = 3 from (if_neg z1).trans ((if_neg z2).trans (if_pos z3))] at h; exact h
theorem tc_pm_lt {v : Nat} (h : v < 5) : tc_pm v < 5 := by unfold tc_pm; split <;> omega
theorem xh_share (hc : c < 34000) (hx : x < 3) (hy : y < 3) (h : post (tc_rs (tc_Fs c x y) (tc_Ns c x y))) : wpX_stepShare post (nI c) (nI x) (nI y) := by
  unfold wpX_stepShare
  have hv := tc_l_lt c y
  have hw := tc_l_lt c x
  refine xh_localOf (by omega) hy ?_
  by_cases z1 : tc_l c y = 0
  · refine br_t (by rw [z1]; rfl) ?_
    rw [show tc_Fs c x y = 1 from if_pos z1] at h; exact h
  refine br_f (nI_ne0 (by omega) (by omega)) (xh_localOf (by omega) hx ?_)
  by_cases z2 : tc_l c x = 0
  · refine br_t (by rw [z2]; rfl) (xh_permIn hv ?_)
    by_cases z3 : tc_pm (tc_l c y) = 2
    · refine br_t (by rw [z3]; rfl) (xh_objectIn hv ?_)
      have eh : (2 : Int32) * nI (tc_ob (tc_l c y)) + 1 = nI (tc_h c y) := by
        show nI 2 * nI _ + nI 1 = _
        rw [pk_mul, nI_add]; rfl
      refine nm_r eh (xh_withLocal (by omega) hy (xh_withLocal (xh_wl_lt hc (tc_h_lt c y) hy) hx (xh_2000 ?_)))
      rw [show tc_Fs c x y = 0 from (if_neg z1).trans ((if_neg (fun w => w z2)).trans (if_neg (fun w => w z3))), tc_rs, if_pos rfl] at h
      exact h
    · have hp := tc_pm_lt hv
      refine br_f (fun w => z3 ((nI_eq (b := 2) (by omega) (by omega)).mp w)) ?_
      rw [show tc_Fs c x y = 6 from (if_neg z1).trans ((if_neg (fun w => w z2)).trans (if_pos z3))] at h; exact h
  · refine br_f (nI_ne0 (by omega) (by omega)) ?_
    rw [show tc_Fs c x y = 5 from (if_neg z1).trans (if_pos z2)] at h; exact h
theorem xh_merge (hc : c < 34000) (hg : tc_g c) (hx : x < 3) (hy : y < 3) (hn : x ≠ y) (h : post (tc_rs (tc_Fm c x y) (tc_Nm c x y))) : wpX_stepMerge post (nI c) (nI x) (nI y) := by
  unfold wpX_stepMerge
  have hv := tc_l_lt c y
  have hw := tc_l_lt c x
  refine xh_localOf (by omega) hx (xh_localOf (by omega) hy ?_)
  by_cases z1 : tc_l c x = 0
  · refine br_t (by rw [z1]; rfl) ?_
    rw [show tc_Fm c x y = 1 from if_pos z1] at h; exact h
  refine br_f (nI_ne0 (by omega) (by omega)) ?_
  by_cases z2 : tc_l c y = 0
  · refine br_t (by rw [z2]; rfl) ?_
    rw [show tc_Fm c x y = 1 from (if_neg z1).trans (if_pos z2)] at h; exact h
  refine br_f (nI_ne0 (by omega) (by omega)) (xh_objectIn hw (xh_objectIn hv ?_))
  have h1 := tc_ob_lt (tc_l c x)
  have h2 := tc_ob_lt (tc_l c y)
  by_cases z3 : tc_ob (tc_l c x) = tc_ob (tc_l c y)
  · refine br_t (by rw [z3]) (xh_permIn hv ?_)
    have e := tc_g_merge hg hx hy hn z1 z2 z3
    have ei : nI (tc_l c x) + nI (tc_pm (tc_l c y)) = nI (2 * tc_ob (tc_l c x) + tc_ms (tc_l c x) (tc_l c y)) := by rw [nI_add, e]
    have hm := tc_e_ms _ hw _ hv z1 z2
    refine nm_r ei (xh_withLocal (by omega) hx (xh_withLocal (v := 0) (xh_wl_lt hc hm hx) hy (xh_2000 ?_)))
    rw [show tc_Fm c x y = 0 from (if_neg z1).trans ((if_neg z2).trans (if_neg (fun w => w z3))), tc_rs, if_pos rfl] at h
    exact h
  · refine br_f (fun w => z3 ((nI_eq (by omega) (by omega)).mp w)) ?_
    rw [show tc_Fm c x y = 7 from (if_neg z1).trans ((if_neg z2).trans (if_pos z3))] at h; exact h
/-- the branch: z0 says whether it is entered -/
theorem xh_branch {z : Int32} (hJ : tc_JM o L xl xe xo T) (hL : L ≤ 16) (hc : c < 34000) (hp : c / 2000 < L) (ho : tc_op (o (c / 2000))) (h1 : ¬ z = 0 → post (nI (c + 2000))) (h0 : z = 0 → post (nI (tc_wp c (T (c / 2000))))) : wpX_stepBranch post (cp, ct, wf, rc, fp, fc, mc, ms, dn, rq, rs, cl, o, a, b, xl, xe, xo, xb, ir, rd, 34000, 34000) (nI c) z := by
  unfold wpX_stepBranch
  by_cases hz : z = 0
  · refine br_t hz (xh_pcOf (by omega) ?_)
    have vi : vp_in (nI (c / 2000)) 16 := vp_in_nI (by omega) (by omega)
    refine ⟨vi, ?_⟩
    rw [nI_clamp (by omega)]
    rcases (hJ _ hp).1 ho with ⟨e1, e, he, e2, e3⟩ | ⟨_, e, he, e2, e3⟩
    · refine br_t e1 ⟨vi, ?_⟩
      rw [e2]
      unfold wX_stepBranch_40
      rw [nI_1, ← e3]
      exact xh_withPc (by omega) (h0 hz)
    · refine br_f (by rw [e2]; exact tc_m1_ne (by omega)) ⟨vi, ?_⟩
      rw [e2]
      unfold wX_stepBranch_40
      rw [nI_1, ← e3]
      exact xh_withPc (by omega) (h0 hz)
  · exact br_f hz (xh_2000 (h1 hz))
theorem xh_ifin (hJ : tc_JM o L xl xe xo T) (hL : L ≤ 16) (hc : c < 34000) (hp : c / 2000 < L) (ho : o (c / 2000) = 6) (hx : x < 3) (hy : y < 4) (h : post (tc_rs (tc_Fi c x) (tc_Ni T c x y))) : wpX_stepIfin post (cp, ct, wf, rc, fp, fc, mc, ms, dn, rq, rs, cl, o, a, b, xl, xe, xo, xb, ir, rd, 34000, 34000) (nI c) (nI x) (nI y) := by
  unfold wpX_stepIfin
  have hv := tc_l_lt c x
  refine xh_localOf (by omega) hx ?_
  by_cases z1 : tc_l c x = 0
  · refine br_t (by rw [z1]; rfl) ?_
    rw [show tc_Fi c x = 1 from if_pos z1] at h; exact h
  rw [show tc_Fi c x = 0 from if_neg z1, tc_rs, if_pos rfl, tc_Ni] at h
  have hb := tc_ob_lt (tc_l c x)
  have hs := tc_s_lt c (tc_ob (tc_l c x))
  refine br_f (nI_ne0 (by omega) (by omega)) (xh_objectIn hv (xh_stateOf (by omega) hb ?_))
  by_cases z2 : tc_s c (tc_ob (tc_l c x)) = y
  · rw [if_pos z2] at h
    refine br_t (by rw [z2]) ?_
    unfold wX_stepIfin_36
    exact xh_branch hJ hL hc hp (Or.inr (Or.inl ho)) (fun _ => h) (fun w => absurd w (by decide))
  · rw [if_neg z2] at h
    refine br_f (fun w => z2 ((nI_eq (by omega) (by omega)).mp w)) ?_
    unfold wX_stepIfin_36
    exact xh_branch hJ hL hc hp (Or.inr (Or.inl ho)) (fun w => absurd rfl w) (fun _ => h)
theorem xh_end (hJ : tc_JM o L xl xe xo T) (hL : L ≤ 16) (hc : c < 34000) (hp : c / 2000 < L) (ho : o (c / 2000) = 9) (h : post (nI (tc_wp c (T (c / 2000))))) : wpX_stepEnd post (cp, ct, wf, rc, fp, fc, mc, ms, dn, rq, rs, cl, o, a, b, xl, xe, xo, xb, ir, rd, 34000, 34000) (nI c) := by
  unfold wpX_stepEnd
  refine xh_pcOf (by omega) ?_
  obtain ⟨t, ht, et, hh⟩ := (hJ _ hp).2.2 ho
  refine ⟨vp_in_nI (by omega) (by omega), ?_⟩
  rw [nI_clamp (by omega)]
  refine nm_r et ⟨vp_in_nI (by omega) (by omega), ?_⟩
  rw [nI_clamp (by omega)]
  rcases hh with ⟨e1, e2⟩ | ⟨e1, e2⟩
  · refine br_t e1 ?_
    rw [e2] at h
    exact xh_withPc (by omega) h
  · refine br_f e1 (xh_2000 ?_)
    rw [e2, ← tc_p1] at h
    exact h
theorem xh_step (hV : tc_VP o a b L) (hD : tc_VD rq rs cl) (hJ : tc_JM o L xl xe xo T) (hL : L ≤ 16) (hc : c < 34000) (hp : c / 2000 < L) (hg : tc_g c) (h : post (tc_rs (tc_F o a b dn rq rs cl c) (tc_N o a b rs cl T c d))) : wpX_step post (cp, ct, wf, rc, fp, fc, mc, ms, dn, rq, rs, cl, o, a, b, xl, xe, xo, xb, ir, rd, 34000, 34000) (nI c) d := by
  unfold wpX_step
  refine xh_pcOf (by omega) ?_
  have vi : vp_in (nI (c / 2000)) 16 := vp_in_nI (by omega) (by omega)
  have ci := nI_clamp (n := c / 2000) (by omega)
  refine ⟨vi, ?_⟩
  rw [ci]
  refine nm_e ⟨vi, nm_e ⟨vi, ?_⟩⟩
  have hbr : tc_op (o (c / 2000)) → post (nI (if d = 1 then c + 2000 else tc_wp c (T (c / 2000)))) → wX_step_150 post (nI c) d cp ct wf rc fp fc mc ms dn rq rs cl o a b xl xe xo xb ir rd 34000 34000 := by
    intro ho hq
    unfold wX_step_150
    by_cases hd : d = 1
    · rw [if_pos hd] at hq
      refine br_t hd ?_
      unfold wX_step_162
      exact xh_branch hJ hL hc hp ho (fun _ => hq) (fun w => absurd w (by decide))
    · rw [if_neg hd] at hq
      refine br_f hd ?_
      unfold wX_step_162
      exact xh_branch hJ hL hc hp ho (fun w => absurd rfl w) (fun _ => hq)
  rcases hV _ hp with ⟨ho, x, y, hx, hy, ea, eb⟩ | ⟨ho, x, y, hx, hy, hn, ea, eb⟩ | ⟨ho, x, y, hx, hy, hn, ea, eb⟩ | ⟨ho, x, hx, ea⟩ | ho | ⟨ho, x, y, hx, hy, ea, eb⟩ | ho | ho | ho
  · obtain ⟨e1, e2⟩ := tc_F1 (dn := dn) (rq := rq) (rs := rs) (cl := cl) (T := T) (d := d) ho ea eb hx hy
    rw [e1, e2] at h
    rw [ea, eb]
    exact nm_r ho (br_f (by decide) (br_f (by decide) (br_t rfl (xh_call hD hc hx hy h))))
  · obtain ⟨e1, e2⟩ := tc_F2 (dn := dn) (rq := rq) (rs := rs) (cl := cl) (T := T) (d := d) ho ea eb hx (by omega)
    rw [e1, e2] at h
    rw [ea, eb]
    exact nm_r ho (br_f (by decide) (br_f (by decide) (br_f (by decide) (br_t rfl (xh_share hc hx hy h)))))
  · obtain ⟨e1, e2⟩ := tc_F3 (dn := dn) (rq := rq) (rs := rs) (cl := cl) (T := T) (d := d) ho ea eb hx (by omega)
    rw [e1, e2] at h
    rw [ea, eb]
    exact nm_r ho (br_f (by decide) (br_f (by decide) (br_f (by decide) (br_f (by decide) (br_t rfl (xh_merge hc hg hx hy hn h))))))
  · obtain ⟨e1, e2⟩ := tc_F4 (b := b) (dn := dn) (rq := rq) (rs := rs) (cl := cl) (T := T) (d := d) ho ea hx
    rw [e1, e2, tc_rs, if_pos rfl] at h
    rw [ea]
    exact nm_r ho (br_f (by decide) (br_f (by decide) (br_f (by decide) (br_f (by decide) (br_f (by decide) (br_t rfl (xh_withLocal (v := 0) (by omega) hx (xh_2000 h))))))))
  · obtain ⟨e1, e2⟩ := tc_F5 (a := a) (b := b) (dn := dn) (rq := rq) (rs := rs) (cl := cl) (T := T) (d := d) ho
    rw [e1, e2, tc_rs, if_pos rfl] at h
    exact nm_r ho (br_f (by decide) (br_f (by decide) (br_f (by decide) (br_f (by decide) (br_f (by decide) (br_f (by decide) (br_t rfl (hbr (Or.inl ho) h))))))))
  · obtain ⟨e1, e2⟩ := tc_F6 (dn := dn) (rq := rq) (rs := rs) (cl := cl) (T := T) (d := d) ho ea eb hx hy
    rw [e1, e2] at h
    rw [ea, eb]
    exact nm_r ho (br_f (by decide) (br_f (by decide) (br_f (by decide) (br_f (by decide) (br_f (by decide) (br_f (by decide) (br_f (by decide) (br_t rfl (xh_ifin hJ hL hc hp ho hx hy h)))))))))
  · obtain ⟨e1, e2⟩ := tc_F7 (a := a) (b := b) (dn := dn) (rq := rq) (rs := rs) (cl := cl) (T := T) (d := d) ho
    rw [e1, e2, tc_rs, if_pos rfl] at h
    obtain ⟨t, e, ht, he, et, ee, eT⟩ := (hJ _ hp).2.1 ho
    rw [eT] at h
    refine nm_r ho (br_f (by decide) (br_f (by decide) (br_f (by decide) (br_f (by decide) (br_f (by decide) (br_f (by decide) (br_f (by decide) (br_f (by decide) (br_t rfl ⟨vi, ?_⟩)))))))))
    rw [et, nI_clamp (by omega), ee, nI_1]
    exact ⟨vp_in_nI (by omega) (by omega), xh_withPc (by omega) h⟩
  · obtain ⟨e1, e2⟩ := tc_F8 (a := a) (b := b) (dn := dn) (rq := rq) (rs := rs) (cl := cl) (T := T) (d := d) ho
    rw [e1, e2, tc_rs, if_pos rfl] at h
    exact nm_r ho (br_f (by decide) (br_f (by decide) (br_f (by decide) (br_f (by decide) (br_f (by decide) (br_f (by decide) (br_f (by decide) (br_f (by decide) (br_f (by decide) (br_t rfl (hbr (Or.inr (Or.inr ho)) h)))))))))))
  · obtain ⟨e1, e2⟩ := tc_F9 (a := a) (b := b) (dn := dn) (rq := rq) (rs := rs) (cl := cl) (T := T) (d := d) ho
    rw [e1, e2, tc_rs, if_pos rfl] at h
    exact nm_r ho (br_f (by decide) (br_f (by decide) (br_f (by decide) (br_f (by decide) (br_f (by decide) (br_f (by decide) (br_f (by decide) (br_f (by decide) (br_f (by decide) (br_f (by decide) (br_t rfl (xh_end hJ hL hc hp ho h))))))))))))
end
end
section
/-! X's forgetting, reaching, noting -/
theorem tc_vb0 : vp_nar .boolean 0 = 0 := by rfl
theorem tc_vb1 : vp_nar .boolean 1 = 1 := by rfl
section
variable {cp ct wf rc fp fc mc ms : Int32} {dn rq rs cl o a b xl xe xo xb ir rd : Nat → Int32} {c x y L n i : Nat} {T : Nat → Nat} {d : Int32}
theorem xh_forget_l {post : SX → Prop} (hn : n ≤ 34000) (hr : ∀ j, j < n → ∃ c, c < 34000 ∧ rd j = nI c)
    (h : ∀ ir' : Nat → Int32, (∀ c, c < 34000 → ir' c = 0) → post (cp, ct, wf, 0, -1, -1, mc, ms, dn, rq, rs, cl, o, a, b, xl, xe, xo, xb, ir', rd, 34000, 34000)) :
    ∀ (m i : Nat) (ir : Nat → Int32), n < m + i → i ≤ n → tc_FG ir rd n i → wX_forgetReached_2 post cp ct wf (nI n) fp fc mc ms 34000 34000 m (nI i) dn rq rs cl o a b xl xe xo xb ir rd := by
  intro m
  induction m with
  | zero => intro i ir h1 h2; omega
  | succ m ih =>
    intro i ir h1 h2 hF
    rw [wX_forgetReached_2]
    by_cases e : i = n
    · refine br_t (by rw [e]; exact nI_le (Nat.le_refl n) (by omega)) ?_
      rw [e] at hF
      exact h ir (tc_FG_e hF)
    · obtain ⟨c, hc, ec⟩ := hr i (by omega)
      refine br_f (nI_ge (by omega) (by omega)) ⟨vp_in_nI (by omega) (by omega), ?_⟩
      rw [nI_clamp (by omega), ec, nI_clamp (by omega), tc_vb0]
      refine ⟨vp_in_nI hc (by omega), nm_e (nm_r (nI_1 i) ?_)⟩
      exact ih (i + 1) _ (by omega) (by omega) (tc_FG_s hF hc ec)
theorem xh_forget {post : SX → Prop} (hM : tc_MR ir rd n)
    (h : ∀ ir' : Nat → Int32, (∀ c, c < 34000 → ir' c = 0) → post (cp, ct, wf, 0, -1, -1, mc, ms, dn, rq, rs, cl, o, a, b, xl, xe, xo, xb, ir', rd, 34000, 34000)) : wpX_forgetReached post (cp, ct, wf, nI n, fp, fc, mc, ms, dn, rq, rs, cl, o, a, b, xl, xe, xo, xb, ir, rd, 34000, 34000) := by
  unfold wpX_forgetReached
  exact ⟨n + 1, xh_forget_l hM.1 hM.2.2 h (n + 1) 0 ir (by omega) (by omega) (tc_FG_0 hM)⟩
theorem xh_reach {post : SX → Prop} {S : Nat → Prop} (hM : tc_MK ir rd n) (hc : c < 34000) (hS : S c)
    (h : ∀ (ir' rd' : Nat → Int32) (n' : Nat), tc_GR ir rd n ir' rd' n' S → ir' c ≠ 0 → post (cp, ct, wf, nI n', fp, fc, mc, ms, dn, rq, rs, cl, o, a, b, xl, xe, xo, xb, ir', rd', 34000, 34000)) : wpX_reach post (cp, ct, wf, nI n, fp, fc, mc, ms, dn, rq, rs, cl, o, a, b, xl, xe, xo, xb, ir, rd, 34000, 34000) (nI c) := by
  unfold wpX_reach
  have hn := (tc_MK_R hM).1
  by_cases z : ir c = 0
  · have hl := tc_MK_lt hM hc z
    refine xh_below 34000 (by omega) (fun w => absurd ⟨c, hc, rfl⟩ w) (fun _ => br_f (by decide) ?_)
    refine xh_below 34000 (by omega) (fun w => absurd ⟨n, hl, rfl⟩ w) (fun _ => br_f (by decide) ?_)
    refine ⟨vp_in_nI hc (by omega), ?_⟩
    rw [nI_clamp (by omega), nI_clamp (by omega), tc_vb1]
    refine br_t z ⟨vp_in_nI hc (by omega), nm_e ⟨vp_in_nI hl (by omega), nm_e (nm_r (nI_1 n) ?_)⟩⟩
    exact h _ _ (n + 1) (tc_GR_a hM hc z (by decide) hS) (by rw [pk_us]; decide)
  · have he := h ir rd n (tc_GR_r hM) z
    refine xh_below 34000 (by omega) (fun w => absurd ⟨c, hc, rfl⟩ w) (fun _ => br_f (by decide) ?_)
    refine xh_below 34000 (by omega) (fun _ => br_t rfl he) (fun _ => br_f (by decide) ?_)
    refine ⟨vp_in_nI hc (by omega), ?_⟩
    rw [nI_clamp (by omega)]
    exact br_f z he
theorem xh_note {post : SX → Prop} {F : Nat → Nat} {S : Nat → Prop} (hL : L ≤ 16) (hF : ∀ c, F c ≤ 7) (hS : tc_FS L F S fp fc) (hc : c / 2000 < L) (hf : F c ≠ 0)
    (h : ∀ p' k' : Int32, (∀ S' : Nat → Prop, (∀ x, S' x ↔ S x ∨ x = c) → tc_FS L F S' p' k') → post (cp, ct, wf, rc, p', k', mc, ms, dn, rq, rs, cl, o, a, b, xl, xe, xo, xb, ir, rd, 34000, 34000)) : wpX_noteFault post (cp, ct, wf, rc, fp, fc, mc, ms, dn, rq, rs, cl, o, a, b, xl, xe, xo, xb, ir, rd, 34000, 34000) (nI (c / 2000)) (nI (F c)) := by
  unfold wpX_noteFault
  have hFc := hF c
  have hS' := hS
  rcases hS with ⟨e1, _, _⟩ | ⟨c', h1, h2, h3, h4, h5, h6⟩
  · refine br_t e1 ?_
    unfold wX_noteFault_16 wX_noteFault_21
    exact br_f (by decide) (h _ _ (fun S' e => tc_FS_a hS' e hc hf (Or.inl e1) hL hF))
  · have hFc' := hF c'
    refine br_f (by rw [h4]; exact tc_m1_ne (by omega)) ?_
    by_cases q : c' / 2000 ≤ c / 2000
    · refine br_t (by rw [h4]; exact nI_le q (by omega)) ?_
      unfold wX_noteFault_21
      refine br_t rfl ?_
      by_cases q2 : c / 2000 = c' / 2000
      · refine br_t (by rw [h4, q2]) ?_
        by_cases q3 : F c' ≤ F c
        · refine br_t (by rw [h5]; exact nI_le q3 (by omega)) (h _ _ (fun S' e => ?_))
          exact tc_FS_b hS' e ⟨_, _, h4, h5, by omega, by omega, by omega, by omega⟩ hL hF
        · refine br_f (by rw [h5]; exact nI_ge (by omega) (by omega)) (h _ _ (fun S' e => ?_))
          exact tc_FS_a hS' e hc hf (Or.inr ⟨_, _, h4, h5, by omega, by omega, by omega⟩) hL hF
      · refine br_f (by rw [h4]; exact fun w => q2 ((nI_eq (by omega) (by omega)).mp w)) (h _ _ (fun S' e => ?_))
        exact tc_FS_b hS' e ⟨_, _, h4, h5, by omega, by omega, by omega, by omega⟩ hL hF
    · refine br_f (by rw [h4]; exact nI_ge (by omega) (by omega)) ?_
      unfold wX_noteFault_16 wX_noteFault_21
      exact br_f (by decide) (h _ _ (fun S' e => tc_FS_a hS' e hc hf (Or.inr ⟨_, _, h4, h5, by omega, by omega, by omega⟩) hL hF))
/-! X's worklist -/
theorem xh_neg {f : Nat} (h0 : f ≠ 0) (h7 : f ≤ 7) : ¬ (0 : Int32) ≤ -nI f ∧ -(-nI f) = nI f := by
  constructor
  · rw [Int32.le_iff_toInt_le, sb_negT (by omega), show (0 : Int32).toInt = 0 from by decide]
    omega
  · exact Int32.neg_neg
/-- one decision -/
theorem xh_dec {post : SX → Prop} {J : Int32 → Int32 → Int32 → Int32 → Int32 → Int32 → Int32 → Int32 → Int32 → (Nat → Int32) → (Nat → Int32) → (Nat → Int32) → (Nat → Int32) → (Nat → Int32) → (Nat → Int32) → (Nat → Int32) → (Nat → Int32) → (Nat → Int32) → (Nat → Int32) → (Nat → Int32) → (Nat → Int32) → (Nat → Int32) → Nat → Nat → Prop} {x1 : Int32} {m : Nat}
    (hV : tc_VP o a b L) (hD : tc_VD rq rs cl) (hJ : tc_JM o L xl xe xo T) (hL : L ≤ 16) (hc : c < 34000) (hp : c / 2000 < L) (hg : tc_g c) (hM : tc_MK ir rd n)
    {S : Nat → Prop} (hS : tc_FS L (tc_F o a b dn rq rs cl) S fp fc) (hR : tc_R L (tc_F o a b dn rq rs cl) (tc_N o a b rs cl T) c)
    {d d' : Int32} (hd : ¬ 1 < d) (hd' : d + 1 = d')
    (h0 : tc_F o a b dn rq rs cl c = 0 → ∀ (ir' rd' : Nat → Int32) (n' : Nat), tc_GR ir rd n ir' rd' n' (tc_R L (tc_F o a b dn rq rs cl) (tc_N o a b rs cl T)) → ir' (tc_N o a b rs cl T c d) ≠ 0 → wX_explore_69 post J x1 (nI c) (nI (c / 2000)) m d' cp ct wf (nI n') fp fc mc ms dn rq rs cl o a b xl xe xo xb ir' rd' 34000 34000)
    (h1 : tc_F o a b dn rq rs cl c ≠ 0 → ∀ p' k' : Int32, (∀ S' : Nat → Prop, (∀ x, S' x ↔ S x ∨ x = c) → tc_FS L (tc_F o a b dn rq rs cl) S' p' k') → wX_explore_69 post J x1 (nI c) (nI (c / 2000)) m d' cp ct wf (nI n) p' k' mc ms dn rq rs cl o a b xl xe xo xb ir rd 34000 34000) :
    wX_explore_69 post J x1 (nI c) (nI (c / 2000)) (m + 1) d cp ct wf (nI n) fp fc mc ms dn rq rs cl o a b xl xe xo xb ir rd 34000 34000 := by
  rw [wX_explore_69]
  refine br_f hd (xh_step hV hD hJ hL hc hp hg ?_)
  by_cases hf : tc_F o a b dn rq rs cl c = 0
  · have hN := tc_RI hV hD (tc_JM_T hJ) (tc_RS d hR hp hf)
    have hNl : tc_N o a b rs cl T c d < 34000 := by omega
    rw [hf, tc_rs, if_pos rfl]
    refine br_t (nI_pos' (by omega)) (xh_reach hM hNl (tc_RS d hR hp hf) (fun ir' rd' n' hG hz => nm_r hd' ?_))
    exact h0 hf ir' rd' n' hG hz
  · have hle := tc_F_le (o := o) (a := a) (b := b) (dn := dn) (rq := rq) (rs := rs) (cl := cl) c
    obtain ⟨n1, n2⟩ := xh_neg hf hle
    rw [tc_rs, if_neg hf]
    refine br_f n1 ?_
    rw [n2]
    exact xh_note hL tc_F_le hS hp hf (fun p' k' hq => nm_r hd' (h1 hf p' k' hq))
theorem xh_list {post : SX → Prop} (hV : tc_VP o a b L) (hD : tc_VD rq rs cl) (hJ : tc_JM o L xl xe xo T) (hL : L ≤ 16)
    (h : ∀ (ir rd : Nat → Int32) (n : Nat) (fp fc : Int32), tc_MK ir rd n → (∀ c, c < 34000 → ((∃ j, j < n ∧ rd j = nI c) ↔ tc_R L (tc_F o a b dn rq rs cl) (tc_N o a b rs cl T) c)) → tc_FS L (tc_F o a b dn rq rs cl) (tc_R L (tc_F o a b dn rq rs cl) (tc_N o a b rs cl T)) fp fc → post (cp, nI L, wf, nI n, fp, fc, mc, ms, dn, rq, rs, cl, o, a, b, xl, xe, xo, xb, ir, rd, 34000, 34000)) :
    ∀ (m i : Nat) (ir rd : Nat → Int32) (n : Nat) (fp fc : Int32), 34000 < m + i → tc_WI L (tc_F o a b dn rq rs cl) (tc_N o a b rs cl T) i ir rd n fp fc → wX_explore_29 post m (nI i) cp (nI L) wf (nI n) fp fc mc ms dn rq rs cl o a b xl xe xo xb ir rd 34000 34000 := by
  have hb : ∀ c, tc_R L (tc_F o a b dn rq rs cl) (tc_N o a b rs cl T) c → c < 34000 := by
    intro c hr
    have := tc_RI hV hD (tc_JM_T hJ) hr
    omega
  intro m
  induction m with
  | zero =>
    intro i ir rd n fp fc h1 hW
    have h2 := (tc_MK_R hW.1).1
    have h3 := hW.2.1
    omega
  | succ m ih =>
    intro i ir rd n fp fc h1 hW
    have h2 := (tc_MK_R hW.1).1
    have h3 := hW.2.1
    rw [wX_explore_29]
    by_cases e : i = n
    · refine br_t (by rw [e]; exact nI_le (Nat.le_refl n) (by omega)) ?_
      rw [e] at hW
      obtain ⟨w1, w2, w3⟩ := tc_WI_e hW hb (fun c d => tc_N01 c d)
      exact h ir rd n fp fc w1 w2 w3
    · have hin : i < n := by omega
      obtain ⟨c, ec, hR⟩ := hW.2.2.2.1 i hin
      have hc := hb c hR
      have hI := tc_RI hV hD (tc_JM_T hJ) hR
      refine br_f (nI_ge hin (by omega)) (br_f (nI_ge (b := 34000) (by omega) (by omega)) ⟨vp_in_nI (by omega) (by omega), ?_⟩)
      rw [nI_clamp (by omega)]
      refine nm_r ec (xh_pcOf (by omega) ?_)
      by_cases hp : c / 2000 < L
      · refine br_t (nI_lt hp (by omega)) ⟨3, ?_⟩
        refine xh_dec hV hD hJ hL hc hp hI.1 hW.1 hW.2.2.2.2.2 hR (d := 0) (d' := 1) (by decide) (by decide) ?_ ?_
        · intro hf ir1 rd1 n1 g1 z1
          refine xh_dec hV hD hJ hL hc hp hI.1 g1.1 hW.2.2.2.2.2 hR (d := 1) (d' := 2) (by decide) (by decide) ?_ ?_
          · intro _ ir2 rd2 n2 g2 z2
            rw [wX_explore_69]
            refine br_t (by decide) (nm_r (nI_1 i) ?_)
            refine ih (i + 1) ir2 rd2 n2 fp fc (by omega) (tc_WI_s hW hin hc ec (tc_GR_t g1 g2) (fun _ _ => ⟨g2.2.2.2.1 _ z1, z2⟩) (fun S' e => tc_FS_n hW.2.2.2.2.2 e (fun _ => hf)))
          · intro hf' ; exact absurd hf hf'
        · intro hf p1 k1 q1
          have fs1 := q1 (fun x => (fun c => c < 34000 ∧ ∃ j, j < i ∧ rd j = nI c) x ∨ x = c) (fun x => Iff.rfl)
          refine xh_dec hV hD hJ hL hc hp hI.1 hW.1 fs1 hR (d := 1) (d' := 2) (by decide) (by decide) ?_ ?_
          · intro hf'; exact absurd hf' hf
          · intro _ p2 k2 q2
            rw [wX_explore_69]
            refine br_t (by decide) (nm_r (nI_1 i) ?_)
            refine ih (i + 1) ir rd n p2 k2 (by omega) (tc_WI_s hW hin hc ec (tc_GR_r hW.1) (fun _ w => absurd w hf) (fun S' e => q2 S' (fun x => ?_)))
            rw [e x]
            constructor
            · rintro (w | w)
              · exact Or.inl (Or.inl w)
              · exact Or.inr w
            · rintro ((w | w) | w)
              · exact Or.inl w
              · exact Or.inr w
              · exact Or.inr w
      · refine br_f (nI_nlt (by omega) (by omega)) (nm_r (nI_1 i) ?_)
        exact ih (i + 1) ir rd n fp fc (by omega) (tc_WI_s hW hin hc ec (tc_GR_r hW.1) (fun w => absurd w hp) (fun S' e => tc_FS_n hW.2.2.2.2.2 e (fun w => absurd w hp)))
end
end
section
/-! Y's load, skip and step -/
theorem yh_ob {v : Nat} (h0 : v ≠ 0) (hv : v < 5) : (nI v - 1) / 2 = nI (tc_ob v) := by
  show (nI v - nI 1) / nI 2 = _
  rw [pk_sub (by omega), pk_div (by omega) (by omega) (by omega)]
  have : ∀ v, v < 5 → v ≠ 0 → (v - 1) / 2 = tc_ob v := by decide
  rw [this v hv h0]
theorem yh_pm {v : Nat} (h0 : v ≠ 0) (hv : v < 5) : (nI v - 1) - (nI v - 1) / 2 * 2 + 1 = nI (tc_pm v) := by
  show (nI v - nI 1) - (nI v - nI 1) / nI 2 * nI 2 + nI 1 = _
  rw [pk_sub (by omega), pk_rem (by omega) (by omega) (by omega), nI_add]
  have : ∀ v, v < 5 → v ≠ 0 → (v - 1) % 2 + 1 = tc_pm v := by decide
  rw [this v hv h0]
theorem yh_rem {v : Nat} (h0 : v ≠ 0) (hv : v < 5) : ∃ r, (nI v - 1) - (nI v - 1) / 2 * 2 = nI r ∧ r + 1 = tc_pm v := by
  refine ⟨(v - 1) % 2, ?_, ?_⟩
  · show (nI v - nI 1) - (nI v - nI 1) / nI 2 * nI 2 = _
    rw [pk_sub (by omega), pk_rem (by omega) (by omega) (by omega)]
  · exact (by decide : ∀ v, v < 5 → v ≠ 0 → (v - 1) % 2 + 1 = tc_pm v) v hv h0
section
variable {cp ct wp mp mt : Int32} {o a b ye yl yo ys dn rq rs cl wl ws ml mz yr : Nat → Int32} {c x y L n i : Nat} {T : Nat → Nat} {d : Int32}
theorem yh_load {post : SY → Prop} (hc : c < 2 ^ 31) (h : ∀ (wp : Int32) (wl ws : Nat → Int32), tc_W wp wl ws c → post (cp, ct, wp, mp, mt, o, a, b, ye, yl, yo, ys, dn, rq, rs, cl, wl, ws, ml, mz, yr, 34000)) : wpY_load post (cp, ct, wp, mp, mt, o, a, b, ye, yl, yo, ys, dn, rq, rs, cl, wl, ws, ml, mz, yr, 34000) (nI c) := by
  unfold wpY_load
  have e0 : nI c - nI c / 2000 * 2000 = nI (c % 2000) := pk_rem (d := 2000) hc (by omega) (by omega)
  have e1 : nI c / 2000 = nI (c / 2000) := pk_div (d := 2000) hc (by omega) (by omega)
  have hr : c % 2000 < 2 ^ 31 := by omega
  have f0 : nI (c % 2000) / 400 = nI (tc_l c 0) := by
    rw [tc_l_0, show nI (c % 2000) / 400 = nI (c % 2000 / 400) from pk_div (d := 400) hr (by omega) (by omega)]
    exact congrArg nI (by omega)
  have f1 : nI (c % 2000) / 80 - nI (c % 2000) / 80 / 5 * 5 = nI (tc_l c 1) := by
    rw [tc_l_1, show nI (c % 2000) / 80 - nI (c % 2000) / 80 / 5 * 5 = nI (c % 2000 / 80 % 5) from xh_dr (U := 80) (d := 5) hr (by omega) (by omega) (by omega) (by omega)]
    exact congrArg nI (by omega)
  have f2 : nI (c % 2000) / 16 - nI (c % 2000) / 16 / 5 * 5 = nI (tc_l c 2) := by
    rw [tc_l_2, show nI (c % 2000) / 16 - nI (c % 2000) / 16 / 5 * 5 = nI (c % 2000 / 16 % 5) from xh_dr (U := 16) (d := 5) hr (by omega) (by omega) (by omega) (by omega)]
    exact congrArg nI (by omega)
  have f3 : nI (c % 2000) / 4 - nI (c % 2000) / 4 / 4 * 4 = nI (tc_s c 0) := by
    rw [tc_s_0, show nI (c % 2000) / 4 - nI (c % 2000) / 4 / 4 * 4 = nI (c % 2000 / 4 % 4) from xh_dr (U := 4) (d := 4) hr (by omega) (by omega) (by omega) (by omega)]
    exact congrArg nI (by omega)
  have f4 : nI (c % 2000) - nI (c % 2000) / 4 * 4 = nI (tc_s c 1) := by
    rw [tc_s_1, show nI (c % 2000) - nI (c % 2000) / 4 * 4 = nI (c % 2000 % 4) from pk_rem (d := 4) hr (by omega) (by omega)]
    exact congrArg nI (by omega)
  refine ⟨by decide, nm_r e1 ⟨by decide, nm_r e0 ⟨by decide, ?_⟩⟩⟩
  rw [f0, f1, f2, f3, f4]
  refine nm_e ⟨by decide, by decide, nm_e ⟨by decide, by decide, nm_e ⟨by decide, by decide, nm_e ⟨by decide, nm_e (h _ _ _ ⟨rfl, fun j hj => ?_, fun j hj => ?_⟩)⟩⟩⟩⟩
  · rcases tc_c3 hj with rfl | rfl | rfl
    · rw [pk_un (by omega), pk_un (by omega), pk_us]
    · rw [pk_un (by omega), pk_us]
    · rw [pk_us]
  · rcases tc_c2 hj with rfl | rfl
    · rw [pk_un (by omega), pk_us]
    · rw [pk_us]
theorem yh_neg1 {e : Nat} (he : e < 16) : ¬ nI e < 0 := nI_pos (by omega)
theorem yh_skip {post : Int32 → Prop} (hJ : tc_JM o L yl ye yo T) (hL : L ≤ 16) (hp : x < L) (ho : tc_op (o x)) (h : post (nI (T x))) : wpY_skip post (cp, ct, wp, mp, mt, o, a, b, ye, yl, yo, ys, dn, rq, rs, cl, wl, ws, ml, mz, yr, 34000) (nI x) := by
  unfold wpY_skip
  have vi : vp_in (nI x) 16 := vp_in_nI (by omega) (by omega)
  refine ⟨vi, ?_⟩
  rw [nI_clamp (by omega)]
  rcases (hJ _ hp).1 ho with ⟨e1, e, he, e2, e3⟩ | ⟨_, e, he, e2, e3⟩
  · refine br_t (by rw [e1]; decide) ⟨vi, ?_⟩
    rw [e2, nI_1, ← e3]; exact h
  · refine br_f (by rw [e2]; exact nI_pos (by omega)) ⟨vi, ?_⟩
    rw [e2, nI_1, ← e3]; exact h
theorem yh_step {post : Int32 → SY → Prop} (hV : tc_VP o a b L) (hD : tc_VD rq rs cl) (hJ : tc_JM o L yl ye yo T) (hL : L ≤ 16) (hc : c < 34000) (hp : c / 2000 < L) (hW : tc_W wp wl ws c)
    (h1 : tc_F o a b dn rq rs cl c ≠ 0 → post (nI (tc_F o a b dn rq rs cl c)) (cp, nI L, wp, mp, mt, o, a, b, ye, yl, yo, ys, dn, rq, rs, cl, wl, ws, ml, mz, yr, 34000))
    (h0 : tc_F o a b dn rq rs cl c = 0 → ∀ (wp : Int32) (wl ws : Nat → Int32), tc_W wp wl ws (tc_N o a b rs cl T c d) → post 0 (cp, nI L, wp, mp, mt, o, a, b, ye, yl, yo, ys, dn, rq, rs, cl, wl, ws, ml, mz, yr, 34000)) : wpY_step post (cp, nI L, wp, mp, mt, o, a, b, ye, yl, yo, ys, dn, rq, rs, cl, wl, ws, ml, mz, yr, 34000) d := by
  have ewp := hW.1
  subst ewp
  unfold wpY_step
  have vi : vp_in (nI (c / 2000)) 16 := vp_in_nI (by omega) (by omega)
  have ci := nI_clamp (n := c / 2000) (by omega)
  have p1 : nI (c / 2000) + 1 = nI (c / 2000 + 1) := nI_1 _
  refine br_f (nI_pos (by omega)) (br_t (nI_lt hp (by omega)) ⟨vi, ?_⟩)
  rw [ci]
  rcases hV _ hp with ⟨ho, x, y, hx, hy, ea, eb⟩ | ⟨ho, x, y, hx, hy, hn, ea, eb⟩ | ⟨ho, x, y, hx, hy, hn, ea, eb⟩ | ⟨ho, x, hx, ea⟩ | ho | ⟨ho, x, y, hx, hy, ea, eb⟩ | ho | ho | ho
  · obtain ⟨e1, e2⟩ := tc_F1 (dn := dn) (rq := rq) (rs := rs) (cl := cl) (T := T) (d := d) ho ea eb hx hy
    rw [e1, e2] at h0
    rw [e1] at h1
    have hv := tc_l_lt c x
    have hb := tc_ob_lt (tc_l c x)
    refine nm_r ho ⟨vi, nm_r ea ⟨vi, nm_r eb (br_t rfl ⟨vp_in_nI hx (by omega), ?_⟩)⟩⟩
    rw [nI_clamp (by omega)]
    refine nm_r (hW.2.1 x hx) ?_
    by_cases z1 : tc_l c x = 0
    · refine br_t (by rw [z1]; rfl) ?_
      have e : tc_Fc dn rq rs cl c x y = 1 := if_pos z1
      rw [e] at h1; exact h1 (by omega)
    refine br_f (nI_ne0 (by omega) (by omega)) ⟨by decide, nm_r (yh_ob z1 hv) ⟨vp_in_nI hb (by omega), ?_⟩⟩
    have hk := tc_k_lt hD (v := tc_l c x) hy
    obtain ⟨q, hq, eq⟩ := hD.2.2 _ hb
    obtain ⟨r2, hr2, er2⟩ := hD.2.1 _ hk
    have ek : cl (nI (tc_ob (tc_l c x))).toNatClampNeg * 4 + nI y = nI (tc_k cl (tc_l c x) y) := by
      rw [nI_clamp (by omega), eq]
      show nI q * nI 4 + nI y = _
      rw [pk_mul, nI_add]
      unfold tc_k
      rw [eq, nI_clamp (by omega)]
    have ck := nI_clamp (n := tc_k cl (tc_l c x) y) (by omega)
    have cb := nI_clamp (n := tc_ob (tc_l c x)) (by omega)
    have vk : vp_in (nI (tc_k cl (tc_l c x) y)) 8 := vp_in_nI hk (by omega)
    refine nm_r ek ⟨vk, ?_⟩
    rw [ck, cb, hW.2.2 _ hb]
    by_cases z2 : dn (tc_k cl (tc_l c x) y) = 0
    · refine br_t z2 ?_
      have e : tc_Fc dn rq rs cl c x y = 2 := (if_neg z1).trans (if_pos z2)
      rw [e] at h1; exact h1 (by omega)
    refine br_f z2 ⟨vp_in_nI hb (by omega), vk, ?_⟩
    by_cases z3 : nI (tc_s c (tc_ob (tc_l c x))) = rq (tc_k cl (tc_l c x) y)
    · refine br_t z3 ⟨vk, vk, ?_⟩
      have fin : tc_Fc dn rq rs cl c x y = 0 → wY_step_147 post (nI (c / 2000)) (nI (tc_ob (tc_l c x))) (nI (tc_k cl (tc_l c x) y)) cp (nI L) (nI (c / 2000)) mp mt o a b ye yl yo ys dn rq rs cl wl ws ml mz yr 34000 := by
        intro hf
        unfold wY_step_147
        refine ⟨vk, vp_in_nI hb (by omega), ?_⟩
        rw [ck, cb, er2]
        refine nm_e (nm_r p1 (h0 hf _ _ _ ?_))
        have w := tc_W_1 (tc_W_s hW hb hr2)
        rw [(tc_ws_d hb hr2).1] at w
        unfold tc_Nc
        rw [er2, nI_clamp (by omega)]
        exact w
      by_cases z4 : rs (tc_k cl (tc_l c x) y) = rq (tc_k cl (tc_l c x) y)
      · exact br_t z4 (fin ((if_neg z1).trans ((if_neg z2).trans ((if_neg (fun w => w z3)).trans (if_neg (fun w => w.1 z4))))))
      · refine br_f z4 ⟨by decide, ?_⟩
        rw [yh_pm z1 hv]
        by_cases z5 : tc_pm (tc_l c x) = 2
        · exact br_t (by rw [z5]; rfl) (fin ((if_neg z1).trans ((if_neg z2).trans ((if_neg (fun w => w z3)).trans (if_neg (fun w => w.2 z5))))))
        · have hp' := tc_pm_lt hv
          refine br_f (fun w => z5 ((nI_eq (b := 2) (by omega) (by omega)).mp w)) ?_
          have e : tc_Fc dn rq rs cl c x y = 4 := (if_neg z1).trans ((if_neg z2).trans ((if_neg (fun w => w z3)).trans (if_pos ⟨z4, z5⟩)))
          rw [e] at h1; exact h1 (by omega)
    · refine br_f z3 ?_
      have e : tc_Fc dn rq rs cl c x y = 3 := (if_neg z1).trans ((if_neg z2).trans (if_pos z3))
      rw [e] at h1; exact h1 (by omega)
  · obtain ⟨e1, e2⟩ := tc_F2 (dn := dn) (rq := rq) (rs := rs) (cl := cl) (T := T) (d := d) ho ea eb hx (by omega)
    rw [e1, e2] at h0
    rw [e1] at h1
    have hv := tc_l_lt c y
    have hw := tc_l_lt c x
    have hb := tc_ob_lt (tc_l c y)
    refine nm_r ho ⟨vi, nm_r ea ⟨vi, nm_r eb (br_f (by decide) (br_t rfl ⟨vp_in_nI hy (by omega), ?_⟩))⟩⟩
    rw [nI_clamp (by omega), nI_clamp (by omega)]
    refine nm_r (hW.2.1 y hy) ?_
    by_cases z1 : tc_l c y = 0
    · refine br_t (by rw [z1]; rfl) ?_
      have e : tc_Fs c x y = 1 := if_pos z1
      rw [e] at h1; exact h1 (by omega)
    refine br_f (nI_ne0 (by omega) (by omega)) ⟨vp_in_nI hx (by omega), ?_⟩
    rw [hW.2.1 x hx]
    by_cases z2 : tc_l c x = 0
    · refine br_t (by rw [z2]; rfl) ⟨by decide, ?_⟩
      rw [yh_pm z1 hv]
      by_cases z3 : tc_pm (tc_l c y) = 2
      · refine br_t (by rw [z3]; rfl) ⟨by decide, nm_r (yh_ob z1 hv) ⟨vp_in_nI hx (by omega), ?_⟩⟩
        have eh : (2 : Int32) * nI (tc_ob (tc_l c y)) + 1 = nI (tc_h c y) := by
          show nI 2 * nI _ + nI 1 = _
          rw [pk_mul, nI_add]; rfl
        rw [eh]
        refine nm_e ⟨vp_in_nI hy (by omega), nm_e (nm_r p1 ?_)⟩
        have hf : tc_Fs c x y = 0 := (if_neg z1).trans ((if_neg (fun w => w z2)).trans (if_neg (fun w => w z3)))
        refine h0 hf _ _ _ ?_
        rw [tc_upd_comm hn]
        have w := tc_W_1 (tc_W_l (tc_W_l hW hy (tc_h_lt c y)) hx (tc_h_lt c y))
        rw [(tc_wl_d hx (tc_h_lt c y)).1, (tc_wl_d hy (tc_h_lt c y)).1] at w
        exact w
      · have hp' := tc_pm_lt hv
        refine br_f (fun w => z3 ((nI_eq (b := 2) (by omega) (by omega)).mp w)) ?_
        have e : tc_Fs c x y = 6 := (if_neg z1).trans ((if_neg (fun w => w z2)).trans (if_pos z3))
        rw [e] at h1; exact h1 (by omega)
    · refine br_f (nI_ne0 (by omega) (by omega)) ?_
      have e : tc_Fs c x y = 5 := (if_neg z1).trans (if_pos z2)
      rw [e] at h1; exact h1 (by omega)
  · obtain ⟨e1, e2⟩ := tc_F3 (dn := dn) (rq := rq) (rs := rs) (cl := cl) (T := T) (d := d) ho ea eb hx (by omega)
    rw [e1, e2] at h0
    rw [e1] at h1
    have hv := tc_l_lt c y
    have hw := tc_l_lt c x
    have hb := tc_ob_lt (tc_l c x)
    have hb2 := tc_ob_lt (tc_l c y)
    refine nm_r ho ⟨vi, nm_r ea ⟨vi, nm_r eb (br_f (by decide) (br_f (by decide) (br_t rfl ⟨vp_in_nI hx (by omega), ?_⟩)))⟩⟩
    rw [nI_clamp (by omega), nI_clamp (by omega)]
    refine nm_r (hW.2.1 x hx) ⟨vp_in_nI hy (by omega), nm_r (hW.2.1 y hy) ?_⟩
    by_cases z1 : tc_l c x = 0
    · refine br_t (by rw [z1]; rfl) ?_
      have e : tc_Fm c x y = 1 := if_pos z1
      rw [e] at h1; exact h1 (by omega)
    refine br_f (nI_ne0 (by omega) (by omega)) ?_
    by_cases z2 : tc_l c y = 0
    · refine br_t (by rw [z2]; rfl) ?_
      have e : tc_Fm c x y = 1 := (if_neg z1).trans (if_pos z2)
      rw [e] at h1; exact h1 (by omega)
    refine br_f (nI_ne0 (by omega) (by omega)) ⟨by decide, by decide, ?_⟩
    obtain ⟨r, er, er2⟩ := yh_rem z2 hv
    rw [yh_pm z1 hw, er, yh_ob z1 hw, yh_ob z2 hv]
    by_cases z3 : tc_ob (tc_l c x) = tc_ob (tc_l c y)
    · have es : nI (tc_pm (tc_l c x)) + nI r + 1 = nI (tc_pm (tc_l c x) + tc_pm (tc_l c y)) := by
        rw [nI_add, nI_1, ← er2, Nat.add_assoc]
      have hp1 := tc_pm_lt hw
      have hp2 := tc_pm_lt hv
      have hm := tc_e_ms _ hw _ hv z1 z2
      refine br_t (by rw [z3]) ⟨by decide, by decide, nm_r es ?_⟩
      have fin : wY_step_344 post (nI (c / 2000)) (nI x) (nI y) (nI (tc_l c x)) (nI (tc_ms (tc_l c x) (tc_l c y))) cp (nI L) (nI (c / 2000)) mp mt o a b ye yl yo ys dn rq rs cl wl ws ml mz yr 34000 := by
        unfold wY_step_344
        have eh : (2 : Int32) * ((nI (tc_l c x) - 1) / 2) + nI (tc_ms (tc_l c x) (tc_l c y)) = nI (2 * tc_ob (tc_l c x) + tc_ms (tc_l c x) (tc_l c y)) := by
          rw [yh_ob z1 hw]
          show nI 2 * nI _ + nI _ = _
          rw [pk_mul, nI_add]
        refine ⟨by decide, vp_in_nI hx (by omega), ?_⟩
        rw [nI_clamp (by omega), nI_clamp (by omega), eh]
        refine nm_e ⟨vp_in_nI hy (by omega), nm_e (nm_r p1 ?_)⟩
        have hf : tc_Fm c x y = 0 := (if_neg z1).trans ((if_neg z2).trans (if_neg (fun w => w z3)))
        refine h0 hf _ _ _ ?_
        have w := tc_W_1 (tc_W_l (v := 0) (tc_W_l hW hx hm) hy (by omega))
        rw [(tc_wl_d hy (show 0 < 5 by omega)).1, (tc_wl_d hx hm).1] at w
        exact w
      by_cases z4 : 2 < tc_pm (tc_l c x) + tc_pm (tc_l c y)
      · refine br_f (nI_ge z4 (by omega)) ?_
        rw [tc_ms, if_pos z4] at fin; exact fin
      · refine br_t (nI_le (b := 2) (by omega) (by omega)) ?_
        rw [tc_ms, if_neg z4] at fin; exact fin
    · refine br_f (fun w => z3 ((nI_eq (by omega) (by omega)).mp w)) ?_
      have e : tc_Fm c x y = 7 := (if_neg z1).trans ((if_neg z2).trans (if_pos z3))
      rw [e] at h1; exact h1 (by omega)
  · obtain ⟨e1, e2⟩ := tc_F4 (b := b) (dn := dn) (rq := rq) (rs := rs) (cl := cl) (T := T) (d := d) ho ea hx
    rw [e2] at h0
    refine nm_r ho ⟨vi, nm_r ea ⟨vi, nm_e (br_f (by decide) (br_f (by decide) (br_f (by decide) (br_t rfl ⟨vp_in_nI hx (by omega), ?_⟩))))⟩⟩
    rw [nI_clamp (by omega)]
    refine nm_e (nm_r p1 (h0 e1 _ _ _ ?_))
    have w := tc_W_1 (tc_W_l (v := 0) hW hx (by omega))
    rw [(tc_wl_d hx (show 0 < 5 by omega)).1] at w
    exact w
  · obtain ⟨e1, e2⟩ := tc_F5 (a := a) (b := b) (dn := dn) (rq := rq) (rs := rs) (cl := cl) (T := T) (d := d) ho
    rw [e2] at h0
    refine nm_r ho ⟨vi, nm_e ⟨vi, nm_e (br_f (by decide) (br_f (by decide) (br_f (by decide) (br_f (by decide) (br_t rfl ?_)))))⟩⟩
    by_cases hd : d = 1
    · rw [if_pos hd] at h0
      exact br_t hd (nm_r p1 (h0 e1 _ _ _ (tc_W_1 hW)))
    · rw [if_neg hd] at h0
      exact br_f hd (yh_skip hJ hL hp (Or.inl ho) (h0 e1 _ _ _ (tc_W_p hW _)))
  · obtain ⟨e1, e2⟩ := tc_F6 (dn := dn) (rq := rq) (rs := rs) (cl := cl) (T := T) (d := d) ho ea eb hx hy
    rw [e1, e2] at h0
    rw [e1] at h1
    have hv := tc_l_lt c x
    have hb := tc_ob_lt (tc_l c x)
    have hs := tc_s_lt c (tc_ob (tc_l c x))
    refine nm_r ho ⟨vi, nm_r ea ⟨vi, nm_r eb (br_f (by decide) (br_f (by decide) (br_f (by decide) (br_f (by decide) (br_f (by decide) (br_t rfl ⟨vp_in_nI hx (by omega), ?_⟩))))))⟩⟩
    rw [nI_clamp (by omega)]
    refine nm_r (hW.2.1 x hx) ?_
    by_cases z1 : tc_l c x = 0
    · refine br_t (by rw [z1]; rfl) ?_
      have e : tc_Fi c x = 1 := if_pos z1
      rw [e] at h1; exact h1 (by omega)
    have hf : tc_Fi c x = 0 := if_neg z1
    refine br_f (nI_ne0 (by omega) (by omega)) ⟨by decide, ?_⟩
    rw [yh_ob z1 hv, nI_clamp (by omega), hW.2.2 _ hb]
    refine ⟨vp_in_nI hb (by omega), ?_⟩
    rw [tc_Ni] at h0
    by_cases z2 : tc_s c (tc_ob (tc_l c x)) = y
    · rw [if_pos z2] at h0
      exact br_t (by rw [z2]) (nm_r p1 (h0 hf _ _ _ (tc_W_1 hW)))
    · rw [if_neg z2] at h0
      exact br_f (fun w => z2 ((nI_eq (by omega) (by omega)).mp w)) (yh_skip hJ hL hp (Or.inr (Or.inl ho)) (h0 hf _ _ _ (tc_W_p hW _)))
  · obtain ⟨e1, e2⟩ := tc_F7 (a := a) (b := b) (dn := dn) (rq := rq) (rs := rs) (cl := cl) (T := T) (d := d) ho
    rw [e2] at h0
    obtain ⟨t, e, ht, he, et, ee, eT⟩ := (hJ _ hp).2.1 ho
    refine nm_r ho ⟨vi, nm_e ⟨vi, nm_e (br_f (by decide) (br_f (by decide) (br_f (by decide) (br_f (by decide) (br_f (by decide) (br_f (by decide) (br_f (by decide) ⟨vi, nm_r et (br_t (nI_pos' (by omega)) (br_t rfl ⟨vp_in_nI (by omega) (by omega), ?_⟩))⟩)))))))⟩⟩
    rw [nI_clamp (by omega), ee, nI_1, ← eT]
    exact nm_e (h0 e1 _ _ _ (tc_W_p hW _))
  · obtain ⟨e1, e2⟩ := tc_F8 (a := a) (b := b) (dn := dn) (rq := rq) (rs := rs) (cl := cl) (T := T) (d := d) ho
    rw [e2] at h0
    refine nm_r ho ⟨vi, nm_e ⟨vi, nm_e (br_f (by decide) (br_f (by decide) (br_f (by decide) (br_f (by decide) (br_f (by decide) (br_f (by decide) (br_t rfl ?_)))))))⟩⟩
    by_cases hd : d = 1
    · rw [if_pos hd] at h0
      exact br_t hd (nm_r p1 (h0 e1 _ _ _ (tc_W_1 hW)))
    · rw [if_neg hd] at h0
      refine br_f hd ⟨vi, ?_⟩
      rcases (hJ _ hp).1 (Or.inr (Or.inr ho)) with ⟨f1, e, he, f2, f3⟩ | ⟨f1, _⟩
      · rw [f2, nI_1, ← f3]
        exact nm_e (h0 e1 _ _ _ (tc_W_p hW _))
      · exact absurd ho f1
  · obtain ⟨e1, e2⟩ := tc_F9 (a := a) (b := b) (dn := dn) (rq := rq) (rs := rs) (cl := cl) (T := T) (d := d) ho
    rw [e2] at h0
    obtain ⟨t, ht, et, hh⟩ := (hJ _ hp).2.2 ho
    refine nm_r ho ⟨vi, nm_e ⟨vi, nm_e (br_f (by decide) (br_f (by decide) (br_f (by decide) (br_f (by decide) (br_f (by decide) (br_f (by decide) (br_f (by decide) ⟨vi, nm_r et (br_t (nI_pos' (by omega)) (br_f (by decide) ⟨vp_in_nI (by omega) (by omega), ?_⟩))⟩)))))))⟩⟩
    rw [nI_clamp (by omega)]
    have w := h0 e1 _ _ _ (tc_W_p hW _)
    rcases hh with ⟨f1, f2⟩ | ⟨f1, f2⟩
    · rw [f2] at w
      exact br_t f1 w
    · rw [f2] at w
      exact br_f f1 (nm_r p1 w)
end
end
section
/-! Y's expansion of one configuration, its passes, its fault at one -/
section
variable {cp ct wp mp mt : Int32} {o a b ye yl yo ys dn rq rs cl wl ws ml mz yr : Nat → Int32} {c x y L n i : Nat} {T : Nat → Nat} {d : Int32}
theorem yh_ex1 {post : Int32 → SY → Prop} {m : Nat} {x2 d d' : Int32} (hV : tc_VP o a b L) (hD : tc_VD rq rs cl) (hJ : tc_JM o L yl ye yo T) (hL : L ≤ 16) (hR : tc_R L (tc_F o a b dn rq rs cl) (tc_N o a b rs cl T) c) (hp : c / 2000 < L) (hd : ¬ 2 ≤ d) (hd' : d + 1 = d')
    (h1 : tc_F o a b dn rq rs cl c ≠ 0 → ∀ (wp : Int32) (wl ws : Nat → Int32), wY_expand_4 post (nI c) m x2 d' cp (nI L) wp mp mt o a b ye yl yo ys dn rq rs cl wl ws ml mz yr 34000)
    (h2 : tc_F o a b dn rq rs cl c = 0 → yr (tc_N o a b rs cl T c d) ≠ 0 → ∀ (wp : Int32) (wl ws : Nat → Int32), wY_expand_4 post (nI c) m x2 d' cp (nI L) wp mp mt o a b ye yl yo ys dn rq rs cl wl ws ml mz yr 34000)
    (h3 : tc_F o a b dn rq rs cl c = 0 → yr (tc_N o a b rs cl T c d) = 0 → ∀ (wp : Int32) (wl ws : Nat → Int32), wY_expand_4 post (nI c) m 1 d' cp (nI L) wp mp mt o a b ye yl yo ys dn rq rs cl wl ws ml mz (upd yr (tc_N o a b rs cl T c d) 1) 34000) :
    wY_expand_4 post (nI c) (m + 1) x2 d cp (nI L) wp mp mt o a b ye yl yo ys dn rq rs cl wl ws ml mz yr 34000 := by
  have hI := tc_RI hV hD (tc_JM_T hJ) hR
  rw [wY_expand_4]
  refine br_f hd (yh_load (by omega) (fun wp wl ws hW => yh_step hV hD hJ hL (by omega) hp hW (fun hf => ?_) (fun hf wp' wl' ws' hW' => ?_)))
  · have hle := tc_F_le (o := o) (a := a) (b := b) (dn := dn) (rq := rq) (rs := rs) (cl := cl) c
    exact br_f (nI_ne0 (by omega) (by omega)) (nm_r hd' (h1 hf _ _ _))
  · have hN := tc_RI hV hD (tc_JM_T hJ) (tc_RS d hR hp hf)
    have hNl : tc_N o a b rs cl T c d < 34000 := by omega
    refine br_t rfl (nm_r (tc_W_pack hW') (br_f (nI_pos (by omega)) (br_f (nI_ge (b := 34000) hNl (by omega)) ⟨vp_in_nI hNl (by omega), ?_⟩)))
    rw [nI_clamp (by omega), tc_vb1]
    by_cases z : yr (tc_N o a b rs cl T c d) = 0
    · exact br_t z ⟨vp_in_nI hNl (by omega), nm_e (nm_r hd' (h3 hf z _ _ _))⟩
    · exact br_f z (nm_r hd' (h2 hf z _ _ _))
theorem yh_expand {post : Int32 → SY → Prop} (hV : tc_VP o a b L) (hD : tc_VD rq rs cl) (hJ : tc_JM o L yl ye yo T) (hL : L ≤ 16) (hY : tc_YI L (tc_F o a b dn rq rs cl) (tc_N o a b rs cl T) yr) (hR : tc_R L (tc_F o a b dn rq rs cl) (tc_N o a b rs cl T) c) (hp : c / 2000 < L)
    (h : ∀ (r wp : Int32) (wl ws yr' : Nat → Int32), tc_YE L (tc_F o a b dn rq rs cl) (tc_N o a b rs cl T) c yr yr' r → post r (cp, nI L, wp, mp, mt, o, a, b, ye, yl, yo, ys, dn, rq, rs, cl, wl, ws, ml, mz, yr', 34000)) : wpY_expand post (cp, nI L, wp, mp, mt, o, a, b, ye, yl, yo, ys, dn, rq, rs, cl, wl, ws, ml, mz, yr, 34000) (nI c) := by
  unfold wpY_expand
  have hb : ∀ d, tc_F o a b dn rq rs cl c = 0 → tc_N o a b rs cl T c d < 34000 := by
    intro d hf
    have := tc_RI hV hD (tc_JM_T hJ) (tc_RS d hR hp hf)
    omega
  have n1 : ¬ (1 : Int32) = 0 := by decide
  have fin : ∀ (r wp : Int32) (wl ws yr' : Nat → Int32), (r = 0 ∨ r = 1) → tc_YE L (tc_F o a b dn rq rs cl) (tc_N o a b rs cl T) c yr yr' r → wY_expand_4 post (nI c) 1 r 2 cp (nI L) wp mp mt o a b ye yl yo ys dn rq rs cl wl ws ml mz yr' 34000 := by
    intro r wp wl ws yr' hr hE
    rw [wY_expand_4]
    refine br_t (by decide) ⟨?_, h r wp wl ws yr' hE⟩
    rcases hr with rfl | rfl <;> rfl
  refine ⟨3, yh_ex1 hV hD hJ hL hR hp (d := 0) (d' := 1) (by decide) (by decide) ?_ ?_ ?_⟩
  · intro hf wp wl ws
    refine yh_ex1 hV hD hJ hL hR hp (d := 1) (d' := 2) (by decide) (by decide) ?_ ?_ ?_
    · intro _ wp wl ws
      exact fin 0 wp wl ws yr (Or.inl rfl) ⟨hY, Nat.le_refl _, Or.inl ⟨rfl, rfl, fun w => absurd w hf⟩⟩
    · intro w; exact absurd w hf
    · intro w; exact absurd w hf
  · intro hf z0 wp wl ws
    refine yh_ex1 hV hD hJ hL hR hp (d := 1) (d' := 2) (by decide) (by decide) ?_ ?_ ?_
    · intro w; exact absurd hf w
    · intro _ z1 wp wl ws
      exact fin 0 wp wl ws yr (Or.inl rfl) ⟨hY, Nat.le_refl _, Or.inl ⟨rfl, rfl, fun _ => ⟨z0, z1⟩⟩⟩
    · intro _ z1 wp wl ws
      have e := tc_n_upd n1 z1 34000 (hb 1 hf)
      exact fin 1 wp wl ws _ (Or.inr rfl) ⟨tc_YI_a hY n1 (tc_RS 1 hR hp hf), by omega, Or.inr ⟨rfl, by omega⟩⟩
  · intro hf z0 wp wl ws
    have e := tc_n_upd n1 z0 34000 (hb 0 hf)
    have hY1 := tc_YI_a hY n1 (tc_RS 0 hR hp hf)
    refine yh_ex1 hV hD hJ hL hR hp (d := 1) (d' := 2) (by decide) (by decide) ?_ ?_ ?_
    · intro w; exact absurd hf w
    · intro _ z1 wp wl ws
      exact fin 1 wp wl ws _ (Or.inr rfl) ⟨hY1, by omega, Or.inr ⟨rfl, by omega⟩⟩
    · intro _ z1 wp wl ws
      have e' := tc_n_upd n1 z1 34000 (hb 1 hf)
      exact fin 1 wp wl ws _ (Or.inr rfl) ⟨tc_YI_a hY1 n1 (tc_RS 1 hR hp hf), by omega, Or.inr ⟨rfl, by omega⟩⟩
theorem yh_l2 (L : Nat) : nI L * 2000 = nI (L * 2000) := pk_mul L 2000
theorem yh_pass {post : SY → Prop} {J : Int32 → Int32 → Int32 → Int32 → Int32 → Int32 → (Nat → Int32) → (Nat → Int32) → (Nat → Int32) → (Nat → Int32) → (Nat → Int32) → (Nat → Int32) → (Nat → Int32) → (Nat → Int32) → (Nat → Int32) → (Nat → Int32) → (Nat → Int32) → (Nat → Int32) → (Nat → Int32) → (Nat → Int32) → (Nat → Int32) → (Nat → Int32) → Nat → Prop} {x1 : Int32} {n0 : Nat}
    (hV : tc_VP o a b L) (hD : tc_VD rq rs cl) (hJ : tc_JM o L yl ye yo T) (hL : L ≤ 16)
    (h0 : ∀ (wp : Int32) (wl ws yr : Nat → Int32), tc_YP L (tc_F o a b dn rq rs cl) (tc_N o a b rs cl T) n0 (L * 2000) yr 0 → post (cp, nI L, wp, mp, mt, o, a, b, ye, yl, yo, ys, dn, rq, rs, cl, wl, ws, ml, mz, yr, 34000))
    (h1 : ∀ (wp : Int32) (wl ws yr : Nat → Int32), tc_YI L (tc_F o a b dn rq rs cl) (tc_N o a b rs cl T) yr → n0 < tc_n yr 34000 → J (x1 + 1) cp (nI L) wp mp mt o a b ye yl yo ys dn rq rs cl wl ws ml mz yr 34000) :
    ∀ (m i : Nat) (ch wp : Int32) (wl ws yr : Nat → Int32), L * 2000 < m + i → i ≤ L * 2000 → tc_YP L (tc_F o a b dn rq rs cl) (tc_N o a b rs cl T) n0 i yr ch → wY_compute_42 post J x1 m ch (nI i) cp (nI L) wp mp mt o a b ye yl yo ys dn rq rs cl wl ws ml mz yr 34000 := by
  intro m
  induction m with
  | zero => intro i ch wp wl ws yr g1 g2; omega
  | succ m ih =>
    intro i ch wp wl ws yr g1 g2 hP
    rw [wY_compute_42]
    by_cases e : i = L * 2000
    · refine br_t (by rw [yh_l2, e]; exact nI_le (Nat.le_refl _) (by omega)) ?_
      rw [e] at hP
      rcases hP.2.2 with ⟨z, _⟩ | ⟨z, w⟩
      · rw [z] at hP ⊢
        exact br_t rfl (h0 wp wl ws yr hP)
      · rw [z]
        exact br_f (by decide) (nm_e (h1 wp wl ws yr hP.1 w))
    · refine br_f (by rw [yh_l2]; exact nI_ge (by omega) (by omega)) ⟨vp_in_nI (by omega) (by omega), ?_⟩
      rw [nI_clamp (by omega)]
      by_cases z : yr i = 0
      · exact br_t z (nm_r (nI_1 i) (ih (i + 1) ch wp wl ws yr (by omega) (by omega) (tc_YP_n hP z)))
      · have hR := hP.1.2 i (by omega) z
        refine br_f z (yh_expand hV hD hJ hL hP.1 hR (by omega) (fun r wp wl ws yr' hE => ?_))
        rcases hE.2.2 with ⟨hr, _, _⟩ | ⟨hr, _⟩
        · subst hr
          exact br_t rfl (nm_r (nI_1 i) (ih (i + 1) ch wp wl ws yr' (by omega) (by omega) (tc_YP_f hP hE)))
        · subst hr
          exact br_f (by decide) (nm_r (nI_1 i) (ih (i + 1) 1 wp wl ws yr' (by omega) (by omega) (tc_YP_t hP hE)))
theorem yh_passes {post : SY → Prop} (hV : tc_VP o a b L) (hD : tc_VD rq rs cl) (hJ : tc_JM o L yl ye yo T) (hL : L ≤ 16)
    (h : ∀ (wp : Int32) (wl ws yr : Nat → Int32), (∀ c, c < 34000 → (yr c ≠ 0 ↔ tc_R L (tc_F o a b dn rq rs cl) (tc_N o a b rs cl T) c)) → post (cp, nI L, wp, mp, mt, o, a, b, ye, yl, yo, ys, dn, rq, rs, cl, wl, ws, ml, mz, yr, 34000)) :
    ∀ (m k : Nat) (wp : Int32) (wl ws yr : Nat → Int32), 34001 < m + k → k < tc_n yr 34000 → tc_YI L (tc_F o a b dn rq rs cl) (tc_N o a b rs cl T) yr → wY_compute_32 post m (nI k) cp (nI L) wp mp mt o a b ye yl yo ys dn rq rs cl wl ws ml mz yr 34000 := by
  have hb : ∀ c, tc_R L (tc_F o a b dn rq rs cl) (tc_N o a b rs cl T) c → c < 34000 := by
    intro c hr
    have := tc_RI hV hD (tc_JM_T hJ) hr
    omega
  intro m
  induction m with
  | zero =>
    intro k wp wl ws yr g1 g2
    have := tc_n_le yr 34000
    omega
  | succ m ih =>
    intro k wp wl ws yr g1 g2 hY
    have q := tc_n_le yr 34000
    rw [wY_compute_32]
    refine br_f (nI_nlt (a := 34000) (by omega) (by omega)) ⟨L * 2000 + 1, ?_⟩
    refine yh_pass (n0 := tc_n yr 34000) hV hD hJ hL ?_ ?_ (L * 2000 + 1) 0 0 wp wl ws yr (by omega) (by omega) (tc_YP_0 hY)
    · intro wp wl ws yr' hP
      exact h wp wl ws yr' (tc_YP_e hP hb (fun c d => tc_N01 c d))
    · intro wp wl ws yr' hY' hn
      rw [nI_1]
      exact ih (k + 1) wp wl ws yr' (by omega) (by omega) hY'
theorem yh_fill {post : SY → Prop} (hV : tc_VP o a b L) (hD : tc_VD rq rs cl) (hJ : tc_JM o L yl ye yo T) (hL : L ≤ 16)
    (h : ∀ (wp : Int32) (wl ws yr : Nat → Int32), (∀ c, c < 34000 → (yr c ≠ 0 ↔ tc_R L (tc_F o a b dn rq rs cl) (tc_N o a b rs cl T) c)) → post (cp, nI L, wp, mp, mt, o, a, b, ye, yl, yo, ys, dn, rq, rs, cl, wl, ws, ml, mz, yr, 34000)) :
    ∀ (m i : Nat) (yr : Nat → Int32), 34000 < m + i → i ≤ 34000 → (∀ c, c < i → yr c = 0) → wY_compute_2 post cp (nI L) wp mp mt 34000 m (nI i) o a b ye yl yo ys dn rq rs cl wl ws ml mz yr := by
  intro m
  induction m with
  | zero => intro i yr g1 g2; omega
  | succ m ih =>
    intro i yr g1 g2 hz
    rw [wY_compute_2]
    by_cases e : i = 34000
    · refine br_t (by rw [e]; exact nI_le (a := 34000) (b := 34000) (by omega) (by omega)) ⟨vp_in_nI (n := 1120) (by omega) (by omega), ?_⟩
      rw [show (1120 : Int32).toNatClampNeg = 1120 from by decide, tc_vb1]
      rw [e] at hz
      refine nm_e ⟨34002, ?_⟩
      have hY := tc_YI_0 (L := L) (F := tc_F o a b dn rq rs cl) (N := tc_N o a b rs cl T) hz (x := 1) (by decide)
      have hn := tc_n_upd (f := yr) (j := 1120) (x := 1) (by decide) (hz 1120 (by omega)) 34000 (by omega)
      exact yh_passes hV hD hJ hL h 34002 0 _ _ _ _ (by omega) (by omega) hY
    · refine br_f (nI_ge (b := 34000) (by omega) (by omega)) ⟨vp_in_nI (by omega) (by omega), ?_⟩
      rw [nI_clamp (by omega), tc_vb0]
      refine nm_e (nm_r (nI_1 i) (ih (i + 1) _ (by omega) (by omega) (fun c hc => ?_)))
      by_cases ec : c = i
      · rw [ec, pk_us]
      · rw [pk_un ec]; exact hz c (by omega)
theorem yh_compute {post : SY → Prop} (hV : tc_VP o a b L) (hD : tc_VD rq rs cl) (hJ : tc_JM o L yl ye yo T) (hL : L ≤ 16)
    (h : ∀ (wp : Int32) (wl ws yr : Nat → Int32), (∀ c, c < 34000 → (yr c ≠ 0 ↔ tc_R L (tc_F o a b dn rq rs cl) (tc_N o a b rs cl T) c)) → post (cp, nI L, wp, mp, mt, o, a, b, ye, yl, yo, ys, dn, rq, rs, cl, wl, ws, ml, mz, yr, 34000)) : wpY_compute post (cp, nI L, wp, mp, mt, o, a, b, ye, yl, yo, ys, dn, rq, rs, cl, wl, ws, ml, mz, yr, 34000) := by
  unfold wpY_compute
  exact ⟨34001, yh_fill hV hD hJ hL h 34001 0 yr (by omega) (by omega) (fun c hc => absurd hc (by omega))⟩
theorem yh_faultAt {post : Int32 → SY → Prop} (hV : tc_VP o a b L) (hD : tc_VD rq rs cl) (hJ : tc_JM o L yl ye yo T) (hL : L ≤ 16) (hc : c < 34000) (hp : c / 2000 < L)
    (h : ∀ (wp : Int32) (wl ws : Nat → Int32), post (nI (tc_F o a b dn rq rs cl c)) (cp, nI L, wp, mp, mt, o, a, b, ye, yl, yo, ys, dn, rq, rs, cl, wl, ws, ml, mz, yr, 34000)) : wpY_faultAt post (cp, nI L, wp, mp, mt, o, a, b, ye, yl, yo, ys, dn, rq, rs, cl, wl, ws, ml, mz, yr, 34000) (nI c) := by
  unfold wpY_faultAt
  refine yh_load (by omega) (fun wp wl ws hW => yh_step hV hD hJ hL hc hp hW (fun hf => h _ _ _) (fun hf wp' wl' ws' hW' => ?_))
  have q := h wp' wl' ws'
  rw [hf] at q
  exact q
end
end
section
/-! the two scans, a statement at a time -/
section
variable {cp ct wf rc fp fc mc ms wp mp mt : Int32} {dn rq rs cl o a b xl xe xo xb ir rd ye yl yo ys wl ws ml mz yr : Nat → Int32} {L i dp t m : Nat}
theorem xm_open {post : Int32 → SX → Prop} (hi : i < L) (hL : L ≤ 16) (hd : dp ≤ i) (ho : tc_op (o i)) (h : wX_matchBlocks_4 post cp (nI L) wf rc fp fc mc ms 34000 34000 m (nI (dp + 1)) (nI (i + 1)) dn rq rs cl o a b (upd xl i (-1)) xe xo (upd xb dp (nI i)) ir rd) :
    wX_matchBlocks_4 post cp (nI L) wf rc fp fc mc ms 34000 34000 (m + 1) (nI dp) (nI i) dn rq rs cl o a b xl xe xo xb ir rd := by
  rw [wX_matchBlocks_4]
  refine br_f (nI_ge hi (by omega)) ⟨vp_in_nI (by omega) (by omega), ?_⟩
  rw [nI_clamp (by omega)]
  have k : wX_matchBlocks_36 post (wX_matchBlocks_4 post cp (nI L) wf rc fp fc mc ms 34000 34000 m) (nI dp) (nI i) cp (nI L) wf rc fp fc mc ms dn rq rs cl o a b xl xe xo xb ir rd 34000 34000 := by
    unfold wX_matchBlocks_36
    refine ⟨vp_in_nI (by omega) (by omega), ?_⟩
    rw [nI_clamp (by omega), nI_clamp (by omega)]
    exact nm_e ⟨vp_in_nI (by omega) (by omega), nm_e (nm_r (nI_1 dp) (nm_r (nI_1 i) h))⟩
  rcases ho with e | e | e
  · exact nm_r e (br_t rfl k)
  · exact nm_r e (br_f (by decide) (br_t rfl k))
  · exact nm_r e (br_f (by decide) (br_f (by decide) (br_t rfl k)))
theorem xm_skip {post : Int32 → SX → Prop} (hi : i < L) (hL : L ≤ 16) (ho : ¬ tc_op (o i)) (h7 : ¬ o i = 7) (h9 : ¬ o i = 9) (h : wX_matchBlocks_4 post cp (nI L) wf rc fp fc mc ms 34000 34000 m (nI dp) (nI (i + 1)) dn rq rs cl o a b xl xe xo xb ir rd) :
    wX_matchBlocks_4 post cp (nI L) wf rc fp fc mc ms 34000 34000 (m + 1) (nI dp) (nI i) dn rq rs cl o a b xl xe xo xb ir rd := by
  rw [wX_matchBlocks_4]
  refine br_f (nI_ge hi (by omega)) ⟨vp_in_nI (by omega) (by omega), ?_⟩
  rw [nI_clamp (by omega)]
  exact nm_e (br_f (fun e => ho (Or.inl e)) (br_f (fun e => ho (Or.inr (Or.inl e))) (br_f (fun e => ho (Or.inr (Or.inr e))) (br_f h7 (br_f h9 (nm_r (nI_1 i) h))))))
theorem xm_7 {post : Int32 → SX → Prop} (hi : i < L) (hL : L ≤ 16) (h7 : o i = 7) (h : wX_matchBlocks_68 post (wX_matchBlocks_4 post cp (nI L) wf rc fp fc mc ms 34000 34000 m) (nI dp) (nI i) 7 cp (nI L) wf rc fp fc mc ms dn rq rs cl o a b xl xe xo xb ir rd 34000 34000) :
    wX_matchBlocks_4 post cp (nI L) wf rc fp fc mc ms 34000 34000 (m + 1) (nI dp) (nI i) dn rq rs cl o a b xl xe xo xb ir rd := by
  rw [wX_matchBlocks_4]
  refine br_f (nI_ge hi (by omega)) ⟨vp_in_nI (by omega) (by omega), ?_⟩
  rw [nI_clamp (by omega)]
  exact nm_r h7 (br_f (by decide) (br_f (by decide) (br_f (by decide) (br_t rfl h))))
theorem xm_9 {post : Int32 → SX → Prop} (hi : i < L) (hL : L ≤ 16) (h9 : o i = 9) (h : wX_matchBlocks_68 post (wX_matchBlocks_4 post cp (nI L) wf rc fp fc mc ms 34000 34000 m) (nI dp) (nI i) 9 cp (nI L) wf rc fp fc mc ms dn rq rs cl o a b xl xe xo xb ir rd 34000 34000) :
    wX_matchBlocks_4 post cp (nI L) wf rc fp fc mc ms 34000 34000 (m + 1) (nI dp) (nI i) dn rq rs cl o a b xl xe xo xb ir rd := by
  rw [wX_matchBlocks_4]
  refine br_f (nI_ge hi (by omega)) ⟨vp_in_nI (by omega) (by omega), ?_⟩
  rw [nI_clamp (by omega)]
  exact nm_r h9 (br_f (by decide) (br_f (by decide) (br_f (by decide) (br_f (by decide) (br_t rfl h)))))
theorem xm_bad {post : Int32 → SX → Prop} {x2 x3 : Int32} {J : Int32 → Int32 → (Nat → Int32) → (Nat → Int32) → (Nat → Int32) → (Nat → Int32) → (Nat → Int32) → (Nat → Int32) → (Nat → Int32) → (Nat → Int32) → (Nat → Int32) → (Nat → Int32) → (Nat → Int32) → (Nat → Int32) → (Nat → Int32) → Prop}
    (h : post 0 (cp, nI L, wf, rc, fp, fc, mc, ms, dn, rq, rs, cl, o, a, b, xl, xe, xo, xb, ir, rd, 34000, 34000)) : wX_matchBlocks_68 post J (nI 0) x2 x3 cp (nI L) wf rc fp fc mc ms dn rq rs cl o a b xl xe xo xb ir rd 34000 34000 := by
  unfold wX_matchBlocks_68
  exact br_t rfl h
theorem xm_end {post : Int32 → SX → Prop} {J : Int32 → Int32 → (Nat → Int32) → (Nat → Int32) → (Nat → Int32) → (Nat → Int32) → (Nat → Int32) → (Nat → Int32) → (Nat → Int32) → (Nat → Int32) → (Nat → Int32) → (Nat → Int32) → (Nat → Int32) → (Nat → Int32) → (Nat → Int32) → Prop}
    (hi : i < 16) (hd : dp + 1 ≤ i) (ht : t < i) (et : xb dp = nI t) (h : J (nI dp) (nI (i + 1)) dn rq rs cl o a b xl (upd xe t (nI i)) (upd xo i (nI t)) xb ir rd) : wX_matchBlocks_68 post J (nI (dp + 1)) (nI i) 9 cp (nI L) wf rc fp fc mc ms dn rq rs cl o a b xl xe xo xb ir rd 34000 34000 := by
  unfold wX_matchBlocks_68
  refine br_f (nI_ne0 (by omega) (by omega)) ?_
  rw [nI_pred]
  refine ⟨vp_in_nI (by omega) (by omega), ?_⟩
  rw [nI_clamp (by omega), nI_clamp (by omega)]
  refine nm_r et ⟨vp_in_nI hi (by omega), nm_e (br_t rfl ⟨vp_in_nI (by omega) (by omega), ?_⟩)⟩
  rw [nI_clamp (by omega)]
  exact nm_e (nm_r (pk_m1 dp) (nm_r (nI_1 i) h))
theorem xm_else {post : Int32 → SX → Prop} {J : Int32 → Int32 → (Nat → Int32) → (Nat → Int32) → (Nat → Int32) → (Nat → Int32) → (Nat → Int32) → (Nat → Int32) → (Nat → Int32) → (Nat → Int32) → (Nat → Int32) → (Nat → Int32) → (Nat → Int32) → (Nat → Int32) → (Nat → Int32) → Prop}
    (hi : i < 16) (hd : dp + 1 ≤ i) (ht : t < i) (et : xb dp = nI t)
    (h0 : (o t = 8 ∨ ¬ xl t = -1) → ∀ xo : Nat → Int32, post 0 (cp, nI L, wf, rc, fp, fc, mc, ms, dn, rq, rs, cl, o, a, b, xl, xe, xo, xb, ir, rd, 34000, 34000))
    (h : ¬ o t = 8 → xl t = -1 → J (nI (dp + 1)) (nI (i + 1)) dn rq rs cl o a b (upd xl t (nI i)) xe (upd xo i (nI t)) xb ir rd) : wX_matchBlocks_68 post J (nI (dp + 1)) (nI i) 7 cp (nI L) wf rc fp fc mc ms dn rq rs cl o a b xl xe xo xb ir rd 34000 34000 := by
  unfold wX_matchBlocks_68
  refine br_f (nI_ne0 (by omega) (by omega)) ?_
  rw [nI_pred]
  refine ⟨vp_in_nI (by omega) (by omega), ?_⟩
  rw [nI_clamp (by omega), nI_clamp (by omega)]
  refine nm_r et ⟨vp_in_nI hi (by omega), nm_e (br_f (by decide) ⟨vp_in_nI (by omega) (by omega), ?_⟩)⟩
  rw [nI_clamp (by omega)]
  by_cases z : o t = 8
  · exact br_t z (h0 (Or.inl z) _)
  · refine br_f z ⟨vp_in_nI (by omega) (by omega), ?_⟩
    by_cases w : xl t = -1
    · exact br_t w ⟨vp_in_nI (by omega) (by omega), nm_e (nm_r (nI_1 i) (h z w))⟩
    · exact br_f w (h0 (Or.inr w) _)
theorem ym_open {post : Int32 → SY → Prop} (hi : i < L) (hL : L ≤ 16) (hd : dp ≤ i) (ho : tc_op (o i)) (h : wY_wellFormed_39 post cp (nI L) wp mp mt 34000 m (nI (dp + 1)) (nI (i + 1)) o a b ye yl yo (upd ys dp (nI i)) dn rq rs cl wl ws ml mz yr) :
    wY_wellFormed_39 post cp (nI L) wp mp mt 34000 (m + 1) (nI dp) (nI i) o a b ye yl yo ys dn rq rs cl wl ws ml mz yr := by
  rw [wY_wellFormed_39]
  refine br_f (nI_ge hi (by omega)) ⟨vp_in_nI (by omega) (by omega), ?_⟩
  rw [nI_clamp (by omega)]
  have k : wY_wellFormed_71 post (wY_wellFormed_39 post cp (nI L) wp mp mt 34000 m) (nI dp) (nI i) cp (nI L) wp mp mt o a b ye yl yo ys dn rq rs cl wl ws ml mz yr 34000 := by
    unfold wY_wellFormed_71
    refine br_t (nI_lt (b := 16) (by omega) (by omega)) ⟨vp_in_nI (by omega) (by omega), ?_⟩
    rw [nI_clamp (by omega)]
    exact nm_e (nm_r (nI_1 dp) (nm_r (nI_1 i) h))
  rcases ho with e | e | e
  · exact nm_r e (br_t rfl k)
  · exact nm_r e (br_f (by decide) (br_t rfl k))
  · exact nm_r e (br_f (by decide) (br_f (by decide) (br_t rfl k)))
theorem ym_skip {post : Int32 → SY → Prop} (hi : i < L) (hL : L ≤ 16) (ho : ¬ tc_op (o i)) (h7 : ¬ o i = 7) (h9 : ¬ o i = 9) (h : wY_wellFormed_39 post cp (nI L) wp mp mt 34000 m (nI dp) (nI (i + 1)) o a b ye yl yo ys dn rq rs cl wl ws ml mz yr) :
    wY_wellFormed_39 post cp (nI L) wp mp mt 34000 (m + 1) (nI dp) (nI i) o a b ye yl yo ys dn rq rs cl wl ws ml mz yr := by
  rw [wY_wellFormed_39]
  refine br_f (nI_ge hi (by omega)) ⟨vp_in_nI (by omega) (by omega), ?_⟩
  rw [nI_clamp (by omega)]
  exact nm_e (br_f (fun e => ho (Or.inl e)) (br_f (fun e => ho (Or.inr (Or.inl e))) (br_f (fun e => ho (Or.inr (Or.inr e))) (br_f h7 (br_f h9 (nm_r (nI_1 i) h))))))
theorem ym_bad {post : Int32 → SY → Prop} (hi : i < L) (hL : L ≤ 16) (ho : o i = 7 ∨ o i = 9) (h : post 0 (cp, nI L, wp, mp, mt, o, a, b, ye, yl, yo, ys, dn, rq, rs, cl, wl, ws, ml, mz, yr, 34000)) :
    wY_wellFormed_39 post cp (nI L) wp mp mt 34000 (m + 1) (nI 0) (nI i) o a b ye yl yo ys dn rq rs cl wl ws ml mz yr := by
  rw [wY_wellFormed_39]
  refine br_f (nI_ge hi (by omega)) ⟨vp_in_nI (by omega) (by omega), ?_⟩
  rw [nI_clamp (by omega)]
  rcases ho with e | e
  · exact nm_r e (br_f (by decide) (br_f (by decide) (br_f (by decide) (br_t rfl (br_t rfl h)))))
  · exact nm_r e (br_f (by decide) (br_f (by decide) (br_f (by decide) (br_f (by decide) (br_t rfl (br_t rfl h))))))
theorem ym_end {post : Int32 → SY → Prop} (hi : i < L) (hL : L ≤ 16) (hd : dp + 1 ≤ i) (ht : t < i) (et : ys dp = nI t) (ho : o i = 9) (h : wY_wellFormed_39 post cp (nI L) wp mp mt 34000 m (nI dp) (nI (i + 1)) o a b (upd ye t (nI i)) yl (upd yo i (nI t)) ys dn rq rs cl wl ws ml mz yr) :
    wY_wellFormed_39 post cp (nI L) wp mp mt 34000 (m + 1) (nI (dp + 1)) (nI i) o a b ye yl yo ys dn rq rs cl wl ws ml mz yr := by
  rw [wY_wellFormed_39]
  refine br_f (nI_ge hi (by omega)) ⟨vp_in_nI (by omega) (by omega), ?_⟩
  rw [nI_clamp (by omega)]
  refine nm_r ho (br_f (by decide) (br_f (by decide) (br_f (by decide) (br_f (by decide) (br_t rfl (br_f (nI_ne0 (by omega) (by omega)) (nm_r (pk_m1 dp) ⟨vp_in_nI (by omega) (by omega), ?_⟩)))))))
  rw [nI_clamp (by omega)]
  refine nm_r et ⟨vp_in_nI (by omega) (by omega), ?_⟩
  rw [nI_clamp (by omega)]
  exact nm_e ⟨vp_in_nI (by omega) (by omega), nm_e (nm_r (nI_1 i) h)⟩
theorem ym_else {post : Int32 → SY → Prop} (hi : i < L) (hL : L ≤ 16) (hd : dp + 1 ≤ i) (ht : t < i) (et : ys dp = nI t) (hto : tc_op (o t)) (ho : o i = 7)
    (h0 : (o t = 8 ∨ ¬ yl t = -1) → post 0 (cp, nI L, wp, mp, mt, o, a, b, ye, yl, yo, ys, dn, rq, rs, cl, wl, ws, ml, mz, yr, 34000))
    (h : ¬ o t = 8 → yl t = -1 → wY_wellFormed_39 post cp (nI L) wp mp mt 34000 m (nI (dp + 1)) (nI (i + 1)) o a b ye (upd yl t (nI i)) (upd yo i (nI t)) ys dn rq rs cl wl ws ml mz yr) :
    wY_wellFormed_39 post cp (nI L) wp mp mt 34000 (m + 1) (nI (dp + 1)) (nI i) o a b ye yl yo ys dn rq rs cl wl ws ml mz yr := by
  rw [wY_wellFormed_39]
  refine br_f (nI_ge hi (by omega)) ⟨vp_in_nI (by omega) (by omega), ?_⟩
  rw [nI_clamp (by omega)]
  have k : ¬ o t = 8 → wY_wellFormed_137 post (wY_wellFormed_39 post cp (nI L) wp mp mt 34000 m) (nI (dp + 1)) (nI i) (nI t) cp (nI L) wp mp mt o a b ye yl yo ys dn rq rs cl wl ws ml mz yr 34000 := by
    intro z
    unfold wY_wellFormed_137
    refine ⟨vp_in_nI (by omega) (by omega), ?_⟩
    rw [nI_clamp (by omega), nI_clamp (by omega)]
    by_cases w : yl t = -1
    · exact br_t w ⟨vp_in_nI (by omega) (by omega), nm_e ⟨vp_in_nI (by omega) (by omega), nm_e (nm_r (nI_1 i) (h z w))⟩⟩
    · exact br_f w (h0 (Or.inr w))
  refine nm_r ho (br_f (by decide) (br_f (by decide) (br_f (by decide) (br_t rfl (br_f (nI_ne0 (by omega) (by omega)) ?_)))))
  rw [nI_pred]
  refine ⟨vp_in_nI (by omega) (by omega), ?_⟩
  rw [nI_clamp (by omega)]
  refine nm_r et ⟨vp_in_nI (by omega) (by omega), ?_⟩
  rw [nI_clamp (by omega)]
  rcases hto with e | e | e
  · exact br_t e (k (by rw [e]; decide))
  · exact br_f (by rw [e]; decide) ⟨vp_in_nI (by omega) (by omega), br_t e (k (by rw [e]; decide))⟩
  · exact br_f (by rw [e]; decide) ⟨vp_in_nI (by omega) (by omega), br_f (by rw [e]; decide) (h0 (Or.inl e))⟩
/-- the scan as a pure function: its answer and its table of aims -/
def tc_sc (o : Nat → Int32) : Nat → Nat → Nat → (Nat → Int32) → (Nat → Int32) → (Nat → Int32) → (Nat → Int32) → Int32 × (Nat → Nat)
  | 0, _, dp, yl, ye, yo, _ => if dp = 0 then (1, tc_T o yl ye yo) else (0, fun _ => 0)
  | k + 1, i, dp, yl, ye, yo, ys =>
    if o i = 5 ∨ o i = 6 ∨ o i = 8 then tc_sc o k (i + 1) (dp + 1) yl ye yo (upd ys dp (nI i))
    else if o i = 7 then
      if dp = 0 ∨ o (ys (dp - 1)).toNatClampNeg = 8 ∨ ¬ yl (ys (dp - 1)).toNatClampNeg = -1 then (0, fun _ => 0)
      else tc_sc o k (i + 1) dp (upd yl (ys (dp - 1)).toNatClampNeg (nI i)) ye (upd yo i (nI (ys (dp - 1)).toNatClampNeg)) ys
    else if o i = 9 then
      if dp = 0 then (0, fun _ => 0)
      else tc_sc o k (i + 1) (dp - 1) yl (upd ye (ys (dp - 1)).toNatClampNeg (nI i)) (upd yo i (nI (ys (dp - 1)).toNatClampNeg)) ys
    else tc_sc o k (i + 1) dp yl ye yo ys
theorem tc_sc_01 {o : Nat → Int32} : ∀ (k i dp : Nat) (yl ye yo ys : Nat → Int32), (tc_sc o k i dp yl ye yo ys).1 = 0 ∨ (tc_sc o k i dp yl ye yo ys).1 = 1
  | 0, i, dp, yl, ye, yo, ys => by
    rw [tc_sc]
    split
    · exact Or.inr rfl
    · exact Or.inl rfl
  | k + 1, i, dp, yl, ye, yo, ys => by
    rw [tc_sc]
    repeat' split
    all_goals first | exact Or.inl rfl | exact tc_sc_01 k _ _ _ _ _ _
theorem tc_sc_op {k : Nat} (h : tc_op (o i)) : tc_sc o (k + 1) i dp yl ye yo ys = tc_sc o k (i + 1) (dp + 1) yl ye yo (upd ys dp (nI i)) := by
  rw [tc_sc]; exact if_pos h
theorem tc_sc_7b {k : Nat} (h : o i = 7) (hb : dp = 0 ∨ o (ys (dp - 1)).toNatClampNeg = 8 ∨ ¬ yl (ys (dp - 1)).toNatClampNeg = -1) : tc_sc o (k + 1) i dp yl ye yo ys = (0, fun _ => 0) := by
  have n : ¬ (o i = 5 ∨ o i = 6 ∨ o i = 8) := tc_op_7 h
  rw [tc_sc, if_neg n, if_pos h]; exact if_pos hb
theorem tc_sc_7g {k : Nat} (h : o i = 7) (ht : t < 2 ^ 31) (et : ys dp = nI t) (h8 : ¬ o t = 8) (hl : yl t = -1) : tc_sc o (k + 1) i (dp + 1) yl ye yo ys = tc_sc o k (i + 1) (dp + 1) (upd yl t (nI i)) ye (upd yo i (nI t)) ys := by
  have n : ¬ (o i = 5 ∨ o i = 6 ∨ o i = 8) := tc_op_7 h
  have e : (ys (dp + 1 - 1)).toNatClampNeg = t := by rw [Nat.add_sub_cancel, et, nI_clamp ht]
  have nb : ¬ (dp + 1 = 0 ∨ o t = 8 ∨ ¬ yl t = -1) := by
    rintro (w | w | w)
    · omega
    · exact h8 w
    · exact w hl
  rw [tc_sc, if_neg n, if_pos h, e]; exact if_neg nb
theorem tc_sc_9b {k : Nat} (h : o i = 9) : tc_sc o (k + 1) i 0 yl ye yo ys = (0, fun _ => 0) := by
  have n : ¬ (o i = 5 ∨ o i = 6 ∨ o i = 8) := tc_op_9 h
  have n7 : ¬ o i = 7 := by rw [h]; decide
  rw [tc_sc, if_neg n, if_neg n7, if_pos h]; exact if_pos rfl
theorem tc_sc_9g {k : Nat} (h : o i = 9) (ht : t < 2 ^ 31) (et : ys dp = nI t) : tc_sc o (k + 1) i (dp + 1) yl ye yo ys = tc_sc o k (i + 1) dp yl (upd ye t (nI i)) (upd yo i (nI t)) ys := by
  have n : ¬ (o i = 5 ∨ o i = 6 ∨ o i = 8) := tc_op_9 h
  have n7 : ¬ o i = 7 := by rw [h]; decide
  have e : (ys (dp + 1 - 1)).toNatClampNeg = t := by rw [Nat.add_sub_cancel, et, nI_clamp ht]
  rw [tc_sc, if_neg n, if_neg n7, if_pos h, e]; exact if_neg (by omega)
theorem tc_sc_s {k : Nat} (h : ¬ tc_op (o i)) (h7 : ¬ o i = 7) (h9 : ¬ o i = 9) : tc_sc o (k + 1) i dp yl ye yo ys = tc_sc o k (i + 1) dp yl ye yo ys := by
  have n : ¬ (o i = 5 ∨ o i = 6 ∨ o i = 8) := h
  rw [tc_sc, if_neg n, if_neg h7, if_neg h9]
theorem xm_scan (hL : L ≤ 16) {post : Int32 → SX → Prop} : ∀ (k i dp : Nat) (xl xe xo xb yl ye yo ys : Nat → Int32), i + k = L → tc_MI o i dp xl xe xo xb yl ye yo ys → ∀ m, k < m →
    (∀ xl xe xo xb : Nat → Int32, ((tc_sc o k i dp yl ye yo ys).1 = 1 → tc_JM o L xl xe xo (tc_sc o k i dp yl ye yo ys).2) → post (tc_sc o k i dp yl ye yo ys).1 (cp, nI L, wf, rc, fp, fc, mc, ms, dn, rq, rs, cl, o, a, b, xl, xe, xo, xb, ir, rd, 34000, 34000)) → wX_matchBlocks_4 post cp (nI L) wf rc fp fc mc ms 34000 34000 m (nI dp) (nI i) dn rq rs cl o a b xl xe xo xb ir rd := by
  intro k
  induction k with
  | zero =>
    intro i dp xl xe xo xb yl ye yo ys e hM m hm h
    have ei : i = L := by omega
    subst ei
    have c1 : nI i ≤ nI i := nI_le (Nat.le_refl i) (by omega)
    have hd := hM.1
    obtain ⟨m', rfl⟩ : ∃ m', m = m' + 1 := ⟨m - 1, by omega⟩
    rw [wX_matchBlocks_4]
    by_cases z : dp = 0
    · subst z
      exact br_t c1 (br_t rfl (h xl xe xo xb (fun _ => (tc_MI_done hM hL).1)))
    · have es : tc_sc o 0 i dp yl ye yo ys = (0, fun _ => 0) := if_neg z
      rw [es] at h
      exact br_t c1 (br_f (nI_ne0 (by omega) (by omega)) (h xl xe xo xb (fun w => absurd w (by decide))))
  | succ k ih =>
    intro i dp xl xe xo xb yl ye yo ys e hM m hm h
    have hi : i < L := by omega
    have hd := hM.1
    obtain ⟨m', rfl⟩ : ∃ m', m = m' + 1 := ⟨m - 1, by omega⟩
    by_cases ho : tc_op (o i)
    · rw [tc_sc_op ho] at h
      exact xm_open hi hL hd ho (ih (i + 1) (dp + 1) _ _ _ _ _ _ _ _ (by omega) (tc_MI_open hM (by omega) ho) m' (by omega) h)
    by_cases h7 : o i = 7
    · rcases Nat.eq_zero_or_pos dp with z | z
      · subst z
        rw [tc_sc_7b h7 (Or.inl rfl)] at h
        exact xm_7 hi hL h7 (xm_bad (h xl xe xo xb (fun w => absurd w (by decide))))
      · obtain ⟨dp', rfl⟩ : ∃ dp', dp = dp' + 1 := ⟨dp - 1, by omega⟩
        obtain ⟨t, ht, et1, et2, hto⟩ := hM.2.1 dp' (by omega)
        have exl := (hM.2.2.1 t ht hto).1
        have ec : (ys (dp' + 1 - 1)).toNatClampNeg = t := by rw [Nat.add_sub_cancel, et2, nI_clamp (by omega)]
        refine xm_7 hi hL h7 (xm_else (by omega) hd ht et1 (fun w xo' => ?_) (fun w1 w2 => ?_))
        · rw [exl] at w
          rw [tc_sc_7b h7 (Or.inr (by rw [ec]; exact w))] at h
          exact h xl xe xo' xb (fun w => absurd w (by decide))
        · rw [exl] at w2
          rw [tc_sc_7g h7 (by omega) et2 w1 w2] at h
          exact ih (i + 1) (dp' + 1) _ _ _ _ _ _ _ _ (by omega) (tc_MI_else hM (by omega) ht hto w1 h7) m' (by omega) h
    by_cases h9 : o i = 9
    · rcases Nat.eq_zero_or_pos dp with z | z
      · subst z
        rw [tc_sc_9b h9] at h
        exact xm_9 hi hL h9 (xm_bad (h xl xe xo xb (fun w => absurd w (by decide))))
      · obtain ⟨dp', rfl⟩ : ∃ dp', dp = dp' + 1 := ⟨dp - 1, by omega⟩
        obtain ⟨t, ht, et1, et2, hto⟩ := hM.2.1 dp' (by omega)
        rw [tc_sc_9g h9 (by omega) et2] at h
        exact xm_9 hi hL h9 (xm_end (by omega) hd ht et1 (ih (i + 1) dp' _ _ _ _ _ _ _ _ (by omega) (tc_MI_end hM (by omega) et2 ht hto h9) m' (by omega) h))
    · rw [tc_sc_s ho h7 h9] at h
      exact xm_skip hi hL ho h7 h9 (ih (i + 1) dp _ _ _ _ _ _ _ _ (by omega) (tc_MI_skip hM ho h7 h9) m' (by omega) h)
theorem tc_upd_same {f : Nat → Int32} {j : Nat} {x : Int32} (h : f j = x) : upd f j x = f := by
  funext q
  unfold upd
  by_cases e : q = j
  · rw [if_pos e, e, h]
  · rw [if_neg e]
theorem ym_scan (hL : L ≤ 16) {post : Int32 → SY → Prop} : ∀ (k i dp : Nat) (yl ye yo ys zl ze zo zs : Nat → Int32), i + k = L → tc_MI o i dp yl ye yo ys zl ze zo zs → (∀ p, i ≤ p → p < 16 → yl p = -1) → ∀ m, k < m →
    (∀ yl ye yo ys : Nat → Int32, ((tc_sc o k i dp zl ze zo zs).1 = 1 → tc_JM o L yl ye yo (tc_sc o k i dp zl ze zo zs).2) → post (tc_sc o k i dp zl ze zo zs).1 (cp, nI L, wp, mp, mt, o, a, b, ye, yl, yo, ys, dn, rq, rs, cl, wl, ws, ml, mz, yr, 34000)) → wY_wellFormed_39 post cp (nI L) wp mp mt 34000 m (nI dp) (nI i) o a b ye yl yo ys dn rq rs cl wl ws ml mz yr := by
  intro k
  induction k with
  | zero =>
    intro i dp yl ye yo ys zl ze zo zs e hM hl m hm h
    have ei : i = L := by omega
    subst ei
    have c1 : nI i ≤ nI i := nI_le (Nat.le_refl i) (by omega)
    have hd := hM.1
    obtain ⟨m', rfl⟩ : ∃ m', m = m' + 1 := ⟨m - 1, by omega⟩
    rw [wY_wellFormed_39]
    by_cases z : dp = 0
    · subst z
      exact br_t c1 (br_t rfl (h yl ye yo ys (fun _ => (tc_MI_done hM hL).1)))
    · have es : tc_sc o 0 i dp zl ze zo zs = (0, fun _ => 0) := if_neg z
      rw [es] at h
      exact br_t c1 (br_f (nI_ne0 (by omega) (by omega)) (h yl ye yo ys (fun w => absurd w (by decide))))
  | succ k ih =>
    intro i dp yl ye yo ys zl ze zo zs e hM hl m hm h
    have hi : i < L := by omega
    have hd := hM.1
    obtain ⟨m', rfl⟩ : ∃ m', m = m' + 1 := ⟨m - 1, by omega⟩
    have hl1 : ∀ p, i + 1 ≤ p → p < 16 → yl p = -1 := fun p h1 h2 => hl p (by omega) h2
    by_cases ho : tc_op (o i)
    · rw [tc_sc_op ho] at h
      have hM1 := tc_MI_open hM (by omega) ho
      rw [tc_upd_same (hl i (Nat.le_refl i) (by omega))] at hM1
      exact ym_open hi hL hd ho (ih (i + 1) (dp + 1) _ _ _ _ _ _ _ _ (by omega) hM1 hl1 m' (by omega) h)
    by_cases h7 : o i = 7
    · rcases Nat.eq_zero_or_pos dp with z | z
      · subst z
        rw [tc_sc_7b h7 (Or.inl rfl)] at h
        exact ym_bad hi hL (Or.inl h7) (h yl ye yo ys (fun w => absurd w (by decide)))
      · obtain ⟨dp', rfl⟩ : ∃ dp', dp = dp' + 1 := ⟨dp - 1, by omega⟩
        obtain ⟨t, ht, et1, et2, hto⟩ := hM.2.1 dp' (by omega)
        have exl := (hM.2.2.1 t ht hto).1
        have ec : (zs (dp' + 1 - 1)).toNatClampNeg = t := by rw [Nat.add_sub_cancel, et2, nI_clamp (by omega)]
        refine ym_else hi hL hd ht et1 hto h7 (fun w => ?_) (fun w1 w2 => ?_)
        · rw [exl] at w
          rw [tc_sc_7b h7 (Or.inr (by rw [ec]; exact w))] at h
          exact h yl ye yo ys (fun w => absurd w (by decide))
        · rw [exl] at w2
          rw [tc_sc_7g h7 (by omega) et2 w1 w2] at h
          exact ih (i + 1) (dp' + 1) _ _ _ _ _ _ _ _ (by omega) (tc_MI_else hM (by omega) ht hto w1 h7) (fun p h1 h2 => by rw [pk_un (by omega)]; exact hl1 p h1 h2) m' (by omega) h
    by_cases h9 : o i = 9
    · rcases Nat.eq_zero_or_pos dp with z | z
      · subst z
        rw [tc_sc_9b h9] at h
        exact ym_bad hi hL (Or.inr h9) (h yl ye yo ys (fun w => absurd w (by decide)))
      · obtain ⟨dp', rfl⟩ : ∃ dp', dp = dp' + 1 := ⟨dp - 1, by omega⟩
        obtain ⟨t, ht, et1, et2, hto⟩ := hM.2.1 dp' (by omega)
        rw [tc_sc_9g h9 (by omega) et2] at h
        exact ym_end hi hL hd ht et1 h9 (ih (i + 1) dp' _ _ _ _ _ _ _ _ (by omega) (tc_MI_end hM (by omega) et2 ht hto h9) hl1 m' (by omega) h)
    · rw [tc_sc_s ho h7 h9] at h
      exact ym_skip hi hL ho h7 h9 (ih (i + 1) dp _ _ _ _ _ _ _ _ (by omega) (tc_MI_skip hM ho h7 h9) hl1 m' (by omega) h)
/-- Y's clearing of its tables -/
theorem ym_fill {post : Int32 → SY → Prop} (h : ∀ yl ye yo : Nat → Int32, (∀ p, p < 16 → yl p = -1) → ∃ m, wY_wellFormed_39 post cp (nI L) wp mp mt 34000 m 0 0 o a b ye yl yo ys dn rq rs cl wl ws ml mz yr) :
    ∀ (m i : Nat) (yl ye yo : Nat → Int32), 16 < m + i → i ≤ 16 → (∀ p, p < i → yl p = -1) → wY_wellFormed_2 post cp (nI L) wp mp mt 34000 m (nI i) o a b ye yl yo ys dn rq rs cl wl ws ml mz yr := by
  intro m
  induction m with
  | zero => intro i yl ye yo g1 g2; omega
  | succ m ih =>
    intro i yl ye yo g1 g2 hz
    rw [wY_wellFormed_2]
    by_cases e : i = 16
    · rw [e] at hz
      exact br_t (by rw [e]; exact nI_le (a := 16) (b := 16) (by omega) (by omega)) (h yl ye yo hz)
    · refine br_f (nI_ge (b := 16) (by omega) (by omega)) ⟨vp_in_nI (by omega) (by omega), ?_⟩
      rw [nI_clamp (by omega)]
      refine nm_e ⟨vp_in_nI (by omega) (by omega), nm_e ⟨vp_in_nI (by omega) (by omega), nm_e (nm_r (nI_1 i) (ih (i + 1) _ _ _ (by omega) (by omega) (fun p hp => ?_)))⟩⟩
      by_cases ep : p = i
      · rw [ep, pk_us]
      · rw [pk_un ep]; exact hz p (by omega)
/-- the answer and the aims of a program -/
def tc_wf (o : Nat → Int32) (L : Nat) : Int32 := (tc_sc o L 0 0 (fun _ => -1) (fun _ => 0) (fun _ => 0) (fun _ => 0)).1
def tc_aim (o : Nat → Int32) (L : Nat) : Nat → Nat := (tc_sc o L 0 0 (fun _ => -1) (fun _ => 0) (fun _ => 0) (fun _ => 0)).2
theorem tc_wf_01 (o : Nat → Int32) (L : Nat) : tc_wf o L = 0 ∨ tc_wf o L = 1 := tc_sc_01 L 0 0 _ _ _ _
theorem xm_match {post : Int32 → SX → Prop} (hL : L ≤ 16) (h : ∀ xl xe xo xb : Nat → Int32, (tc_wf o L = 1 → tc_JM o L xl xe xo (tc_aim o L)) → post (tc_wf o L) (cp, nI L, wf, rc, fp, fc, mc, ms, dn, rq, rs, cl, o, a, b, xl, xe, xo, xb, ir, rd, 34000, 34000)) : wpX_matchBlocks post (cp, nI L, wf, rc, fp, fc, mc, ms, dn, rq, rs, cl, o, a, b, xl, xe, xo, xb, ir, rd, 34000, 34000) := by
  unfold wpX_matchBlocks
  exact ⟨L + 1, xm_scan hL L 0 0 xl xe xo xb _ _ _ _ (by omega) (tc_MI_0 (fun _ _ => rfl)) (L + 1) (by omega) h⟩
theorem ym_match {post : Int32 → SY → Prop} (hL : L ≤ 16) (h : ∀ yl ye yo ys : Nat → Int32, (tc_wf o L = 1 → tc_JM o L yl ye yo (tc_aim o L)) → post (tc_wf o L) (cp, nI L, wp, mp, mt, o, a, b, ye, yl, yo, ys, dn, rq, rs, cl, wl, ws, ml, mz, yr, 34000)) : wpY_wellFormed post (cp, nI L, wp, mp, mt, o, a, b, ye, yl, yo, ys, dn, rq, rs, cl, wl, ws, ml, mz, yr, 34000) := by
  unfold wpY_wellFormed
  refine ⟨17, ym_fill (fun yl ye yo hz => ⟨L + 1, ?_⟩) 17 0 yl ye yo (by omega) (by omega) (fun p hp => absurd hp (by omega))⟩
  exact ym_scan hL L 0 0 yl ye yo ys _ _ _ _ (by omega) (tc_MI_0 (fun _ _ => rfl)) (fun p _ hp => hz p hp) (L + 1) (by omega) h
end
end
section
/-! X's exploration, whole, and its questions -/
def tc_RR (o a b dn rq rs cl : Nat → Int32) (L : Nat) : Nat → Prop := tc_R L (tc_F o a b dn rq rs cl) (tc_N o a b rs cl (tc_aim o L))
section
variable {cp ct wf rc fp fc mc ms : Int32} {dn rq rs cl o a b xl xe xo xb ir rd : Nat → Int32} {c x y L n i p q : Nat} {d : Int32}
theorem xh_explore {post : SX → Prop} (hV : tc_VP o a b L) (hD : tc_VD rq rs cl) (hL : L ≤ 16) (hM : tc_MR ir rd n)
    (h0 : tc_wf o L = 0 → ∀ xl xe xo xb ir : Nat → Int32, (∀ c, c < 34000 → ir c = 0) → post (cp, nI L, 0, nI 0, -1, -1, mc, ms, dn, rq, rs, cl, o, a, b, xl, xe, xo, xb, ir, rd, 34000, 34000))
    (h1 : tc_wf o L = 1 → ∀ (xl xe xo xb ir rd : Nat → Int32) (n : Nat) (fp fc : Int32), tc_MK ir rd n → (∀ c, c < 34000 → ((∃ j, j < n ∧ rd j = nI c) ↔ tc_RR o a b dn rq rs cl L c)) → tc_FS L (tc_F o a b dn rq rs cl) (tc_RR o a b dn rq rs cl L) fp fc → post (cp, nI L, 1, nI n, fp, fc, mc, ms, dn, rq, rs, cl, o, a, b, xl, xe, xo, xb, ir, rd, 34000, 34000)) :
    wpX_explore post (cp, nI L, wf, nI n, fp, fc, mc, ms, dn, rq, rs, cl, o, a, b, xl, xe, xo, xb, ir, rd, 34000, 34000) := by
  unfold wpX_explore
  refine xh_forget hM (fun ir' hz => xm_match hL (fun xl xe xo xb hJ => ?_))
  rcases tc_wf_01 o L with e | e
  · have k0 := h0 e xl xe xo xb ir' hz
    rw [e]
    exact ⟨rfl, rfl, br_t rfl k0⟩
  · have hJ' := hJ e
    rw [e]
    refine ⟨rfl, rfl, br_f (by decide) ?_⟩
    refine xh_reach (n := 0) (c := 1120) (S := tc_RR o a b dn rq rs cl L) (tc_MK_0 hz) (by omega) (tc_R0 _ _ _) (fun ir2 rd2 n2 hG hz2 => ⟨34001, ?_⟩)
    refine xh_list hV hD hJ' hL (fun ir rd n fp fc g1 g2 g3 => h1 e xl xe xo xb ir rd n fp fc g1 g2 g3) 34001 0 ir2 rd2 n2 (-1) (-1) (by omega) ?_
    refine ⟨hG.1, by omega, hz2, fun j hj => hG.2.2.2.2 j (by omega) hj, fun j hj => absurd hj (by omega), Or.inl ⟨rfl, rfl, fun c hc => ?_⟩⟩
    obtain ⟨_, j, hj, _⟩ := hc
    omega
/-- X's loop over the list for a set of bits: by what reads a bit number out of a configuration -/
theorem xh_sset {post : Int32 → SX → Prop} (hb : ∀ j, j < n → ∃ c, c < 34000 ∧ rd j = nI c) (hn : n ≤ 34000) (hp : p ≤ 16) (hq : q < 2)
    (h : ∀ s : Int32, tc_BS (fun c => c < 34000 ∧ c / 2000 = p ∧ ∃ j, j < n ∧ rd j = nI c) (fun c => tc_s c q) s → post s (cp, ct, wf, nI n, fp, fc, mc, ms, dn, rq, rs, cl, o, a, b, xl, xe, xo, xb, ir, rd, 34000, 34000)) :
    ∀ (m i : Nat) (s : Int32), n < m + i → i ≤ n → tc_BS (fun c => c < 34000 ∧ c / 2000 = p ∧ ∃ j, j < i ∧ rd j = nI c) (fun c => tc_s c q) s → wX_stateSet_32 post (nI p) (nI q) cp ct wf (nI n) fp fc mc ms dn rq rs cl o a b xl xe xo xb ir rd 34000 34000 m s (nI i) := by
  intro m
  induction m with
  | zero => intro i s g1 g2; omega
  | succ m ih =>
    intro i s g1 g2 hS
    rw [wX_stateSet_32]
    by_cases e : i = n
    · rw [e] at hS
      exact br_t (by rw [e]; exact nI_le (Nat.le_refl n) (by omega)) (h s hS)
    · obtain ⟨c, hc, ec⟩ := hb i (by omega)
      refine br_f (nI_ge (by omega) (by omega)) ⟨vp_in_nI (by omega) (by omega), ?_⟩
      rw [nI_clamp (by omega)]
      refine nm_r ec (xh_pcOf (by omega) ?_)
      by_cases z : c / 2000 = p
      · refine br_t (by rw [z]) (xh_stateOf (by omega) hq (nm_e (nm_r (nI_1 i) (ih (i + 1) _ (by omega) (by omega) ?_))))
        refine tc_BS_s (c := c) hS (Nat.lt_succ_of_lt (tc_s_lt c q)) (fun x => ?_)
        constructor
        · rintro ⟨w1, w2, j, hj, ej⟩
          by_cases w : j = i
          · rw [w, ec, nI_eq (by omega) (by omega)] at ej
            exact Or.inr ej.symm
          · exact Or.inl ⟨w1, w2, j, by omega, ej⟩
        · rintro (⟨w1, w2, j, hj, ej⟩ | w)
          · exact ⟨w1, w2, j, by omega, ej⟩
          · rw [w]; exact ⟨hc, z, i, by omega, ec⟩
      · refine br_f (fun w => z ((nI_eq (by omega) (by omega)).mp w)) (nm_r (nI_1 i) (ih (i + 1) _ (by omega) (by omega) ?_))
        refine tc_BS_c hS (fun x => ?_)
        constructor
        · rintro ⟨w1, w2, j, hj, ej⟩
          by_cases w : j = i
          · rw [w, ec, nI_eq (by omega) (by omega)] at ej
            rw [← ej] at w2
            exact absurd w2 z
          · exact ⟨w1, w2, j, by omega, ej⟩
        · rintro ⟨w1, w2, j, hj, ej⟩
          exact ⟨w1, w2, j, by omega, ej⟩
theorem xh_lset {post : Int32 → SX → Prop} (hb : ∀ j, j < n → ∃ c, c < 34000 ∧ rd j = nI c) (hn : n ≤ 34000) (hp : p ≤ 16) (hq : q < 3)
    (h : ∀ s : Int32, tc_BS (fun c => c < 34000 ∧ c / 2000 = p ∧ ∃ j, j < n ∧ rd j = nI c) (fun c => tc_l c q) s → post s (cp, ct, wf, nI n, fp, fc, mc, ms, dn, rq, rs, cl, o, a, b, xl, xe, xo, xb, ir, rd, 34000, 34000)) :
    ∀ (m i : Nat) (s : Int32), n < m + i → i ≤ n → tc_BS (fun c => c < 34000 ∧ c / 2000 = p ∧ ∃ j, j < i ∧ rd j = nI c) (fun c => tc_l c q) s → wX_localSet_32 post (nI p) (nI q) cp ct wf (nI n) fp fc mc ms dn rq rs cl o a b xl xe xo xb ir rd 34000 34000 m s (nI i) := by
  intro m
  induction m with
  | zero => intro i s g1 g2; omega
  | succ m ih =>
    intro i s g1 g2 hS
    rw [wX_localSet_32]
    by_cases e : i = n
    · rw [e] at hS
      exact br_t (by rw [e]; exact nI_le (Nat.le_refl n) (by omega)) (h s hS)
    · obtain ⟨c, hc, ec⟩ := hb i (by omega)
      refine br_f (nI_ge (by omega) (by omega)) ⟨vp_in_nI (by omega) (by omega), ?_⟩
      rw [nI_clamp (by omega)]
      refine nm_r ec (xh_pcOf (by omega) ?_)
      by_cases z : c / 2000 = p
      · refine br_t (by rw [z]) (xh_localOf (by omega) hq (nm_e (nm_r (nI_1 i) (ih (i + 1) _ (by omega) (by omega) ?_))))
        refine tc_BS_s (c := c) hS (tc_l_lt c q) (fun x => ?_)
        constructor
        · rintro ⟨w1, w2, j, hj, ej⟩
          by_cases w : j = i
          · rw [w, ec, nI_eq (by omega) (by omega)] at ej
            exact Or.inr ej.symm
          · exact Or.inl ⟨w1, w2, j, by omega, ej⟩
        · rintro (⟨w1, w2, j, hj, ej⟩ | w)
          · exact ⟨w1, w2, j, by omega, ej⟩
          · rw [w]; exact ⟨hc, z, i, by omega, ec⟩
      · refine br_f (fun w => z ((nI_eq (by omega) (by omega)).mp w)) (nm_r (nI_1 i) (ih (i + 1) _ (by omega) (by omega) ?_))
        refine tc_BS_c hS (fun x => ?_)
        constructor
        · rintro ⟨w1, w2, j, hj, ej⟩
          by_cases w : j = i
          · rw [w, ec, nI_eq (by omega) (by omega)] at ej
            rw [← ej] at w2
            exact absurd w2 z
          · exact ⟨w1, w2, j, by omega, ej⟩
        · rintro ⟨w1, w2, j, hj, ej⟩
          exact ⟨w1, w2, j, by omega, ej⟩
end
end
section
/-! Y's questions -/
section
variable {cp ct wp mp mt : Int32} {o a b ye yl yo ys dn rq rs cl wl ws ml mz yr : Nat → Int32} {c x y L n i p q : Nat} {T : Nat → Nat} {d : Int32}
theorem yh_fpl {post : Int32 → SY → Prop} {R : Nat → Prop} (hV : tc_VP o a b L) (hD : tc_VD rq rs cl) (hJ : tc_JM o L yl ye yo T) (hL : L ≤ 16)
    (hR : ∀ c, c < 34000 → (yr c ≠ 0 ↔ R c))
    (h : ∀ (r wp : Int32) (wl ws : Nat → Int32), tc_FP L (tc_F o a b dn rq rs cl) R r → post r (cp, nI L, wp, mp, mt, o, a, b, ye, yl, yo, ys, dn, rq, rs, cl, wl, ws, ml, mz, yr, 34000)) :
    ∀ (m i : Nat) (wp : Int32) (wl ws : Nat → Int32), L * 2000 < m + i → i ≤ L * 2000 → (∀ c, c < i → R c → tc_F o a b dn rq rs cl c = 0) → wY_faultPc_15 post m (nI i) cp (nI L) wp mp mt o a b ye yl yo ys dn rq rs cl wl ws ml mz yr 34000 := by
  intro m
  induction m with
  | zero => intro i wp wl ws g1 g2; omega
  | succ m ih =>
    intro i wp wl ws g1 g2 hz
    rw [wY_faultPc_15]
    by_cases e : i = L * 2000
    · refine br_t (by rw [yh_l2, e]; exact nI_le (Nat.le_refl _) (by omega)) (h _ _ _ _ (Or.inl ⟨rfl, fun c hc hl => ?_⟩))
      exact hz c (by omega) hc
    · refine br_f (by rw [yh_l2]; exact nI_ge (by omega) (by omega)) ⟨vp_in_nI (by omega) (by omega), ?_⟩
      rw [nI_clamp (by omega)]
      by_cases z : yr i = 0
      · refine br_t z (nm_r (nI_1 i) (ih (i + 1) wp wl ws (by omega) (by omega) (fun c hc hr => ?_)))
        by_cases ec : c = i
        · rw [ec] at hr
          exact absurd z ((hR i (by omega)).mpr hr)
        · exact hz c (by omega) hr
      · refine br_f z (yh_faultAt hV hD hJ hL (by omega) (by omega) (fun wp wl ws => ?_))
        have hle := tc_F_le (o := o) (a := a) (b := b) (dn := dn) (rq := rq) (rs := rs) (cl := cl) i
        by_cases f : tc_F o a b dn rq rs cl i = 0
        · refine br_t (by rw [f]; rfl) (nm_r (nI_1 i) (ih (i + 1) wp wl ws (by omega) (by omega) (fun c hc hr => ?_)))
          by_cases ec : c = i
          · rw [ec]; exact f
          · exact hz c (by omega) hr
        · refine br_f (nI_ne0 (by omega) (by omega)) ⟨by decide, ?_⟩
          rw [show nI i / 2000 = nI (i / 2000) from pk_div (d := 2000) (by omega) (by omega) (by omega)]
          refine h _ _ _ _ (Or.inr ⟨i, (hR i (by omega)).mp z, by omega, f, rfl, fun c' hc' hl' hf' => ?_⟩)
          by_cases w : c' < i
          · exact absurd (hz c' w hc') hf'
          · omega
theorem yh_faultPc {post : Int32 → SY → Prop} (hV : tc_VP o a b L) (hD : tc_VD rq rs cl) (hL : L ≤ 16)
    (h0 : tc_wf o L = 0 → ∀ yl ye yo ys : Nat → Int32, post (-1) (cp, nI L, wp, mp, mt, o, a, b, ye, yl, yo, ys, dn, rq, rs, cl, wl, ws, ml, mz, yr, 34000))
    (h1 : tc_wf o L = 1 → ∀ (r wp : Int32) (yl ye yo ys wl ws yr : Nat → Int32), tc_JM o L yl ye yo (tc_aim o L) → (∀ c, c < 34000 → (yr c ≠ 0 ↔ tc_RR o a b dn rq rs cl L c)) → tc_FP L (tc_F o a b dn rq rs cl) (tc_RR o a b dn rq rs cl L) r → post r (cp, nI L, wp, mp, mt, o, a, b, ye, yl, yo, ys, dn, rq, rs, cl, wl, ws, ml, mz, yr, 34000)) :
    wpY_faultPc post (cp, nI L, wp, mp, mt, o, a, b, ye, yl, yo, ys, dn, rq, rs, cl, wl, ws, ml, mz, yr, 34000) := by
  unfold wpY_faultPc
  refine ym_match hL (fun yl ye yo ys hJ => ?_)
  rcases tc_wf_01 o L with e | e
  · have k0 := h0 e yl ye yo ys
    rw [e]
    exact br_t rfl k0
  · have hJ' := hJ e
    rw [e]
    refine br_f (by decide) (yh_compute hV hD hJ' hL (fun wp wl ws yr hR => ⟨L * 2000 + 1, ?_⟩))
    exact yh_fpl hV hD hJ' hL hR (fun r wp wl ws hF => h1 e r wp yl ye yo ys wl ws yr hJ' hR hF) (L * 2000 + 1) 0 wp wl ws (by omega) (by omega) (fun c hc => absurd hc (by omega))
theorem yh_check {post : Int32 → SY → Prop} (hV : tc_VP o a b L) (hD : tc_VD rq rs cl) (hL : L ≤ 16)
    (h0 : tc_wf o L = 0 → ∀ yl ye yo ys : Nat → Int32, post 12 (cp, nI L, wp, mp, mt, o, a, b, ye, yl, yo, ys, dn, rq, rs, cl, wl, ws, ml, mz, yr, 34000))
    (h1 : tc_wf o L = 1 → ∀ (r wp : Int32) (yl ye yo ys wl ws yr : Nat → Int32), tc_FP L (tc_F o a b dn rq rs cl) (tc_RR o a b dn rq rs cl L) r → (r < 0 → post 10 (cp, nI L, wp, mp, mt, o, a, b, ye, yl, yo, ys, dn, rq, rs, cl, wl, ws, ml, mz, yr, 34000)) ∧ (¬ r < 0 → post 11 (cp, nI L, wp, mp, mt, o, a, b, ye, yl, yo, ys, dn, rq, rs, cl, wl, ws, ml, mz, yr, 34000))) :
    wpY_check post (cp, nI L, wp, mp, mt, o, a, b, ye, yl, yo, ys, dn, rq, rs, cl, wl, ws, ml, mz, yr, 34000) := by
  unfold wpY_check
  refine ym_match hL (fun yl ye yo ys hJ => ?_)
  rcases tc_wf_01 o L with e | e
  · have k0 := h0 e yl ye yo ys
    rw [e]
    exact br_t rfl k0
  · rw [e]
    refine br_f (by decide) (yh_faultPc hV hD hL (fun w => ?_) (fun _ r wp yl ye yo ys wl ws yr _ _ hF => h1 e r wp yl ye yo ys wl ws yr hF))
    rw [e] at w
    exact absurd w (by decide)
/-- the least fault among the first of a statement's configurations -/
def tc_BF (F : Nat → Nat) (R : Nat → Prop) (p r : Nat) (b : Int32) : Prop :=
  (b = -1 ∧ ∀ c, p * 2000 ≤ c → c < p * 2000 + r → R c → F c = 0) ∨
  ∃ c, p * 2000 ≤ c ∧ c < p * 2000 + r ∧ R c ∧ F c ≠ 0 ∧ b = nI (F c) ∧ ∀ c', p * 2000 ≤ c' → c' < p * 2000 + r → R c' → F c' ≠ 0 → F c ≤ F c'
theorem tc_BF_n {F : Nat → Nat} {R : Nat → Prop} {p r : Nat} {b : Int32} (h : tc_BF F R p r b) (hn : R (p * 2000 + r) → F (p * 2000 + r) = 0) : tc_BF F R p (r + 1) b := by
  rcases h with ⟨e, h⟩ | ⟨c, h1, h2, h3, h4, h5, h6⟩
  · refine Or.inl ⟨e, fun c g1 g2 g3 => ?_⟩
    by_cases w : c = p * 2000 + r
    · rw [w] at g3 ⊢; exact hn g3
    · exact h c g1 (by omega) g3
  · refine Or.inr ⟨c, h1, by omega, h3, h4, h5, fun c' g1 g2 g3 g4 => ?_⟩
    by_cases w : c' = p * 2000 + r
    · rw [w] at g3 g4; exact absurd (hn g3) g4
    · exact h6 c' g1 (by omega) g3 g4
theorem tc_BF_a {F : Nat → Nat} {R : Nat → Prop} {p r : Nat} {b : Int32} (h : tc_BF F R p r b) (hr : R (p * 2000 + r)) (hf : F (p * 2000 + r) ≠ 0) (hl : b = -1 ∨ ∃ j, b = nI j ∧ j < 2 ^ 31 ∧ F (p * 2000 + r) ≤ j) (hF : ∀ c, F c ≤ 7) : tc_BF F R p (r + 1) (nI (F (p * 2000 + r))) := by
  refine Or.inr ⟨p * 2000 + r, by omega, by omega, hr, hf, rfl, fun c' g1 g2 g3 g4 => ?_⟩
  by_cases w : c' = p * 2000 + r
  · rw [w]; exact Nat.le_refl _
  · rcases h with ⟨e, h⟩ | ⟨c, h1, h2, h3, h4, h5, h6⟩
    · exact absurd (h c' g1 (by omega) g3) g4
    · have q := h6 c' g1 (by omega) g3 g4
      have := hF c
      rcases hl with z | ⟨j, ej, hj, hle⟩
      · rw [h5] at z; exact absurd z (tc_m1_ne (by omega))
      · rw [h5, nI_eq (by omega) hj] at ej
        omega
theorem tc_BF_b {F : Nat → Nat} {R : Nat → Prop} {p r j : Nat} {b : Int32} (h : tc_BF F R p r b) (eb : b = nI j) (hj : j < 2 ^ 31) (hle : j ≤ F (p * 2000 + r)) (hF : ∀ c, F c ≤ 7) : tc_BF F R p (r + 1) b := by
  rcases h with ⟨e, h⟩ | ⟨c, h1, h2, h3, h4, h5, h6⟩
  · rw [eb] at e; exact absurd e (tc_m1_ne hj)
  · refine Or.inr ⟨c, h1, by omega, h3, h4, h5, fun c' g1 g2 g3 g4 => ?_⟩
    by_cases w : c' = p * 2000 + r
    · have := hF c
      rw [eb, nI_eq hj (by omega)] at h5
      rw [w]; omega
    · exact h6 c' g1 (by omega) g3 g4
theorem tc_BF_e {F : Nat → Nat} {R : Nat → Prop} {b : Int32} (h : tc_BF F R p 2000 b) (hP : tc_FP L F R (nI p)) (hL : L ≤ 16) (hp : p < 16) : tc_FS L F R (nI p) b := by
  rcases hP with ⟨e, _⟩ | ⟨c0, g1, g2, g3, g4, g5⟩
  · exact absurd e (tc_m1_ne (by omega))
  · rw [nI_eq (by omega) (by omega)] at g4
    rcases h with ⟨e, h⟩ | ⟨c, h1, h2, h3, h4, h5, h6⟩
    · exact absurd (h c0 (by omega) (by omega) g1) g3
    · refine Or.inr ⟨c, h3, by omega, h4, congrArg nI (by omega), h5, fun c' k1 k2 k3 => ?_⟩
      have := g5 c' k1 k2 k3
      by_cases w : c' / 2000 = p
      · have := h6 c' (by omega) (by omega) k1 k3
        omega
      · omega
theorem yh_pr (p r : Nat) : nI p * 2000 + nI r = nI (p * 2000 + r) := by
  rw [yh_l2, nI_add]
theorem yh_fkl {post : Int32 → SY → Prop} {R : Nat → Prop} (hV : tc_VP o a b L) (hD : tc_VD rq rs cl) (hJ : tc_JM o L yl ye yo T) (hL : L ≤ 16) (hp : p < L)
    (hR : ∀ c, c < 34000 → (yr c ≠ 0 ↔ R c))
    (h : ∀ (r wp : Int32) (wl ws : Nat → Int32), tc_BF (tc_F o a b dn rq rs cl) R p 2000 r → post r (cp, nI L, wp, mp, mt, o, a, b, ye, yl, yo, ys, dn, rq, rs, cl, wl, ws, ml, mz, yr, 34000)) :
    ∀ (m i : Nat) (bb wp : Int32) (wl ws : Nat → Int32), 2000 < m + i → i ≤ 2000 → tc_BF (tc_F o a b dn rq rs cl) R p i bb → wY_faultKind_15 post (nI p) m bb (nI i) cp (nI L) wp mp mt o a b ye yl yo ys dn rq rs cl wl ws ml mz yr 34000 := by
  intro m
  induction m with
  | zero => intro i bb wp wl ws g1 g2; omega
  | succ m ih =>
    intro i bb wp wl ws g1 g2 hB
    rw [wY_faultKind_15]
    by_cases e : i = 2000
    · rw [e] at hB
      exact br_t (by rw [e]; exact nI_le (a := 2000) (b := 2000) (by omega) (by omega)) (h _ _ _ _ hB)
    · refine br_f (nI_ge (b := 2000) (by omega) (by omega)) ?_
      rw [yh_pr]
      refine ⟨vp_in_nI (by omega) (by omega), ?_⟩
      rw [nI_clamp (by omega)]
      by_cases z : yr (p * 2000 + i) = 0
      · refine br_t z (nm_r (nI_1 i) (ih (i + 1) bb wp wl ws (by omega) (by omega) (tc_BF_n hB (fun hr => ?_))))
        exact absurd z ((hR _ (by omega)).mpr hr)
      · refine br_f z (yh_faultAt hV hD hJ hL (by omega) (by omega) (fun wp wl ws => ?_))
        have hr := (hR _ (by omega)).mp z
        have hle := tc_F_le (o := o) (a := a) (b := b) (dn := dn) (rq := rq) (rs := rs) (cl := cl) (p * 2000 + i)
        by_cases f : tc_F o a b dn rq rs cl (p * 2000 + i) = 0
        · exact br_t (by rw [f]; rfl) (nm_r (nI_1 i) (ih (i + 1) bb wp wl ws (by omega) (by omega) (tc_BF_n hB (fun _ => f))))
        · refine br_f (nI_ne0 (by omega) (by omega)) ?_
          have hB' := hB
          rcases hB with ⟨eb, _⟩ | ⟨c, _, _, _, _, eb, _⟩
          · exact br_t (by rw [eb]; decide) (nm_r (nI_1 i) (ih (i + 1) _ wp wl ws (by omega) (by omega) (tc_BF_a hB' hr f (Or.inl eb) tc_F_le)))
          · have hle2 := tc_F_le (o := o) (a := a) (b := b) (dn := dn) (rq := rq) (rs := rs) (cl := cl) c
            refine br_f (by rw [eb]; exact nI_pos (by omega)) ?_
            by_cases w : tc_F o a b dn rq rs cl c ≤ tc_F o a b dn rq rs cl (p * 2000 + i)
            · exact br_t (by rw [eb]; exact nI_le w (by omega)) (nm_r (nI_1 i) (ih (i + 1) bb wp wl ws (by omega) (by omega) (tc_BF_b hB' eb (by omega) w tc_F_le)))
            · exact br_f (by rw [eb]; exact nI_ge (by omega) (by omega)) (nm_r (nI_1 i) (ih (i + 1) _ wp wl ws (by omega) (by omega) (tc_BF_a hB' hr f (Or.inr ⟨_, eb, by omega, by omega⟩) tc_F_le)))
theorem yh_faultKind {post : Int32 → SY → Prop} (hV : tc_VP o a b L) (hD : tc_VD rq rs cl) (hL : L ≤ 16)
    (h0 : tc_wf o L = 0 → ∀ yl ye yo ys : Nat → Int32, post (-1) (cp, nI L, wp, mp, mt, o, a, b, ye, yl, yo, ys, dn, rq, rs, cl, wl, ws, ml, mz, yr, 34000))
    (h1 : tc_wf o L = 1 → ∀ (r k wp : Int32) (yl ye yo ys wl ws yr : Nat → Int32), tc_FS L (tc_F o a b dn rq rs cl) (tc_RR o a b dn rq rs cl L) r k → post k (cp, nI L, wp, mp, mt, o, a, b, ye, yl, yo, ys, dn, rq, rs, cl, wl, ws, ml, mz, yr, 34000)) :
    wpY_faultKind post (cp, nI L, wp, mp, mt, o, a, b, ye, yl, yo, ys, dn, rq, rs, cl, wl, ws, ml, mz, yr, 34000) := by
  unfold wpY_faultKind
  refine yh_faultPc hV hD hL (fun e yl ye yo ys => br_f (by decide) (h0 e yl ye yo ys)) (fun e r wp yl ye yo ys wl ws yr hJ hR hF => ?_)
  rcases tc_FP_neg hF hL with ⟨er, hn⟩ | ⟨p, hp, er⟩
  · subst er
    exact br_f (by decide) (h1 e (-1) (-1) wp yl ye yo ys wl ws yr (Or.inl ⟨rfl, rfl, hn⟩))
  · subst er
    refine br_t (nI_pos' (by omega)) ⟨2001, ?_⟩
    exact yh_fkl hV hD hJ hL hp hR (fun k wp wl ws hB => h1 e (nI p) k wp yl ye yo ys wl ws yr (tc_BF_e hB hF hL (by omega))) 2001 0 (-1) wp wl ws (by omega) (by omega) (Or.inl ⟨rfl, fun c g1 g2 => by omega⟩)
theorem yh_sset {post : Int32 → SY → Prop} {R : Nat → Prop} (hp : p ≤ 16) (hq : q < 2)
    (hR : ∀ c, c < 34000 → (yr c ≠ 0 ↔ R c))
    (h : ∀ (s wp : Int32) (wl ws : Nat → Int32), tc_BS (fun c => R c ∧ p * 2000 ≤ c ∧ c < p * 2000 + 2000) (fun c => tc_s c q) s → post s (cp, nI L, wp, mp, mt, o, a, b, ye, yl, yo, ys, dn, rq, rs, cl, wl, ws, ml, mz, yr, 34000)) :
    ∀ (m i : Nat) (s wp : Int32) (wl ws : Nat → Int32), 2000 < m + i → i ≤ 2000 → tc_BS (fun c => R c ∧ p * 2000 ≤ c ∧ c < p * 2000 + i) (fun c => tc_s c q) s → wY_stateSet_39 post (nI p) (nI q) m s (nI i) cp (nI L) wp mp mt o a b ye yl yo ys dn rq rs cl wl ws ml mz yr 34000 := by
  intro m
  induction m with
  | zero => intro i s wp wl ws g1 g2; omega
  | succ m ih =>
    intro i s wp wl ws g1 g2 hB
    rw [wY_stateSet_39]
    by_cases e : i = 2000
    · rw [e] at hB
      exact br_t (by rw [e]; exact nI_le (a := 2000) (b := 2000) (by omega) (by omega)) (h _ _ _ _ hB)
    · refine br_f (nI_ge (b := 2000) (by omega) (by omega)) ?_
      rw [yh_pr]
      refine ⟨vp_in_nI (by omega) (by omega), ?_⟩
      rw [nI_clamp (by omega)]
      by_cases z : yr (p * 2000 + i) = 0
      · refine br_t z (nm_r (nI_1 i) (ih (i + 1) s wp wl ws (by omega) (by omega) (tc_BS_c hB (fun x => ?_))))
        constructor
        · rintro ⟨w1, w2, w3⟩
          refine ⟨w1, w2, ?_⟩
          by_cases w : x = p * 2000 + i
          · rw [w] at w1
            exact absurd z ((hR _ (by omega)).mpr w1)
          · omega
        · rintro ⟨w1, w2, w3⟩
          exact ⟨w1, w2, by omega⟩
      · have hr := (hR _ (by omega)).mp z
        refine br_f z (yh_load (by omega) (fun wp wl ws hW => ⟨vp_in_nI hq (by omega), ?_⟩))
        rw [nI_clamp (by omega), hW.2.2 q hq]
        refine nm_e (nm_r (nI_1 i) (ih (i + 1) _ wp wl ws (by omega) (by omega) ?_))
        refine tc_BS_s (c := p * 2000 + i) hB (Nat.lt_succ_of_lt (tc_s_lt _ q)) (fun x => ?_)
        constructor
        · rintro ⟨w1, w2, w3⟩
          by_cases w : x = p * 2000 + i
          · exact Or.inr w
          · exact Or.inl ⟨w1, w2, by omega⟩
        · rintro (⟨w1, w2, w3⟩ | w)
          · exact ⟨w1, w2, by omega⟩
          · rw [w]; exact ⟨hr, by omega, by omega⟩
theorem yh_lset {post : Int32 → SY → Prop} {R : Nat → Prop} (hp : p ≤ 16) (hq : q < 3)
    (hR : ∀ c, c < 34000 → (yr c ≠ 0 ↔ R c))
    (h : ∀ (s wp : Int32) (wl ws : Nat → Int32), tc_BS (fun c => R c ∧ p * 2000 ≤ c ∧ c < p * 2000 + 2000) (fun c => tc_l c q) s → post s (cp, nI L, wp, mp, mt, o, a, b, ye, yl, yo, ys, dn, rq, rs, cl, wl, ws, ml, mz, yr, 34000)) :
    ∀ (m i : Nat) (s wp : Int32) (wl ws : Nat → Int32), 2000 < m + i → i ≤ 2000 → tc_BS (fun c => R c ∧ p * 2000 ≤ c ∧ c < p * 2000 + i) (fun c => tc_l c q) s → wY_localSet_39 post (nI p) (nI q) m s (nI i) cp (nI L) wp mp mt o a b ye yl yo ys dn rq rs cl wl ws ml mz yr 34000 := by
  intro m
  induction m with
  | zero => intro i s wp wl ws g1 g2; omega
  | succ m ih =>
    intro i s wp wl ws g1 g2 hB
    rw [wY_localSet_39]
    by_cases e : i = 2000
    · rw [e] at hB
      exact br_t (by rw [e]; exact nI_le (a := 2000) (b := 2000) (by omega) (by omega)) (h _ _ _ _ hB)
    · refine br_f (nI_ge (b := 2000) (by omega) (by omega)) ?_
      rw [yh_pr]
      refine ⟨vp_in_nI (by omega) (by omega), ?_⟩
      rw [nI_clamp (by omega)]
      by_cases z : yr (p * 2000 + i) = 0
      · refine br_t z (nm_r (nI_1 i) (ih (i + 1) s wp wl ws (by omega) (by omega) (tc_BS_c hB (fun x => ?_))))
        constructor
        · rintro ⟨w1, w2, w3⟩
          refine ⟨w1, w2, ?_⟩
          by_cases w : x = p * 2000 + i
          · rw [w] at w1
            exact absurd z ((hR _ (by omega)).mpr w1)
          · omega
        · rintro ⟨w1, w2, w3⟩
          exact ⟨w1, w2, by omega⟩
      · have hr := (hR _ (by omega)).mp z
        refine br_f z (yh_load (by omega) (fun wp wl ws hW => ⟨vp_in_nI hq (by omega), ?_⟩))
        rw [nI_clamp (by omega), hW.2.1 q hq]
        refine nm_e (nm_r (nI_1 i) (ih (i + 1) _ wp wl ws (by omega) (by omega) ?_))
        refine tc_BS_s (c := p * 2000 + i) hB (tc_l_lt _ q) (fun x => ?_)
        constructor
        · rintro ⟨w1, w2, w3⟩
          by_cases w : x = p * 2000 + i
          · exact Or.inr w
          · exact Or.inl ⟨w1, w2, by omega⟩
        · rintro (⟨w1, w2, w3⟩ | w)
          · exact ⟨w1, w2, by omega⟩
          · rw [w]; exact ⟨hr, by omega, by omega⟩
end
end
section
/-! the two runs against the pure one -/
theorem tc_dcE {k : Nat} (hk : k < 2 ^ 31) (ch : Int32) : (ch.toUInt32 >>> ((nI k - nI k / 32 * 32).toUInt32 &&& Int32.toUInt32 31)).toInt32 &&& 1 = tc_dc ch k := by
  rw [show nI k - nI k / 32 * 32 = nI (k % 32) from pk_rem (d := 32) hk (by omega) (by omega)]
  rfl
section
variable {cp ct wf rc fp fc mc ms : Int32} {dn rq rs cl o a b xl xe xo xb ir rd : Nat → Int32} {L B : Nat} {T : Nat → Nat} {ch : Int32}
theorem xh_run_l {post : Int32 → SX → Prop} (hV : tc_VP o a b L) (hD : tc_VD rq rs cl) (hJ : tc_JM o L xl xe xo T) (hL : L ≤ 16) (hB : B ≤ 4096) :
    ∀ (n k i c : Nat), i + n = B → k ≤ i → tc_g c → c / 2000 ≤ L → ∀ m, n < m → post (tc_run L o (tc_F o a b dn rq rs cl) (tc_N o a b rs cl T) ch n c k i).1 (cp, nI L, wf, rc, fp, fc, nI (tc_run L o (tc_F o a b dn rq rs cl) (tc_N o a b rs cl T) ch n c k i).2.1, nI (tc_run L o (tc_F o a b dn rq rs cl) (tc_N o a b rs cl T) ch n c k i).2.2, dn, rq, rs, cl, o, a, b, xl, xe, xo, xb, ir, rd, 34000, 34000) →
      wX_run_29 post ch (nI B) cp (nI L) wf rc fp fc dn rq rs cl o a b xl xe xo xb ir rd 34000 34000 m (nI k) (nI i) (nI c) (nI i) := by
  intro n
  induction n with
  | zero =>
    intro k i c e hk hg hc m hm h
    obtain ⟨m', rfl⟩ : ∃ m', m = m' + 1 := ⟨m - 1, by omega⟩
    rw [wX_run_29]
    refine br_t (nI_le (by omega) (by omega)) (xh_pcOf (by omega) ?_)
    rw [tc_run] at h
    by_cases z : c / 2000 = L
    · rw [if_pos z] at h
      exact br_t (by rw [z]) h
    · rw [if_neg z] at h
      exact br_f (fun w => z ((nI_eq (by omega) (by omega)).mp w)) h
  | succ n ih =>
    intro k i c e hk hg hc m hm h
    obtain ⟨m', rfl⟩ : ∃ m', m = m' + 1 := ⟨m - 1, by omega⟩
    rw [wX_run_29]
    refine br_f (nI_ge (by omega) (by omega)) (xh_pcOf (by omega) ?_)
    rw [tc_run] at h
    by_cases z : c / 2000 = L
    · rw [if_pos z] at h
      exact br_f (nI_nlt (by omega) (by omega)) h
    · have hp : c / 2000 < L := by omega
      rw [if_neg z] at h
      refine br_t (nI_lt hp (by omega)) ⟨by decide, nm_r (tc_dcE (by omega) ch) (xh_step hV hD hJ hL (by omega) hp hg ?_)⟩
      by_cases f : tc_F o a b dn rq rs cl c = 0
      · rw [if_neg (fun w => w f)] at h
        have hN := tc_step_g hV hD (tc_JM_T hJ) (tc_dc ch k) hg hp f
        rw [f, tc_rs, if_pos rfl]
        have vi : vp_in (nI (c / 2000)) 16 := vp_in_nI (by omega) (by omega)
        refine br_t (nI_pos' (by omega)) ⟨vi, ?_⟩
        rw [nI_clamp (by omega)]
        by_cases o5 : o (c / 2000) = 5
        · rw [if_pos (Or.inl o5)] at h
          refine br_t o5 ?_
          unfold wX_run_111 wX_run_114
          exact nm_r (nI_1 k) (nm_r (nI_1 i) (nm_r (nI_1 i) (ih (k + 1) (i + 1) _ (by omega) (by omega) hN.1 hN.2 m' (by omega) h)))
        · by_cases o8 : o (c / 2000) = 8
          · rw [if_pos (Or.inr o8)] at h
            refine br_f o5 ⟨vi, br_t o8 ?_⟩
            unfold wX_run_111 wX_run_114
            exact nm_r (nI_1 k) (nm_r (nI_1 i) (nm_r (nI_1 i) (ih (k + 1) (i + 1) _ (by omega) (by omega) hN.1 hN.2 m' (by omega) h)))
          · have n58 : ¬ (o (c / 2000) = 5 ∨ o (c / 2000) = 8) := fun w => w.elim o5 o8
            rw [if_neg n58] at h
            refine br_f o5 ⟨vi, br_f o8 ?_⟩
            unfold wX_run_114
            exact nm_r (nI_1 i) (nm_r (nI_1 i) (ih k (i + 1) _ (by omega) (by omega) hN.1 hN.2 m' (by omega) h))
      · rw [if_pos f] at h
        have hle := tc_F_le (o := o) (a := a) (b := b) (dn := dn) (rq := rq) (rs := rs) (cl := cl) c
        obtain ⟨n1, n2⟩ := xh_neg f hle
        rw [tc_rs, if_neg f]
        refine br_f n1 ?_
        rw [n2]
        exact h
end
section
variable {cp ct wp mp mt : Int32} {o a b ye yl yo ys dn rq rs cl wl ws ml mz yr : Nat → Int32} {L B : Nat} {T : Nat → Nat} {ch : Int32}
theorem yh_copy {l l' s s' : Nat → Int32} {pc : Int32} {c : Nat} (h : tc_W pc l s c) : tc_W pc (upd (upd (upd l' 0 (l 0)) 1 (l 1)) 2 (l 2)) (upd (upd s' 0 (s 0)) 1 (s 1)) c := by
  refine ⟨h.1, fun j hj => ?_, fun j hj => ?_⟩
  · rcases tc_c3 hj with rfl | rfl | rfl
    · rw [pk_un (by omega), pk_un (by omega), pk_us]; exact h.2.1 0 hj
    · rw [pk_un (by omega), pk_us]; exact h.2.1 1 hj
    · rw [pk_us]; exact h.2.1 2 hj
  · rcases tc_c2 hj with rfl | rfl
    · rw [pk_un (by omega), pk_us]; exact h.2.2 0 hj
    · rw [pk_us]; exact h.2.2 1 hj
theorem yh_219 {post : Int32 → SY → Prop} {J : Int32 → Int32 → Int32 → Int32 → Int32 → Int32 → Int32 → (Nat → Int32) → (Nat → Int32) → (Nat → Int32) → (Nat → Int32) → (Nat → Int32) → (Nat → Int32) → (Nat → Int32) → (Nat → Int32) → (Nat → Int32) → (Nat → Int32) → (Nat → Int32) → (Nat → Int32) → (Nat → Int32) → (Nat → Int32) → (Nat → Int32) → (Nat → Int32) → Nat → Prop} {x1 x3 x4 : Int32} {i c : Nat} (hW : tc_W wp wl ws c)
    (h : ∀ (mp : Int32) (ml mz : Nat → Int32), tc_W mp ml mz c → J x4 (nI (i + 1)) cp (nI L) wp mp (nI (i + 1)) o a b ye yl yo ys dn rq rs cl wl ws ml mz yr 34000) : wY_run_219 post J x1 x3 x4 (nI i) cp (nI L) wp mp (nI i) o a b ye yl yo ys dn rq rs cl wl ws ml mz yr 34000 := by
  unfold wY_run_219
  exact nm_e (nm_e (nm_e (nm_e (nm_e (nm_r (nI_1 i) (nm_r (nI_1 i) (h _ _ _ (yh_copy hW))))))))
theorem yh_run_l {post : Int32 → SY → Prop} (hV : tc_VP o a b L) (hD : tc_VD rq rs cl) (hJ : tc_JM o L yl ye yo T) (hL : L ≤ 16) (hB : B ≤ 4096) :
    ∀ (n k i c : Nat) (wp mp : Int32) (wl ws ml mz : Nat → Int32), i + n = B → k ≤ i → tc_g c → c / 2000 ≤ L → tc_W mp ml mz c → ∀ m, n < m → (∀ (wp mp : Int32) (wl ws ml mz : Nat → Int32), tc_W mp ml mz (tc_run L o (tc_F o a b dn rq rs cl) (tc_N o a b rs cl T) ch n c k i).2.1 → post (tc_run L o (tc_F o a b dn rq rs cl) (tc_N o a b rs cl T) ch n c k i).1 (cp, nI L, wp, mp, nI (tc_run L o (tc_F o a b dn rq rs cl) (tc_N o a b rs cl T) ch n c k i).2.2, o, a, b, ye, yl, yo, ys, dn, rq, rs, cl, wl, ws, ml, mz, yr, 34000)) →
      wY_run_43 post ch (nI B) m (nI k) (nI i) cp (nI L) wp mp (nI i) o a b ye yl yo ys dn rq rs cl wl ws ml mz yr 34000 := by
  intro n
  induction n with
  | zero =>
    intro k i c wp mp wl ws ml mz e hk hg hc hW m hm h
    obtain ⟨m', rfl⟩ : ∃ m', m = m' + 1 := ⟨m - 1, by omega⟩
    have hm1 := hW.1
    subst hm1
    rw [wY_run_43]
    rw [tc_run] at h
    refine br_f (nI_nlt (a := 4096) (by omega) (by omega)) ?_
    by_cases z : c / 2000 = L
    · rw [if_pos z] at h
      exact br_t (by rw [z]) (h _ _ _ _ _ _ hW)
    · rw [if_neg z] at h
      exact br_f (fun w => z ((nI_eq (by omega) (by omega)).mp w)) (br_t (congrArg nI (by omega)) (h _ _ _ _ _ _ hW))
  | succ n ih =>
    intro k i c wp mp wl ws ml mz e hk hg hc hW m hm h
    obtain ⟨m', rfl⟩ : ∃ m', m = m' + 1 := ⟨m - 1, by omega⟩
    have hm1 := hW.1
    subst hm1
    rw [wY_run_43]
    rw [tc_run] at h
    refine br_f (nI_nlt (a := 4096) (by omega) (by omega)) ?_
    by_cases z : c / 2000 = L
    · rw [if_pos z] at h
      exact br_t (by rw [z]) (h _ _ _ _ _ _ hW)
    · have hp : c / 2000 < L := by omega
      rw [if_neg z] at h
      have hW' := yh_copy (l' := wl) (s' := ws) hW
      refine br_f (fun w => z ((nI_eq (by omega) (by omega)).mp w)) (br_f (fun w => by have := (nI_eq (by omega) (by omega)).mp w; omega) (nm_e (nm_e (nm_e (nm_e (nm_e ⟨vp_in_nI (by omega) (by omega), ?_⟩))))))
      rw [nI_clamp (by omega)]
      have hle := tc_F_le (o := o) (a := a) (b := b) (dn := dn) (rq := rq) (rs := rs) (cl := cl) c
      have takes : (o (c / 2000) = 5 ∨ o (c / 2000) = 8) → wY_run_168 post (wY_run_43 post ch (nI B) m') ch (nI B) (nI k) (nI i) cp (nI L) (nI (c / 2000)) (nI (c / 2000)) (nI i) o a b ye yl yo ys dn rq rs cl (upd (upd (upd wl 0 (ml 0)) 1 (ml 1)) 2 (ml 2)) (upd (upd ws 0 (mz 0)) 1 (mz 1)) ml mz yr 34000 := by
        intro h58
        unfold wY_run_168 wY_run_173
        refine br_f (by decide) ⟨by decide, ?_⟩
        unfold wY_run_193
        rw [tc_dcE (by omega) ch]
        refine yh_step hV hD hJ hL (by omega) hp hW' (fun hf => ?_) (fun hf wp2 wl2 ws2 hW2 => ?_)
        · rw [if_pos hf] at h
          exact br_f (nI_ne0 (by omega) (by omega)) (h _ _ _ _ _ _ hW)
        · rw [if_neg (fun w => w hf), if_pos h58] at h
          have hN := tc_step_g hV hD (tc_JM_T hJ) (tc_dc ch k) hg hp hf
          refine br_t rfl (br_f (by decide) (nm_r (nI_1 k) (yh_219 hW2 (fun mp3 ml3 mz3 hW3 => ?_))))
          exact ih (k + 1) (i + 1) _ _ _ _ _ _ _ (by omega) (by omega) hN.1 hN.2 hW3 m' (by omega) h
      by_cases o5 : o (c / 2000) = 5
      · exact nm_r o5 (br_t rfl (takes (Or.inl o5)))
      · by_cases o8 : o (c / 2000) = 8
        · exact nm_r o8 (br_f (by decide) (br_t rfl (takes (Or.inr o8))))
        · have n58 : ¬ (o (c / 2000) = 5 ∨ o (c / 2000) = 8) := fun w => w.elim o5 o8
          refine nm_e (br_f o5 (br_f o8 ?_))
          unfold wY_run_173
          refine br_t rfl ?_
          unfold wY_run_193
          refine yh_step hV hD hJ hL (by omega) hp hW' (fun hf => ?_) (fun hf wp2 wl2 ws2 hW2 => ?_)
          · rw [if_pos hf] at h
            exact br_f (nI_ne0 (by omega) (by omega)) (h _ _ _ _ _ _ hW)
          · rw [if_neg (fun w => w hf), if_neg n58] at h
            rw [tc_N_nd (hV _ hp) o5 o8 0 (tc_dc ch k)] at hW2
            have hN := tc_step_g hV hD (tc_JM_T hJ) (tc_dc ch k) hg hp hf
            refine br_t rfl (br_t rfl (yh_219 hW2 (fun mp3 ml3 mz3 hW3 => ?_)))
            exact ih k (i + 1) _ _ _ _ _ _ _ (by omega) (by omega) hN.1 hN.2 hW3 m' (by omega) h
theorem yh_reset {post : SY → Prop} (h : ∀ ml mz : Nat → Int32, tc_W (nI 0) ml mz 1120 → post (cp, ct, wp, nI 0, nI 0, o, a, b, ye, yl, yo, ys, dn, rq, rs, cl, wl, ws, ml, mz, yr, 34000)) : wpY_resetMachine post (cp, ct, wp, mp, mt, o, a, b, ye, yl, yo, ys, dn, rq, rs, cl, wl, ws, ml, mz, yr, 34000) := by
  unfold wpY_resetMachine
  refine nm_e (nm_e (nm_e (nm_e (nm_e (h _ _ ⟨rfl, fun j hj => ?_, fun j hj => ?_⟩)))))
  · rcases tc_c3 hj with rfl | rfl | rfl
    · rw [pk_un (by omega), pk_un (by omega), pk_us]; rfl
    · rw [pk_un (by omega), pk_us]; rfl
    · rw [pk_us]; rfl
  · rcases tc_c2 hj with rfl | rfl
    · rw [pk_un (by omega), pk_us]; rfl
    · rw [pk_us]; rfl
end
end
section
/-! what add accepts, by both -/
theorem tc_V1_rng {o a b : Int32} (h : tc_V1 o a b) : ∃ j, 1 ≤ j ∧ j < 10 ∧ o = nI j := by
  rcases h with ⟨ho, _⟩ | ⟨ho, _⟩ | ⟨ho, _⟩ | ⟨ho, _⟩ | ho | ⟨ho, _⟩ | ho | ho | ho
  · exact ⟨1, by omega, by omega, ho⟩
  · exact ⟨2, by omega, by omega, ho⟩
  · exact ⟨3, by omega, by omega, ho⟩
  · exact ⟨4, by omega, by omega, ho⟩
  · exact ⟨5, by omega, by omega, ho⟩
  · exact ⟨6, by omega, by omega, ho⟩
  · exact ⟨7, by omega, by omega, ho⟩
  · exact ⟨8, by omega, by omega, ho⟩
  · exact ⟨9, by omega, by omega, ho⟩
/-- what is asked of the two places, by the code -/
def tc_V2 (j : Nat) (a b : Int32) : Prop :=
  if j = 1 ∨ j = 6 then tc_in 3 a ∧ tc_in 4 b else if j = 2 ∨ j = 3 then tc_in 3 a ∧ tc_in 3 b ∧ a ≠ b else if j = 4 then tc_in 3 a else True
theorem tc_V12 {j : Nat} {a b : Int32} (h1 : 1 ≤ j) (h2 : j < 10) (h : tc_V2 j a b) : tc_V1 (nI j) a b := by
  unfold tc_V2 at h
  by_cases e1 : j = 1 ∨ j = 6
  · rw [if_pos e1] at h
    obtain ⟨⟨x, hx, ex⟩, y, hy, ey⟩ := h
    rcases e1 with rfl | rfl
    · exact Or.inl ⟨rfl, x, y, hx, hy, ex, ey⟩
    · exact Or.inr (Or.inr (Or.inr (Or.inr (Or.inr (Or.inl ⟨rfl, x, y, hx, hy, ex, ey⟩)))))
  · rw [if_neg e1] at h
    by_cases e2 : j = 2 ∨ j = 3
    · rw [if_pos e2] at h
      obtain ⟨⟨x, hx, ex⟩, ⟨y, hy, ey⟩, hn⟩ := h
      have hxy : x ≠ y := fun w => hn (by rw [ex, ey, w])
      rcases e2 with rfl | rfl
      · exact Or.inr (Or.inl ⟨rfl, x, y, hx, hy, hxy, ex, ey⟩)
      · exact Or.inr (Or.inr (Or.inl ⟨rfl, x, y, hx, hy, hxy, ex, ey⟩))
    · rw [if_neg e2] at h
      by_cases e3 : j = 4
      · rw [if_pos e3] at h
        obtain ⟨x, hx, ex⟩ := h
        subst e3
        exact Or.inr (Or.inr (Or.inr (Or.inl ⟨rfl, x, hx, ex⟩)))
      · have e : j = 5 ∨ j = 7 ∨ j = 8 ∨ j = 9 := by omega
        rcases e with rfl | rfl | rfl | rfl
        · exact Or.inr (Or.inr (Or.inr (Or.inr (Or.inl rfl))))
        · exact Or.inr (Or.inr (Or.inr (Or.inr (Or.inr (Or.inr (Or.inl rfl))))))
        · exact Or.inr (Or.inr (Or.inr (Or.inr (Or.inr (Or.inr (Or.inr (Or.inl rfl)))))))
        · exact Or.inr (Or.inr (Or.inr (Or.inr (Or.inr (Or.inr (Or.inr (Or.inr rfl)))))))
/-- the codes: below 1, beyond 9, or one of them -/
theorem tc_codes (x : Int32) : x < 1 ∨ (¬ x < 1 ∧ 9 < x) ∨ ∃ j, 1 ≤ j ∧ j < 10 ∧ x = nI j := by
  rcases pk_ix x (n := 10) (by omega) with h | h | ⟨j, hj, rfl⟩
  · left
    rw [Int32.lt_iff_toInt_lt] at h ⊢
    rw [show (0 : Int32).toInt = 0 from by decide] at h
    rw [show (1 : Int32).toInt = 1 from by decide]
    omega
  · right; left
    obtain ⟨_, j, hj, hn, rfl⟩ := tc_in_ge h (by omega)
    exact ⟨nI_nlt (b := 1) (by omega) hj, nI_lt (a := 9) (by omega) hj⟩
  · by_cases e : j = 0
    · left; rw [e]; decide
    · exact Or.inr (Or.inr ⟨j, by omega, hj, rfl⟩)
theorem xh_isSt {post : Int32 → Prop} {x a b : Int32} (h1 : ∀ j, 1 ≤ j → j < 10 → x = nI j → tc_V2 j a b → post 1) (h0 : (x < 1 ∨ (¬ x < 1 ∧ 9 < x) ∨ ∃ j, 1 ≤ j ∧ j < 10 ∧ x = nI j ∧ ¬ tc_V2 j a b) → post 0) : wpX_isStatement post x a b := by
  unfold wpX_isStatement
  rcases tc_codes x with h | ⟨n1, h⟩ | ⟨j, j1, j2, rfl⟩
  · exact br_t h (h0 (Or.inl h))
  · exact br_f n1 (br_t h (h0 (Or.inr (Or.inl ⟨n1, h⟩))))
  · refine br_f (nI_nlt (b := 1) j1 (by omega)) (br_f (nI_nlt (a := 9) (by omega) (by omega)) ?_)
    have p1 := h1 j j1 j2 rfl
    have p0 : ¬ tc_V2 j a b → post 0 := fun w => h0 (Or.inr (Or.inr ⟨j, j1, j2, rfl, w⟩))
    have two : (tc_V2 j a b ↔ tc_in 3 a ∧ tc_in 4 b) → wpX_isBelow (fun r_4 => (((r_4 = 0 → (post 0)) ∧ (¬ r_4 = 0 → (wpX_isBelow (fun r_6 => (((r_6 = 0 → (post 0)) ∧ (¬ r_6 = 0 → (post 1))))) b 4))))) a 3 := by
      intro e
      refine xh_below 3 (by omega) (fun w => br_t rfl (p0 (fun q => w (e.mp q).1))) (fun w1 => br_f (by decide) ?_)
      exact xh_below 4 (by omega) (fun w => br_t rfl (p0 (fun q => w (e.mp q).2))) (fun w2 => br_f (by decide) (p1 (e.mpr ⟨w1, w2⟩)))
    have three : (tc_V2 j a b ↔ tc_in 3 a ∧ tc_in 3 b ∧ a ≠ b) → wX_isStatement_74 post a b := by
      intro e
      unfold wX_isStatement_74
      refine xh_below 3 (by omega) (fun w => br_t rfl (p0 (fun q => w (e.mp q).1))) (fun w1 => br_f (by decide) ?_)
      refine xh_below 3 (by omega) (fun w => br_t rfl (p0 (fun q => w (e.mp q).2.1))) (fun w2 => br_f (by decide) ?_)
      by_cases w3 : a = b
      · exact br_t w3 (p0 (fun q => (e.mp q).2.2 w3))
      · exact br_f w3 (p1 (e.mpr ⟨w1, w2, w3⟩))
    have ec : j = 1 ∨ j = 2 ∨ j = 3 ∨ j = 4 ∨ j = 5 ∨ j = 6 ∨ j = 7 ∨ j = 8 ∨ j = 9 := by omega
    rcases ec with rfl | rfl | rfl | rfl | rfl | rfl | rfl | rfl | rfl
    · exact br_t rfl (two Iff.rfl)
    · exact br_f (by decide) (br_t rfl (three Iff.rfl))
    · exact br_f (by decide) (br_f (by decide) (br_t rfl (three Iff.rfl)))
    · refine br_f (by decide) (br_f (by decide) (br_f (by decide) (br_t rfl ?_)))
      exact xh_below 3 (by omega) (fun w => ⟨rfl, p0 w⟩) (fun w => ⟨rfl, p1 w⟩)
    · exact br_f (by decide) (br_f (by decide) (br_f (by decide) (br_f (by decide) (br_t rfl (p1 True.intro)))))
    · exact br_f (by decide) (br_f (by decide) (br_f (by decide) (br_f (by decide) (br_f (by decide) (br_t rfl (two Iff.rfl))))))
    · exact br_f (by decide) (br_f (by decide) (br_f (by decide) (br_f (by decide) (br_f (by decide) (br_f (by decide) (br_t rfl (p1 True.intro)))))))
    · exact br_f (by decide) (br_f (by decide) (br_f (by decide) (br_f (by decide) (br_f (by decide) (br_f (by decide) (br_f (by decide) (br_t rfl (p1 True.intro))))))))
    · exact br_f (by decide) (br_f (by decide) (br_f (by decide) (br_f (by decide) (br_f (by decide) (br_f (by decide) (br_f (by decide) (br_f (by decide) (br_t rfl (p1 True.intro)))))))))
section
variable {cp ct wp mp mt : Int32} {o a b ye yl yo ys dn rq rs cl wl ws ml mz yr : Nat → Int32}
theorem yh_add {post : Int32 → SY → Prop} {x v w : Int32} (hc : ¬ cp ≤ ct) (h1 : ∀ j, 1 ≤ j → j < 10 → x = nI j → tc_V2 j v w → wY_add_106 post x v w cp ct wp mp mt o a b ye yl yo ys dn rq rs cl wl ws ml mz yr 34000) (h0 : (x < 1 ∨ (¬ x < 1 ∧ 9 < x) ∨ ∃ j, 1 ≤ j ∧ j < 10 ∧ x = nI j ∧ ¬ tc_V2 j v w) → post (-1) (cp, ct, wp, mp, mt, o, a, b, ye, yl, yo, ys, dn, rq, rs, cl, wl, ws, ml, mz, yr, 34000)) : wpY_add post (cp, ct, wp, mp, mt, o, a, b, ye, yl, yo, ys, dn, rq, rs, cl, wl, ws, ml, mz, yr, 34000) x v w := by
  unfold wpY_add
  refine br_f hc ?_
  rcases tc_codes x with h | ⟨n1, h⟩ | ⟨j, j1, j2, rfl⟩
  · exact br_t h (h0 (Or.inl h))
  · exact br_f n1 (br_f (Int32.not_le.mpr h) (h0 (Or.inr (Or.inl ⟨n1, h⟩))))
  · refine br_f (nI_nlt (b := 1) j1 (by omega)) (br_t (nI_le (b := 9) (by omega) (by omega)) ?_)
    have p1 := h1 j j1 j2 rfl
    have p0 : ¬ tc_V2 j v w → post (-1) (cp, ct, wp, mp, mt, o, a, b, ye, yl, yo, ys, dn, rq, rs, cl, wl, ws, ml, mz, yr, 34000) := fun z => h0 (Or.inr (Or.inr ⟨j, j1, j2, rfl, z⟩))
    have k90 : j ≠ 4 → tc_V2 j v w → wY_add_90 post (nI j) v w cp ct wp mp mt o a b ye yl yo ys dn rq rs cl wl ws ml mz yr 34000 := by
      intro z g
      unfold wY_add_90
      exact br_f (fun q => z ((nI_eq (b := 4) (by omega) (by omega)).mp q)) (p1 g)
    have k35 : (j = 1 ∨ j = 6) → (tc_V2 j v w ↔ tc_in 3 v ∧ tc_in 4 w) → wY_add_35 post (nI j) v w cp ct wp mp mt o a b ye yl yo ys dn rq rs cl wl ws ml mz yr 34000 := by
      intro z e
      unfold wY_add_35
      refine yh_lt 2 (by omega) (fun q => p0 (fun g => q (e.mp g).1)) (fun q1 => ?_)
      refine yh_le 3 (by omega) (fun q => p0 (fun g => q (e.mp g).2)) (fun q2 => ?_)
      unfold wY_add_55
      exact br_f (fun q => by have := (nI_eq (b := 2) (by omega) (by omega)).mp q; omega) (br_f (fun q => by have := (nI_eq (b := 3) (by omega) (by omega)).mp q; omega) (k90 (by omega) (e.mpr ⟨q1, q2⟩)))
    have k65 : (j = 2 ∨ j = 3) → (tc_V2 j v w ↔ tc_in 3 v ∧ tc_in 3 w ∧ v ≠ w) → wY_add_65 post (nI j) v w cp ct wp mp mt o a b ye yl yo ys dn rq rs cl wl ws ml mz yr 34000 := by
      intro z e
      unfold wY_add_65
      refine yh_lt 2 (by omega) (fun q => p0 (fun g => q (e.mp g).1)) (fun q1 => ?_)
      refine yh_lt 2 (by omega) (fun q => p0 (fun g => q (e.mp g).2.1)) (fun q2 => ?_)
      by_cases q3 : v = w
      · exact br_t q3 (p0 (fun g => (e.mp g).2.2 q3))
      · exact br_f q3 (k90 (by omega) (e.mpr ⟨q1, q2, q3⟩))
    have ec : j = 1 ∨ j = 2 ∨ j = 3 ∨ j = 4 ∨ j = 5 ∨ j = 6 ∨ j = 7 ∨ j = 8 ∨ j = 9 := by omega
    rcases ec with rfl | rfl | rfl | rfl | rfl | rfl | rfl | rfl | rfl
    · exact br_t rfl (k35 (by omega) Iff.rfl)
    · refine br_f (by decide) (br_f (by decide) ?_)
      unfold wY_add_55
      exact br_t rfl (k65 (by omega) Iff.rfl)
    · refine br_f (by decide) (br_f (by decide) ?_)
      unfold wY_add_55
      exact br_f (by decide) (br_t rfl (k65 (by omega) Iff.rfl))
    · refine br_f (by decide) (br_f (by decide) ?_)
      unfold wY_add_55
      refine br_f (by decide) (br_f (by decide) ?_)
      unfold wY_add_90
      exact br_t rfl (yh_le 2 (by omega) (fun q => p0 q) (fun q => p1 q))
    · refine br_f (by decide) (br_f (by decide) ?_)
      unfold wY_add_55
      exact br_f (by decide) (br_f (by decide) (k90 (by omega) True.intro))
    · exact br_f (by decide) (br_t rfl (k35 (by omega) Iff.rfl))
    · refine br_f (by decide) (br_f (by decide) ?_)
      unfold wY_add_55
      exact br_f (by decide) (br_f (by decide) (k90 (by omega) True.intro))
    · refine br_f (by decide) (br_f (by decide) ?_)
      unfold wY_add_55
      exact br_f (by decide) (br_f (by decide) (k90 (by omega) True.intro))
    · refine br_f (by decide) (br_f (by decide) ?_)
      unfold wY_add_55
      exact br_f (by decide) (br_f (by decide) (k90 (by omega) True.intro))
end
end
section
/-- the relation: one program, one protocol, one machine; X's marks are those of its list -/
def i_Rel (_ : Nat) (u : SX) (v : SY) : Prop := ∃ (wf fp fc ms wp mp : Int32) (dn rq rs cl o a b xl xe xo xb ir rd ye yl yo ys wl ws ml mz yr : Nat → Int32) (C L n c : Nat),
  u = (nI C, nI L, wf, nI n, fp, fc, nI c, ms, dn, rq, rs, cl, o, a, b, xl, xe, xo, xb, ir, rd, 34000, 34000) ∧ v = (nI C, nI L, wp, mp, ms, o, a, b, ye, yl, yo, ys, dn, rq, rs, cl, wl, ws, ml, mz, yr, 34000) ∧ C ≤ 16 ∧ L ≤ C ∧ tc_VP o a b L ∧ tc_VD rq rs cl ∧ tc_MR ir rd n ∧ c < 34000 ∧ tc_W mp ml mz c
theorem ir_mk {k : Nat} {wf fp fc ms wp mp : Int32} {dn rq rs cl o a b xl xe xo xb ir rd ye yl yo ys wl ws ml mz yr : Nat → Int32} {C L n c : Nat}
    (hC : C ≤ 16) (hL : L ≤ C) (hV : tc_VP o a b L) (hD : tc_VD rq rs cl) (hM : tc_MR ir rd n) (hc : c < 34000) (hW : tc_W mp ml mz c) : i_Rel k (nI C, nI L, wf, nI n, fp, fc, nI c, ms, dn, rq, rs, cl, o, a, b, xl, xe, xo, xb, ir, rd, 34000, 34000) (nI C, nI L, wp, mp, ms, o, a, b, ye, yl, yo, ys, dn, rq, rs, cl, wl, ws, ml, mz, yr, 34000) :=
  ⟨wf, fp, fc, ms, wp, mp, dn, rq, rs, cl, o, a, b, xl, xe, xo, xb, ir, rd, ye, yl, yo, ys, wl, ws, ml, mz, yr, C, L, n, c, rfl, rfl, hC, hL, hV, hD, hM, hc, hW⟩
theorem i_up {k : Nat} {u : SX} {v : SY} (h : i_Rel k u v) : i_Rel (k + 5) u v := h
theorem ir_VD0 : tc_VD (fun _ => 0) (fun _ => 0) (fun _ => 0) := ⟨fun _ _ => ⟨0, by omega, rfl⟩, fun _ _ => ⟨0, by omega, rfl⟩, fun _ _ => ⟨0, by omega, rfl⟩⟩
theorem ir_VP0 {o a b : Nat → Int32} : tc_VP o a b 0 := fun p hp => absurd hp (by omega)
theorem ir_init {k0 : Int32} (C : Nat) (hC : C ≤ 16) (e : k0 = nI C) : wY_init_151 (fun v => i_Rel 1 (k0, 0, 1, 0, (-1), (-1), 1120, 0, (fun _ => 0), (fun _ => 0), (fun _ => 0), (fun _ => 0), (fun _ => 0), (fun _ => 0), (fun _ => 0), (fun _ => 0), (fun _ => 0), (fun _ => 0), (fun _ => 0), (fun _ => 0), (fun _ => 0), 34000, 34000) v) k0 0 0 0 0 0 (fun _ => 0) (fun _ => 0) (fun _ => 0) (fun _ => 0) (fun _ => 0) (fun _ => 0) (fun _ => 0) (fun _ => 0) (fun _ => 0) (fun _ => 0) (fun _ => 0) (fun _ => 0) (fun _ => 0) (fun _ => 0) (fun _ => 0) (fun _ => 0) 34000 := by
  subst e
  unfold wY_init_151
  exact yh_reset (fun ml mz hW => ir_mk (L := 0) (n := 0) (c := 1120) hC (by omega) ir_VP0 ir_VD0 tc_MR_0 (by omega) hW)
theorem i_vc0 (k0 : Int32) : wpX_init (fun u => wpY_init (fun v => i_Rel 1 u v) k0) k0 := by
  unfold wpX_init wpY_init wpX_clamp
  have e : (34000 : Int32).toNatClampNeg = 34000 := by decide
  refine ⟨by decide, nm_r e ⟨by omega, by decide, nm_r e ⟨by omega, ?_⟩⟩⟩
  by_cases h8 : 8 ≤ k0
  · by_cases h16 : k0 ≤ 16
    · obtain ⟨_, j, hj, _, ej⟩ := tc_in_ge (n := 8) h8 (by omega)
      have hj16 : j ≤ 16 := by
        rw [ej] at h16
        exact (nI_leI (b := 16) hj (by omega)).mp h16
      exact br_t h8 (br_t h16 ⟨by decide, nm_r e ⟨by omega, br_t h8 (br_t h16 (ir_init j hj16 ej))⟩⟩)
    · exact br_t h8 (br_f h16 ⟨by decide, nm_r e ⟨by omega, br_t h8 (br_f h16 (ir_init 16 (by omega) rfl))⟩⟩)
  · exact br_f h8 ⟨by decide, nm_r e ⟨by omega, br_f h8 (ir_init 8 (by omega) rfl)⟩⟩
end
section
theorem ir_VD_d {rq rs cl : Nat → Int32} {k r1 r2 : Nat} (h : tc_VD rq rs cl) (h1 : r1 < 4) (h2 : r2 < 4) : tc_VD (upd rq k (nI r1)) (upd rs k (nI r2)) cl := by
  refine ⟨fun j hj => ?_, fun j hj => ?_, h.2.2⟩
  · by_cases e : j = k
    · exact ⟨r1, h1, by rw [e, pk_us]⟩
    · rw [pk_un e]; exact h.1 j hj
  · by_cases e : j = k
    · exact ⟨r2, h2, by rw [e, pk_us]⟩
    · rw [pk_un e]; exact h.2.1 j hj
theorem ir_VD_c {rq rs cl : Nat → Int32} {k r : Nat} (h : tc_VD rq rs cl) (h1 : r < 2) : tc_VD rq rs (upd cl k (nI r)) := by
  refine ⟨h.1, h.2.1, fun j hj => ?_⟩
  by_cases e : j = k
  · exact ⟨r, h1, by rw [e, pk_us]⟩
  · rw [pk_un e]; exact h.2.2 j hj
theorem i_vc_declare {k : Nat} {u : SX} {v : SY} (I : i_Rel k u v) (hk : k + 5 ≤ 2561) (v1 : Int32) (v2 : Int32) (v3 : Int32) (v4 : Int32) : wpX_declare (fun r u' => wpY_declare (fun r' v' => r' = r ∧ i_Rel (k + 5) u' v') v v1 v2 v3 v4) u v1 v2 v3 v4 := by
  obtain ⟨wf, fp, fc, ms, wp, mp, dn, rq, rs, cl, o, a, b, xl, xe, xo, xb, ir, rd, ye, yl, yo, ys, wl, ws, ml, mz, yr, C, L, n, c, rfl, rfl, hC, hL, hV, hD, hM, hc, hW⟩ := I
  have same := ir_mk (k := k + 5) (wf := wf) (fp := fp) (fc := fc) (ms := ms) (wp := wp) (dn := dn) (xl := xl) (xe := xe) (xo := xo) (xb := xb) (ye := ye) (yl := yl) (yo := yo) (ys := ys) (wl := wl) (ws := ws) (yr := yr) hC hL hV hD hM hc hW
  unfold wpX_declare
  by_cases q1 : tc_in 2 v1
  · by_cases q2 : tc_in 4 v2
    · by_cases q3 : tc_in 4 v3
      · by_cases q4 : tc_in 4 v4
        · obtain ⟨j1, h1, rfl⟩ := q1
          obtain ⟨j2, h2, rfl⟩ := q2
          obtain ⟨j3, h3, rfl⟩ := q3
          obtain ⟨j4, h4, rfl⟩ := q4
          have em : nI j1 * 4 + nI j2 = nI (j1 * 4 + j2) := by
            show nI j1 * nI 4 + nI j2 = _
            rw [pk_mul, nI_add]
          have vi : vp_in (nI (j1 * 4 + j2)) 8 := vp_in_nI (by omega) (by omega)
          refine xh_below 2 (by omega) (fun w => absurd ⟨j1, h1, rfl⟩ w) (fun _ => br_f (by decide) ?_)
          refine xh_below 4 (by omega) (fun w => absurd ⟨j2, h2, rfl⟩ w) (fun _ => br_f (by decide) ?_)
          refine xh_below 4 (by omega) (fun w => absurd ⟨j3, h3, rfl⟩ w) (fun _ => br_f (by decide) ?_)
          refine xh_below 4 (by omega) (fun w => absurd ⟨j4, h4, rfl⟩ w) (fun _ => br_f (by decide) ?_)
          refine nm_r em ⟨vi, nm_e ⟨vi, nm_e ⟨vi, nm_e ?_⟩⟩⟩
          unfold wpY_declare
          refine yh_lt 1 (by omega) (fun w => absurd ⟨j1, h1, rfl⟩ w) (fun _ => ?_)
          refine yh_lt 3 (by omega) (fun w => absurd ⟨j2, h2, rfl⟩ w) (fun _ => ?_)
          refine yh_lt 3 (by omega) (fun w => absurd ⟨j3, h3, rfl⟩ w) (fun _ => ?_)
          refine yh_le 3 (by omega) (fun w => absurd ⟨j4, h4, rfl⟩ w) (fun _ => ?_)
          rw [em]
          exact ⟨vi, nm_e ⟨vi, nm_e ⟨vi, nm_e ⟨rfl, ir_mk hC hL hV (ir_VD_d hD h3 h4) hM hc hW⟩⟩⟩⟩
        · refine xh_below 2 (by omega) (fun w => absurd q1 w) (fun _ => br_f (by decide) ?_)
          refine xh_below 4 (by omega) (fun w => absurd q2 w) (fun _ => br_f (by decide) ?_)
          refine xh_below 4 (by omega) (fun w => absurd q3 w) (fun _ => br_f (by decide) ?_)
          refine xh_below 4 (by omega) (fun _ => br_t rfl ?_) (fun w => absurd w q4)
          unfold wpY_declare
          refine yh_lt 1 (by omega) (fun w => absurd q1 w) (fun _ => ?_)
          refine yh_lt 3 (by omega) (fun w => absurd q2 w) (fun _ => ?_)
          refine yh_lt 3 (by omega) (fun w => absurd q3 w) (fun _ => ?_)
          exact yh_le 3 (by omega) (fun _ => ⟨rfl, same⟩) (fun w => absurd w q4)
      · refine xh_below 2 (by omega) (fun w => absurd q1 w) (fun _ => br_f (by decide) ?_)
        refine xh_below 4 (by omega) (fun w => absurd q2 w) (fun _ => br_f (by decide) ?_)
        refine xh_below 4 (by omega) (fun _ => br_t rfl ?_) (fun w => absurd w q3)
        unfold wpY_declare
        refine yh_lt 1 (by omega) (fun w => absurd q1 w) (fun _ => ?_)
        refine yh_lt 3 (by omega) (fun w => absurd q2 w) (fun _ => ?_)
        exact yh_lt 3 (by omega) (fun _ => ⟨rfl, same⟩) (fun w => absurd w q3)
    · refine xh_below 2 (by omega) (fun w => absurd q1 w) (fun _ => br_f (by decide) ?_)
      refine xh_below 4 (by omega) (fun _ => br_t rfl ?_) (fun w => absurd w q2)
      unfold wpY_declare
      refine yh_lt 1 (by omega) (fun w => absurd q1 w) (fun _ => ?_)
      exact yh_lt 3 (by omega) (fun _ => ⟨rfl, same⟩) (fun w => absurd w q2)
  · refine xh_below 2 (by omega) (fun _ => br_t rfl ?_) (fun w => absurd w q1)
    unfold wpY_declare
    exact yh_lt 1 (by omega) (fun _ => ⟨rfl, same⟩) (fun w => absurd w q1)
theorem i_vc_setClass {k : Nat} {u : SX} {v : SY} (I : i_Rel k u v) (hk : k + 5 ≤ 2561) (v1 : Int32) (v2 : Int32) : wpX_setClass (fun r u' => wpY_setClass (fun r' v' => r' = r ∧ i_Rel (k + 5) u' v') v v1 v2) u v1 v2 := by
  obtain ⟨wf, fp, fc, ms, wp, mp, dn, rq, rs, cl, o, a, b, xl, xe, xo, xb, ir, rd, ye, yl, yo, ys, wl, ws, ml, mz, yr, C, L, n, c, rfl, rfl, hC, hL, hV, hD, hM, hc, hW⟩ := I
  have same := ir_mk (k := k + 5) (wf := wf) (fp := fp) (fc := fc) (ms := ms) (wp := wp) (dn := dn) (xl := xl) (xe := xe) (xo := xo) (xb := xb) (ye := ye) (yl := yl) (yo := yo) (ys := ys) (wl := wl) (ws := ws) (yr := yr) hC hL hV hD hM hc hW
  unfold wpX_setClass
  by_cases q1 : tc_in 2 v1
  · by_cases q2 : tc_in 2 v2
    · obtain ⟨j1, h1, rfl⟩ := q1
      obtain ⟨j2, h2, rfl⟩ := q2
      refine xh_below 2 (by omega) (fun w => absurd ⟨j1, h1, rfl⟩ w) (fun _ => br_f (by decide) ?_)
      refine xh_below 2 (by omega) (fun w => absurd ⟨j2, h2, rfl⟩ w) (fun _ => br_f (by decide) ?_)
      refine ⟨vp_in_nI h1 (by omega), nm_e ?_⟩
      unfold wpY_setClass
      refine yh_lt 1 (by omega) (fun w => absurd ⟨j1, h1, rfl⟩ w) (fun _ => ?_)
      refine yh_le 1 (by omega) (fun w => absurd ⟨j2, h2, rfl⟩ w) (fun _ => ?_)
      exact ⟨vp_in_nI h1 (by omega), nm_e ⟨rfl, ir_mk hC hL hV (ir_VD_c hD h2) hM hc hW⟩⟩
    · refine xh_below 2 (by omega) (fun w => absurd q1 w) (fun _ => br_f (by decide) ?_)
      refine xh_below 2 (by omega) (fun _ => br_t rfl ?_) (fun w => absurd w q2)
      unfold wpY_setClass
      refine yh_lt 1 (by omega) (fun w => absurd q1 w) (fun _ => ?_)
      exact yh_le 1 (by omega) (fun _ => ⟨rfl, same⟩) (fun w => absurd w q2)
  · refine xh_below 2 (by omega) (fun _ => br_t rfl ?_) (fun w => absurd w q1)
    unfold wpY_setClass
    exact yh_lt 1 (by omega) (fun _ => ⟨rfl, same⟩) (fun w => absurd w q1)
theorem ir_VP_a {o a b : Nat → Int32} {L : Nat} {x v w : Int32} (h : tc_VP o a b L) (hx : tc_V1 x v w) : tc_VP (upd o L x) (upd a L v) (upd b L w) (L + 1) := by
  intro p hp
  by_cases e : p = L
  · rw [e, pk_us, pk_us, pk_us]; exact hx
  · rw [pk_un e, pk_un e, pk_un e]; exact h p (by omega)
theorem i_vc_add {k : Nat} {u : SX} {v : SY} (I : i_Rel k u v) (hk : k + 5 ≤ 2561) (v1 : Int32) (v2 : Int32) (v3 : Int32) : wpX_add (fun r u' => wpY_add (fun r' v' => r' = r ∧ i_Rel (k + 5) u' v') v v1 v2 v3) u v1 v2 v3 := by
  obtain ⟨wf, fp, fc, ms, wp, mp, dn, rq, rs, cl, o, a, b, xl, xe, xo, xb, ir, rd, ye, yl, yo, ys, wl, ws, ml, mz, yr, C, L, n, c, rfl, rfl, hC, hL, hV, hD, hM, hc, hW⟩ := I
  have same := ir_mk (k := k + 5) (wf := wf) (fp := fp) (fc := fc) (ms := ms) (wp := wp) (dn := dn) (xl := xl) (xe := xe) (xo := xo) (xb := xb) (ye := ye) (yl := yl) (yo := yo) (ys := ys) (wl := wl) (ws := ws) (yr := yr) hC hL hV hD hM hc hW
  unfold wpX_add
  by_cases hf : C ≤ L
  · have g : nI C ≤ nI L := nI_le hf (by omega)
    refine br_t g ?_
    unfold wpY_add
    exact br_t g ⟨rfl, same⟩
  · have g : ¬ nI C ≤ nI L := nI_ge (by omega) (by omega)
    have vi : vp_in (nI L) 16 := vp_in_nI (by omega) (by omega)
    refine br_f g (xh_isSt (fun j j1 j2 ej h2 => ?_) (fun h0 => ?_))
    · refine br_f (by decide) ⟨vi, ?_⟩
      rw [nI_clamp (by omega)]
      refine nm_e ⟨vi, nm_e ⟨vi, nm_e (nm_r (nI_1 L) (yh_add g (fun j' j1' j2' ej' h2' => ?_) (fun h0 => ?_)))⟩⟩
      · unfold wY_add_106
        refine ⟨vi, ?_⟩
        rw [nI_clamp (by omega)]
        refine nm_e ⟨vi, nm_e ⟨vi, nm_e (nm_r (nI_1 L) ⟨nI_pred L, ir_mk hC (by omega) (ir_VP_a hV ?_) hD hM hc hW⟩)⟩⟩
        rw [ej]
        exact tc_V12 j1 j2 h2
      · exfalso
        rw [ej] at h0
        rcases h0 with w | ⟨_, w⟩ | ⟨j', _, _, e', w⟩
        · exact nI_nlt (b := 1) j1 (by omega) w
        · exact nI_nlt (a := 9) (by omega) (by omega) w
        · rw [nI_eq (by omega) (by omega)] at e'
          rw [← e'] at w
          exact w h2
    · refine br_t rfl (yh_add g (fun j' j1' j2' ej' h2' => ?_) (fun _ => ⟨rfl, same⟩))
      exfalso
      rw [ej'] at h0
      rcases h0 with w | ⟨_, w⟩ | ⟨j, _, _, e', w⟩
      · exact nI_nlt (b := 1) j1' (by omega) w
      · exact nI_nlt (a := 9) (by omega) (by omega) w
      · rw [nI_eq (by omega) (by omega)] at e'
        rw [← e'] at w
        exact w h2'
theorem i_vc_clear {k : Nat} {u : SX} {v : SY} (I : i_Rel k u v) (hk : k + 5 ≤ 2561) : wpX_clear (fun u' => wpY_clear (fun v' => i_Rel (k + 5) u' v') v) u := by
  obtain ⟨wf, fp, fc, ms, wp, mp, dn, rq, rs, cl, o, a, b, xl, xe, xo, xb, ir, rd, ye, yl, yo, ys, wl, ws, ml, mz, yr, C, L, n, c, rfl, rfl, hC, hL, hV, hD, hM, hc, hW⟩ := I
  unfold wpX_clear
  unfold wpX_resetMachine
  unfold wpY_clear
  exact yh_reset (fun ml mz hW => ir_mk (L := 0) (c := 1120) hC (by omega) ir_VP0 hD hM (by omega) hW)
theorem i_vc_length {k : Nat} {u : SX} {v : SY} (I : i_Rel k u v) (hk : k + 5 ≤ 2561) : wpX_length (fun r => wpY_length (fun r' => r' = r ∧ i_Rel (k + 5) u v) v) u := by
  have I' := i_up I
  obtain ⟨wf, fp, fc, ms, wp, mp, dn, rq, rs, cl, o, a, b, xl, xe, xo, xb, ir, rd, ye, yl, yo, ys, wl, ws, ml, mz, yr, C, L, n, c, rfl, rfl, hC, hL, hV, hD, hM, hc, hW⟩ := I
  exact ⟨rfl, I'⟩
end
section
theorem xh_belowE {post : Int32 → Prop} {x y : Int32} (N : Nat) (e : y = nI N) (hN : N < 2 ^ 31) (h0 : ¬ tc_in N x → post 0) (h1 : tc_in N x → post 1) : wpX_isBelow post x y := by
  subst e
  exact xh_below N hN h0 h1
theorem i_vc_check {k : Nat} {u : SX} {v : SY} (I : i_Rel k u v) (hk : k + 5 ≤ 2561) : wpX_check (fun r u' => wpY_check (fun r' v' => r' = r ∧ i_Rel (k + 5) u' v') v) u := by
  obtain ⟨wf, fp, fc, ms, wp, mp, dn, rq, rs, cl, o, a, b, xl, xe, xo, xb, ir, rd, ye, yl, yo, ys, wl, ws, ml, mz, yr, C, L, n, c, rfl, rfl, hC, hL, hV, hD, hM, hc, hW⟩ := I
  have hL' : L ≤ 16 := by omega
  unfold wpX_check
  refine xh_explore hV hD hL' hM (fun e xl xe xo xb ir hz => ?_) (fun e xl xe xo xb ir rd n fp fc hK hR hF => ?_)
  · refine br_t rfl (yh_check hV hD hL' (fun _ yl ye yo ys => ⟨rfl, ?_⟩) (fun w => ?_))
    · exact ir_mk hC hL hV hD (tc_MK_R (tc_MK_0 hz)) hc hW
    · rw [e] at w; exact absurd w (by decide)
  · refine br_f (by decide) ?_
    have hM' := tc_MK_R hK
    rcases tc_FP_neg (tc_FS_P hF) hL' with ⟨ep, _⟩ | ⟨q, hq, ep⟩
    · refine br_t ep (yh_check hV hD hL' (fun w => ?_) (fun _ r wp yl ye yo ys wl ws yr hP => ?_))
      · rw [e] at w; exact absurd w (by decide)
      · have er : r = -1 := by rw [tc_FP_u hP (tc_FS_P hF), ep]
        exact br_t (by rw [er]; decide) ⟨rfl, ir_mk hC hL hV hD hM' hc hW⟩
    · refine br_f (by rw [ep]; exact tc_m1_ne (by omega)) (yh_check hV hD hL' (fun w => ?_) (fun _ r wp yl ye yo ys wl ws yr hP => ?_))
      · rw [e] at w; exact absurd w (by decide)
      · have er : r = nI q := by rw [tc_FP_u hP (tc_FS_P hF), ep]
        exact br_f (by rw [er]; exact nI_pos (by omega)) ⟨rfl, ir_mk hC hL hV hD hM' hc hW⟩
theorem i_vc_faultPc {k : Nat} {u : SX} {v : SY} (I : i_Rel k u v) (hk : k + 5 ≤ 2561) : wpX_faultPc (fun r u' => wpY_faultPc (fun r' v' => r' = r ∧ i_Rel (k + 5) u' v') v) u := by
  obtain ⟨wf, fp, fc, ms, wp, mp, dn, rq, rs, cl, o, a, b, xl, xe, xo, xb, ir, rd, ye, yl, yo, ys, wl, ws, ml, mz, yr, C, L, n, c, rfl, rfl, hC, hL, hV, hD, hM, hc, hW⟩ := I
  have hL' : L ≤ 16 := by omega
  unfold wpX_faultPc
  refine xh_explore hV hD hL' hM (fun e xl xe xo xb ir hz => ?_) (fun e xl xe xo xb ir rd n fp fc hK hR hF => ?_)
  · refine yh_faultPc hV hD hL' (fun _ yl ye yo ys => ⟨rfl, ?_⟩) (fun w => ?_)
    · exact ir_mk hC hL hV hD (tc_MK_R (tc_MK_0 hz)) hc hW
    · rw [e] at w; exact absurd w (by decide)
  · refine yh_faultPc hV hD hL' (fun w => ?_) (fun _ r wp yl ye yo ys wl ws yr _ _ hP => ⟨tc_FP_u hP (tc_FS_P hF), ?_⟩)
    · rw [e] at w; exact absurd w (by decide)
    · exact ir_mk hC hL hV hD (tc_MK_R hK) hc hW
theorem i_vc_faultKind {k : Nat} {u : SX} {v : SY} (I : i_Rel k u v) (hk : k + 5 ≤ 2561) : wpX_faultKind (fun r u' => wpY_faultKind (fun r' v' => r' = r ∧ i_Rel (k + 5) u' v') v) u := by
  obtain ⟨wf, fp, fc, ms, wp, mp, dn, rq, rs, cl, o, a, b, xl, xe, xo, xb, ir, rd, ye, yl, yo, ys, wl, ws, ml, mz, yr, C, L, n, c, rfl, rfl, hC, hL, hV, hD, hM, hc, hW⟩ := I
  have hL' : L ≤ 16 := by omega
  unfold wpX_faultKind
  refine xh_explore hV hD hL' hM (fun e xl xe xo xb ir hz => ?_) (fun e xl xe xo xb ir rd n fp fc hK hR hF => ?_)
  · refine yh_faultKind hV hD hL' (fun _ yl ye yo ys => ⟨rfl, ?_⟩) (fun w => ?_)
    · exact ir_mk hC hL hV hD (tc_MK_R (tc_MK_0 hz)) hc hW
    · rw [e] at w; exact absurd w (by decide)
  · refine yh_faultKind hV hD hL' (fun w => ?_) (fun _ r kk wp yl ye yo ys wl ws yr hS => ⟨(tc_FS_u hS hF).2, ?_⟩)
    · rw [e] at w; exact absurd w (by decide)
    · exact ir_mk hC hL hV hD (tc_MK_R hK) hc hW
theorem ir_bs0 {p : Nat} {R : Nat → Prop} : ∀ c : Nat, ¬ (R c ∧ p * 2000 ≤ c ∧ c < p * 2000 + 0) := fun c h => by omega
theorem ir_bsx {p : Nat} {rd : Nat → Int32} : ∀ c : Nat, ¬ (c < 34000 ∧ c / 2000 = p ∧ ∃ j, j < 0 ∧ rd j = nI c) := fun c h => by
  obtain ⟨_, _, j, hj, _⟩ := h
  omega
theorem ir_bse {p n : Nat} {rd : Nat → Int32} {R : Nat → Prop} (hp : p ≤ 16) (hR : ∀ c, c < 34000 → ((∃ j, j < n ∧ rd j = nI c) ↔ R c)) (c : Nat) : (R c ∧ p * 2000 ≤ c ∧ c < p * 2000 + 2000) ↔ (c < 34000 ∧ c / 2000 = p ∧ ∃ j, j < n ∧ rd j = nI c) := by
  constructor
  · rintro ⟨h1, h2, h3⟩
    exact ⟨by omega, by omega, (hR c (by omega)).mpr h1⟩
  · rintro ⟨h1, h2, h3⟩
    exact ⟨(hR c h1).mp h3, by omega, by omega⟩
theorem i_vc_stateSet {k : Nat} {u : SX} {v : SY} (I : i_Rel k u v) (hk : k + 5 ≤ 2561) (v1 : Int32) (v2 : Int32) : wpX_stateSet (fun r u' => wpY_stateSet (fun r' v' => r' = r ∧ i_Rel (k + 5) u' v') v v1 v2) u v1 v2 := by
  obtain ⟨wf, fp, fc, ms, wp, mp, dn, rq, rs, cl, o, a, b, xl, xe, xo, xb, ir, rd, ye, yl, yo, ys, wl, ws, ml, mz, yr, C, L, n, c, rfl, rfl, hC, hL, hV, hD, hM, hc, hW⟩ := I
  have hL' : L ≤ 16 := by omega
  unfold wpX_stateSet
  by_cases q1 : tc_in (L + 1) v1
  · by_cases q2 : tc_in 2 v2
    · refine xh_belowE (L + 1) (nI_1 L) (by omega) (fun w => absurd q1 w) (fun _ => br_f (by decide) ?_)
      refine xh_below 2 (by omega) (fun w => absurd q2 w) (fun _ => br_f (by decide) ?_)
      obtain ⟨p, hp, rfl⟩ := q1
      obtain ⟨q, hq, rfl⟩ := q2
      refine xh_explore hV hD hL' hM (fun e xl xe xo xb ir hz => ⟨1, ?_⟩) (fun e xl xe xo xb ir rd n fp fc hK hR hF => ⟨n + 1, ?_⟩)
      · refine xh_sset (p := p) (q := q) (n := 0) (fun j hj => absurd hj (by omega)) (by omega) (by omega) hq (fun s hS => ?_) 1 0 0 (by omega) (by omega) (tc_BS_0 ir_bsx)
        have es : s = 0 := tc_BS_u hS (tc_BS_0 ir_bsx) (fun _ => Iff.rfl)
        subst es
        unfold wpY_stateSet
        refine ym_match hL' (fun yl ye yo ys hJ => ?_)
        rw [e]
        exact br_t rfl ⟨rfl, ir_mk hC hL hV hD (tc_MK_R (tc_MK_0 hz)) hc hW⟩
      · have hM' := tc_MK_R hK
        refine xh_sset (p := p) (q := q) (n := n) hM'.2.2 hM'.1 (by omega) hq (fun s hS => ?_) (n + 1) 0 0 (by omega) (by omega) (tc_BS_0 ir_bsx)
        unfold wpY_stateSet
        refine ym_match hL' (fun yl ye yo ys hJ => ?_)
        have hJ' := hJ e
        rw [e]
        refine br_f (by decide) (yh_lt L (by omega) (fun w => absurd ⟨p, hp, rfl⟩ w) (fun _ => yh_le 1 (by omega) (fun w => absurd ⟨q, hq, rfl⟩ w) (fun _ => ?_)))
        refine yh_compute hV hD hJ' hL' (fun wp wl ws yr hRy => ⟨2001, ?_⟩)
        refine yh_sset (R := tc_RR o a b dn rq rs cl L) (p := p) (q := q) (by omega) hq hRy (fun s' wp wl ws hS' => ⟨?_, ir_mk hC hL hV hD hM' hc hW⟩) 2001 0 0 wp wl ws (by omega) (by omega) (tc_BS_0 ir_bs0)
        exact tc_BS_u hS' hS (fun c => ir_bse (by omega) hR c)
    · refine xh_belowE (L + 1) (nI_1 L) (by omega) (fun w => absurd q1 w) (fun _ => br_f (by decide) ?_)
      refine xh_below 2 (by omega) (fun _ => br_t rfl ?_) (fun w => absurd w q2)
      unfold wpY_stateSet
      refine ym_match hL' (fun yl ye yo ys hJ => ?_)
      rcases tc_wf_01 o L with e | e
      · rw [e]; exact br_t rfl ⟨rfl, ir_mk hC hL hV hD hM hc hW⟩
      · rw [e]; exact br_f (by decide) (yh_lt L (by omega) (fun w => absurd q1 w) (fun _ => yh_le 1 (by omega) (fun _ => ⟨rfl, ir_mk hC hL hV hD hM hc hW⟩) (fun w => absurd w q2)))
  · refine xh_belowE (L + 1) (nI_1 L) (by omega) (fun _ => br_t rfl ?_) (fun w => absurd w q1)
    unfold wpY_stateSet
    refine ym_match hL' (fun yl ye yo ys hJ => ?_)
    rcases tc_wf_01 o L with e | e
    · rw [e]; exact br_t rfl ⟨rfl, ir_mk hC hL hV hD hM hc hW⟩
    · rw [e]; exact br_f (by decide) (yh_lt L (by omega) (fun _ => ⟨rfl, ir_mk hC hL hV hD hM hc hW⟩) (fun w => absurd w q1))
theorem i_vc_localSet {k : Nat} {u : SX} {v : SY} (I : i_Rel k u v) (hk : k + 5 ≤ 2561) (v1 : Int32) (v2 : Int32) : wpX_localSet (fun r u' => wpY_localSet (fun r' v' => r' = r ∧ i_Rel (k + 5) u' v') v v1 v2) u v1 v2 := by
  obtain ⟨wf, fp, fc, ms, wp, mp, dn, rq, rs, cl, o, a, b, xl, xe, xo, xb, ir, rd, ye, yl, yo, ys, wl, ws, ml, mz, yr, C, L, n, c, rfl, rfl, hC, hL, hV, hD, hM, hc, hW⟩ := I
  have hL' : L ≤ 16 := by omega
  unfold wpX_localSet
  by_cases q1 : tc_in (L + 1) v1
  · by_cases q2 : tc_in 3 v2
    · refine xh_belowE (L + 1) (nI_1 L) (by omega) (fun w => absurd q1 w) (fun _ => br_f (by decide) ?_)
      refine xh_below 3 (by omega) (fun w => absurd q2 w) (fun _ => br_f (by decide) ?_)
      obtain ⟨p, hp, rfl⟩ := q1
      obtain ⟨q, hq, rfl⟩ := q2
      refine xh_explore hV hD hL' hM (fun e xl xe xo xb ir hz => ⟨1, ?_⟩) (fun e xl xe xo xb ir rd n fp fc hK hR hF => ⟨n + 1, ?_⟩)
      · refine xh_lset (p := p) (q := q) (n := 0) (fun j hj => absurd hj (by omega)) (by omega) (by omega) hq (fun s hS => ?_) 1 0 0 (by omega) (by omega) (tc_BS_0 ir_bsx)
        have es : s = 0 := tc_BS_u hS (tc_BS_0 ir_bsx) (fun _ => Iff.rfl)
        subst es
        unfold wpY_localSet
        refine ym_match hL' (fun yl ye yo ys hJ => ?_)
        rw [e]
        exact br_t rfl ⟨rfl, ir_mk hC hL hV hD (tc_MK_R (tc_MK_0 hz)) hc hW⟩
      · have hM' := tc_MK_R hK
        refine xh_lset (p := p) (q := q) (n := n) hM'.2.2 hM'.1 (by omega) hq (fun s hS => ?_) (n + 1) 0 0 (by omega) (by omega) (tc_BS_0 ir_bsx)
        unfold wpY_localSet
        refine ym_match hL' (fun yl ye yo ys hJ => ?_)
        have hJ' := hJ e
        rw [e]
        refine br_f (by decide) (yh_lt L (by omega) (fun w => absurd ⟨p, hp, rfl⟩ w) (fun _ => yh_le 2 (by omega) (fun w => absurd ⟨q, hq, rfl⟩ w) (fun _ => ?_)))
        refine yh_compute hV hD hJ' hL' (fun wp wl ws yr hRy => ⟨2001, ?_⟩)
        refine yh_lset (R := tc_RR o a b dn rq rs cl L) (p := p) (q := q) (by omega) hq hRy (fun s' wp wl ws hS' => ⟨?_, ir_mk hC hL hV hD hM' hc hW⟩) 2001 0 0 wp wl ws (by omega) (by omega) (tc_BS_0 ir_bs0)
        exact tc_BS_u hS' hS (fun c => ir_bse (by omega) hR c)
    · refine xh_belowE (L + 1) (nI_1 L) (by omega) (fun w => absurd q1 w) (fun _ => br_f (by decide) ?_)
      refine xh_below 3 (by omega) (fun _ => br_t rfl ?_) (fun w => absurd w q2)
      unfold wpY_localSet
      refine ym_match hL' (fun yl ye yo ys hJ => ?_)
      rcases tc_wf_01 o L with e | e
      · rw [e]; exact br_t rfl ⟨rfl, ir_mk hC hL hV hD hM hc hW⟩
      · rw [e]; exact br_f (by decide) (yh_lt L (by omega) (fun w => absurd q1 w) (fun _ => yh_le 2 (by omega) (fun _ => ⟨rfl, ir_mk hC hL hV hD hM hc hW⟩) (fun w => absurd w q2)))
  · refine xh_belowE (L + 1) (nI_1 L) (by omega) (fun _ => br_t rfl ?_) (fun w => absurd w q1)
    unfold wpY_localSet
    refine ym_match hL' (fun yl ye yo ys hJ => ?_)
    rcases tc_wf_01 o L with e | e
    · rw [e]; exact br_t rfl ⟨rfl, ir_mk hC hL hV hD hM hc hW⟩
    · rw [e]; exact br_f (by decide) (yh_lt L (by omega) (fun _ => ⟨rfl, ir_mk hC hL hV hD hM hc hW⟩) (fun w => absurd w q1))
end
section
theorem ir_clamp (x : Int32) : ∃ B, B ≤ 4096 ∧ ((¬ 0 ≤ x ∧ B = 0) ∨ (0 ≤ x ∧ x ≤ 4096 ∧ x = nI B) ∨ (0 ≤ x ∧ ¬ x ≤ 4096 ∧ B = 4096)) := by
  by_cases h0 : 0 ≤ x
  · by_cases h1 : x ≤ 4096
    · obtain ⟨j, hj, rfl⟩ := nI_of (Int32.not_lt.mpr h0)
      exact ⟨j, (nI_leI (b := 4096) hj (by omega)).mp h1, Or.inr (Or.inl ⟨h0, h1, rfl⟩)⟩
    · exact ⟨4096, by omega, Or.inr (Or.inr ⟨h0, h1, rfl⟩)⟩
  · exact ⟨0, by omega, Or.inl ⟨h0, rfl⟩⟩
theorem i_vc_run {k : Nat} {u : SX} {v : SY} (I : i_Rel k u v) (hk : k + 5 ≤ 2561) (v1 : Int32) (v2 : Int32) : wpX_run (fun r u' => wpY_run (fun r' v' => r' = r ∧ i_Rel (k + 5) u' v') v v1 v2) u v1 v2 := by
  obtain ⟨wf, fp, fc, ms, wp, mp, dn, rq, rs, cl, o, a, b, xl, xe, xo, xb, ir, rd, ye, yl, yo, ys, wl, ws, ml, mz, yr, C, L, n, c, rfl, rfl, hC, hL, hV, hD, hM, hc, hW⟩ := I
  have hL' : L ≤ 16 := by omega
  unfold wpX_run
  unfold wpX_resetMachine
  refine xm_match hL' (fun xl xe xo xb hJ => ?_)
  rcases tc_wf_01 o L with e | e
  · rw [e]
    refine br_t rfl ?_
    unfold wpY_run
    refine yh_reset (fun ml mz hW => ym_match hL' (fun yl ye yo ys hJ => ?_))
    rw [e]
    exact br_t rfl ⟨rfl, ir_mk (c := 1120) hC hL hV hD hM (by omega) hW⟩
  · have hJ' := hJ e
    rw [e]
    refine br_f (by decide) ?_
    obtain ⟨B, hB, hx⟩ := ir_clamp v2
    have hI := tc_run_i (L := L) (o := o) (F := tc_F o a b dn rq rs cl) (N := tc_N o a b rs cl (tc_aim o L)) (ch := v1) (fun c => tc_g c ∧ c / 2000 ≤ L) (fun c d h z f => tc_step_g hV hD (tc_JM_T hJ') d h.1 (by omega) f) B 1120 0 0 ⟨tc_g0, by omega⟩
    have key : wX_run_29 (fun r u' => wpY_run (fun r' v' => r' = r ∧ i_Rel (k + 5) u' v') (nI C, nI L, wp, mp, ms, o, a, b, ye, yl, yo, ys, dn, rq, rs, cl, wl, ws, ml, mz, yr, 34000) v1 v2) v1 (nI B) (nI C) (nI L) wf (nI n) fp fc dn rq rs cl o a b xl xe xo xb ir rd 34000 34000 (B + 1) (nI 0) (nI 0) (nI 1120) (nI 0) := by
      refine xh_run_l hV hD hJ' hL' hB B 0 0 1120 (by omega) (by omega) tc_g0 (by omega) (B + 1) (by omega) ?_
      unfold wpY_run
      refine yh_reset (fun ml mz hW => ym_match hL' (fun yl ye yo ys hJy => ?_))
      have hJy' := hJy e
      rw [e]
      refine br_f (by decide) ?_
      have keyY : wY_run_43 (fun r' v' => r' = (tc_run L o (tc_F o a b dn rq rs cl) (tc_N o a b rs cl (tc_aim o L)) v1 B 1120 0 0).1 ∧ i_Rel (k + 5) (nI C, nI L, wf, nI n, fp, fc, nI (tc_run L o (tc_F o a b dn rq rs cl) (tc_N o a b rs cl (tc_aim o L)) v1 B 1120 0 0).2.1, nI (tc_run L o (tc_F o a b dn rq rs cl) (tc_N o a b rs cl (tc_aim o L)) v1 B 1120 0 0).2.2, dn, rq, rs, cl, o, a, b, xl, xe, xo, xb, ir, rd, 34000, 34000) v') v1 (nI B) (B + 1) (nI 0) (nI 0) (nI C) (nI L) wp (nI 0) (nI 0) o a b ye yl yo ys dn rq rs cl wl ws ml mz yr 34000 := by
        refine yh_run_l hV hD hJy' hL' hB B 0 0 1120 wp (nI 0) wl ws ml mz (by omega) (by omega) tc_g0 (by omega) hW (B + 1) (by omega) (fun wp mp wl ws ml mz hW' => ⟨rfl, ?_⟩)
        exact ir_mk hC hL hV hD hM (by omega) hW'
      rcases hx with ⟨h0, eB⟩ | ⟨h0, h1, eB⟩ | ⟨h0, h1, eB⟩
      · subst eB
        exact br_f h0 ⟨_, keyY⟩
      · rw [← eB] at keyY
        exact br_t h0 (br_t h1 ⟨_, keyY⟩)
      · subst eB
        exact br_t h0 (br_f h1 ⟨_, keyY⟩)
    unfold wpX_clamp
    rcases hx with ⟨h0, eB⟩ | ⟨h0, h1, eB⟩ | ⟨h0, h1, eB⟩
    · subst eB
      exact br_f h0 ⟨_, key⟩
    · rw [← eB] at key
      exact br_t h0 (br_t h1 ⟨_, key⟩)
    · subst eB
      exact br_t h0 (br_f h1 ⟨_, key⟩)
theorem i_vc_machinePc {k : Nat} {u : SX} {v : SY} (I : i_Rel k u v) (hk : k + 5 ≤ 2561) : wpX_machinePc (fun r => wpY_machinePc (fun r' => r' = r ∧ i_Rel (k + 5) u v) v) u := by
  have I' := i_up I
  obtain ⟨wf, fp, fc, ms, wp, mp, dn, rq, rs, cl, o, a, b, xl, xe, xo, xb, ir, rd, ye, yl, yo, ys, wl, ws, ml, mz, yr, C, L, n, c, rfl, rfl, hC, hL, hV, hD, hM, hc, hW⟩ := I
  unfold wpX_machinePc
  refine xh_pcOf (by omega) ?_
  unfold wpY_machinePc
  exact ⟨hW.1, I'⟩
theorem i_vc_stepsDone {k : Nat} {u : SX} {v : SY} (I : i_Rel k u v) (hk : k + 5 ≤ 2561) : wpX_stepsDone (fun r => wpY_stepsDone (fun r' => r' = r ∧ i_Rel (k + 5) u v) v) u := by
  have I' := i_up I
  obtain ⟨wf, fp, fc, ms, wp, mp, dn, rq, rs, cl, o, a, b, xl, xe, xo, xb, ir, rd, ye, yl, yo, ys, wl, ws, ml, mz, yr, C, L, n, c, rfl, rfl, hC, hL, hV, hD, hM, hc, hW⟩ := I
  exact ⟨rfl, I'⟩
theorem i_vc_objState {k : Nat} {u : SX} {v : SY} (I : i_Rel k u v) (hk : k + 5 ≤ 2561) (v1 : Int32) : wpX_objState (fun r => wpY_objState (fun r' => r' = r ∧ i_Rel (k + 5) u v) v v1) u v1 := by
  have I' := i_up I
  obtain ⟨wf, fp, fc, ms, wp, mp, dn, rq, rs, cl, o, a, b, xl, xe, xo, xb, ir, rd, ye, yl, yo, ys, wl, ws, ml, mz, yr, C, L, n, c, rfl, rfl, hC, hL, hV, hD, hM, hc, hW⟩ := I
  unfold wpX_objState
  refine xh_below 2 (by omega) (fun w => br_t rfl ?_) (fun w => br_f (by decide) ?_)
  · unfold wpY_objState
    exact yh_le 1 (by omega) (fun _ => ⟨rfl, I'⟩) (fun q => absurd q w)
  · obtain ⟨q, hq, rfl⟩ := w
    refine xh_stateOf (by omega) hq ?_
    unfold wpY_objState
    refine yh_le 1 (by omega) (fun w => absurd ⟨q, hq, rfl⟩ w) (fun _ => ⟨vp_in_nI hq (by omega), ?_⟩)
    rw [nI_clamp (by omega)]
    exact ⟨hW.2.2 q hq, I'⟩
theorem i_vc_localObject {k : Nat} {u : SX} {v : SY} (I : i_Rel k u v) (hk : k + 5 ≤ 2561) (v1 : Int32) : wpX_localObject (fun r => wpY_localObject (fun r' => r' = r ∧ i_Rel (k + 5) u v) v v1) u v1 := by
  have I' := i_up I
  obtain ⟨wf, fp, fc, ms, wp, mp, dn, rq, rs, cl, o, a, b, xl, xe, xo, xb, ir, rd, ye, yl, yo, ys, wl, ws, ml, mz, yr, C, L, n, c, rfl, rfl, hC, hL, hV, hD, hM, hc, hW⟩ := I
  unfold wpX_localObject
  refine xh_below 3 (by omega) (fun w => br_t rfl ?_) (fun w => br_f (by decide) ?_)
  · unfold wpY_localObject
    exact yh_lt 2 (by omega) (fun _ => ⟨rfl, I'⟩) (fun q => absurd q w)
  · obtain ⟨q, hq, rfl⟩ := w
    refine xh_localOf (by omega) hq ?_
    have hv := tc_l_lt c q
    by_cases z : tc_l c q = 0
    · refine br_t (by rw [z]; rfl) ?_
      unfold wpY_localObject
      refine yh_lt 2 (by omega) (fun w => absurd ⟨q, hq, rfl⟩ w) (fun _ => ⟨vp_in_nI hq (by omega), ?_⟩)
      rw [nI_clamp (by omega), hW.2.1 q hq]
      exact br_t (by rw [z]; rfl) ⟨rfl, I'⟩
    · refine br_f (nI_ne0 (by omega) (by omega)) (xh_objectIn hv ?_)
      unfold wpY_localObject
      refine yh_lt 2 (by omega) (fun w => absurd ⟨q, hq, rfl⟩ w) (fun _ => ⟨vp_in_nI hq (by omega), ?_⟩)
      rw [nI_clamp (by omega), hW.2.1 q hq]
      exact br_f (nI_ne0 (by omega) (by omega)) ⟨vp_in_nI hq (by omega), by decide, yh_ob z hv, I'⟩
theorem i_vc_localPerm {k : Nat} {u : SX} {v : SY} (I : i_Rel k u v) (hk : k + 5 ≤ 2561) (v1 : Int32) : wpX_localPerm (fun r => wpY_localPerm (fun r' => r' = r ∧ i_Rel (k + 5) u v) v v1) u v1 := by
  have I' := i_up I
  obtain ⟨wf, fp, fc, ms, wp, mp, dn, rq, rs, cl, o, a, b, xl, xe, xo, xb, ir, rd, ye, yl, yo, ys, wl, ws, ml, mz, yr, C, L, n, c, rfl, rfl, hC, hL, hV, hD, hM, hc, hW⟩ := I
  unfold wpX_localPerm
  refine xh_below 3 (by omega) (fun w => br_t rfl ?_) (fun w => br_f (by decide) ?_)
  · unfold wpY_localPerm
    exact yh_le 2 (by omega) (fun _ => ⟨rfl, I'⟩) (fun q => absurd q w)
  · obtain ⟨q, hq, rfl⟩ := w
    refine xh_localOf (by omega) hq ?_
    have hv := tc_l_lt c q
    by_cases z : tc_l c q = 0
    · refine br_t (by rw [z]; rfl) ?_
      unfold wpY_localPerm
      refine yh_le 2 (by omega) (fun w => absurd ⟨q, hq, rfl⟩ w) (fun _ => ⟨vp_in_nI hq (by omega), ?_⟩)
      rw [nI_clamp (by omega), hW.2.1 q hq]
      exact br_t (by rw [z]; rfl) ⟨rfl, I'⟩
    · refine br_f (nI_ne0 (by omega) (by omega)) (xh_permIn hv ?_)
      unfold wpY_localPerm
      refine yh_le 2 (by omega) (fun w => absurd ⟨q, hq, rfl⟩ w) (fun _ => ⟨vp_in_nI hq (by omega), ?_⟩)
      rw [nI_clamp (by omega), hW.2.1 q hq]
      exact br_f (nI_ne0 (by omega) (by omega)) ⟨vp_in_nI hq (by omega), by decide, yh_pm z hv, I'⟩
end
