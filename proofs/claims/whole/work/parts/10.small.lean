/-! ===== small rows for both sides: ranges, actions, option-like answers ===== -/
theorem qz_rng {A B : Prop} (x : Int32) (n : Nat) (hn : n < 2 ^ 31) (h1 : ∀ j, j < n → x = nI j → B) (h0 : (∀ j, j < n → x ≠ nI j) → A) : (x < 0 → A) ∧ (¬ x < 0 → ((nI n ≤ x → A) ∧ (¬ nI n ≤ x → B))) := by
  rcases pk_ix x hn with h | h | ⟨j, hj, e⟩
  · refine br_t h (h0 (fun j hj e => ?_))
    rw [e] at h
    exact nI_pos (by omega) h
  · have h' : ¬ x < 0 := fun z => by
      have h2 : (0 : Int32) ≤ nI n := nI_pos' hn
      exact absurd (Int32.le_trans h2 h) (Int32.not_le.mpr z)
    refine br_f h' (br_t h (h0 (fun j hj e => ?_)))
    rw [e] at h
    exact nI_ge hj hn h
  · have a : ¬ x < 0 := by rw [e]; exact nI_pos (by omega)
    have b : ¬ nI n ≤ x := by rw [e]; exact nI_ge hj hn
    exact br_f a (br_f b (h1 j hj e))
theorem qz_rngL {A B : Prop} (x : Int32) (n : Nat) (hn : n + 1 < 2 ^ 31) (h1 : ∀ j, j ≤ n → x = nI j → B) (h0 : (∀ j, j ≤ n → x ≠ nI j) → A) : (x < 0 → A) ∧ (¬ x < 0 → ((nI n < x → A) ∧ (¬ nI n < x → B))) := by
  obtain ⟨a, b⟩ := qz_rng (A := A) (B := B) x (n + 1) hn (fun j hj => h1 j (by omega)) (fun h => h0 (fun j hj => h j (by omega)))
  refine ⟨a, fun h => ?_⟩
  obtain ⟨b1, b2⟩ := b h
  obtain ⟨k, hk, rfl⟩ := nI_of h
  refine ⟨fun z => b1 ?_, fun z => b2 ?_⟩
  · rw [nI_ltI (by omega) hk] at z
    rw [nI_leI hn hk]
    omega
  · rw [nI_ltI (by omega) hk] at z
    rw [nI_leI hn hk]
    omega
theorem qz_n4 {x : Int32} {a : Nat} (e : x = nI a) (h : a < 4) : ∃ a, a < 4 ∧ x = nI a := ⟨a, h, e⟩
theorem qz_okI {n : Nat} (hn : n < 12) {x y : Int32} : qz_ok (nI n) x y ↔ ((n < 9 → ∃ a, a < 4 ∧ x = nI a) ∧ (3 ≤ n ∧ n ≤ 6 → ∃ b, b < 4 ∧ y = nI b) ∧ (n = 9 ∨ n = 10 → ∃ a, a ≤ 24 ∧ x = nI a)) := by
  constructor
  · rintro ⟨m, hm, e, h⟩
    have : n = m := (nI_eq (by omega) (by omega)).mp e
    rw [this]
    exact h
  · intro h
    exact ⟨n, hn, rfl, h⟩
theorem qz_okA {n : Nat} (h : n < 3 ∨ n = 7 ∨ n = 8) {x y : Int32} : qz_ok (nI n) x y ↔ ∃ a, a < 4 ∧ x = nI a := by
  have a : n < 9 := by omega
  have b : ¬ (3 ≤ n ∧ n ≤ 6) := by omega
  have d : ¬ (n = 9 ∨ n = 10) := by omega
  rw [qz_okI (by omega)]
  exact ⟨fun z => z.1 a, fun z => ⟨fun _ => z, fun w => absurd w b, fun w => absurd w d⟩⟩
theorem qz_okB {n : Nat} (h : 3 ≤ n) (h' : n ≤ 6) {x y : Int32} : qz_ok (nI n) x y ↔ ((∃ a, a < 4 ∧ x = nI a) ∧ ∃ b, b < 4 ∧ y = nI b) := by
  have a : n < 9 := by omega
  have d : ¬ (n = 9 ∨ n = 10) := by omega
  rw [qz_okI (by omega)]
  exact ⟨fun z => ⟨z.1 a, z.2.1 ⟨h, h'⟩⟩, fun z => ⟨fun _ => z.1, fun _ => z.2, fun w => absurd w d⟩⟩
theorem qz_okC {n : Nat} (h : n = 9 ∨ n = 10) {x y : Int32} : qz_ok (nI n) x y ↔ ∃ a, a ≤ 24 ∧ x = nI a := by
  have a : ¬ n < 9 := by omega
  have b : ¬ (3 ≤ n ∧ n ≤ 6) := by omega
  rw [qz_okI (by omega)]
  exact ⟨fun z => z.2.2 h, fun z => ⟨fun w => absurd w a, fun w => absurd w b, fun _ => z⟩⟩
theorem qz_okD {x y : Int32} : qz_ok (nI 11) x y := by
  rw [qz_okI (by omega)]
  exact ⟨fun w => by omega, fun w => by omega, fun w => by omega⟩
theorem qz_ok12 {k x y : Int32} (h : qz_ok k x y) : ∃ n, n < 12 ∧ k = nI n := by
  obtain ⟨n, hn, e, _⟩ := h
  exact ⟨n, hn, e⟩
theorem qz_nb0 : vp_nar .boolean 0 = 0 := by decide +kernel
theorem qz_nb1 : vp_nar .boolean 1 = 1 := by decide +kernel
theorem qz_nw {x : Int32} (h : x = 0 ∨ x = 1) : narrow .boolean (.int x) = .int x := by
  rcases h with rfl | rfl
  · rfl
  · rfl
theorem qz_fw' {x : Int32} (h : x = 0 ∨ x = 1) : fits .boolean (.int x) = true := by
  rcases h with rfl | rfl
  · decide
  · decide
/-- an answer that is e where there is none, else the one q -/
def qz_op (P : Nat → Prop) (e r : Int32) : Prop := (r = e ∧ ∀ q, ¬ P q) ∨ ∃ q, r = nI q ∧ P q ∧ ∀ q', P q' → q' = q
def qz_xj (c : Nat) (K F : Nat → Int32) (p q : Nat) : Prop := q < c ∧ (K p = 9 ∨ K p = 10) ∧ F p = nI q
def qz_xn (c : Nat) (K : Nat → Int32) (p q : Nat) : Prop := q < c ∧ q = p + 1 ∧ K p ≠ 9 ∧ K p ≠ 11
theorem qz_nx_x {c : Nat} {K F : Nat → Int32} {p q : Nat} : qz_nx c K F p q ↔ qz_xj c K F p q ∨ qz_xn c K p q := by
  constructor
  · rintro ⟨h, h1 | h1⟩
    · exact Or.inr ⟨h, h1⟩
    · exact Or.inl ⟨h, h1⟩
  · rintro (⟨h, h1⟩ | ⟨h, h1⟩)
    · exact ⟨h, Or.inr h1⟩
    · exact ⟨h, Or.inl h1⟩
theorem qz_n3 {q : Nat} (h : q < 2 ^ 31) : ¬ nI q = -3 := fun z => nI_pos h (by rw [z]; decide)
theorem qz_n1 {q : Nat} (h : q < 2 ^ 31) : ¬ nI q = -1 := fun z => nI_pos h (by rw [z]; decide)
theorem qz_i24 {p : Nat} (h : p < 24) : vp_in (nI p) 24 := vp_in_nI h (by omega)
theorem qz_c24 {p : Nat} (h : p < 24) : (nI p).toNatClampNeg = p := nI_clamp (by omega)
theorem qz_x4 (p r : Nat) : nI p * 4 + nI r = nI (p * 4 + r) := by
  show nI p * nI 4 + nI r = _
  rw [pk_mul, nI_add]
theorem qz_va_g {K F S : Nat → Int32} (V : qz_va K F S) {p : Nat} (h : K p = 9 ∨ K p = 10) : ∃ a, a ≤ 24 ∧ F p = nI a := by
  have v := V p
  rcases h with h | h
  · rw [h] at v
    exact (qz_okC (n := 9) (Or.inl rfl)).mp v
  · rw [h] at v
    exact (qz_okC (n := 10) (Or.inr rfl)).mp v
theorem qz_va_a {K F S : Nat → Int32} (V : qz_va K F S) {p : Nat} (h : K p = 0 ∨ K p = 1 ∨ K p = 2 ∨ K p = 7 ∨ K p = 8) : ∃ a, a < 4 ∧ F p = nI a := by
  have v := V p
  rcases h with h | h | h | h | h
  · rw [h] at v
    exact (qz_okA (n := 0) (by omega)).mp v
  · rw [h] at v
    exact (qz_okA (n := 1) (by omega)).mp v
  · rw [h] at v
    exact (qz_okA (n := 2) (by omega)).mp v
  · rw [h] at v
    exact (qz_okA (n := 7) (by omega)).mp v
  · rw [h] at v
    exact (qz_okA (n := 8) (by omega)).mp v
theorem qz_va_b {K F S : Nat → Int32} (V : qz_va K F S) {p : Nat} (h : K p = 3 ∨ K p = 4 ∨ K p = 5 ∨ K p = 6) : (∃ a, a < 4 ∧ F p = nI a) ∧ ∃ b, b < 4 ∧ S p = nI b := by
  have v := V p
  rcases h with h | h | h | h
  · rw [h] at v
    exact (qz_okB (n := 3) (by omega) (by omega)).mp v
  · rw [h] at v
    exact (qz_okB (n := 4) (by omega) (by omega)).mp v
  · rw [h] at v
    exact (qz_okB (n := 5) (by omega) (by omega)).mp v
  · rw [h] at v
    exact (qz_okB (n := 6) (by omega) (by omega)).mp v
theorem qz_b24 (l : Nat) : bt 16777216 l = true ↔ l = 24 := by
  by_cases h : l < 32
  · have := (by decide +kernel : ∀ i, i < 32 → (bt 16777216 i = true ↔ i = 24)) l h
    exact this
  · rw [b_big (by omega)]
    exact ⟨fun z => (by cases z), fun z => by omega⟩
theorem qz_bshA {n : Nat} (hn : n < 32) (i : Nat) : bt ((1 : Int32) <<< (nI n &&& 31)) i = true ↔ i = n := by
  by_cases h : i < 32
  · rw [qz_bsh n hn i h]
    simp
  · rw [b_big (by omega)]
    exact ⟨fun z => (by cases z), fun z => by omega⟩
