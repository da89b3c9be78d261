/-! ===== Int32 by its bits: bt x i ===== -/
def bt (x : Int32) (i : Nat) : Bool := x.toBitVec.getLsbD i
theorem b_ext {x y : Int32} (h : ∀ i, i < 32 → bt x i = bt y i) : x = y := Int32.toBitVec_inj.mp (BitVec.eq_of_getLsbD_eq (fun i hi => h i hi))
theorem b_or (x y : Int32) (i : Nat) : bt (x ||| y) i = (bt x i || bt y i) := by unfold bt; rw [Int32.toBitVec_or, BitVec.getLsbD_or]
theorem b_and (x y : Int32) (i : Nat) : bt (x &&& y) i = (bt x i && bt y i) := by unfold bt; rw [Int32.toBitVec_and, BitVec.getLsbD_and]
theorem b_xor (x y : Int32) (i : Nat) : bt (x ^^^ y) i = (bt x i ^^ bt y i) := by unfold bt; rw [Int32.toBitVec_xor, BitVec.getLsbD_xor]
theorem b_big {x : Int32} {i : Nat} (h : 32 ≤ i) : bt x i = false := BitVec.getLsbD_of_ge _ _ h
theorem b_255 (i : Nat) : bt 255 i = decide (i < 8) := by
  rcases Nat.lt_or_ge i 32 with h | h
  · exact (by decide +kernel : ∀ i, i < 32 → bt 255 i = decide (i < 8)) i h
  · rw [b_big h, decide_eq_false (by omega)]
theorem b_65535 (i : Nat) : bt 65535 i = decide (i < 16) := by
  rcases Nat.lt_or_ge i 32 with h | h
  · exact (by decide +kernel : ∀ i, i < 32 → bt 65535 i = decide (i < 16)) i h
  · rw [b_big h, decide_eq_false (by omega)]
theorem b_m1 : ∀ i, i < 32 → bt (-1) i = true := by decide +kernel
theorem b_0 (i : Nat) : bt 0 i = false := BitVec.getLsbD_zero
theorem s_l : ∀ n, n < 32 → ((nI n &&& 31).toBitVec.smod 32).toNat = n := by decide +kernel
theorem s_u : ∀ n, n < 32 → (((nI n).toUInt32 &&& Int32.toUInt32 31).toBitVec % 32).toNat = n := by decide +kernel
theorem b_shl (n : Nat) (hn : n < 32) (x : Int32) {i : Nat} (hi : i < 32) : bt (x <<< (nI n &&& 31)) i = (decide (n ≤ i) && bt x (i - n)) := by
  unfold bt
  rw [Int32.toBitVec_shiftLeft]
  show (x.toBitVec <<< ((nI n &&& 31).toBitVec.smod 32).toNat).getLsbD i = _
  rw [s_l n hn, BitVec.getLsbD_shiftLeft]
  rcases Nat.lt_or_ge i n with h | h
  · simp [h, Nat.not_le.mpr h]
  · simp [hi, h, Nat.not_lt.mpr h]
theorem b_ushr (n : Nat) (hn : n < 32) (x : Int32) (i : Nat) : bt ((x.toUInt32 >>> ((nI n).toUInt32 &&& Int32.toUInt32 31)).toInt32) i = bt x (n + i) := by
  show (x.toUInt32 >>> ((nI n).toUInt32 &&& Int32.toUInt32 31)).toBitVec.getLsbD i = x.toUInt32.toBitVec.getLsbD (n + i)
  rw [UInt32.toBitVec_shiftRight]
  show (x.toUInt32.toBitVec >>> (((nI n).toUInt32 &&& Int32.toUInt32 31).toBitVec % 32).toNat).getLsbD i = _
  rw [s_u n hn, BitVec.getLsbD_ushiftRight]
theorem b_sshr (n : Nat) (hn : n < 32) (x : Int32) {i : Nat} (hi : i < 32) : bt (x >>> (nI n &&& 31)) i = if n + i < 32 then bt x (n + i) else bt x 31 := by
  unfold bt
  rw [Int32.toBitVec_shiftRight]
  show (x.toBitVec.sshiftRight ((nI n &&& 31).toBitVec.smod 32).toNat).getLsbD i = _
  rw [s_l n hn, BitVec.getLsbD_sshiftRight, BitVec.msb_eq_getLsbD_last]
  simp [hi]
theorem b_shl8 (x : Int32) {i : Nat} (hi : i < 32) : bt (x <<< ((8 : Int32) &&& 31)) i = (decide (8 ≤ i) && bt x (i - 8)) := b_shl 8 (by omega) x hi
theorem b_shl16 (x : Int32) {i : Nat} (hi : i < 32) : bt (x <<< ((16 : Int32) &&& 31)) i = (decide (16 ≤ i) && bt x (i - 16)) := b_shl 16 (by omega) x hi
theorem b_shl24 (x : Int32) {i : Nat} (hi : i < 32) : bt (x <<< ((24 : Int32) &&& 31)) i = (decide (24 ≤ i) && bt x (i - 24)) := b_shl 24 (by omega) x hi
theorem b_sshr8 (x : Int32) {i : Nat} (hi : i < 32) : bt (x >>> ((8 : Int32) &&& 31)) i = if 8 + i < 32 then bt x (8 + i) else bt x 31 := b_sshr 8 (by omega) x hi
/-! ===== own rows on bits ===== -/
theorem qz_bone : ∀ i, i < 32 → bt 1 i = decide (i = 0) := by decide +kernel
theorem qz_bsh : ∀ n, n < 32 → ∀ i, i < 32 → bt ((1 : Int32) <<< (nI n &&& 31)) i = decide (i = n) := by decide +kernel
theorem qz_b1 (x : Int32) (r : Nat) (hr : r < 32) : (x >>> (nI r &&& 31)) &&& 1 = if bt x r = true then 1 else 0 := by
  apply b_ext
  intro i hi
  rw [b_and, b_sshr r hr x hi, qz_bone i hi]
  by_cases h0 : i = 0
  · subst h0
    rw [if_pos (by omega)]
    by_cases hb : bt x r = true
    · simp [hb, qz_bone]
    · have hb' : bt x r = false := by simpa using hb
      simp [hb', b_0]
  · by_cases hb : bt x r = true
    · simp [hb, h0, qz_bone i hi]
    · have hb' : bt x r = false := by simpa using hb
      simp [hb', h0, b_0]
theorem qz_b1z (x : Int32) (r : Nat) (hr : r < 32) : (x >>> (nI r &&& 31)) &&& 1 = 0 ↔ ¬ bt x r = true := by
  rw [qz_b1 x r hr]
  by_cases hb : bt x r = true
  · simp [hb]
  · simp [hb]
theorem qz_b1o (x : Int32) (r : Nat) (hr : r < 32) : (x >>> (nI r &&& 31)) &&& 1 = 1 ↔ bt x r = true := by
  rw [qz_b1 x r hr]
  by_cases hb : bt x r = true
  · simp [hb]
  · simp [hb]
theorem qz_set (x : Int32) (n : Nat) (hn : n < 32) {i : Nat} (hi : i < 32) : bt (x ||| ((1 : Int32) <<< (nI n &&& 31))) i = true ↔ (bt x i = true ∨ i = n) := by
  rw [b_or, qz_bsh n hn i hi]
  simp
theorem qz_clr (x : Int32) (n : Nat) (hn : n < 32) {i : Nat} (hi : i < 32) : bt (x &&& (((1 : Int32) <<< (nI n &&& 31)) ^^^ (-1))) i = true ↔ (bt x i = true ∧ i ≠ n) := by
  rw [b_and, b_xor, qz_bsh n hn i hi, b_m1 i hi]
  simp
theorem qz_zero {x : Int32} : x = 0 ↔ ∀ i, i < 32 → ¬ bt x i = true := by
  constructor
  · intro h i _
    rw [h, b_0]
    simp
  · intro h
    apply b_ext
    intro i hi
    rw [b_0]
    simpa using h i hi
theorem qz_ext {x y : Int32} (h : ∀ i, i < 32 → (bt x i = true ↔ bt y i = true)) : x = y := by
  apply b_ext
  intro i hi
  have := h i hi
  cases hx : bt x i <;> cases hy : bt y i <;> simp_all
theorem qz_hi4 : ∀ m, m < 16 → ∀ i, i < 32 → 4 ≤ i → ¬ bt (nI m) i = true := by decide +kernel
theorem qz_inj4 : ∀ m, m < 16 → ∀ n, n < 16 → (∀ r, r < 4 → bt (nI m) r = bt (nI n) r) → m = n := by decide +kernel
theorem qz_uni {m n : Nat} (hm : m < 16) (hn : n < 16) {P : Nat → Prop} (h : ∀ r, r < 4 → (bt (nI m) r = true ↔ P r)) (h' : ∀ r, r < 4 → (bt (nI n) r = true ↔ P r)) : m = n := by
  apply qz_inj4 m hm n hn
  intro r hr
  have a := h r hr
  have b := h' r hr
  cases hx : bt (nI m) r <;> cases hy : bt (nI n) r <;> simp_all
theorem qz_of4 (t : Int32) (h : ∀ i, i < 32 → 4 ≤ i → ¬ bt t i = true) : ∃ m, m < 16 ∧ t = nI m := by
  have key : ∀ a b c d : Bool, ∃ m, m < 16 ∧ bt (nI m) 0 = a ∧ bt (nI m) 1 = b ∧ bt (nI m) 2 = c ∧ bt (nI m) 3 = d := by decide +kernel
  obtain ⟨m, hm, h0, h1, h2, h3⟩ := key (bt t 0) (bt t 1) (bt t 2) (bt t 3)
  refine ⟨m, hm, ?_⟩
  apply qz_ext
  intro i hi
  by_cases h4 : 4 ≤ i
  · exact ⟨fun z => absurd z (h i hi h4), fun z => absurd z (qz_hi4 m hm i hi h4)⟩
  · have : i = 0 ∨ i = 1 ∨ i = 2 ∨ i = 3 := by omega
    rcases this with rfl | rfl | rfl | rfl
    · rw [h0]
    · rw [h1]
    · rw [h2]
    · rw [h3]
theorem qz_nz4 {m : Nat} (hm : m < 16) : nI m = 0 ↔ ∀ r, r < 4 → ¬ bt (nI m) r = true := by
  rw [qz_zero]
  constructor
  · intro h r hr
    exact h r (by omega)
  · intro h i hi
    by_cases h4 : 4 ≤ i
    · exact qz_hi4 m hm i hi h4
    · exact h i (by omega)
theorem qz_pow4 : ∀ r, r < 4 → (1 : Int32) <<< (nI r &&& 31) = nI (2 ^ r) ∧ 2 ^ r < 16 ∧ ∀ i, i < 4 → (bt (nI (2 ^ r)) i = true ↔ i = r) := by decide +kernel
/-! ===== sums ===== -/
def qz_sm (f : Nat → Nat) : Nat → Nat
  | 0 => 0
  | n + 1 => qz_sm f n + f n
theorem qz_sm_le {f g : Nat → Nat} : ∀ n, (∀ i, i < n → f i ≤ g i) → qz_sm f n ≤ qz_sm g n := by
  intro n
  induction n with
  | zero => intro _; exact Nat.le_refl _
  | succ n ih =>
    intro h
    have a := ih (fun i hi => h i (by omega))
    have b := h n (by omega)
    show qz_sm f n + f n ≤ qz_sm g n + g n
    omega
theorem qz_sm_lt {f g : Nat → Nat} : ∀ n, (∀ i, i < n → f i ≤ g i) → ∀ k, k < n → f k < g k → qz_sm f n < qz_sm g n := by
  intro n
  induction n with
  | zero => intro _ k hk; omega
  | succ n ih =>
    intro h k hk hlt
    show qz_sm f n + f n < qz_sm g n + g n
    have b := h n (by omega)
    by_cases e : k = n
    · subst e
      have a := qz_sm_le k (fun i hi => h i (by omega) : ∀ i, i < k → f i ≤ g i)
      omega
    · have a := ih (fun i hi => h i (by omega)) k (by omega) hlt
      omega
theorem qz_sm_b {f : Nat → Nat} {B : Nat} : ∀ n, (∀ i, i < n → f i ≤ B) → qz_sm f n ≤ B * n := by
  intro n
  induction n with
  | zero => intro _; exact Nat.zero_le _
  | succ n ih =>
    intro h
    have a := ih (fun i hi => h i (by omega))
    have b := h n (by omega)
    show qz_sm f n + f n ≤ B * (n + 1)
    rw [Nat.mul_succ]
    omega
theorem qz_sm_eq {f g : Nat → Nat} : ∀ n, (∀ i, i < n → f i = g i) → qz_sm f n = qz_sm g n := by
  intro n h
  have a := qz_sm_le n (fun i hi => Nat.le_of_eq (h i hi))
  have b := qz_sm_le n (fun i hi => Nat.le_of_eq (h i hi).symm)
  omega
theorem qz_sm_1 {f g : Nat → Nat} : ∀ n k, k < n → (∀ i, i < n → i ≠ k → g i = f i) → g k = f k + 1 → qz_sm g n = qz_sm f n + 1 := by
  intro n
  induction n with
  | zero => intro k hk; omega
  | succ n ih =>
    intro k hk h h1
    show qz_sm g n + g n = qz_sm f n + f n + 1
    by_cases e : k = n
    · subst e
      have a := qz_sm_eq k (fun i hi => h i (by omega) (by omega) : ∀ i, i < k → g i = f i)
      omega
    · have a := ih k (by omega) (fun i hi hne => h i (by omega) hne) h1
      have b := h n (by omega) (fun z => e z.symm)
      omega
def qz_pc (x : Int32) : Nat := qz_sm (fun i => if bt x i = true then 1 else 0) 32
theorem qz_pc_le32 (x : Int32) : qz_pc x ≤ 32 := by
  have := qz_sm_b (f := fun i => if bt x i = true then 1 else 0) (B := 1) 32 (by
    intro i _
    show (if bt x i = true then 1 else 0) ≤ 1
    split <;> omega)
  exact this
theorem qz_pc_lt {x y : Int32} (h : ∀ i, i < 32 → bt x i = true → bt y i = true) (n : x ≠ y) : qz_pc x < qz_pc y := by
  have ex : ∃ i, i < 32 ∧ ¬ bt x i = true ∧ bt y i = true := by
    apply Classical.byContradiction
    intro no
    apply n
    apply qz_ext
    intro i hi
    refine ⟨h i hi, fun hy => ?_⟩
    apply Classical.byContradiction
    intro hx
    exact no ⟨i, hi, hx, hy⟩
  obtain ⟨k, hk, hx, hy⟩ := ex
  refine qz_sm_lt 32 ?_ k hk ?_
  · intro i hi
    show (if bt x i = true then 1 else 0) ≤ (if bt y i = true then 1 else 0)
    by_cases hb : bt x i = true
    · rw [if_pos hb, if_pos (h i hi hb)]
      exact Nat.le_refl _
    · rw [if_neg hb]
      exact Nat.zero_le _
  · show (if bt x k = true then 1 else 0) < (if bt y k = true then 1 else 0)
    rw [if_neg hx, if_pos hy]
    exact Nat.zero_lt_one
/-- one cell of an array grows: so does the sum -/
theorem qz_sm_up {α : Type} {f : α → Nat} {a b : Nat → α} {n k : Nat} (hk : k < n) (h : ∀ i, i ≠ k → b i = a i) (hl : f (a k) < f (b k)) : qz_sm (fun i => f (a i)) n < qz_sm (fun i => f (b i)) n := by
  refine qz_sm_lt n ?_ k hk hl
  intro i _
  show f (a i) ≤ f (b i)
  by_cases e : i = k
  · rw [e]; exact Nat.le_of_lt hl
  · rw [h i e]; exact Nat.le_refl _
theorem qz_us {f : Nat → Int32} {k : Nat} {x : Int32} : upd f k x k = x := if_pos rfl
theorem qz_un {f : Nat → Int32} {k j : Nat} {x : Int32} (h : j ≠ k) : upd f k x j = f j := if_neg h
theorem qz_uu {f : Nat → Int32} {k : Nat} : upd f k (f k) = f := by
  funext j
  by_cases e : j = k
  · rw [e, qz_us]
  · rw [qz_un e]
/-! ===== walks ===== -/
def qz_w {σ : Type} (I : σ → Prop) (E : σ → σ → Prop) : Nat → σ → Prop
  | 0 => I
  | n + 1 => fun t => ∃ s, qz_w I E n s ∧ E s t
def qz_R {σ : Type} (I : σ → Prop) (E : σ → σ → Prop) (t : σ) : Prop := ∃ n, qz_w I E n t
theorem qz_R0 {σ : Type} {I : σ → Prop} {E : σ → σ → Prop} {t : σ} (h : I t) : qz_R I E t := ⟨0, h⟩
theorem qz_R1 {σ : Type} {I : σ → Prop} {E : σ → σ → Prop} {s t : σ} (h : qz_R I E s) (e : E s t) : qz_R I E t := by
  obtain ⟨n, hn⟩ := h
  exact ⟨n + 1, s, hn, e⟩
theorem qz_wi {σ : Type} {I : σ → Prop} {E : σ → σ → Prop} {P : σ → Prop} (h0 : ∀ t, I t → P t) (h1 : ∀ s t, qz_R I E s → P s → E s t → P t) : ∀ n t, qz_w I E n t → P t := by
  intro n
  induction n with
  | zero => intro t ht; exact h0 t ht
  | succ n ih =>
    intro t ht
    obtain ⟨s, hs, e⟩ := ht
    exact h1 s t ⟨n, hs⟩ (ih s hs) e
theorem qz_Ri {σ : Type} {I : σ → Prop} {E : σ → σ → Prop} {P : σ → Prop} (h0 : ∀ t, I t → P t) (h1 : ∀ s t, qz_R I E s → P s → E s t → P t) {t : σ} (h : qz_R I E t) : P t := by
  obtain ⟨n, hn⟩ := h
  exact qz_wi h0 h1 n t hn
/-- a closed set that holds the begin holds all that is reached, and one that is reached in all its members is the reached set -/
theorem qz_Rc {σ : Type} {I : σ → Prop} {E : σ → σ → Prop} {P : σ → Prop} (h0 : ∀ t, I t → P t) (h1 : ∀ s t, P s → E s t → P t) (h2 : ∀ t, P t → qz_R I E t) (t : σ) : P t ↔ qz_R I E t :=
  ⟨h2 t, fun h => qz_Ri h0 (fun s t _ hs e => h1 s t hs e) h⟩
