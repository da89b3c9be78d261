section
/-! rows pasted from kit/rows/PURE-ROWS -/
theorem pk_us {f : Nat → Int32} {k : Nat} {x : Int32} : upd f k x k = x := if_pos rfl
theorem pk_un {f : Nat → Int32} {k j : Nat} {x : Int32} (h : j ≠ k) : upd f k x j = f j := if_neg h
theorem pk_sub {a b : Nat} (h : b ≤ a) : nI a - nI b = nI (a - b) := by
  obtain ⟨c, rfl⟩ : ∃ c, a = c + b := ⟨a - b, by omega⟩
  rw [← nI_add, Int32.add_sub_cancel, Nat.add_sub_cancel]
theorem pk_m1 (n : Nat) : nI (n + 1) + (-1) = nI n := by
  rw [← nI_1, Int32.add_assoc, show (1 : Int32) + (-1) = 0 from rfl, Int32.add_zero]
theorem pk_mul (a b : Nat) : nI a * nI b = nI (a * b) := (Int32.ofNat_mul a b).symm
theorem pk_div {a d : Nat} (ha : a < 2 ^ 31) (h0 : 0 < d) (hd : d < 2 ^ 31) : nI a / nI d = nI (a / d) := by
  apply Int32.toInt_inj.mp
  rw [lg_idiv_nonneg (by rw [nI_toInt ha]; omega) (by rw [nI_toInt hd]; omega), nI_toInt ha, nI_toInt hd, nI_toInt (Nat.lt_of_le_of_lt (Nat.div_le_self a d) ha)]
  first | rfl | exact (Int.natCast_ediv _ _).symm
theorem pk_rem {a d : Nat} (ha : a < 2 ^ 31) (h0 : 0 < d) (hd : d < 2 ^ 31) : nI a - nI a / nI d * nI d = nI (a % d) := by
  rw [pk_div ha h0 hd, pk_mul, pk_sub (Nat.div_mul_le_self a d)]
  exact congrArg nI (by have := Nat.div_add_mod' a d; omega)
theorem pk_sub_toInt {a b : Nat} (ha : a < 2 ^ 30) (hb : b < 2 ^ 30) : (nI a - nI b).toInt = (a : Int) - b := by
  rw [Int32.toInt_sub, nI_toInt (by omega), nI_toInt (by omega)]
  exact Int.bmod_eq_of_le (by omega) (by omega)
theorem pk_ix (x : Int32) {n : Nat} (hn : n < 2 ^ 31) : x < 0 ∨ nI n ≤ x ∨ ∃ j : Nat, j < n ∧ x = nI j := by
  by_cases h : x < 0
  · exact Or.inl h
  · obtain ⟨j, hj, rfl⟩ := nI_of h
    by_cases h2 : j < n
    · exact Or.inr (Or.inr ⟨j, h2, rfl⟩)
    · exact Or.inr (Or.inl (nI_le (by omega) hj))
theorem pk_le {x y : Int32} {A B : Prop} (a b : Nat) (f : a ≤ b → A) (g : b < a → B) (hx : x = nI a := by rfl) (hy : y = nI b := by rfl) (ha : a < 2 ^ 31 := by omega) (hb : b < 2 ^ 31 := by omega) : (x ≤ y → A) ∧ (¬ x ≤ y → B) := by
  subst hx hy
  rw [nI_leI ha hb]
  exact ⟨f, fun z => g (by omega)⟩
theorem pk_lt {x y : Int32} {A B : Prop} (a b : Nat) (f : a < b → A) (g : b ≤ a → B) (hx : x = nI a := by rfl) (hy : y = nI b := by rfl) (ha : a < 2 ^ 31 := by omega) (hb : b < 2 ^ 31 := by omega) : (x < y → A) ∧ (¬ x < y → B) := by
  subst hx hy
  rw [nI_ltI ha hb]
  exact ⟨f, fun z => g (by omega)⟩
theorem pk_eq {x y : Int32} {A B : Prop} (a b : Nat) (f : a = b → A) (g : a ≠ b → B) (hx : x = nI a := by rfl) (hy : y = nI b := by rfl) (ha : a < 2 ^ 31 := by omega) (hb : b < 2 ^ 31 := by omega) : (x = y → A) ∧ (¬ x = y → B) := by
  subst hx hy
  rw [nI_eq ha hb]
  exact ⟨f, g⟩
theorem pk_in {x : Int32} (n N : Nat) (h : n < N) (hx : x = nI n := by rfl) (hN : N < 2 ^ 31 := by omega) : vp_in x N := by
  subst hx
  exact vp_in_nI h hN
theorem pk_cl {x : Int32} (n : Nat) (hx : x = nI n := by rfl) (h : n < 2 ^ 31 := by omega) : x.toNatClampNeg = n := by
  subst hx
  exact nI_clamp h
theorem pk_tn {n : Nat} (h : n < 2 ^ 32) : (nI n).toBitVec.toNat = n := Nat.mod_eq_of_lt h
theorem pk_and (x : Int32) {m : Int32} (k : Nat) (hm : m.toBitVec.toNat = 2 ^ k - 1) : x &&& m = nI (x.toBitVec.toNat % 2 ^ k) := by
  apply Int32.toBitVec_inj.mp
  apply BitVec.eq_of_toNat_eq
  rw [Int32.toBitVec_and, BitVec.toNat_and, hm, Nat.and_two_pow_sub_one_eq_mod]
  show _ = (BitVec.ofNat 32 _).toNat
  rw [BitVec.toNat_ofNat]
  exact (Nat.mod_eq_of_lt (Nat.lt_of_le_of_lt (Nat.mod_le _ _) x.toBitVec.isLt)).symm
theorem pk_andN {n : Nat} (h : n < 2 ^ 32) {m : Int32} (k : Nat) (hm : m.toBitVec.toNat = 2 ^ k - 1) : nI n &&& m = nI (n % 2 ^ k) := by
  rw [pk_and _ k hm, pk_tn h]
theorem pk_andE (x : Int32) {m : Int32} (k : Nat) (hm : m.toBitVec.toNat = 2 ^ k - 1) : ∃ j : Nat, j < 2 ^ k ∧ x &&& m = nI j := ⟨_, Nat.mod_lt _ (Nat.two_pow_pos k), pk_and x k hm⟩
theorem pk_shl (a s : Int32) (k : Nat) (hs : (s.toBitVec.smod 32).toNat = k) : (a <<< s).toBitVec.toNat = a.toBitVec.toNat * 2 ^ k % 2 ^ 32 := by
  show (a.toBitVec <<< (s.toBitVec.smod 32).toNat).toNat = _
  rw [hs, BitVec.toNat_shiftLeft, Nat.shiftLeft_eq]
theorem pk_shlN {n : Nat} (s : Int32) (k : Nat) (hs : (s.toBitVec.smod 32).toNat = k) (h : n * 2 ^ k < 2 ^ 32) : nI n <<< s = nI (n * 2 ^ k) := by
  apply Int32.toBitVec_inj.mp
  apply BitVec.eq_of_toNat_eq
  have hn : n < 2 ^ 32 := Nat.lt_of_le_of_lt (Nat.le_mul_of_pos_right n (Nat.two_pow_pos k)) h
  rw [pk_shl _ _ k hs, pk_tn hn, pk_tn h, Nat.mod_eq_of_lt h]
theorem pk_shr (a s : Int32) (k : Nat) (hs : (s.toBitVec.smod 32).toNat = k) : (a >>> s).toInt = a.toInt >>> k := by
  show (a.toBitVec.sshiftRight (s.toBitVec.smod 32).toNat).toInt = _
  rw [hs, BitVec.toInt_sshiftRight]
  rfl
theorem pk_shrN {n : Nat} (h : n < 2 ^ 31) (s : Int32) (k : Nat) (hs : (s.toBitVec.smod 32).toNat = k) : nI n >>> s = nI (n / 2 ^ k) := by
  apply Int32.toInt_inj.mp
  have h2 : n / 2 ^ k ≤ n := Nat.div_le_self _ _
  rw [pk_shr _ _ k hs, nI_toInt h, nI_toInt (by omega), Int.shiftRight_eq_div_pow]
  rfl
theorem pk_loop {σ : Type} (W : Nat → Nat → σ → Prop) (I : Nat → σ → Prop) (e i0 : Nat) (s : σ) (hi : i0 ≤ e) (h0 : I i0 s) (hx : ∀ n s, I e s → W (n + 1) e s)
    (hs : ∀ n i s, i < e → I i s → (∀ s', I (i + 1) s' → W n (i + 1) s') → W (n + 1) i s) : ∃ n, W n i0 s :=
  ⟨e + 1, loop_i W I e hx hs (e + 1) i0 s hi (by omega) h0⟩
theorem pk_loopD {σ : Type} (W : Nat → Nat → σ → Prop) (I : Nat → σ → Prop) (hx : ∀ n s, I 0 s → W (n + 1) 0 s)
    (hs : ∀ n i s, I (i + 1) s → (∀ s', I i s' → W n i s') → W (n + 1) (i + 1) s) : ∀ (e : Nat) (s : σ), I e s → W (e + 1) e s := by
  intro e
  induction e with
  | zero => exact fun s h => hx 0 s h
  | succ e ih => exact fun s h => hs (e + 1) e s h (fun s' h' => ih s' h')
theorem pk_least (P : Nat → Prop) (h : ∃ k, P k) : ∃ k, P k ∧ ∀ j, j < k → ¬ P j := by
  obtain ⟨k, hk⟩ := h
  induction k using Nat.strongRecOn with
  | ind k ih =>
    by_cases e : ∃ j, j < k ∧ P j
    · obtain ⟨j, hj, pj⟩ := e
      exact ih j hj pj
    · exact ⟨k, hk, fun j hj pj => e ⟨j, hj, pj⟩⟩
end
section
/-! ===== Int32 by its bits: bt x i ===== -/
def bt (x : Int32) (i : Nat) : Bool := x.toBitVec.getLsbD i
theorem b_ext {x y : Int32} (h : ∀ i, i < 32 → bt x i = bt y i) : x = y := Int32.toBitVec_inj.mp (BitVec.eq_of_getLsbD_eq (fun i hi => h i hi))
theorem b_or (x y : Int32) (i : Nat) : bt (x ||| y) i = (bt x i || bt y i) := by unfold bt; rw [Int32.toBitVec_or, BitVec.getLsbD_or]
theorem b_and (x y : Int32) (i : Nat) : bt (x &&& y) i = (bt x i && bt y i) := by unfold bt; rw [Int32.toBitVec_and, BitVec.getLsbD_and]
theorem b_xor (x y : Int32) (i : Nat) : bt (x ^^^ y) i = (bt x i ^^ bt y i) := by unfold bt; rw [Int32.toBitVec_xor, BitVec.getLsbD_xor]
theorem b_big {x : Int32} {i : Nat} (h : 32 ≤ i) : bt x i = false := BitVec.getLsbD_of_ge _ _ h
theorem b_255 (i : Nat) : bt 255 i = decide (i < 8) := by
  rcases Nat.lt_or_ge i 32 with h | h
  · exact (by decide +kernel : ∀ i, i < 32 → bt 255 i = decide (i < 8)) i h
  · rw [b_big h, decide_eq_false (by omega)]
theorem b_65535 (i : Nat) : bt 65535 i = decide (i < 16) := by
  rcases Nat.lt_or_ge i 32 with h | h
  · exact (by decide +kernel : ∀ i, i < 32 → bt 65535 i = decide (i < 16)) i h
  · rw [b_big h, decide_eq_false (by omega)]
theorem b_m1 : ∀ i, i < 32 → bt (-1) i = true := by decide +kernel
theorem b_0 (i : Nat) : bt 0 i = false := BitVec.getLsbD_zero
theorem s_l : ∀ n, n < 32 → ((nI n &&& 31).toBitVec.smod 32).toNat = n := by decide +kernel
theorem s_u : ∀ n, n < 32 → (((nI n).toUInt32 &&& Int32.toUInt32 31).toBitVec % 32).toNat = n := by decide +kernel
theorem b_shl (n : Nat) (hn : n < 32) (x : Int32) {i : Nat} (hi : i < 32) : bt (x <<< (nI n &&& 31)) i = (decide (n ≤ i) && bt x (i - n)) := by
  unfold bt
  rw [Int32.toBitVec_shiftLeft]
  show (x.toBitVec <<< ((nI n &&& 31).toBitVec.smod 32).toNat).getLsbD i = _
  rw [s_l n hn, BitVec.getLsbD_shiftLeft]
  rcases Nat.lt_or_ge i n with h | h
  · simp [h, Nat.not_le.mpr h]
  · simp [hi, h, Nat.not_lt.mpr h]
theorem b_ushr (n : Nat) (hn : n < 32) (x : Int32) (i : Nat) : bt ((x.toUInt32 >>> ((nI n).toUInt32 &&& Int32.toUInt32 31)).toInt32) i = bt x (n + i) := by
  show (x.toUInt32 >>> ((nI n).toUInt32 &&& Int32.toUInt32 31)).toBitVec.getLsbD i = x.toUInt32.toBitVec.getLsbD (n + i)
  rw [UInt32.toBitVec_shiftRight]
  show (x.toUInt32.toBitVec >>> (((nI n).toUInt32 &&& Int32.toUInt32 31).toBitVec % 32).toNat).getLsbD i = _
  rw [s_u n hn, BitVec.getLsbD_ushiftRight]
theorem b_sshr (n : Nat) (hn : n < 32) (x : Int32) {i : Nat} (hi : i < 32) : bt (x >>> (nI n &&& 31)) i = if n + i < 32 then bt x (n + i) else bt x 31 := by
  unfold bt
  rw [Int32.toBitVec_shiftRight]
  show (x.toBitVec.sshiftRight ((nI n &&& 31).toBitVec.smod 32).toNat).getLsbD i = _
  rw [s_l n hn, BitVec.getLsbD_sshiftRight, BitVec.msb_eq_getLsbD_last]
  simp [hi]
theorem b_shl8 (x : Int32) {i : Nat} (hi : i < 32) : bt (x <<< ((8 : Int32) &&& 31)) i = (decide (8 ≤ i) && bt x (i - 8)) := b_shl 8 (by omega) x hi
theorem b_shl16 (x : Int32) {i : Nat} (hi : i < 32) : bt (x <<< ((16 : Int32) &&& 31)) i = (decide (16 ≤ i) && bt x (i - 16)) := b_shl 16 (by omega) x hi
theorem b_shl24 (x : Int32) {i : Nat} (hi : i < 32) : bt (x <<< ((24 : Int32) &&& 31)) i = (decide (24 ≤ i) && bt x (i - 24)) := b_shl 24 (by omega) x hi
theorem b_sshr8 (x : Int32) {i : Nat} (hi : i < 32) : bt (x >>> ((8 : Int32) &&& 31)) i = if 8 + i < 32 then bt x (8 + i) else bt x 31 := b_sshr 8 (by omega) x hi
/-! ===== own rows on bits ===== -/
theorem qz_bone : ∀ i, i < 32 → bt 1 i = decide (i = 0) := by decide +kernel
theorem qz_bsh : ∀ n, n < 32 → ∀ i, i < 32 → bt ((1 : Int32) <<< (nI n &&& 31)) i = decide (i = n) := by decide +kernel
theorem qz_b1 (x : Int32) (r : Nat) (hr : r < 32) : (x >>> (nI r &&& 31)) &&& 1 = if bt x r = true then 1 else 0 := by
  apply b_ext
  intro i hi
  rw [b_and, b_sshr r hr x hi, qz_bone i hi]
  by_cases h0 : i = 0
  · subst h0
    rw [if_pos (by omega)]
    by_cases hb : bt x r = true
    · simp [hb, qz_bone]
    · have hb' : bt x r = false := by simpa using hb
      simp [hb', b_0]
  · by_cases hb : bt x r = true
    · simp [hb, h0, qz_bone i hi]
    · have hb' : bt x r = false := by simpa using hb
      simp [hb', h0, b_0]
theorem qz_b1z (x : Int32) (r : Nat) (hr : r < 32) : (x >>> (nI r &&& 31)) &&& 1 = 0 ↔ ¬ bt x r = true := by
  rw [qz_b1 x r hr]
  by_cases hb : bt x r = true
  · simp [hb]
  · simp [hb]
theorem qz_b1o (x : Int32) (r : Nat) (hr : r < 32) : (x >>> (nI r &&& 31)) &&& 1 = 1 ↔ bt x r = true := by
  rw [qz_b1 x r hr]
  by_cases hb : bt x r = true
  · simp [hb]
  · simp [hb]
theorem qz_set (x : Int32) (n : Nat) (hn : n < 32) {i : Nat} (hi : i < 32) : bt (x ||| ((1 : Int32) <<< (nI n &&& 31))) i = true ↔ (bt x i = true ∨ i = n) := by
  rw [b_or, qz_bsh n hn i hi]
  simp
theorem qz_clr (x : Int32) (n : Nat) (hn : n < 32) {i : Nat} (hi : i < 32) : bt (x &&& (((1 : Int32) <<< (nI n &&& 31)) ^^^ (-1))) i = true ↔ (bt x i = true ∧ i ≠ n) := by
  rw [b_and, b_xor, qz_bsh n hn i hi, b_m1 i hi]
  simp
theorem qz_zero {x : Int32} : x = 0 ↔ ∀ i, i < 32 → ¬ bt x i = true := by
  constructor
  · intro h i _
    rw [h, b_0]
    simp
  · intro h
    apply b_ext
    intro i hi
    rw [b_0]
    simpa using h i hi
theorem qz_ext {x y : Int32} (h : ∀ i, i < 32 → (bt x i = true ↔ bt y i = true)) : x = y := by
  apply b_ext
  intro i hi
  have := h i hi
  cases hx : bt x i <;> cases hy : bt y i <;> simp_all
theorem qz_hi4 : ∀ m, m < 16 → ∀ i, i < 32 → 4 ≤ i → ¬ bt (nI m) i = true := by decide +kernel
theorem qz_inj4 : ∀ m, m < 16 → ∀ n, n < 16 → (∀ r, r < 4 → bt (nI m) r = bt (nI n) r) → m = n := by decide +kernel
theorem qz_uni {m n : Nat} (hm : m < 16) (hn : n < 16) {P : Nat → Prop} (h : ∀ r, r < 4 → (bt (nI m) r = true ↔ P r)) (h' : ∀ r, r < 4 → (bt (nI n) r = true ↔ P r)) : m = n := by
  apply qz_inj4 m hm n hn
  intro r hr
  have a := h r hr
  have b := h' r hr
  cases hx : bt (nI m) r <;> cases hy : bt (nI n) r <;> simp_all
theorem qz_of4 (t : Int32) (h : ∀ i, i < 32 → 4 ≤ i → ¬ bt t i = true) : ∃ m, m < 16 ∧ t = nI m := by
  have key : ∀ a b c d : Bool, ∃ m, m < 16 ∧ bt (nI m) 0 = a ∧ bt (nI m) 1 = b ∧ bt (nI m) 2 = c ∧ bt (nI m) 3 = d := by decide +kernel
  obtain ⟨m, hm, h0, h1, h2, h3⟩ := key (bt t 0) (bt t 1) (bt t 2) (bt t 3)
  refine ⟨m, hm, ?_⟩
  apply qz_ext
  intro i hi
  by_cases h4 : 4 ≤ i
  · exact ⟨fun z => absurd z (h i hi h4), fun z => absurd z (qz_hi4 m hm i hi h4)⟩
  · have : i = 0 ∨ i = 1 ∨ i = 2 ∨ i = 3 := by omega
    rcases this with rfl | rfl | rfl | rfl
    · rw [h0]
    · rw [h1]
    · rw [h2]
    · rw [h3]
theorem qz_nz4 {m : Nat} (hm : m < 16) : nI m = 0 ↔ ∀ r, r < 4 → ¬ bt (nI m) r = true := by
  rw [qz_zero]
  constructor
  · intro h r hr
    exact h r (by omega)
  · intro h i hi
    by_cases h4 : 4 ≤ i
    · exact qz_hi4 m hm i hi h4
    · exact h i (by omega)
theorem qz_pow4 : ∀ r, r < 4 → (1 : Int32) <<< (nI r &&& 31) = nI (2 ^ r) ∧ 2 ^ r < 16 ∧ ∀ i, i < 4 → (bt (nI (2 ^ r)) i = true ↔ i = r) := by decide +kernel
/-! ===== sums ===== -/
def qz_sm (f : Nat → Nat) : Nat → Nat
  | 0 => 0
  | n + 1 => qz_sm f n + f n
theorem qz_sm_le {f g : Nat → Nat} : ∀ n, (∀ i, i < n → f i ≤ g i) → qz_sm f n ≤ qz_sm g n := by
  intro n
  induction n with
  | zero => intro _; exact Nat.le_refl _
  | succ n ih =>
    intro h
    have a := ih (fun i hi => h i (by omega))
    have b := h n (by omega)
    show qz_sm f n + f n ≤ qz_sm g n + g n
    omega
theorem qz_sm_lt {f g : Nat → Nat} : ∀ n, (∀ i, i < n → f i ≤ g i) → ∀ k, k < n → f k < g k → qz_sm f n < qz_sm g n := by
  intro n
  induction n with
  | zero => intro _ k hk; omega
  | succ n ih =>
    intro h k hk hlt
    show qz_sm f n + f n < qz_sm g n + g n
    have b := h n (by omega)
    by_cases e : k = n
    · subst e
      have a := qz_sm_le k (fun i hi => h i (by omega) : ∀ i, i < k → f i ≤ g i)
      omega
    · have a := ih (fun i hi => h i (by omega)) k (by omega) hlt
      omega
theorem qz_sm_b {f : Nat → Nat} {B : Nat} : ∀ n, (∀ i, i < n → f i ≤ B) → qz_sm f n ≤ B * n := by
  intro n
  induction n with
  | zero => intro _; exact Nat.zero_le _
  | succ n ih =>
    intro h
    have a := ih (fun i hi => h i (by omega))
    have b := h n (by omega)
    show qz_sm f n + f n ≤ B * (n + 1)
    rw [Nat.mul_succ]
    omega
theorem qz_sm_eq {f g : Nat → Nat} : ∀ n, (∀ i, i < n → f i = g i) → qz_sm f n = qz_sm g n := by
  intro n h
  have a := qz_sm_le n (fun i hi => Nat.le_of_eq (h i hi))
  have b := qz_sm_le n (fun i hi => Nat.le_of_eq (h i hi).symm)
  omega
theorem qz_sm_1 {f g : Nat → Nat} : ∀ n k, k < n → (∀ i, i < n → i ≠ k → g i = f i) → g k = f k + 1 → qz_sm g n = qz_sm f n + 1 := by
  intro n
  induction n with
  | zero => intro k hk; omega
  | succ n ih =>
    intro k hk h h1
    show qz_sm g n + g n = qz_sm f n + f n + 1
    by_cases e : k = n
    · subst e
      have a := qz_sm_eq k (fun i hi => h i (by omega) (by omega) : ∀ i, i < k → g i = f i)
      omega
    · have a := ih k (by omega) (fun i hi hne => h i (by omega) hne) h1
      have b := h n (by omega) (fun z => e z.symm)
      omega
def qz_pc (x : Int32) : Nat := qz_sm (fun i => if bt x i = true then 1 else 0) 32
theorem qz_pc_le32 (x : Int32) : qz_pc x ≤ 32 := by
  have := qz_sm_b (f := fun i => if bt x i = true then 1 else 0) (B := 1) 32 (by
    intro i _
    show (if bt x i = true then 1 else 0) ≤ 1
    split <;> omega)
  exact this
theorem qz_pc_lt {x y : Int32} (h : ∀ i, i < 32 → bt x i = true → bt y i = true) (n : x ≠ y) : qz_pc x < qz_pc y := by
  have ex : ∃ i, i < 32 ∧ ¬ bt x i = true ∧ bt y i = true := by
    apply Classical.byContradiction
    intro no
    apply n
    apply qz_ext
    intro i hi
    refine ⟨h i hi, fun hy => ?_⟩
    apply Classical.byContradiction
    intro hx
    exact no ⟨i, hi, hx, hy⟩
  obtain ⟨k, hk, hx, hy⟩ := ex
  refine qz_sm_lt 32 ?_ k hk ?_
  · intro i hi
    show (if bt x i = true then 1 else 0) ≤ (if bt y i = true then 1 else 0)
    by_cases hb : bt x i = true
    · rw [if_pos hb, if_pos (h i hi hb)]
      exact Nat.le_refl _
    · rw [if_neg hb]
      exact Nat.zero_le _
  · show (if bt x k = true then 1 else 0) < (if bt y k = true then 1 else 0)
    rw [if_neg hx, if_pos hy]
    exact Nat.zero_lt_one
/-- one cell of an array grows: so does the sum -/
theorem qz_sm_up {α : Type} {f : α → Nat} {a b : Nat → α} {n k : Nat} (hk : k < n) (h : ∀ i, i ≠ k → b i = a i) (hl : f (a k) < f (b k)) : qz_sm (fun i => f (a i)) n < qz_sm (fun i => f (b i)) n := by
  refine qz_sm_lt n ?_ k hk hl
  intro i _
  show f (a i) ≤ f (b i)
  by_cases e : i = k
  · rw [e]; exact Nat.le_of_lt hl
  · rw [h i e]; exact Nat.le_refl _
theorem qz_us {f : Nat → Int32} {k : Nat} {x : Int32} : upd f k x k = x := if_pos rfl
theorem qz_un {f : Nat → Int32} {k j : Nat} {x : Int32} (h : j ≠ k) : upd f k x j = f j := if_neg h
theorem qz_uu {f : Nat → Int32} {k : Nat} : upd f k (f k) = f := by
  funext j
  by_cases e : j = k
  · rw [e, qz_us]
  · rw [qz_un e]
/-! ===== walks ===== -/
def qz_w {σ : Type} (I : σ → Prop) (E : σ → σ → Prop) : Nat → σ → Prop
  | 0 => I
  | n + 1 => fun t => ∃ s, qz_w I E n s ∧ E s t
def qz_R {σ : Type} (I : σ → Prop) (E : σ → σ → Prop) (t : σ) : Prop := ∃ n, qz_w I E n t
theorem qz_R0 {σ : Type} {I : σ → Prop} {E : σ → σ → Prop} {t : σ} (h : I t) : qz_R I E t := ⟨0, h⟩
theorem qz_R1 {σ : Type} {I : σ → Prop} {E : σ → σ → Prop} {s t : σ} (h : qz_R I E s) (e : E s t) : qz_R I E t := by
  obtain ⟨n, hn⟩ := h
  exact ⟨n + 1, s, hn, e⟩
theorem qz_wi {σ : Type} {I : σ → Prop} {E : σ → σ → Prop} {P : σ → Prop} (h0 : ∀ t, I t → P t) (h1 : ∀ s t, qz_R I E s → P s → E s t → P t) : ∀ n t, qz_w I E n t → P t := by
  intro n
  induction n with
  | zero => intro t ht; exact h0 t ht
  | succ n ih =>
    intro t ht
    obtain ⟨s, hs, e⟩ := ht
    exact h1 s t ⟨n, hs⟩ (ih s hs) e
theorem qz_Ri {σ : Type} {I : σ → Prop} {E : σ → σ → Prop} {P : σ → Prop} (h0 : ∀ t, I t → P t) (h1 : ∀ s t, qz_R I E s → P s → E s t → P t) {t : σ} (h : qz_R I E t) : P t := by
  obtain ⟨n, hn⟩ := h
  exact qz_wi h0 h1 n t hn
/-- a closed set that holds the begin holds all that is reached, and one that is reached in all its members is the reached set -/
theorem qz_Rc {σ : Type} {I : σ → Prop} {E : σ → σ → Prop} {P : σ → Prop} (h0 : ∀ t, I t → P t) (h1 : ∀ s t, P s → E s t → P t) (h2 : ∀ t, P t → qz_R I E t) (t : σ) : P t ↔ qz_R I E t :=
  ⟨h2 t, fun h => qz_Ri h0 (fun s t _ hs e => h1 s t hs e) h⟩
end
section
/-! ===== the flow: successors, heirs, least sets ===== -/
section
variable (c : Nat) (K F S : Nat → Int32)
def qz_nx (p q : Nat) : Prop := q < c ∧ ((q = p + 1 ∧ K p ≠ 9 ∧ K p ≠ 11) ∨ ((K p = 9 ∨ K p = 10) ∧ F p = nI q))
/-- r' holds behind p what r held before -/
def qz_hr (p r r' : Nat) : Prop := r' < 4 ∧
  (((K p = 5 ∨ K p = 6) ∧ ((S p = nI r ∧ (F p = nI r' ∨ (K p = 6 ∧ r' = r))) ∨ (S p ≠ nI r ∧ F p ≠ nI r ∧ r' = r)))
  ∨ ((K p = 3 ∨ K p = 4 ∨ K p = 8) ∧ F p ≠ nI r ∧ r' = r)
  ∨ ((K p ≠ 3 ∧ K p ≠ 4 ∧ K p ≠ 5 ∧ K p ≠ 6 ∧ K p ≠ 8) ∧ r' = r))
/-- r holds nothing behind p, whatever was held before -/
def qz_nu (p r : Nat) : Prop := (K p = 8 ∧ F p = nI r) ∨ (K p = 5 ∧ S p = nI r ∧ F p ≠ nI r)
def qz_mk (p : Nat) : Prop := K p = 3 ∨ K p = 4
def qz_re : Nat → Prop := qz_R (fun p => p = 0 ∧ 0 < c) (qz_nx c K F)
def qz_hi (l : Nat) (t : Nat × Nat) : Prop := t.2 < 4 ∧ ((l < 24 ∧ qz_re c K F l ∧ qz_mk K l ∧ F l = nI t.2 ∧ qz_nx c K F l t.1) ∨ (l = 24 ∧ ((t.1 = 0 ∧ 0 < c) ∨ ∃ p, qz_re c K F p ∧ qz_nx c K F p t.1 ∧ qz_nu K F S p t.2)))
def qz_he (s t : Nat × Nat) : Prop := qz_nx c K F s.1 t.1 ∧ qz_hr K F S s.1 s.2 t.2
/-- a path comes to p with r holding a loan of l; l = 24: nothing -/
def qz_ho (l p r : Nat) : Prop := qz_R (qz_hi c K F S l) (qz_he c K F S) (p, r)
/-- a path comes to p with o empty -/
def qz_em (o : Nat) : Nat → Prop := qz_R (fun q => (q = 0 ∧ 0 < c) ∨ ∃ p, qz_re c K F p ∧ K p = 2 ∧ F p = nI o ∧ qz_nx c K F p q) (fun p q => qz_nx c K F p q ∧ ¬ (K p = 0 ∧ F p = nI o))
/-- what r alone holds at p can still be used -/
def qz_lv (p r : Nat) : Prop := qz_R (fun t : Nat × Nat => t.1 < c ∧ t.2 < 4 ∧ K t.1 = 7 ∧ F t.1 = nI t.2) (fun s t : Nat × Nat => t.1 < c ∧ t.2 < 4 ∧ qz_nx c K F t.1 s.1 ∧ qz_hr K F S t.1 t.2 s.2) (p, r)
/-- what point holds: every action is one of the twelve, its arguments within -/
def qz_ok (k x y : Int32) : Prop := ∃ n, n < 12 ∧ k = nI n ∧ (n < 9 → ∃ a, a < 4 ∧ x = nI a) ∧ (3 ≤ n ∧ n ≤ 6 → ∃ b, b < 4 ∧ y = nI b) ∧ (n = 9 ∨ n = 10 → ∃ a, a ≤ 24 ∧ x = nI a)
def qz_va : Prop := ∀ p, qz_ok (K p) (F p) (S p)
end
theorem qz_lit : (0 : Int32) = nI 0 ∧ (1 : Int32) = nI 1 ∧ (2 : Int32) = nI 2 ∧ (3 : Int32) = nI 3 ∧ (4 : Int32) = nI 4 ∧ (5 : Int32) = nI 5 ∧ (6 : Int32) = nI 6 ∧ (7 : Int32) = nI 7 ∧ (8 : Int32) = nI 8 ∧ (9 : Int32) = nI 9 ∧ (10 : Int32) = nI 10 ∧ (11 : Int32) = nI 11 := by decide +kernel
theorem qz_ne {a b : Nat} (ha : a < 4) (hb : b < 4) : nI a = nI b ↔ a = b := nI_eq (by omega) (by omega)
section
variable {c : Nat} {K F S : Nat → Int32}
theorem qz_nx_lt {p q : Nat} (h : qz_nx c K F p q) : q < c := h.1
theorem qz_re_lt {p : Nat} (h : qz_re c K F p) : p < c :=
  qz_Ri (P := fun p => p < c) (fun t ht => by rw [ht.1]; exact ht.2) (fun _ _ _ _ e => e.1) h
theorem qz_re0 (h : 0 < c) : qz_re c K F 0 := qz_R0 ⟨rfl, h⟩
theorem qz_re1 {p q : Nat} (h : qz_re c K F p) (e : qz_nx c K F p q) : qz_re c K F q := qz_R1 h e
theorem qz_ho_f {l p r : Nat} (h : qz_ho c K F S l p r) : p < c ∧ r < 4 ∧ qz_re c K F p ∧ l ≤ 24 ∧ (l < 24 → qz_re c K F l ∧ qz_mk K l) :=
  qz_Ri (P := fun t : Nat × Nat => t.1 < c ∧ t.2 < 4 ∧ qz_re c K F t.1 ∧ l ≤ 24 ∧ (l < 24 → qz_re c K F l ∧ qz_mk K l))
    (fun t ht => by
      obtain ⟨h4, hh⟩ := ht
      rcases hh with ⟨hl, h1, h2, h3, h5⟩ | ⟨hl, hh⟩
      · exact ⟨h5.1, h4, qz_re1 h1 h5, by omega, fun _ => ⟨h1, h2⟩⟩
      · rcases hh with ⟨h0, hc⟩ | ⟨p, h1, h2, h3⟩
        · refine ⟨by omega, h4, ?_, by omega, fun z => by omega⟩
          rw [h0]; exact qz_re0 hc
        · exact ⟨h2.1, h4, qz_re1 h1 h2, by omega, fun z => by omega⟩)
    (fun s t _ hs e => ⟨e.1.1, e.2.1, qz_re1 hs.2.2.1 e.1, hs.2.2.2⟩) h
theorem qz_em_re {o p : Nat} (h : qz_em c K F o p) : qz_re c K F p :=
  qz_Ri (P := qz_re c K F)
    (fun t ht => by
      rcases ht with ⟨h0, hc⟩ | ⟨p, h1, _, _, h2⟩
      · rw [h0]; exact qz_re0 hc
      · exact qz_re1 h1 h2)
    (fun _ _ _ hs e => qz_re1 hs e.1) h
theorem qz_ho1 {l p r q r' : Nat} (h : qz_ho c K F S l p r) (e : qz_nx c K F p q) (e' : qz_hr K F S p r r') : qz_ho c K F S l q r' := qz_R1 (s := (p, r)) h ⟨e, e'⟩
theorem qz_ho_mk {b q r : Nat} (hb : b < 24) (hr : r < 4) (h1 : qz_re c K F b) (h2 : qz_mk K b) (h3 : F b = nI r) (e : qz_nx c K F b q) : qz_ho c K F S b q r := qz_R0 (t := (q, r)) ⟨hr, Or.inl ⟨hb, h1, h2, h3, e⟩⟩
theorem qz_ho_0 {r : Nat} (hr : r < 4) (hc : 0 < c) : qz_ho c K F S 24 0 r := qz_R0 (t := (0, r)) ⟨hr, Or.inr ⟨rfl, Or.inl ⟨rfl, hc⟩⟩⟩
theorem qz_ho_nu {p q r : Nat} (hr : r < 4) (h1 : qz_re c K F p) (e : qz_nx c K F p q) (h2 : qz_nu K F S p r) : qz_ho c K F S 24 q r := qz_R0 (t := (q, r)) ⟨hr, Or.inr ⟨rfl, Or.inr ⟨p, h1, e, h2⟩⟩⟩
theorem qz_lv_f {p r : Nat} (h : qz_lv c K F S p r) : p < c ∧ r < 4 :=
  qz_Ri (P := fun t : Nat × Nat => t.1 < c ∧ t.2 < 4) (fun _ ht => ⟨ht.1, ht.2.1⟩) (fun _ _ _ _ e => ⟨e.1, e.2.1⟩) h
theorem qz_lv_0 {p r : Nat} (hp : p < c) (hr : r < 4) (h : K p = 7) (h' : F p = nI r) : qz_lv c K F S p r := qz_R0 (t := (p, r)) ⟨hp, hr, h, h'⟩
theorem qz_lv_1 {p r q r' : Nat} (hp : p < c) (hr : r < 4) (e : qz_nx c K F p q) (e' : qz_hr K F S p r r') (h : qz_lv c K F S q r') : qz_lv c K F S p r := qz_R1 (s := (q, r')) (t := (p, r)) h ⟨hp, hr, e, e'⟩
theorem qz_lv_c {p r : Nat} (h : qz_lv c K F S p r) : (K p = 7 ∧ F p = nI r) ∨ ∃ q r', qz_nx c K F p q ∧ qz_hr K F S p r r' ∧ qz_lv c K F S q r' :=
  qz_Ri (P := fun t : Nat × Nat => (K t.1 = 7 ∧ F t.1 = nI t.2) ∨ ∃ q r', qz_nx c K F t.1 q ∧ qz_hr K F S t.1 t.2 r' ∧ qz_lv c K F S q r')
    (fun _ ht => Or.inl ⟨ht.2.2.1, ht.2.2.2⟩) (fun s _ hs _ e => Or.inr ⟨s.1, s.2, e.2.2.1, e.2.2.2, hs⟩) h
/-! heirs: at most one source; a source, a new loan, or nothing -/
theorem qz_k {x y : Int32} (h : x = y) (n : ¬ x = y) : False := n h
theorem qz_hr_u {p r r0 r' : Nat} (hr : r < 4) (hr0 : r0 < 4) (h : qz_hr K F S p r r') (h0 : qz_hr K F S p r0 r') : r = r0 := by
  obtain ⟨h4, h⟩ := h
  obtain ⟨_, h0⟩ := h0
  have inj : ∀ {a b : Nat}, a < 4 → b < 4 → nI a = nI b → a = b := fun ha hb => (qz_ne ha hb).mp
  rcases h with ⟨hk, h⟩ | ⟨hk, h, e⟩ | ⟨hk, e⟩
  · rcases h0 with ⟨_, h0⟩ | ⟨hk0, _⟩ | ⟨hk0, _⟩
    · rcases h with ⟨a, b⟩ | ⟨a, b, e⟩
      · rcases h0 with ⟨a0, b0⟩ | ⟨a0, b0, e0⟩
        · exact inj hr hr0 (a.symm.trans a0)
        · rcases b with b | ⟨_, b⟩
          · rw [← e0] at b0; exact absurd b b0
          · omega
      · rcases h0 with ⟨a0, b0⟩ | ⟨a0, b0, e0⟩
        · rcases b0 with b0 | ⟨_, b0⟩
          · rw [← e] at b; exact absurd b0 b
          · omega
        · omega
    · exfalso
      rcases hk with hk | hk <;> rw [hk] at hk0 <;> revert hk0 <;> decide
    · exfalso
      rcases hk with hk | hk
      · exact hk0.2.2.1 hk
      · exact hk0.2.2.2.1 hk
  · rcases h0 with ⟨hk0, _⟩ | ⟨_, _, e0⟩ | ⟨_, e0⟩
    · exfalso
      rcases hk0 with hk0 | hk0 <;> rw [hk0] at hk <;> revert hk <;> decide
    · omega
    · omega
  · rcases h0 with ⟨hk0, _⟩ | ⟨_, _, e0⟩ | ⟨_, e0⟩
    · exfalso
      rcases hk0 with hk0 | hk0
      · exact hk.2.2.1 hk0
      · exact hk.2.2.2.1 hk0
    · omega
    · omega
theorem qz_hr_mk {p r r' : Nat} (h : qz_hr K F S p r r') (m : qz_mk K p) : F p ≠ nI r' := by
  obtain ⟨_, h⟩ := h
  rcases h with ⟨hk, _⟩ | ⟨_, h, e⟩ | ⟨hk, _⟩
  · exfalso
    rcases hk with hk | hk <;> unfold qz_mk at m <;> rw [hk] at m <;> revert m <;> decide
  · rw [e]; exact h
  · exfalso
    rcases m with m | m
    · exact hk.1 m
    · exact hk.2.1 m
theorem qz_nu_mk {p r : Nat} (h : qz_nu K F S p r) (m : qz_mk K p) : False := by
  unfold qz_mk at m
  rcases h with ⟨hk, _⟩ | ⟨hk, _⟩ <;> rw [hk] at m <;> revert m <;> decide
theorem qz_nu_hr {p r r0 : Nat} (hr0 : r0 < 4) (h : qz_nu K F S p r) (h' : qz_hr K F S p r0 r) : False := by
  obtain ⟨h4, h'⟩ := h'
  rcases h with ⟨hk, h⟩ | ⟨hk, h, hf⟩
  · rcases h' with ⟨hk0, _⟩ | ⟨_, h0, e⟩ | ⟨hk0, _⟩
    · rw [hk] at hk0; revert hk0; decide
    · rw [← e] at h0; exact h0 h
    · exact hk0.2.2.2.2 hk
  · rcases h' with ⟨_, h0⟩ | ⟨hk0, _⟩ | ⟨hk0, _⟩
    · rcases h0 with ⟨a, b | ⟨b, _⟩⟩ | ⟨a, b, e⟩
      · exact hf b
      · rw [hk] at b; revert b; decide
      · rw [← e] at a; exact a h
    · rw [hk] at hk0; revert hk0; decide
    · exact hk0.2.2.1 hk
theorem qz_src (V : qz_va K F S) {p r' : Nat} (hr : r' < 4) : (qz_mk K p ∧ F p = nI r') ∨ qz_nu K F S p r' ∨ ∃ r, r < 4 ∧ qz_hr K F S p r r' := by
  obtain ⟨n, hn, hk, h1, h2, h3⟩ := V p
  by_cases k56 : K p = 5 ∨ K p = 6
  · have hn56 : n = 5 ∨ n = 6 := by
      rw [hk] at k56
      rcases k56 with k | k
      · left; exact (nI_eq (b := 5) (by omega) (by omega)).mp k
      · right; exact (nI_eq (b := 6) (by omega) (by omega)).mp k
    obtain ⟨y, hy, ey⟩ := h2 (by omega)
    by_cases ef : F p = nI r'
    · exact Or.inr (Or.inr ⟨y, hy, hr, Or.inl ⟨k56, Or.inl ⟨ey, Or.inl ef⟩⟩⟩)
    · by_cases es : S p = nI r'
      · rcases k56 with k | k
        · exact Or.inr (Or.inl (Or.inr ⟨k, es, ef⟩))
        · exact Or.inr (Or.inr ⟨r', hr, hr, Or.inl ⟨Or.inr k, Or.inl ⟨es, Or.inr ⟨k, rfl⟩⟩⟩⟩)
      · exact Or.inr (Or.inr ⟨r', hr, hr, Or.inl ⟨k56, Or.inr ⟨es, ef, rfl⟩⟩⟩)
  · by_cases k348 : K p = 3 ∨ K p = 4 ∨ K p = 8
    · by_cases ef : F p = nI r'
      · rcases k348 with k | k | k
        · exact Or.inl ⟨Or.inl k, ef⟩
        · exact Or.inl ⟨Or.inr k, ef⟩
        · exact Or.inr (Or.inl (Or.inl ⟨k, ef⟩))
      · exact Or.inr (Or.inr ⟨r', hr, hr, Or.inr (Or.inl ⟨k348, ef, rfl⟩)⟩)
    · refine Or.inr (Or.inr ⟨r', hr, hr, Or.inr (Or.inr ⟨⟨?_, ?_, ?_, ?_, ?_⟩, rfl⟩)⟩)
      · exact fun z => k348 (Or.inl z)
      · exact fun z => k348 (Or.inr (Or.inl z))
      · exact fun z => k56 (Or.inl z)
      · exact fun z => k56 (Or.inr z)
      · exact fun z => k348 (Or.inr (Or.inr z))
end
end
section
/-! ===== the reference's sets of references: 16 * p + set ===== -/
section
variable (c : Nat) (K F S : Nat → Int32)
def qz_hb (p s m : Nat) : Prop := m < 16 ∧ ∀ r', r' < 4 → (bt (nI m) r' = true ↔ ∃ r, r < 4 ∧ bt (nI s) r = true ∧ qz_hr K F S p r r')
def qz_a1 (p s m : Nat) : Prop := m < 16 ∧ ∀ r', r' < 4 → (bt (nI m) r' = true ↔ ((qz_mk K p ∧ F p = nI r') ∨ ∃ r, r < 4 ∧ bt (nI s) r = true ∧ qz_hr K F S p r r'))
def qz_a2 (p s m : Nat) : Prop := m < 16 ∧ ∀ o, o < 4 → (bt (nI m) o = true ↔ ((K p = 0 ∧ F p = nI o) ∨ (bt (nI s) o = true ∧ ¬ (K p = 2 ∧ F p = nI o))))
/-- what 'after' answers: ways 0, 1 and 2 -/
def qz_aw (w p s m : Nat) : Prop := (w = 0 ∧ qz_hb K F S p s m) ∨ (w = 1 ∧ qz_a1 K F S p s m) ∨ (w = 2 ∧ qz_a2 K F p s m)
def qz_ye (w i j : Nat) : Prop := i < 16 * c ∧ ∃ q m, qz_nx c K F (i / 16) q ∧ qz_aw K F S w (i / 16) (i % 16) m ∧ (m ≠ 0 ∨ w ≠ 0) ∧ j = 16 * q + m
/-- met after fromBegin(w) -/
def qz_yb (w : Nat) : Nat → Prop := qz_R (fun j => j = 0 ∧ 0 < c) (qz_ye c K F S w)
/-- met after follow(b) -/
def qz_yf (b : Nat) : Nat → Prop := qz_R (fun j => ∃ q x, qz_nx c K F b q ∧ x < 4 ∧ F b = nI x ∧ j = 16 * q + 2 ^ x) (qz_ye c K F S 0)
def qz_uz (p s : Nat) : Prop := K p = 7 ∧ ∃ x, x < 4 ∧ F p = nI x ∧ bt (nI s) x = true
/-- useful after findUseful -/
def qz_yu : Nat → Prop := qz_R (fun j => j < 16 * c ∧ qz_uz K F (j / 16) (j % 16)) (fun i j => j < 16 * c ∧ ∃ q m, qz_nx c K F (j / 16) q ∧ qz_hb K F S (j / 16) (j % 16) m ∧ i = 16 * q + m)
end
theorem qz_exm (P : Nat → Prop) : ∃ m, m < 16 ∧ ∀ r, r < 4 → (bt (nI m) r = true ↔ P r) := by
  have key : ∀ a b c d : Bool, ∃ m, m < 16 ∧ bt (nI m) 0 = a ∧ bt (nI m) 1 = b ∧ bt (nI m) 2 = c ∧ bt (nI m) 3 = d := by decide +kernel
  have pb : ∀ Q : Prop, ∃ a : Bool, (a = true ↔ Q) := by
    intro Q
    by_cases h : Q
    · exact ⟨true, fun _ => h, fun _ => rfl⟩
    · exact ⟨false, fun z => (by cases z), fun z => absurd z h⟩
  obtain ⟨a, ha⟩ := pb (P 0)
  obtain ⟨b, hb⟩ := pb (P 1)
  obtain ⟨d, hd⟩ := pb (P 2)
  obtain ⟨e, he⟩ := pb (P 3)
  obtain ⟨m, hm, h0, h1, h2, h3⟩ := key a b d e
  refine ⟨m, hm, ?_⟩
  intro r hr
  have : r = 0 ∨ r = 1 ∨ r = 2 ∨ r = 3 := by omega
  rcases this with rfl | rfl | rfl | rfl
  · rw [h0]; exact ha
  · rw [h1]; exact hb
  · rw [h2]; exact hd
  · rw [h3]; exact he
theorem qz_d16 {p s : Nat} (h : s < 16) : (16 * p + s) / 16 = p := by omega
theorem qz_m16 {p s : Nat} (h : s < 16) : (16 * p + s) % 16 = s := by omega
theorem qz_b00 (r : Nat) : ¬ bt (nI 0) r = true := by
  rw [nI_0, b_0]
  simp
section
variable {c : Nat} {K F S : Nat → Int32}
theorem qz_ye1 {w p q s m : Nat} (hp : p < c) (hs : s < 16) (e : qz_nx c K F p q) (h : qz_aw K F S w p s m) (hm : m ≠ 0 ∨ w ≠ 0) : qz_ye c K F S w (16 * p + s) (16 * q + m) := by
  refine ⟨by omega, q, m, ?_, ?_, hm, rfl⟩
  · rw [qz_d16 hs]; exact e
  · rw [qz_d16 hs, qz_m16 hs]; exact h
theorem qz_aw_lt {w p s m : Nat} (h : qz_aw K F S w p s m) : m < 16 := by
  rcases h with ⟨_, h⟩ | ⟨_, h⟩ | ⟨_, h⟩
  · exact h.1
  · exact h.1
  · exact h.1
theorem qz_aw_ex {w : Nat} (hw : w < 3) (p s : Nat) : ∃ m, qz_aw K F S w p s m := by
  have : w = 0 ∨ w = 1 ∨ w = 2 := by omega
  rcases this with rfl | rfl | rfl
  · obtain ⟨m, hm⟩ := qz_exm (fun r' => ∃ r, r < 4 ∧ bt (nI s) r = true ∧ qz_hr K F S p r r')
    exact ⟨m, Or.inl ⟨rfl, hm⟩⟩
  · obtain ⟨m, hm⟩ := qz_exm (fun r' => (qz_mk K p ∧ F p = nI r') ∨ ∃ r, r < 4 ∧ bt (nI s) r = true ∧ qz_hr K F S p r r')
    exact ⟨m, Or.inr (Or.inl ⟨rfl, hm⟩)⟩
  · obtain ⟨m, hm⟩ := qz_exm (fun o => (K p = 0 ∧ F p = nI o) ∨ (bt (nI s) o = true ∧ ¬ (K p = 2 ∧ F p = nI o)))
    exact ⟨m, Or.inr (Or.inr ⟨rfl, hm⟩)⟩
theorem qz_aw_u {w p s m m' : Nat} (h : qz_aw K F S w p s m) (h' : qz_aw K F S w p s m') : m = m' := by
  rcases h with ⟨e, h⟩ | ⟨e, h⟩ | ⟨e, h⟩
  · rcases h' with ⟨e', h'⟩ | ⟨e', h'⟩ | ⟨e', h'⟩
    · exact qz_uni h.1 h'.1 h.2 h'.2
    · omega
    · omega
  · rcases h' with ⟨e', h'⟩ | ⟨e', h'⟩ | ⟨e', h'⟩
    · omega
    · exact qz_uni h.1 h'.1 h.2 h'.2
    · omega
  · rcases h' with ⟨e', h'⟩ | ⟨e', h'⟩ | ⟨e', h'⟩
    · omega
    · omega
    · exact qz_uni h.1 h'.1 h.2 h'.2
theorem qz_hb_u {p s m m' : Nat} (h : qz_hb K F S p s m) (h' : qz_hb K F S p s m') : m = m' := qz_uni h.1 h'.1 h.2 h'.2
theorem qz_hb_ex (p s : Nat) : ∃ m, qz_hb K F S p s m := qz_exm (fun r' => ∃ r, r < 4 ∧ bt (nI s) r = true ∧ qz_hr K F S p r r')
/-! from the begin -/
theorem qz_yb_re {w j : Nat} (h : qz_yb c K F S w j) : qz_re c K F (j / 16) :=
  qz_Ri (P := fun j => qz_re c K F (j / 16))
    (fun t ht => by rw [ht.1]; exact qz_re0 ht.2)
    (fun s t _ hs e => by
      obtain ⟨_, q, m, e, h, _, rfl⟩ := e
      rw [qz_d16 (qz_aw_lt h)]
      exact qz_re1 hs e) h
theorem qz_re_yb {w : Nat} (hw : w = 1 ∨ w = 2) {p : Nat} (h : qz_re c K F p) : ∃ s, s < 16 ∧ qz_yb c K F S w (16 * p + s) :=
  qz_Ri (P := fun p => ∃ s, s < 16 ∧ qz_yb c K F S w (16 * p + s))
    (fun t ht => ⟨0, by omega, qz_R0 ⟨by omega, ht.2⟩⟩)
    (fun p q hp hs e => by
      obtain ⟨s, hs, h⟩ := hs
      obtain ⟨m, hm⟩ := qz_aw_ex (K := K) (F := F) (S := S) (w := w) (by omega) p s
      exact ⟨m, qz_aw_lt hm, qz_R1 h (qz_ye1 (qz_re_lt hp) hs e hm (Or.inr (by omega)))⟩) h
theorem qz_met_re {p : Nat} : (∃ s, s < 16 ∧ qz_yb c K F S 1 (16 * p + s)) ↔ qz_re c K F p := by
  constructor
  · rintro ⟨s, hs, h⟩
    have := qz_yb_re h
    rw [qz_d16 hs] at this
    exact this
  · exact qz_re_yb (Or.inl rfl)
theorem qz_free_1 (V : qz_va K F S) {j : Nat} (h : qz_yb c K F S 1 j) : ∀ r, r < 4 → ¬ bt (nI (j % 16)) r = true → qz_ho c K F S 24 (j / 16) r :=
  qz_Ri (P := fun j => ∀ r, r < 4 → ¬ bt (nI (j % 16)) r = true → qz_ho c K F S 24 (j / 16) r)
    (fun t ht r hr _ => by rw [ht.1]; exact qz_ho_0 hr ht.2)
    (fun i j hi IH e r hr hb => by
      obtain ⟨hlt, q, m, e, h, _, rfl⟩ := e
      have hm := qz_aw_lt h
      rw [qz_m16 hm] at hb
      rw [qz_d16 hm]
      rcases h with ⟨z, _⟩ | ⟨_, h⟩ | ⟨z, _⟩
      · omega
      · rw [h.2 r hr] at hb
        rcases qz_src V (p := i / 16) hr with hh | hh | ⟨r0, hr0, hh⟩
        · exact absurd (Or.inl hh) hb
        · exact qz_ho_nu hr (qz_yb_re hi) e hh
        · refine qz_ho1 (IH r0 hr0 ?_) e hh
          intro z
          exact hb (Or.inr ⟨r0, hr0, z, hh⟩)
      · omega) h
theorem qz_free_2 {p r : Nat} (h : qz_ho c K F S 24 p r) : ∃ s, s < 16 ∧ ¬ bt (nI s) r = true ∧ qz_yb c K F S 1 (16 * p + s) :=
  qz_Ri (P := fun t : Nat × Nat => ∃ s, s < 16 ∧ ¬ bt (nI s) t.2 = true ∧ qz_yb c K F S 1 (16 * t.1 + s))
    (fun t ht => by
      obtain ⟨hr, hh⟩ := ht
      rcases hh with ⟨z, _⟩ | ⟨_, hh⟩
      · omega
      · rcases hh with ⟨h0, hc⟩ | ⟨p, h1, e, h2⟩
        · exact ⟨0, by omega, qz_b00 _, qz_R0 ⟨by omega, hc⟩⟩
        · obtain ⟨s, hs, h⟩ := qz_re_yb (S := S) (w := 1) (Or.inl rfl) h1
          obtain ⟨m, hm⟩ := qz_aw_ex (K := K) (F := F) (S := S) (w := 1) (by omega) p s
          refine ⟨m, qz_aw_lt hm, ?_, qz_R1 h (qz_ye1 (qz_re_lt h1) hs e hm (Or.inr (by omega)))⟩
          rcases hm with ⟨z, _⟩ | ⟨_, hm⟩ | ⟨z, _⟩
          · omega
          · rw [hm.2 _ hr]
            rintro (⟨z, _⟩ | ⟨r0, hr0, _, z⟩)
            · exact qz_nu_mk h2 z
            · exact qz_nu_hr hr0 h2 z
          · omega)
    (fun t u ht IH e => by
      obtain ⟨s, hs, hb, h⟩ := IH
      obtain ⟨e, e'⟩ := e
      have hf := qz_ho_f (p := t.1) (r := t.2) ht
      obtain ⟨m, hm⟩ := qz_aw_ex (K := K) (F := F) (S := S) (w := 1) (by omega) t.1 s
      refine ⟨m, qz_aw_lt hm, ?_, qz_R1 h (qz_ye1 hf.1 hs e hm (Or.inr (by omega)))⟩
      rcases hm with ⟨z, _⟩ | ⟨_, hm⟩ | ⟨z, _⟩
      · omega
      · rw [hm.2 _ e'.1]
        rintro (⟨z, z'⟩ | ⟨r0, hr0, z, z'⟩)
        · exact qz_hr_mk e' z z'
        · have := qz_hr_u hf.2.1 hr0 e' z'
          rw [← this] at z
          exact hb z
      · omega) h
theorem qz_met_free (V : qz_va K F S) {p r : Nat} (hr : r < 4) : (∃ s, s < 16 ∧ ¬ bt (nI s) r = true ∧ qz_yb c K F S 1 (16 * p + s)) ↔ qz_ho c K F S 24 p r := by
  constructor
  · rintro ⟨s, hs, hb, h⟩
    have := qz_free_1 V h r hr (by rw [qz_m16 hs]; exact hb)
    rw [qz_d16 hs] at this
    exact this
  · exact qz_free_2
theorem qz_em_1 {j : Nat} (h : qz_yb c K F S 2 j) : ∀ o, o < 4 → ¬ bt (nI (j % 16)) o = true → qz_em c K F o (j / 16) :=
  qz_Ri (P := fun j => ∀ o, o < 4 → ¬ bt (nI (j % 16)) o = true → qz_em c K F o (j / 16))
    (fun t ht o _ _ => by rw [ht.1]; exact qz_R0 (Or.inl ⟨rfl, ht.2⟩))
    (fun i j hi IH e o ho hb => by
      obtain ⟨hlt, q, m, e, h, _, rfl⟩ := e
      have hm := qz_aw_lt h
      rw [qz_m16 hm] at hb
      rw [qz_d16 hm]
      rcases h with ⟨z, _⟩ | ⟨z, _⟩ | ⟨_, h⟩
      · omega
      · omega
      · rw [h.2 o ho] at hb
        by_cases k2 : K (i / 16) = 2 ∧ F (i / 16) = nI o
        · exact qz_R0 (Or.inr ⟨i / 16, qz_yb_re hi, k2.1, k2.2, e⟩)
        · refine qz_R1 (IH o ho ?_) ⟨e, ?_⟩
          · exact fun z => hb (Or.inr ⟨z, k2⟩)
          · exact fun z => hb (Or.inl z)) h
theorem qz_em_2 {p o : Nat} (ho : o < 4) (h : qz_em c K F o p) : ∃ s, s < 16 ∧ ¬ bt (nI s) o = true ∧ qz_yb c K F S 2 (16 * p + s) :=
  qz_Ri (P := fun p => ∃ s, s < 16 ∧ ¬ bt (nI s) o = true ∧ qz_yb c K F S 2 (16 * p + s))
    (fun t ht => by
      rcases ht with ⟨h0, hc⟩ | ⟨p, h1, k2, f2, e⟩
      · exact ⟨0, by omega, qz_b00 _, qz_R0 ⟨by omega, hc⟩⟩
      · obtain ⟨s, hs, h⟩ := qz_re_yb (S := S) (w := 2) (Or.inr rfl) h1
        obtain ⟨m, hm⟩ := qz_aw_ex (K := K) (F := F) (S := S) (w := 2) (by omega) p s
        refine ⟨m, qz_aw_lt hm, ?_, qz_R1 h (qz_ye1 (qz_re_lt h1) hs e hm (Or.inr (by omega)))⟩
        rcases hm with ⟨z, _⟩ | ⟨z, _⟩ | ⟨_, hm⟩
        · omega
        · omega
        · rw [hm.2 _ ho]
          rintro (⟨z, _⟩ | ⟨_, z⟩)
          · rw [k2] at z; revert z; decide
          · exact z ⟨k2, f2⟩)
    (fun p q hp IH e => by
      obtain ⟨s, hs, hb, h⟩ := IH
      obtain ⟨e, e'⟩ := e
      obtain ⟨m, hm⟩ := qz_aw_ex (K := K) (F := F) (S := S) (w := 2) (by omega) p s
      refine ⟨m, qz_aw_lt hm, ?_, qz_R1 h (qz_ye1 (qz_re_lt (qz_em_re hp)) hs e hm (Or.inr (by omega)))⟩
      rcases hm with ⟨z, _⟩ | ⟨z, _⟩ | ⟨_, hm⟩
      · omega
      · omega
      · rw [hm.2 _ ho]
        rintro (z | ⟨z, _⟩)
        · exact e' z
        · exact hb z) h
theorem qz_met_em {p o : Nat} (ho : o < 4) : (∃ s, s < 16 ∧ ¬ bt (nI s) o = true ∧ qz_yb c K F S 2 (16 * p + s)) ↔ qz_em c K F o p := by
  constructor
  · rintro ⟨s, hs, hb, h⟩
    have := qz_em_1 h o ho (by rw [qz_m16 hs]; exact hb)
    rw [qz_d16 hs] at this
    exact this
  · exact qz_em_2 ho
/-! following a loan -/
theorem qz_pow_lt {x : Nat} (h : x < 4) : 2 ^ x < 16 := (qz_pow4 x h).2.1
theorem qz_fo_1 {b : Nat} (hb : b < 24) (h1 : qz_re c K F b) (h2 : qz_mk K b) {j : Nat} (h : qz_yf c K F S b j) : ∀ r, r < 4 → bt (nI (j % 16)) r = true → qz_ho c K F S b (j / 16) r :=
  qz_Ri (P := fun j => ∀ r, r < 4 → bt (nI (j % 16)) r = true → qz_ho c K F S b (j / 16) r)
    (fun t ht r hr hh => by
      obtain ⟨q, x, e, hx, hf, rfl⟩ := ht
      rw [qz_m16 (qz_pow_lt hx)] at hh
      rw [qz_d16 (qz_pow_lt hx)]
      have := ((qz_pow4 x hx).2.2 r hr).mp hh
      rw [← this] at hf
      exact qz_ho_mk hb hr h1 h2 hf e)
    (fun i j hi IH e r hr hh => by
      obtain ⟨hlt, q, m, e, h, _, rfl⟩ := e
      have hm := qz_aw_lt h
      rw [qz_m16 hm] at hh
      rw [qz_d16 hm]
      rcases h with ⟨_, h⟩ | ⟨z, _⟩ | ⟨z, _⟩
      · rw [h.2 r hr] at hh
        obtain ⟨r0, hr0, hs, hh⟩ := hh
        exact qz_ho1 (IH r0 hr0 hs) e hh
      · omega
      · omega) h
theorem qz_fo_2 {b : Nat} (hb : b < 24) {p r : Nat} (h : qz_ho c K F S b p r) : ∃ s, s < 16 ∧ bt (nI s) r = true ∧ qz_yf c K F S b (16 * p + s) :=
  qz_Ri (P := fun t : Nat × Nat => ∃ s, s < 16 ∧ bt (nI s) t.2 = true ∧ qz_yf c K F S b (16 * t.1 + s))
    (fun t ht => by
      obtain ⟨hr, hh⟩ := ht
      rcases hh with ⟨_, h1, h2, h3, e⟩ | ⟨z, _⟩
      · exact ⟨2 ^ t.2, qz_pow_lt hr, ((qz_pow4 t.2 hr).2.2 t.2 hr).mpr rfl, qz_R0 ⟨t.1, t.2, e, hr, h3, rfl⟩⟩
      · omega)
    (fun t u ht IH e => by
      obtain ⟨s, hs, hh, h⟩ := IH
      obtain ⟨e, e'⟩ := e
      have hf := qz_ho_f (p := t.1) (r := t.2) ht
      obtain ⟨m, hm⟩ := qz_hb_ex (K := K) (F := F) (S := S) t.1 s
      have hbit : bt (nI m) u.2 = true := (hm.2 _ e'.1).mpr ⟨t.2, hf.2.1, hh, e'⟩
      refine ⟨m, hm.1, hbit, qz_R1 h (qz_ye1 hf.1 hs e (Or.inl ⟨rfl, hm⟩) (Or.inl ?_))⟩
      intro z
      rw [z] at hbit
      exact qz_b00 _ hbit) h
theorem qz_met_fo {b : Nat} (hb : b < 24) (h1 : qz_re c K F b) (h2 : qz_mk K b) {p r : Nat} (hr : r < 4) : (∃ s, s < 16 ∧ bt (nI s) r = true ∧ qz_yf c K F S b (16 * p + s)) ↔ qz_ho c K F S b p r := by
  constructor
  · rintro ⟨s, hs, hh, h⟩
    have := qz_fo_1 hb h1 h2 h r hr (by rw [qz_m16 hs]; exact hh)
    rw [qz_d16 hs] at this
    exact this
  · exact qz_fo_2 hb
/-! useful sets -/
theorem qz_us_1 {j : Nat} (h : qz_yu c K F S j) : ∃ r, r < 4 ∧ bt (nI (j % 16)) r = true ∧ qz_lv c K F S (j / 16) r :=
  qz_Ri (P := fun j => ∃ r, r < 4 ∧ bt (nI (j % 16)) r = true ∧ qz_lv c K F S (j / 16) r)
    (fun t ht => by
      obtain ⟨hlt, hk, x, hx, hf, hh⟩ := ht
      exact ⟨x, hx, hh, qz_lv_0 (by omega) hx hk hf⟩)
    (fun i j hi IH e => by
      obtain ⟨hlt, q, m, e, hm, rfl⟩ := e
      obtain ⟨r', hr', hh, hl⟩ := IH
      rw [qz_m16 hm.1] at hh
      rw [qz_d16 hm.1] at hl
      obtain ⟨r, hr, hs, hq⟩ := (hm.2 r' hr').mp hh
      exact ⟨r, hr, hs, qz_lv_1 (by omega) hr e hq hl⟩) h
theorem qz_us_2 {p r : Nat} (h : qz_lv c K F S p r) : ∀ s, s < 16 → bt (nI s) r = true → qz_yu c K F S (16 * p + s) :=
  qz_Ri (P := fun t : Nat × Nat => ∀ s, s < 16 → bt (nI s) t.2 = true → qz_yu c K F S (16 * t.1 + s))
    (fun t ht s hs hh => by
      obtain ⟨hp, hr, hk, hf⟩ := ht
      refine qz_R0 ⟨by omega, ?_⟩
      rw [qz_d16 hs, qz_m16 hs]
      exact ⟨hk, t.2, hr, hf, hh⟩)
    (fun t u ht IH e s hs hh => by
      obtain ⟨hp, hr, e, e'⟩ := e
      obtain ⟨m, hm⟩ := qz_hb_ex (K := K) (F := F) (S := S) u.1 s
      have hbit : bt (nI m) t.2 = true := (hm.2 _ e'.1).mpr ⟨u.2, hr, hh, e'⟩
      refine qz_R1 (IH m hm.1 hbit) ⟨by omega, t.1, m, ?_, ?_, rfl⟩
      · rw [qz_d16 hs]; exact e
      · rw [qz_d16 hs, qz_m16 hs]; exact hm) h
theorem qz_yu_lv {p s : Nat} (hs : s < 16) : qz_yu c K F S (16 * p + s) ↔ ∃ r, r < 4 ∧ bt (nI s) r = true ∧ qz_lv c K F S p r := by
  constructor
  · intro h
    have := qz_us_1 h
    rw [qz_m16 hs, qz_d16 hs] at this
    exact this
  · rintro ⟨r, _, hh, hl⟩
    exact qz_us_2 hl s hs hh
/-- behind p: the reference's look at the next points -/
theorem qz_yu_next {p s m : Nat} (hp : p < c) (hk : K p ≠ 7) (hm : qz_hb K F S p s m) : (∃ q, qz_nx c K F p q ∧ qz_yu c K F S (16 * q + m)) ↔ ∃ r, r < 4 ∧ bt (nI s) r = true ∧ qz_lv c K F S p r := by
  constructor
  · rintro ⟨q, e, h⟩
    obtain ⟨r', hr', hh, hl⟩ := (qz_yu_lv hm.1).mp h
    obtain ⟨r, hr, hs, hq⟩ := (hm.2 r' hr').mp hh
    exact ⟨r, hr, hs, qz_lv_1 hp hr e hq hl⟩
  · rintro ⟨r, hr, hh, hl⟩
    rcases qz_lv_c hl with ⟨z, _⟩ | ⟨q, r', e, e', hl'⟩
    · exact absurd z hk
    · exact ⟨q, e, (qz_yu_lv hm.1).mpr ⟨r', e'.1, (hm.2 r' e'.1).mpr ⟨r, hr, hh, e'⟩, hl'⟩⟩
end
end
section
/-! ===== the two graphs of shown: 9 * at + stage, and 384 * phase + 16 * at + set ===== -/
section
variable (c : Nat) (K F S : Nat → Int32) (b p : Nat)
def qz_xs (at' st st' : Nat) : Prop :=
  (st = 0 ∧ (st' = 0 ∨ (at' = b ∧ ∃ x, x < 4 ∧ F b = nI x ∧ st' = 1 + x)))
  ∨ (1 ≤ st ∧ st ≤ 4 ∧ ∃ r', qz_hr K F S at' (st - 1) r' ∧ ((at' = p ∧ st' = 5 + r') ∨ (at' ≠ p ∧ st' = 1 + r')))
  ∨ (5 ≤ st ∧ ∃ r', qz_hr K F S at' (st - 5) r' ∧ st' = 5 + r')
def qz_xe (t u : Nat) : Prop := qz_nx c K F (t / 9) (u / 9) ∧ qz_xs K F S b p (t / 9) (t % 9) (u % 9)
def qz_xw : Nat → Nat → Prop := qz_w (fun t => t = 0) (qz_xe c K F S b p)
def qz_xg (t : Nat) : Prop := 5 ≤ t % 9 ∧ K (t / 9) = 7 ∧ F (t / 9) = nI (t % 9 - 5)
/-- a walk of n steps shows it -/
def qz_go (n : Nat) : Prop := ∃ t, qz_xw c K F S b p n t ∧ qz_xg K F t
def qz_fe (i j : Nat) : Prop := ∃ q, qz_nx c K F (i % 384 / 16) q ∧
  ((i < 384 ∧ (j = 16 * q ∨ (i % 384 / 16 = b ∧ ∃ x, x < 4 ∧ F b = nI x ∧ j = 384 + 16 * q + 2 ^ x)))
  ∨ (384 ≤ i ∧ ∃ m, qz_hb K F S (i % 384 / 16) (i % 16) m ∧ m ≠ 0 ∧ (j = 384 * (i / 384) + 16 * q + m ∨ (i / 384 = 1 ∧ i % 384 / 16 = p ∧ j = 768 + 16 * q + m))))
def qz_fw : Nat → Nat → Prop := qz_w (fun j => j = 0) (qz_fe c K F S b p)
def qz_fg (j : Nat) : Prop := 768 ≤ j ∧ qz_uz K F (j % 384 / 16) (j % 16)
end
section
variable {c : Nat} {K F S : Nat → Int32} {b p : Nat}
theorem qz_ix {h q m : Nat} (hq : q < 24) (hm : m < 16) : (384 * h + 16 * q + m) % 384 / 16 = q ∧ (384 * h + 16 * q + m) % 16 = m ∧ (384 * h + 16 * q + m) / 384 = h := by omega
theorem qz_ix9 {q s : Nat} (hs : s < 9) : (9 * q + s) / 9 = q ∧ (9 * q + s) % 9 = s := by omega
theorem qz_xf (hc : c ≤ 24) : ∀ n t, qz_xw c K F S b p n t →
    (t % 9 = 0 → qz_fw c K F S b p n (16 * (t / 9)))
    ∧ (∀ r, r < 4 → t % 9 = 1 + r → ∃ s, s < 16 ∧ bt (nI s) r = true ∧ qz_fw c K F S b p n (384 + 16 * (t / 9) + s))
    ∧ (∀ r, r < 4 → t % 9 = 5 + r → ∃ s, s < 16 ∧ bt (nI s) r = true ∧ qz_fw c K F S b p n (768 + 16 * (t / 9) + s))
    ∧ (n = 0 ∨ t / 9 < c) := by
  intro n
  induction n with
  | zero =>
    intro t ht
    have h0 : t = 0 := ht
    subst h0
    refine ⟨fun _ => rfl, fun r hr z => by omega, fun r hr z => by omega, Or.inl rfl⟩
  | succ n ih =>
    intro t ht
    obtain ⟨s, hs, e, hx⟩ := ht
    obtain ⟨i0, i1, i2, i3⟩ := ih s hs
    have hq : t / 9 < 24 := by have := e.1; omega
    have hat : s / 9 < 24 := by
      rcases i3 with z | z
      · subst z
        have : s = 0 := hs
        omega
      · omega
    have step1 : ∀ (m' h : Nat) (r r' : Nat), m' < 16 → r < 4 → bt (nI m') r = true → qz_hr K F S (s / 9) r r' → ∃ m, m < 16 ∧ bt (nI m) r' = true ∧ m ≠ 0 ∧ qz_hb K F S (s / 9) m' m := by
      intro m' _ r r' hm' hr hbit hrr
      obtain ⟨m, hm⟩ := qz_hb_ex (K := K) (F := F) (S := S) (s / 9) m'
      have hb : bt (nI m) r' = true := (hm.2 r' hrr.1).mpr ⟨r, hr, hbit, hrr⟩
      exact ⟨m, hm.1, hb, fun z => by rw [z] at hb; exact qz_b00 _ hb, hm⟩
    have A0 : (16 * (s / 9)) % 384 / 16 = s / 9 ∧ 16 * (s / 9) < 384 := by omega
    refine ⟨?_, ?_, ?_, Or.inr e.1⟩
    · intro z
      rcases hx with ⟨h0, _⟩ | ⟨_, _, r', hr', h | h⟩ | ⟨_, r', _, h⟩
      · refine ⟨16 * (s / 9), i0 h0, t / 9, ?_, Or.inl ⟨A0.2, Or.inl rfl⟩⟩
        rw [A0.1]; exact e
      · omega
      · omega
      · omega
    · intro r hr z
      rcases hx with ⟨h0, hh⟩ | ⟨h1, h4, r', hr', hh⟩ | ⟨_, r', _, h⟩
      · rcases hh with hh | ⟨hb, x, hx, hf, hh⟩
        · omega
        · have : x = r := by omega
          subst this
          refine ⟨2 ^ x, qz_pow_lt hx, ((qz_pow4 x hx).2.2 x hx).mpr rfl, 16 * (s / 9), i0 h0, t / 9, ?_, Or.inl ⟨A0.2, Or.inr ⟨?_, x, hx, hf, rfl⟩⟩⟩
          · rw [A0.1]; exact e
          · rw [A0.1]; exact hb
      · rcases hh with ⟨_, hh⟩ | ⟨hp, hh⟩
        · omega
        · have : r' = r := by omega
          subst this
          obtain ⟨m', hm', hbit, hw⟩ := i1 (s % 9 - 1) (by omega) (by omega)
          obtain ⟨m, hm, hb, hne, hhb⟩ := step1 m' 0 _ _ hm' (by omega) hbit hr'
          have A := qz_ix (h := 1) (q := s / 9) (m := m') hat hm'
          rw [Nat.mul_one] at A
          refine ⟨m, hm, hb, _, hw, t / 9, ?_, Or.inr ⟨by omega, m, ?_, hne, Or.inl ?_⟩⟩
          · rw [A.1]; exact e
          · rw [A.1, A.2.1]; exact hhb
          · rw [A.2.2]
      · omega
    · intro r hr z
      rcases hx with ⟨h0, hh⟩ | ⟨h1, h4, r', hr', hh⟩ | ⟨h5, r', hr', hh⟩
      · rcases hh with hh | ⟨_, x, hx, _, hh⟩
        · omega
        · omega
      · rcases hh with ⟨hp, hh⟩ | ⟨_, hh⟩
        · have : r' = r := by omega
          subst this
          obtain ⟨m', hm', hbit, hw⟩ := i1 (s % 9 - 1) (by omega) (by omega)
          obtain ⟨m, hm, hb, hne, hhb⟩ := step1 m' 0 _ _ hm' (by omega) hbit hr'
          have A := qz_ix (h := 1) (q := s / 9) (m := m') hat hm'
          rw [Nat.mul_one] at A
          refine ⟨m, hm, hb, _, hw, t / 9, ?_, Or.inr ⟨by omega, m, ?_, hne, Or.inr ⟨A.2.2, ?_, rfl⟩⟩⟩
          · rw [A.1]; exact e
          · rw [A.1, A.2.1]; exact hhb
          · rw [A.1]; exact hp
        · have := hr'.1
          omega
      · have : r' = r := by omega
        subst this
        obtain ⟨m', hm', hbit, hw⟩ := i2 (s % 9 - 5) (by omega) (by omega)
        obtain ⟨m, hm, hb, hne, hhb⟩ := step1 m' 0 _ _ hm' (by omega) hbit hr'
        have A := qz_ix (h := 2) (q := s / 9) (m := m') hat hm'
        have E2 : 384 * 2 = 768 := by omega
        rw [E2] at A
        refine ⟨m, hm, hb, _, hw, t / 9, ?_, Or.inr ⟨by omega, m, ?_, hne, Or.inl ?_⟩⟩
        · rw [A.1]; exact e
        · rw [A.1, A.2.1]; exact hhb
        · rw [A.2.2]
theorem qz_fx (hc : c ≤ 24) : ∀ n j, qz_fw c K F S b p n j →
    j < 1152 ∧ (n = 0 ∨ j % 384 / 16 < c)
    ∧ (j < 384 → j % 16 = 0 ∧ qz_xw c K F S b p n (9 * (j % 384 / 16)))
    ∧ (384 ≤ j → ∀ r, r < 4 → bt (nI (j % 16)) r = true → qz_xw c K F S b p n (9 * (j % 384 / 16) + (5 + r)) ∨ (j < 768 ∧ qz_xw c K F S b p n (9 * (j % 384 / 16) + (1 + r)))) := by
  intro n
  induction n with
  | zero =>
    intro j hj
    have h0 : j = 0 := hj
    subst h0
    exact ⟨by omega, Or.inl rfl, fun _ => ⟨rfl, rfl⟩, fun z => by omega⟩
  | succ n ih =>
    intro j hj
    obtain ⟨i, hi, q, e, hx⟩ := hj
    obtain ⟨i0, i1, i2, i3⟩ := ih i hi
    have hq : q < 24 := by have := e.1; omega
    have mk : ∀ st st', st < 9 → st' < 9 → qz_xw c K F S b p n (9 * (i % 384 / 16) + st) → qz_xs K F S b p (i % 384 / 16) st st' → qz_xw c K F S b p (n + 1) (9 * q + st') := by
      intro st st' h9 h9' hw hs
      have A := qz_ix9 (q := i % 384 / 16) h9
      have B := qz_ix9 (q := q) h9'
      refine ⟨_, hw, ?_, ?_⟩
      · rw [A.1, B.1]; exact e
      · rw [A.1, A.2, B.2]; exact hs
    rcases hx with ⟨h0, hh⟩ | ⟨h1, m, hm, hne, hh⟩
    · obtain ⟨_, hw⟩ := i2 h0
      rcases hh with hh | ⟨hb, x, hx, hf, hh⟩
      · subst hh
        have B : 16 * q % 384 / 16 = q ∧ 16 * q < 384 ∧ 16 * q % 16 = 0 := by omega
        refine ⟨by omega, Or.inr (by rw [B.1]; exact e.1), fun _ => ⟨B.2.2, ?_⟩, fun z => by omega⟩
        rw [B.1]
        exact mk 0 0 (by omega) (by omega) hw (Or.inl ⟨rfl, Or.inl rfl⟩)
      · have hp := qz_pow_lt hx
        have B := qz_ix (h := 1) (q := q) (m := 2 ^ x) hq hp
        rw [Nat.mul_one, ← hh] at B
        refine ⟨by omega, Or.inr (by rw [B.1]; exact e.1), fun z => by omega, fun _ r hr hbit => Or.inr ⟨by omega, ?_⟩⟩
        rw [B.2.1] at hbit
        have hxr : r = x := ((qz_pow4 x hx).2.2 r hr).mp hbit
        subst hxr
        rw [B.1]
        exact mk 0 (1 + r) (by omega) (by omega) hw (Or.inl ⟨rfl, Or.inr ⟨hb, r, hr, hf, rfl⟩⟩)
    · have hm16 := hm.1
      have lift5 : ∀ r, r < 4 → bt (nI m) r = true → (∀ r0, r0 < 4 → bt (nI (i % 16)) r0 = true → qz_xw c K F S b p n (9 * (i % 384 / 16) + (5 + r0))) → qz_xw c K F S b p (n + 1) (9 * q + (5 + r)) := by
        intro r hr hbit hall
        obtain ⟨r0, hr0, hs0, hrr⟩ := (hm.2 r hr).mp hbit
        refine mk (5 + r0) (5 + r) (by omega) (by omega) (hall r0 hr0 hs0) (Or.inr (Or.inr ⟨by omega, r, ?_, rfl⟩))
        have : 5 + r0 - 5 = r0 := by omega
        rw [this]; exact hrr
      have lift1 : ∀ r, r < 4 → bt (nI m) r = true → qz_xw c K F S b p (n + 1) (9 * q + (5 + r)) ∨ (i < 768 ∧ i % 384 / 16 ≠ p ∧ qz_xw c K F S b p (n + 1) (9 * q + (1 + r))) := by
        intro r hr hbit
        obtain ⟨r0, hr0, hs0, hrr⟩ := (hm.2 r hr).mp hbit
        rcases i3 h1 r0 hr0 hs0 with hw | ⟨h7, hw⟩
        · left
          refine mk (5 + r0) (5 + r) (by omega) (by omega) hw (Or.inr (Or.inr ⟨by omega, r, ?_, rfl⟩))
          have : 5 + r0 - 5 = r0 := by omega
          rw [this]; exact hrr
        · have e1 : 1 + r0 - 1 = r0 := by omega
          by_cases hp : i % 384 / 16 = p
          · left
            refine mk (1 + r0) (5 + r) (by omega) (by omega) hw (Or.inr (Or.inl ⟨by omega, by omega, r, ?_, Or.inl ⟨hp, rfl⟩⟩))
            rw [e1]; exact hrr
          · right
            refine ⟨h7, hp, mk (1 + r0) (1 + r) (by omega) (by omega) hw (Or.inr (Or.inl ⟨by omega, by omega, r, ?_, Or.inr ⟨hp, rfl⟩⟩))⟩
            rw [e1]; exact hrr
      rcases hh with hh | ⟨hph, hp, hh⟩
      · have B := qz_ix (h := i / 384) (q := q) (m := m) hq hm16
        rw [← hh] at B
        refine ⟨by omega, Or.inr (by rw [B.1]; exact e.1), fun z => by omega, fun _ r hr hbit => ?_⟩
        rw [B.2.1] at hbit
        rw [B.1]
        rcases lift1 r hr hbit with h | ⟨h7, _, h⟩
        · exact Or.inl h
        · exact Or.inr ⟨by omega, h⟩
      · have B := qz_ix (h := 2) (q := q) (m := m) hq hm16
        have E2 : 384 * 2 = 768 := by omega
        rw [E2, ← hh] at B
        refine ⟨by omega, Or.inr (by rw [B.1]; exact e.1), fun z => by omega, fun _ r hr hbit => Or.inl ?_⟩
        rw [B.2.1] at hbit
        rw [B.1]
        rcases lift1 r hr hbit with h | ⟨_, h, _⟩
        · exact h
        · exact absurd hp h
/-- the same lengths -/
theorem qz_go_f (hc : c ≤ 24) (n : Nat) : qz_go c K F S b p n ↔ ∃ j, j < 1152 ∧ j % 384 / 16 < c ∧ qz_fw c K F S b p n j ∧ qz_fg K F j := by
  constructor
  · rintro ⟨t, hw, h5, hk, hf⟩
    obtain ⟨_, _, h2, h3⟩ := qz_xf hc n t hw
    obtain ⟨s, hs, hbit, hw'⟩ := h2 (t % 9 - 5) (by omega) (by omega)
    have ht : t / 9 < c := by
      rcases h3 with z | z
      · subst z
        have : t = 0 := hw
        omega
      · exact z
    have A := qz_ix (h := 2) (q := t / 9) (m := s) (by omega) hs
    have E2 : 384 * 2 = 768 := by omega
    rw [E2] at A
    refine ⟨768 + 16 * (t / 9) + s, by omega, by rw [A.1]; exact ht, hw', by omega, ?_⟩
    rw [A.1, A.2.1]
    exact ⟨hk, t % 9 - 5, by omega, hf, hbit⟩
  · rintro ⟨j, hj, hjc, hw, h7, hk, x, hx, hf, hbit⟩
    obtain ⟨_, _, _, h3⟩ := qz_fx hc n j hw
    rcases h3 (by omega) x hx hbit with h | ⟨z, _⟩
    · have A := qz_ix9 (q := j % 384 / 16) (s := 5 + x) (by omega)
      refine ⟨_, h, ?_, ?_, ?_⟩
      · rw [A.2]; omega
      · rw [A.1]; exact hk
      · rw [A.1, A.2, hf]
        have : 5 + x - 5 = x := by omega
        rw [this]
    · omega
/-- there is a walk just where the conflict is -/
theorem qz_go_re (hcp : 0 < c) : ∀ n q, qz_w (fun p => p = 0 ∧ 0 < c) (qz_nx c K F) n q → qz_xw c K F S b p n (9 * q + 0) := by
  intro n
  induction n with
  | zero => intro q hq; show 9 * q + 0 = 0; have := hq.1; omega
  | succ n ih =>
    intro q hq
    obtain ⟨s, hs, e⟩ := hq
    have A := qz_ix9 (q := s) (s := 0) (by omega)
    have B := qz_ix9 (q := q) (s := 0) (by omega)
    refine ⟨9 * s + 0, ih s hs, ?_, ?_⟩
    · rw [A.1, B.1]; exact e
    · rw [A.2, B.2]; exact Or.inl ⟨rfl, Or.inl rfl⟩
theorem qz_go_lv {q r : Nat} (h : qz_lv c K F S q r) : ∀ n, qz_xw c K F S b p n (9 * q + (5 + r)) → ∃ n', qz_go c K F S b p n' :=
  qz_Ri (P := fun t : Nat × Nat => ∀ n, qz_xw c K F S b p n (9 * t.1 + (5 + t.2)) → ∃ n', qz_go c K F S b p n')
    (fun t ht n hw => by
      obtain ⟨_, hr, hk, hf⟩ := ht
      have A := qz_ix9 (q := t.1) (s := 5 + t.2) (by omega)
      refine ⟨n, _, hw, by rw [A.2]; omega, by rw [A.1]; exact hk, ?_⟩
      rw [A.1, A.2, hf]
      have : 5 + t.2 - 5 = t.2 := by omega
      rw [this])
    (fun t u _ IH e n hw => by
      obtain ⟨_, hr, e, e'⟩ := e
      have hr' := e'.1
      have A := qz_ix9 (q := u.1) (s := 5 + u.2) (by omega)
      have B := qz_ix9 (q := t.1) (s := 5 + t.2) (by omega)
      refine IH (n + 1) ⟨_, hw, ?_, ?_⟩
      · rw [A.1, B.1]; exact e
      · rw [A.1, A.2, B.2]
        refine Or.inr (Or.inr ⟨by omega, t.2, ?_, rfl⟩)
        have : 5 + u.2 - 5 = u.2 := by omega
        rw [this]; exact e') h
theorem qz_go_ho (hb : b < 24) {q r : Nat} (h : qz_ho c K F S b q r) : ∃ n, qz_xw c K F S b p n (9 * q + (1 + r)) ∨ qz_xw c K F S b p n (9 * q + (5 + r)) :=
  qz_Ri (P := fun t : Nat × Nat => ∃ n, qz_xw c K F S b p n (9 * t.1 + (1 + t.2)) ∨ qz_xw c K F S b p n (9 * t.1 + (5 + t.2)))
    (fun t ht => by
      obtain ⟨hr, hh⟩ := ht
      rcases hh with ⟨_, h1, h2, h3, e⟩ | ⟨z, _⟩
      · have hlt := qz_re_lt h1
        obtain ⟨n, hn⟩ := h1
        have A := qz_ix9 (q := b) (s := 0) (by omega)
        have B := qz_ix9 (q := t.1) (s := 1 + t.2) (by omega)
        refine ⟨n + 1, Or.inl ⟨9 * b + 0, qz_go_re (by omega) n b hn, ?_, ?_⟩⟩
        · rw [A.1, B.1]; exact e
        · rw [A.1, A.2, B.2]
          exact Or.inl ⟨rfl, Or.inr ⟨rfl, t.2, hr, h3, rfl⟩⟩
      · omega)
    (fun t u ht IH e => by
      obtain ⟨e, e'⟩ := e
      have hf := qz_ho_f (p := t.1) (r := t.2) ht
      have hr' := e'.1
      have hr := hf.2.1
      obtain ⟨n, hw | hw⟩ := IH
      · have A := qz_ix9 (q := t.1) (s := 1 + t.2) (by omega)
        have e1 : 1 + t.2 - 1 = t.2 := by omega
        by_cases hp : t.1 = p
        · have B := qz_ix9 (q := u.1) (s := 5 + u.2) (by omega)
          refine ⟨n + 1, Or.inr ⟨_, hw, ?_, ?_⟩⟩
          · rw [A.1, B.1]; exact e
          · rw [A.1, A.2, B.2]
            refine Or.inr (Or.inl ⟨by omega, by omega, u.2, ?_, Or.inl ⟨hp, rfl⟩⟩)
            rw [e1]; exact e'
        · have B := qz_ix9 (q := u.1) (s := 1 + u.2) (by omega)
          refine ⟨n + 1, Or.inl ⟨_, hw, ?_, ?_⟩⟩
          · rw [A.1, B.1]; exact e
          · rw [A.1, A.2, B.2]
            refine Or.inr (Or.inl ⟨by omega, by omega, u.2, ?_, Or.inr ⟨hp, rfl⟩⟩)
            rw [e1]; exact e'
      · have A := qz_ix9 (q := t.1) (s := 5 + t.2) (by omega)
        have B := qz_ix9 (q := u.1) (s := 5 + u.2) (by omega)
        refine ⟨n + 1, Or.inr ⟨_, hw, ?_, ?_⟩⟩
        · rw [A.1, B.1]; exact e
        · rw [A.1, A.2, B.2]
          refine Or.inr (Or.inr ⟨by omega, u.2, ?_, rfl⟩)
          have : 5 + t.2 - 5 = t.2 := by omega
          rw [this]; exact e') h
theorem qz_go_2 (hb : b < 24) (hcp : 0 < c) (hm : qz_mk K b) : ∀ n t, qz_xw c K F S b p n t →
    (t % 9 = 0 → qz_re c K F (t / 9)) ∧ (∀ r, r < 4 → t % 9 = 1 + r → qz_ho c K F S b (t / 9) r)
    ∧ (∀ r, r < 4 → t % 9 = 5 + r → qz_lv c K F S (t / 9) r → ∃ r0, r0 < 4 ∧ qz_ho c K F S b p r0 ∧ qz_lv c K F S p r0) ∧ t / 9 < c := by
  intro n
  induction n with
  | zero =>
    intro t ht
    have h0 : t = 0 := ht
    subst h0
    exact ⟨fun _ => qz_re0 hcp, fun r hr z => by omega, fun r hr z => by omega, hcp⟩
  | succ n ih =>
    intro t ht
    obtain ⟨s, hs, e, hx⟩ := ht
    obtain ⟨i0, i1, i2, i3⟩ := ih s hs
    refine ⟨?_, ?_, ?_, e.1⟩
    · intro z
      rcases hx with ⟨h0, _⟩ | ⟨_, _, r', hr', h | h⟩ | ⟨_, r', _, h⟩
      · exact qz_re1 (i0 h0) e
      · omega
      · omega
      · omega
    · intro r hr z
      rcases hx with ⟨h0, hh⟩ | ⟨h1, h4, r', hr', hh⟩ | ⟨_, r', _, h⟩
      · rcases hh with hh | ⟨hbb, x, hx, hf, hh⟩
        · omega
        · have : x = r := by omega
          subst this
          have hre := i0 h0
          rw [hbb] at hre e
          exact qz_ho_mk hb hr hre hm hf e
      · rcases hh with ⟨_, hh⟩ | ⟨hp, hh⟩
        · omega
        · have : r' = r := by omega
          subst this
          exact qz_ho1 (i1 (s % 9 - 1) (by omega) (by omega)) e hr'
      · omega
    · intro r hr z hl
      rcases hx with ⟨h0, hh⟩ | ⟨h1, h4, r', hr', hh⟩ | ⟨h5, r', hr', hh⟩
      · rcases hh with hh | ⟨_, x, hx, _, hh⟩
        · omega
        · omega
      · rcases hh with ⟨hp, hh⟩ | ⟨_, hh⟩
        · have : r' = r := by omega
          subst this
          have hho := i1 (s % 9 - 1) (by omega) (by omega)
          have hlv := qz_lv_1 i3 (by omega) e hr' hl
          rw [hp] at hho hlv
          exact ⟨s % 9 - 1, by omega, hho, hlv⟩
        · have := hr'.1
          omega
      · have : r' = r := by omega
        subst this
        exact i2 (s % 9 - 5) (by omega) (by omega) (qz_lv_1 i3 (by omega) e hr' hl)
theorem qz_go_iff (hb : b < 24) (hcp : 0 < c) (hm : qz_mk K b) (hk : K p ≠ 7) : (∃ n, qz_go c K F S b p n) ↔ ∃ r, r < 4 ∧ qz_ho c K F S b p r ∧ qz_lv c K F S p r := by
  constructor
  · rintro ⟨n, t, hw, h5, hk7, hf⟩
    obtain ⟨_, _, h2, h3⟩ := qz_go_2 hb hcp hm n t hw
    exact h2 (t % 9 - 5) (by omega) (by omega) (qz_lv_0 h3 (by omega) hk7 hf)
  · rintro ⟨r, hr, hh, hl⟩
    obtain ⟨n, hw | hw⟩ := qz_go_ho (p := p) hb hh
    · rcases qz_lv_c hl with ⟨z, _⟩ | ⟨q, r', e, e', hl'⟩
      · exact absurd z hk
      · have hr' := e'.1
        have A := qz_ix9 (q := p) (s := 1 + r) (by omega)
        have B := qz_ix9 (q := q) (s := 5 + r') (by omega)
        refine qz_go_lv hl' (n + 1) ⟨_, hw, ?_, ?_⟩
        · rw [A.1, B.1]; exact e
        · rw [A.1, A.2, B.2]
          refine Or.inr (Or.inl ⟨by omega, by omega, r', ?_, Or.inl ⟨rfl, rfl⟩⟩)
          have : 1 + r - 1 = r := by omega
          rw [this]; exact e'
    · exact qz_go_lv hl n hw
end
end
section
/-! ===== X: the forward sets, their measure, their end ===== -/
section
variable (c : Nat) (K F S : Nat → Int32)
def qz_la (lo : Nat → Int32) (p r' l : Nat) : Prop := (qz_mk K p ∧ F p = nI r' ∧ l = p) ∨ (qz_nu K F S p r' ∧ l = 24) ∨ ∃ r, r < 4 ∧ qz_hr K F S p r r' ∧ bt (lo (p * 4 + r)) l = true
def qz_ea (em : Nat → Int32) (p o : Nat) : Prop := (K p = 2 ∧ F p = nI o) ∨ (bt (em p) o = true ∧ ¬ (K p = 0 ∧ F p = nI o))
def qz_FI (sn em lo : Nat → Int32) : Prop := (∀ p, p < 24 → ¬ sn p = 0 → qz_re c K F p) ∧ (∀ p o, p < 24 → o < 4 → bt (em p) o = true → qz_em c K F o p) ∧ (∀ p r l, p < 24 → r < 4 → bt (lo (p * 4 + r)) l = true → qz_ho c K F S l p r) ∧ (¬ sn 0 = 0) ∧ (∀ o, o < 4 → bt (em 0) o = true) ∧ (∀ r, r < 4 → bt (lo r) 24 = true) ∧ (∀ p, sn p = 0 ∨ sn p = 1)
def qz_cl (sn em lo : Nat → Int32) (p q : Nat) : Prop := ¬ sn q = 0 ∧ (∀ o, o < 4 → qz_ea K F em p o → bt (em q) o = true) ∧ (∀ r', r' < 4 → ∀ l, qz_la K F S lo p r' l → bt (lo (q * 4 + r')) l = true)
def qz_FC (sn em lo : Nat → Int32) : Prop := ∀ p, p < c → ¬ sn p = 0 → ∀ q, qz_nx c K F p q → qz_cl K F S sn em lo p q
def qz_FS (sn em lo : Nat → Int32) : Prop := (∀ p, p < 24 → (¬ sn p = 0 ↔ qz_re c K F p)) ∧ (∀ p o, p < 24 → o < 4 → (bt (em p) o = true ↔ qz_em c K F o p)) ∧ (∀ p r l, p < 24 → r < 4 → (bt (lo (p * 4 + r)) l = true ↔ qz_ho c K F S l p r)) ∧ (∀ p, sn p = 0 ∨ sn p = 1)
def qz_lb (lv : Nat → Int32) (p r : Nat) : Prop := (K p = 7 ∧ F p = nI r) ∨ ∃ q r', qz_nx c K F p q ∧ qz_hr K F S p r r' ∧ bt (lv q) r' = true
def qz_LI (lv : Nat → Int32) : Prop := (∀ p i, p < 24 → bt (lv p) i = true → i < 4 ∧ qz_lv c K F S p i) ∧ (∀ p i, p < 24 → bt (lv p) i = true → qz_lb c K F S lv p i)
def qz_LC (lv : Nat → Int32) : Prop := ∀ p, p < c → ∀ r, r < 4 → qz_lb c K F S lv p r → bt (lv p) r = true
def qz_LS (lv : Nat → Int32) : Prop := ∀ p r, p < 24 → r < 4 → (bt (lv p) r = true ↔ qz_lv c K F S p r)
end
def qz_mu (sn em lo : Nat → Int32) : Nat := qz_sm (fun p => if sn p = 0 then 0 else 1) 24 + qz_sm (fun p => qz_pc (em p)) 24 + qz_sm (fun i => qz_pc (lo i)) 96
theorem qz_mu_b (sn em lo : Nat → Int32) : qz_mu sn em lo ≤ 3864 := by
  have a := qz_sm_b (f := fun p => if sn p = 0 then 0 else 1) (B := 1) 24 (by
    intro i _
    show (if sn i = 0 then 0 else 1) ≤ 1
    split <;> omega)
  have b := qz_sm_b (f := fun p => qz_pc (em p)) (B := 32) 24 (fun i _ => qz_pc_le32 _)
  have d := qz_sm_b (f := fun p => qz_pc (lo p)) (B := 32) 96 (fun i _ => qz_pc_le32 _)
  unfold qz_mu
  omega
theorem qz_mu_sn {sn em lo : Nat → Int32} {q : Nat} (hq : q < 24) (h : sn q = 0) : qz_mu sn em lo < qz_mu (upd sn q 1) em lo := by
  have a := qz_sm_up (f := fun x : Int32 => if x = 0 then 0 else 1) (a := sn) (b := upd sn q 1) hq (fun i hi => qz_un hi) (by
    show (if sn q = 0 then 0 else 1) < (if upd sn q 1 q = 0 then 0 else 1)
    rw [qz_us, if_pos h]
    decide)
  unfold qz_mu
  omega
theorem qz_or_l (x y : Int32) : ∀ i, i < 32 → bt x i = true → bt (x ||| y) i = true := by
  intro i _ h
  rw [b_or, h]
  rfl
theorem qz_mu_em {sn em lo : Nat → Int32} {q : Nat} {x : Int32} (hq : q < 24) (h : ¬ em q ||| x = em q) : qz_mu sn em lo < qz_mu sn (upd em q (em q ||| x)) lo := by
  have a := qz_sm_up (f := qz_pc) (a := em) (b := upd em q (em q ||| x)) hq (fun i hi => qz_un hi) (by
    rw [qz_us]
    exact qz_pc_lt (qz_or_l _ _) (fun z => h z.symm))
  unfold qz_mu
  omega
theorem qz_mu_lo {sn em lo : Nat → Int32} {i : Nat} {x : Int32} (hi : i < 96) (h : ¬ lo i ||| x = lo i) : qz_mu sn em lo < qz_mu sn em (upd lo i (lo i ||| x)) := by
  have a := qz_sm_up (f := qz_pc) (a := lo) (b := upd lo i (lo i ||| x)) hi (fun i hi => qz_un hi) (by
    rw [qz_us]
    exact qz_pc_lt (qz_or_l _ _) (fun z => h z.symm))
  unfold qz_mu
  omega
theorem qz_or_e {x y : Int32} (h : x ||| y = x) {i : Nat} (hy : bt y i = true) : bt x i = true := by
  rw [← h, b_or, hy]
  simp
section
variable {c : Nat} {K F S : Nat → Int32} {sn em lo lv : Nat → Int32}
theorem qz_FI_sn {q : Nat} (I : qz_FI c K F S sn em lo) (hq : q < 24) (h : qz_re c K F q) : qz_FI c K F S (upd sn q 1) em lo := by
  obtain ⟨i1, i2, i3, i4, i5, i6, i7⟩ := I
  refine ⟨?_, i2, i3, ?_, i5, i6, ?_⟩
  · intro p hp hs
    by_cases e : p = q
    · rw [e]; exact h
    · rw [qz_un e] at hs
      exact i1 p hp hs
  · by_cases e : 0 = q
    · rw [← e, qz_us]; decide
    · rw [qz_un e]; exact i4
  · intro p
    by_cases e : p = q
    · rw [e, qz_us]; exact Or.inr rfl
    · rw [qz_un e]; exact i7 p
theorem qz_FI_em {q : Nat} {x : Int32} (I : qz_FI c K F S sn em lo) (h : ∀ o, o < 4 → bt x o = true → qz_em c K F o q) : qz_FI c K F S sn (upd em q (em q ||| x)) lo := by
  obtain ⟨i1, i2, i3, i4, i5, i6, i7⟩ := I
  refine ⟨i1, ?_, i3, i4, ?_, i6, i7⟩
  · intro p o hp ho hb
    by_cases e : p = q
    · subst e
      rw [qz_us, b_or, Bool.or_eq_true] at hb
      rcases hb with hb | hb
      · exact i2 p o hp ho hb
      · exact h o ho hb
    · rw [qz_un e] at hb
      exact i2 p o hp ho hb
  · intro o ho
    by_cases e : 0 = q
    · subst e
      rw [qz_us, b_or, i5 o ho]
      rfl
    · rw [qz_un e]; exact i5 o ho
theorem qz_FI_lo {q r' : Nat} {x : Int32} (hr' : r' < 4) (I : qz_FI c K F S sn em lo) (h : ∀ l, bt x l = true → qz_ho c K F S l q r') : qz_FI c K F S sn em (upd lo (q * 4 + r') (lo (q * 4 + r') ||| x)) := by
  obtain ⟨i1, i2, i3, i4, i5, i6, i7⟩ := I
  refine ⟨i1, i2, ?_, i4, i5, ?_, i7⟩
  · intro p r l hp hr hb
    by_cases e : p * 4 + r = q * 4 + r'
    · have e1 : p = q := by omega
      have e2 : r = r' := by omega
      subst e1
      subst e2
      rw [qz_us, b_or, Bool.or_eq_true] at hb
      rcases hb with hb | hb
      · exact i3 p r l hp hr hb
      · exact h l hb
    · rw [qz_un e] at hb
      exact i3 p r l hp hr hb
  · intro r hr
    by_cases e : r = q * 4 + r'
    · rw [e, qz_us, b_or, ← e, i6 r hr]
      rfl
    · rw [qz_un e]; exact i6 r hr
theorem qz_la_ho {p q r' l : Nat} (hc : c ≤ 24) (I : qz_FI c K F S sn em lo) (hr' : r' < 4) (hp : qz_re c K F p) (e : qz_nx c K F p q) (h : qz_la K F S lo p r' l) : qz_ho c K F S l q r' := by
  have hlt := qz_re_lt hp
  rcases h with ⟨h1, h2, h3⟩ | ⟨h1, h2⟩ | ⟨r, hr, h1, h2⟩
  · rw [h3]; exact qz_ho_mk (by omega) hr' hp h1 h2 e
  · rw [h2]; exact qz_ho_nu hr' hp e h1
  · exact qz_ho1 (I.2.2.1 p r l (by omega) hr h2) e h1
theorem qz_ea_em {p q o : Nat} (hc : c ≤ 24) (I : qz_FI c K F S sn em lo) (ho : o < 4) (hp : qz_re c K F p) (e : qz_nx c K F p q) (h : qz_ea K F em p o) : qz_em c K F o q := by
  have hlt := qz_re_lt hp
  rcases h with ⟨h1, h2⟩ | ⟨h1, h2⟩
  · exact qz_R0 (Or.inr ⟨p, hp, h1, h2, e⟩)
  · exact qz_R1 (I.2.1 p o (by omega) ho h1) ⟨e, h2⟩
theorem qz_FS_of (hc : c ≤ 24) (I : qz_FI c K F S sn em lo) (C : qz_FC c K F S sn em lo) : qz_FS c K F S sn em lo := by
  obtain ⟨i1, i2, i3, i4, i5, i6, i7⟩ := I
  have A : ∀ p, qz_re c K F p → ¬ sn p = 0 := fun p h =>
    qz_Ri (P := fun p => ¬ sn p = 0) (fun t ht => by rw [ht.1]; exact i4) (fun s t hs IH e => (C s (qz_re_lt hs) IH t e).1) h
  refine ⟨fun p hp => ⟨i1 p hp, A p⟩, fun p o hp ho => ⟨i2 p o hp ho, fun h => ?_⟩, fun p r l hp hr => ⟨i3 p r l hp hr, fun h => ?_⟩, i7⟩
  · exact qz_Ri (P := fun p => bt (em p) o = true)
      (fun t ht => by
        rcases ht with ⟨h0, _⟩ | ⟨p, h1, h2, h3, e⟩
        · rw [h0]; exact i5 o ho
        · exact (C p (qz_re_lt h1) (A p h1) t e).2.1 o ho (Or.inl ⟨h2, h3⟩))
      (fun s t hs IH e => by
        have hre := qz_em_re hs
        exact (C s (qz_re_lt hre) (A s hre) t e.1).2.1 o ho (Or.inr ⟨IH, e.2⟩)) h
  · exact qz_Ri (P := fun t : Nat × Nat => bt (lo (t.1 * 4 + t.2)) l = true)
      (fun t ht => by
        obtain ⟨hr, hh⟩ := ht
        rcases hh with ⟨_, h1, h2, h3, e⟩ | ⟨hl, ⟨h0, _⟩ | ⟨p, h1, e, h2⟩⟩
        · exact (C l (qz_re_lt h1) (A l h1) t.1 e).2.2 t.2 hr l (Or.inl ⟨h2, h3, rfl⟩)
        · rw [h0, Nat.zero_mul, Nat.zero_add, hl]; exact i6 t.2 hr
        · exact (C p (qz_re_lt h1) (A p h1) t.1 e).2.2 t.2 hr l (Or.inr (Or.inl ⟨h2, hl⟩)))
      (fun s t hs IH e => by
        have hf := qz_ho_f (p := s.1) (r := s.2) hs
        exact (C s.1 hf.1 (A s.1 hf.2.2.1) t.1 e.1).2.2 t.2 e.2.1 l (Or.inr (Or.inr ⟨s.2, hf.2.1, e.2, IH⟩))) h
theorem qz_FS_0 : qz_FS 0 K F S (fun _ => 0) (fun _ => 0) (fun _ => 0) := by
  have nb : ∀ i, ¬ bt 0 i = true := by intro i; rw [b_0]; simp
  refine ⟨fun p _ => ⟨fun z => absurd rfl z, fun z => ?_⟩, fun p o _ _ => ⟨fun z => absurd z (nb o), fun z => ?_⟩, fun p r l _ _ => ⟨fun z => absurd z (nb l), fun z => ?_⟩, fun _ => Or.inl rfl⟩
  · have := qz_re_lt z; omega
  · have := qz_re_lt (qz_em_re z); omega
  · have := (qz_ho_f z).1; omega
/-! live -/
theorem qz_LS_of (hc : c ≤ 24) (I : qz_LI c K F S lv) (C : qz_LC c K F S lv) : qz_LS c K F S lv := by
  intro p r hp hr
  refine ⟨fun h => (I.1 p r hp h).2, fun h => ?_⟩
  exact qz_Ri (P := fun t : Nat × Nat => bt (lv t.1) t.2 = true)
    (fun t ht => C t.1 ht.1 t.2 ht.2.1 (Or.inl ⟨ht.2.2.1, ht.2.2.2⟩))
    (fun s t hs IH e => C t.1 e.1 t.2 e.2.1 (Or.inr ⟨s.1, s.2, e.2.2.1, e.2.2.2, IH⟩)) h
theorem qz_LI_0 : qz_LI c K F S (fun _ => 0) := by
  have nb : ∀ i, ¬ bt 0 i = true := by intro i; rw [b_0]; simp
  exact ⟨fun p i _ z => absurd z (nb i), fun p i _ z => absurd z (nb i)⟩
theorem qz_LS_0 : qz_LS 0 K F S (fun _ => 0) := by
  have nb : ∀ i, ¬ bt 0 i = true := by intro i; rw [b_0]; simp
  intro p r _ _
  refine ⟨fun z => absurd z (nb r), fun z => ?_⟩
  have := (qz_lv_f z).1; omega
theorem qz_lb_mono {lv' : Nat → Int32} (hc : c ≤ 24) (h : ∀ q i, q < 24 → bt (lv q) i = true → bt (lv' q) i = true) {p r : Nat} (hl : qz_lb c K F S lv p r) : qz_lb c K F S lv' p r := by
  rcases hl with hl | ⟨q, r', e, e', hb⟩
  · exact Or.inl hl
  · exact Or.inr ⟨q, r', e, e', h q r' (by have := e.1; omega) hb⟩
theorem qz_lb_lv (hc : c ≤ 24) (I : qz_LI c K F S lv) {p r : Nat} (hp : p < c) (hr : r < 4) (h : qz_lb c K F S lv p r) : qz_lv c K F S p r := by
  rcases h with ⟨h1, h2⟩ | ⟨q, r', e, e', hb⟩
  · exact qz_lv_0 hp hr h1 h2
  · exact qz_lv_1 hp hr e e' (I.1 q r' (by have := e.1; omega) hb).2
theorem qz_LI_up {p : Nat} {x : Int32} (hc : c ≤ 24) (hp : p < c) (I : qz_LI c K F S lv) (hx : ∀ i, bt x i = true ↔ (i < 4 ∧ qz_lb c K F S lv p i)) : qz_LI c K F S (upd lv p x) ∧ (¬ x = lv p → qz_pc (lv p) < qz_pc x) := by
  have sub : ∀ i, bt (lv p) i = true → bt x i = true := fun i h => (hx i).mpr ⟨(I.1 p i (by omega) h).1, I.2 p i (by omega) h⟩
  have mono : ∀ q i, q < 24 → bt (lv q) i = true → bt (upd lv p x q) i = true := by
    intro q i _ h
    by_cases e : q = p
    · rw [e, qz_us]; rw [e] at h; exact sub i h
    · rw [qz_un e]; exact h
  refine ⟨⟨?_, ?_⟩, fun hne => qz_pc_lt (fun i _ => sub i) (fun z => hne z.symm)⟩
  · intro q i hq h
    by_cases e : q = p
    · rw [e, qz_us] at h
      obtain ⟨h4, hl⟩ := (hx i).mp h
      rw [e]
      exact ⟨h4, qz_lb_lv hc I hp h4 hl⟩
    · rw [qz_un e] at h
      exact I.1 q i hq h
  · intro q i hq h
    by_cases e : q = p
    · rw [e, qz_us] at h
      rw [e]
      exact qz_lb_mono hc mono ((hx i).mp h).2
    · rw [qz_un e] at h
      exact qz_lb_mono hc mono (I.2 q i hq h)
end
end
section
/-! ===== X: the breadth-first search, by a ghost queue q and ghost lengths g ===== -/
def qz_uN (f : Nat → Nat) (k x : Nat) : Nat → Nat := fun j => if j = k then x else f j
theorem qz_uNs {f : Nat → Nat} {k x : Nat} : qz_uN f k x k = x := if_pos rfl
theorem qz_uNn {f : Nat → Nat} {k j x : Nat} (h : j ≠ k) : qz_uN f k x j = f j := if_neg h
section
variable (c : Nat) (K F S : Nat → Int32) (b p : Nat)
/-- what holds at every moment of the search while place i is looked at; d bounds the lengths -/
def qz_BM (i d m : Nat) (q g : Nat → Nat) : Prop :=
  m ≤ 216
  ∧ (∀ j, j < m → q j < 216 ∧ q j / 9 < c ∧ 0 < g (q j) ∧ g (q j) ≤ j + 1 ∧ g (q j) ≤ d ∧ qz_xw c K F S b p (g (q j) - 1) (q j))
  ∧ (∀ t, t < 216 → 0 < g t → ∃ j, j < m ∧ q j = t)
  ∧ qz_sm (fun t => if g t = 0 then 0 else 1) 216 = m
  ∧ (∀ j j', j ≤ j' → j' < m → g (q j) ≤ g (q j'))
  ∧ (∀ j, j < i → ∀ t, qz_xe c K F S b p (q j) t → 0 < g t ∧ g t ≤ g (q j) + 1)
  ∧ (∀ j, j < i → ¬ qz_xg K F (q j))
  ∧ (0 < m ∧ q 0 = 0 ∧ g 0 = 1)
  ∧ i ≤ m
/-- the head of the search's loop -/
def qz_BI (i m : Nat) (q g : Nat → Nat) : Prop := ∃ d, qz_BM c K F S b p i d m q g ∧ (i < m → d ≤ g (q i) + 1)
end
def qz_Ex (m : Nat) (q g : Nat → Nat) (m' : Nat) (q' g' : Nat → Nat) : Prop := m ≤ m' ∧ (∀ j, j < m → q' j = q j) ∧ (∀ t, 0 < g t → g' t = g t)
theorem qz_Ex_r (m : Nat) (q g : Nat → Nat) : qz_Ex m q g m q g := ⟨Nat.le_refl _, fun _ _ => rfl, fun _ _ => rfl⟩
theorem qz_Ex_t {m m' m'' : Nat} {q g q' g' q'' g'' : Nat → Nat} (h : qz_Ex m q g m' q' g') (h' : qz_Ex m' q' g' m'' q'' g'') : qz_Ex m q g m'' q'' g'' :=
  ⟨Nat.le_trans h.1 h'.1, fun j hj => (h'.2.1 j (Nat.lt_of_lt_of_le hj h.1)).trans (h.2.1 j hj), fun t ht => (h'.2.2 t (by rw [h.2.2 t ht]; exact ht)).trans (h.2.2 t ht)⟩
section
variable {c : Nat} {K F S : Nat → Int32} {b p : Nat} {i d m : Nat} {q g : Nat → Nat}
theorem qz_B_room (B : qz_BM c K F S b p i d m q g) {t : Nat} (ht : t < 216) (h0 : g t = 0) : m < 216 := by
  obtain ⟨_, _, _, h4, _⟩ := B
  have := qz_sm_lt (f := fun t => if g t = 0 then 0 else 1) (g := fun _ => 1) 216 (by
    intro i _
    show (if g i = 0 then 0 else 1) ≤ 1
    split <;> omega) t ht (by
    show (if g t = 0 then 0 else 1) < 1
    rw [if_pos h0]
    exact Nat.zero_lt_one)
  have one : qz_sm (fun _ => 1) 216 ≤ 1 * 216 := qz_sm_b 216 (fun _ _ => Nat.le_refl _)
  omega
theorem qz_B_enter (B : qz_BM c K F S b p i d m q g) (hi : i < m) (hd : d = g (q i) + 1) {t : Nat} (ht : t < 216) (htc : t / 9 < c) (hw : qz_xw c K F S b p (d - 1) t) (h0 : g t = 0) :
    qz_BM c K F S b p i d (m + 1) (qz_uN q m t) (qz_uN g t d) ∧ qz_Ex m q g (m + 1) (qz_uN q m t) (qz_uN g t d) := by
  have room := qz_B_room B ht h0
  obtain ⟨b1, b2, b3, b4, b5, b6, b7, b8, b9⟩ := B
  have nt : ∀ u, 0 < g u → u ≠ t := fun u hu e => by rw [e] at hu; omega
  have gk : ∀ u, 0 < g u → qz_uN g t d u = g u := fun u hu => qz_uNn (nt u hu)
  have qk : ∀ j, j < m → qz_uN q m t j = q j := fun j hj => qz_uNn (by omega)
  have qm : qz_uN q m t m = t := qz_uNs
  have gt : qz_uN g t d t = d := qz_uNs
  have gqk : ∀ j, j < m → qz_uN g t d (qz_uN q m t j) = g (q j) := fun j hj => by rw [qk j hj]; exact gk _ (b2 j hj).2.2.1
  have dpos : 0 < d := by omega
  refine ⟨⟨by omega, ?_, ?_, ?_, ?_, ?_, ?_, ?_, by omega⟩, by omega, qk, gk⟩
  · intro j hj
    by_cases e : j = m
    · subst e
      rw [qm, gt]
      have hb := (b2 i hi).2.2.2.1
      exact ⟨ht, htc, dpos, by omega, Nat.le_refl _, hw⟩
    · have hj' : j < m := by omega
      rw [gqk j hj', qk j hj']
      exact b2 j hj'
  · intro u hu hg
    by_cases e : u = t
    · exact ⟨m, by omega, by rw [qm, e]⟩
    · rw [qz_uNn e] at hg
      obtain ⟨j, hj, hq⟩ := b3 u hu hg
      exact ⟨j, by omega, by rw [qk j hj]; exact hq⟩
  · rw [← b4]
    refine qz_sm_1 216 t ht ?_ ?_
    · intro u _ hne
      show (if qz_uN g t d u = 0 then 0 else 1) = (if g u = 0 then 0 else 1)
      rw [qz_uNn hne]
    · show (if qz_uN g t d t = 0 then 0 else 1) = (if g t = 0 then 0 else 1) + 1
      rw [gt, if_pos h0, if_neg (by omega)]
  · intro j j' hjj hj'
    by_cases e' : j' = m
    · subst e'
      by_cases e : j = j'
      · subst e; exact Nat.le_refl _
      · rw [gqk j (by omega), qm, gt]
        exact (b2 j (by omega)).2.2.2.2.1
    · rw [gqk j (by omega), gqk j' (by omega)]
      exact b5 j j' hjj (by omega)
  · intro j hj u e
    rw [qk j (by omega)] at e
    have h := b6 j hj u e
    rw [gqk j (by omega), gk u h.1]
    exact h
  · intro j hj
    rw [qk j (by omega)]
    exact b7 j hj
  · refine ⟨by omega, ?_, ?_⟩
    · rw [qk 0 b8.1]; exact b8.2.1
    · rw [gk 0 (by omega)]; exact b8.2.2
/-- entered: its length stands -/
theorem qz_B_old (B : qz_BM c K F S b p i d m q g) {t : Nat} (ht : t < 216) (h0 : ¬ g t = 0) : 0 < g t ∧ g t ≤ d := by
  obtain ⟨j, hj, hq⟩ := B.2.2.1 t ht (by omega)
  have := (B.2.1 j hj).2.2.2.2.1
  rw [hq] at this
  exact ⟨by omega, this⟩
/-- place i is done -/
theorem qz_B_next (B : qz_BM c K F S b p i d m q g) (hi : i < m) (hd : d = g (q i) + 1) (hg : ¬ qz_xg K F (q i)) (h : ∀ t, qz_xe c K F S b p (q i) t → 0 < g t ∧ g t ≤ d) : qz_BI c K F S b p (i + 1) m q g := by
  obtain ⟨b1, b2, b3, b4, b5, b6, b7, b8, b9⟩ := B
  refine ⟨d, ⟨b1, b2, b3, b4, b5, ?_, ?_, b8, by omega⟩, fun h1 => ?_⟩
  · intro j hj t e
    by_cases z : j = i
    · subst z; rw [← hd]; exact h t e
    · exact b6 j (by omega) t e
  · intro j hj
    by_cases z : j = i
    · subst z; exact hg
    · exact b7 j (by omega)
  · have := b5 i (i + 1) (by omega) h1
    omega
/-- the begin of looking at place i -/
theorem qz_B_at (B : qz_BI c K F S b p i m q g) (hi : i < m) : qz_BM c K F S b p i (g (q i) + 1) m q g := by
  obtain ⟨d, ⟨b1, b2, b3, b4, b5, b6, b7, b8, b9⟩, hd⟩ := B
  have := hd hi
  refine ⟨b1, ?_, b3, b4, b5, b6, b7, b8, b9⟩
  intro j hj
  obtain ⟨x1, x2, x3, x4, x5, x6⟩ := b2 j hj
  exact ⟨x1, x2, x3, x4, by omega, x6⟩
theorem qz_B_walk (hc : c ≤ 24) (B : qz_BI c K F S b p i m q g) : ∀ n t, qz_xw c K F S b p n t → (i < m ∧ g (q i) ≤ n + 1) ∨ (∃ j, j < i ∧ q j = t ∧ g t ≤ n + 1) := by
  obtain ⟨d, ⟨b1, b2, b3, b4, b5, b6, b7, b8, b9⟩, hd⟩ := B
  intro n
  induction n with
  | zero =>
    intro t ht
    have h0 : t = 0 := ht
    subst h0
    by_cases z : i = 0
    · subst z
      left
      refine ⟨b8.1, ?_⟩
      rw [b8.2.1, b8.2.2]
      exact Nat.le_refl _
    · right
      exact ⟨0, by omega, b8.2.1, by rw [b8.2.2]; exact Nat.le_refl _⟩
  | succ n ih =>
    intro t ht
    obtain ⟨s, hs, e⟩ := ht
    have tl : t < 216 := by
      have := e.1.1
      omega
    rcases ih s hs with ⟨h, h'⟩ | ⟨j, hj, hq, h⟩
    · exact Or.inl ⟨h, by omega⟩
    · have e2 := e
      rw [← hq] at e2
      obtain ⟨g0, g1⟩ := b6 j hj t e2
      rw [hq] at g1
      obtain ⟨j', hj', hq'⟩ := b3 t tl g0
      by_cases z : j' < i
      · exact Or.inr ⟨j', z, hq', by omega⟩
      · left
        have := b5 i j' (by omega) hj'
        rw [hq'] at this
        exact ⟨by omega, by omega⟩
theorem qz_B_goal (hc : c ≤ 24) (B : qz_BI c K F S b p i m q g) (hi : i < m) (hg : qz_xg K F (q i)) : qz_go c K F S b p (g (q i) - 1) ∧ 0 < g (q i) ∧ g (q i) ≤ 216 ∧ ∀ n, qz_go c K F S b p n → g (q i) ≤ n + 1 := by
  have W := qz_B_walk hc B
  obtain ⟨d, ⟨b1, b2, b3, b4, b5, b6, b7, b8, b9⟩, hd⟩ := B
  obtain ⟨_, _, x3, x4, _, x6⟩ := b2 i hi
  refine ⟨⟨q i, x6, hg⟩, x3, by omega, ?_⟩
  rintro n ⟨t, hw, hgt⟩
  rcases W n t hw with ⟨_, h⟩ | ⟨j, hj, hq, _⟩
  · exact h
  · rw [← hq] at hgt
    exact absurd hgt (b7 j hj)
theorem qz_B_none (hc : c ≤ 24) (B : qz_BI c K F S b p i m q g) (hi : ¬ i < m) : ∀ n, ¬ qz_go c K F S b p n := by
  have W := qz_B_walk hc B
  obtain ⟨d, ⟨b1, b2, b3, b4, b5, b6, b7, b8, b9⟩, hd⟩ := B
  rintro n ⟨t, hw, hgt⟩
  rcases W n t hw with ⟨h, _⟩ | ⟨j, hj, hq, _⟩
  · exact hi h
  · rw [← hq] at hgt
    exact absurd hgt (b7 j hj)
theorem qz_B_0 (hc : 0 < c) (q : Nat → Nat) : qz_BI c K F S b p 0 1 (qz_uN q 0 0) (qz_uN (fun _ => 0) 0 1) := by
  have q0 : qz_uN q 0 0 0 = 0 := qz_uNs
  have g0 : qz_uN (fun _ => 0) 0 1 0 = 1 := qz_uNs
  refine ⟨1, ⟨by omega, ?_, ?_, ?_, ?_, fun j hj => by omega, fun j hj => by omega, ⟨by omega, q0, g0⟩, by omega⟩, fun _ => ?_⟩
  · intro j hj
    have : j = 0 := by omega
    subst this
    rw [q0, g0]
    exact ⟨by omega, by omega, by omega, by omega, by omega, rfl⟩
  · intro t _ h
    by_cases z : t = 0
    · exact ⟨0, by omega, by rw [q0, z]⟩
    · rw [qz_uNn z] at h
      omega
  · have e := qz_sm_1 (f := fun _ => 0) (g := fun t => if qz_uN (fun _ => 0) 0 1 t = 0 then 0 else 1) 216 0 (by omega) (by
      intro i _ hne
      show (if qz_uN (fun _ => 0) 0 1 i = 0 then 0 else 1) = 0
      rw [qz_uNn hne, if_pos rfl]) (by
      show (if qz_uN (fun _ => 0) 0 1 0 = 0 then 0 else 1) = 0 + 1
      rw [g0, if_neg (by omega)])
    have z := qz_sm_b (f := fun _ => 0) (B := 0) 216 (fun _ _ => Nat.le_refl _)
    rw [e]
    omega
  · intro j j' _ hj'
    have h1 : j' = 0 := by omega
    have h2 : j = 0 := by omega
    rw [h1, h2]
    exact Nat.le_refl _
  · rw [q0, g0]
    omega
end
end
section
/-! ===== Y: the lengths of shown, by a ghost f; counts of a boolean array ===== -/
section
variable (c : Nat) (K F S : Nat → Int32) (b p : Nat)
def qz_DI (f : Nat → Nat) : Prop := f 0 ≤ 1 ∧ ∀ n, n < 1152 → 1 ≤ f n ∧ f n ≤ 100000 ∧ (f n < 100000 → qz_fw c K F S b p (f n - 1) n)
def qz_DC (f : Nat → Nat) : Prop := ∀ n, n < 1152 → f n < 100000 → ∀ n', qz_fe c K F S b p n n' → f n' ≤ f n + 1
/-- what the last loop of shown finds up to place e -/
def qz_DL (f : Nat → Nat) (e L : Nat) : Prop := L ≤ 100000 ∧ (L = 100000 ∨ ∃ n, n < 1152 ∧ qz_fg K F n ∧ f n = L) ∧ ∀ n, 768 ≤ n → n < e → qz_fg K F n → L ≤ f n
end
section
variable {c : Nat} {K F S : Nat → Int32} {b p : Nat} {f : Nat → Nat}
theorem qz_DI_up (I : qz_DI c K F S b p f) {n s : Nat} (h1 : 1 ≤ s) (hs : s < f n) (hn : n < 1152) (hw : qz_fw c K F S b p (s - 1) n) : qz_DI c K F S b p (qz_uN f n s) ∧ qz_sm (qz_uN f n s) 1152 < qz_sm f 1152 := by
  obtain ⟨i0, i1⟩ := I
  refine ⟨⟨?_, ?_⟩, ?_⟩
  · by_cases e : 0 = n
    · rw [← e, qz_uNs]; rw [← e] at hs; omega
    · rw [qz_uNn e]; exact i0
  · intro k hk
    by_cases e : k = n
    · rw [e, qz_uNs]
      have := i1 n hn
      exact ⟨h1, by omega, fun _ => hw⟩
    · rw [qz_uNn e]; exact i1 k hk
  · refine qz_sm_lt 1152 ?_ n hn (by rw [qz_uNs]; exact hs)
    intro k _
    by_cases e : k = n
    · rw [e, qz_uNs]; omega
    · rw [qz_uNn e]; exact Nat.le_refl _
theorem qz_D_walk (hc : c ≤ 24) (I : qz_DI c K F S b p f) (C : qz_DC c K F S b p f) : ∀ n t, qz_fw c K F S b p n t → n + 1 < 100000 → f t ≤ n + 1 := by
  intro n
  induction n with
  | zero =>
    intro t ht _
    have h0 : t = 0 := ht
    subst h0
    exact I.1
  | succ n ih =>
    intro t ht hn
    obtain ⟨s, hs, e⟩ := ht
    have hsl := (qz_fx hc n s hs).1
    have h := ih s hs (by omega)
    have := C s hsl (by omega) t e
    omega
theorem qz_D_some (hc : c ≤ 24) (I : qz_DI c K F S b p f) (C : qz_DC c K F S b p f) {d L : Nat} (hd : 0 < d) (hd2 : d ≤ 216) (hg : qz_go c K F S b p (d - 1)) (hl : ∀ n, qz_go c K F S b p n → d ≤ n + 1) (hL : qz_DL K F f (768 + 16 * c) L) : L = d := by
  obtain ⟨l1, l2, l3⟩ := hL
  obtain ⟨j, hj, hjc, hw, hgj⟩ := (qz_go_f hc (d - 1)).mp hg
  have h1 := qz_D_walk hc I C (d - 1) j hw (by omega)
  have h7 := hgj.1
  have h2 := l3 j h7 (by omega) hgj
  have up : L ≤ d := by omega
  rcases l2 with l2 | ⟨n, hn, hgn, hf⟩
  · omega
  · have hw2 := (I.2 n hn).2.2 (by omega)
    have h1n := (I.2 n hn).1
    have hnc : n % 384 / 16 < c := by
      rcases (qz_fx hc _ n hw2).2.1 with z | z
      · rw [z] at hw2
        have : n = 0 := hw2
        have := hgn.1
        omega
      · exact z
    have := hl (f n - 1) ((qz_go_f hc _).mpr ⟨n, hn, hnc, hw2, hgn⟩)
    omega
theorem qz_D_none (hc : c ≤ 24) (I : qz_DI c K F S b p f) {L : Nat} (hg : ∀ n, ¬ qz_go c K F S b p n) (hL : qz_DL K F f (768 + 16 * c) L) : L = 100000 := by
  obtain ⟨l1, l2, l3⟩ := hL
  rcases l2 with l2 | ⟨n, hn, hgn, hf⟩
  · exact l2
  · by_cases z : L = 100000
    · exact z
    · exfalso
      have hw2 := (I.2 n hn).2.2 (by omega)
      have hnc : n % 384 / 16 < c := by
        rcases (qz_fx hc _ n hw2).2.1 with z | z
        · rw [z] at hw2
          have : n = 0 := hw2
          have := hgn.1
          omega
        · exact z
      exact hg (f n - 1) ((qz_go_f hc _).mpr ⟨n, hn, hnc, hw2, hgn⟩)
end
/-! a boolean array of 384 -/
def qz_ct (M : Nat → Int32) : Nat := qz_sm (fun j => if M j = 0 then 0 else 1) 384
theorem qz_ct_b (M : Nat → Int32) : qz_ct M ≤ 384 := by
  have a := qz_sm_b (f := fun p => if M p = 0 then 0 else 1) (B := 1) 384 (by
    intro i _
    show (if M i = 0 then 0 else 1) ≤ 1
    split <;> omega)
  unfold qz_ct
  omega
theorem qz_ct_up {M : Nat → Int32} {k : Nat} (hk : k < 384) (h : M k = 0) : qz_ct M < qz_ct (upd M k 1) := by
  refine qz_sm_up (f := fun x : Int32 => if x = 0 then 0 else 1) (a := M) (b := upd M k 1) hk (fun i hi => qz_un hi) ?_
  show (if M k = 0 then 0 else 1) < (if upd M k 1 k = 0 then 0 else 1)
  rw [qz_us, if_pos h]
  decide
/-- a round's flag and its array: nothing grew, or the count did -/
def qz_G (M0 : Nat → Int32) (g : Int32) (M : Nat → Int32) : Prop := (g = 0 ∧ M = M0) ∨ (g = 1 ∧ qz_ct M0 < qz_ct M)
theorem qz_G_r (M : Nat → Int32) : qz_G M 0 M := Or.inl ⟨rfl, rfl⟩
theorem qz_G_up {M0 M : Nat → Int32} {g : Int32} {k : Nat} (h : qz_G M0 g M) (hk : k < 384) (h0 : M k = 0) : qz_G M0 1 (upd M k 1) := by
  have := qz_ct_up hk h0
  rcases h with ⟨_, h⟩ | ⟨_, h⟩
  · rw [h] at this ⊢
    exact Or.inr ⟨rfl, this⟩
  · exact Or.inr ⟨rfl, by omega⟩
end
section
/-! ===== small rows for both sides: ranges, actions, option-like answers ===== -/
theorem qz_rng {A B : Prop} (x : Int32) (n : Nat) (hn : n < 2 ^ 31) (h1 : ∀ j, j < n → x = nI j → B) (h0 : (∀ j, j < n → x ≠ nI j) → A) : (x < 0 → A) ∧ (¬ x < 0 → ((nI n ≤ x → A) ∧ (¬ nI n ≤ x → B))) := by
  rcases pk_ix x hn with h | h | ⟨j, hj, e⟩
  · refine br_t h (h0 (fun j hj e => ?_))
    rw [e] at h
    exact nI_pos (by omega) h
  · have h' : ¬ x < 0 := fun z => by
      have h2 : (0 : Int32) ≤ nI n := nI_pos' hn
      exact absurd (Int32.le_trans h2 h) (Int32.not_le.mpr z)
    refine br_f h' (br_t h (h0 (fun j hj e => ?_)))
    rw [e] at h
    exact nI_ge hj hn h
  · have a : ¬ x < 0 := by rw [e]; exact nI_pos (by omega)
    have b : ¬ nI n ≤ x := by rw [e]; exact nI_ge hj hn
    exact br_f a (br_f b (h1 j hj e))
theorem qz_rngL {A B : Prop} (x : Int32) (n : Nat) (hn : n + 1 < 2 ^ 31) (h1 : ∀ j, j ≤ n → x = nI j → B) (h0 : (∀ j, j ≤ n → x ≠ nI j) → A) : (x < 0 → A) ∧ (¬ x < 0 → ((nI n < x → A) ∧ (¬ nI n < x → B))) := by
  obtain ⟨a, b⟩ := qz_rng (A := A) (B := B) x (n + 1) hn (fun j hj => h1 j (by omega)) (fun h => h0 (fun j hj => h j (by omega)))
  refine ⟨a, fun h => ?_⟩
  obtain ⟨b1, b2⟩ := b h
  obtain ⟨k, hk, rfl⟩ := nI_of h
  refine ⟨fun z => b1 ?_, fun z => b2 ?_⟩
  · rw [nI_ltI (by omega) hk] at z
    rw [nI_leI hn hk]
    omega
  · rw [nI_ltI (by omega) hk] at z
    rw [nI_leI hn hk]
    omega
theorem qz_n4 {x : Int32} {a : Nat} (e : x = nI a) (h : a < 4) : ∃ a, a < 4 ∧ x = nI a := ⟨a, h, e⟩
theorem qz_okI {n : Nat} (hn : n < 12) {x y : Int32} : qz_ok (nI n) x y ↔ ((n < 9 → ∃ a, a < 4 ∧ x = nI a) ∧ (3 ≤ n ∧ n ≤ 6 → ∃ b, b < 4 ∧ y = nI b) ∧ (n = 9 ∨ n = 10 → ∃ a, a ≤ 24 ∧ x = nI a)) := by
  constructor
  · rintro ⟨m, hm, e, h⟩
    have : n = m := (nI_eq (by omega) (by omega)).mp e
    rw [this]
    exact h
  · intro h
    exact ⟨n, hn, rfl, h⟩
theorem qz_okA {n : Nat} (h : n < 3 ∨ n = 7 ∨ n = 8) {x y : Int32} : qz_ok (nI n) x y ↔ ∃ a, a < 4 ∧ x = nI a := by
  have a : n < 9 := by omega
  have b : ¬ (3 ≤ n ∧ n ≤ 6) := by omega
  have d : ¬ (n = 9 ∨ n = 10) := by omega
  rw [qz_okI (by omega)]
  exact ⟨fun z => z.1 a, fun z => ⟨fun _ => z, fun w => absurd w b, fun w => absurd w d⟩⟩
theorem qz_okB {n : Nat} (h : 3 ≤ n) (h' : n ≤ 6) {x y : Int32} : qz_ok (nI n) x y ↔ ((∃ a, a < 4 ∧ x = nI a) ∧ ∃ b, b < 4 ∧ y = nI b) := by
  have a : n < 9 := by omega
  have d : ¬ (n = 9 ∨ n = 10) := by omega
  rw [qz_okI (by omega)]
  exact ⟨fun z => ⟨z.1 a, z.2.1 ⟨h, h'⟩⟩, fun z => ⟨fun _ => z.1, fun _ => z.2, fun w => absurd w d⟩⟩
theorem qz_okC {n : Nat} (h : n = 9 ∨ n = 10) {x y : Int32} : qz_ok (nI n) x y ↔ ∃ a, a ≤ 24 ∧ x = nI a := by
  have a : ¬ n < 9 := by omega
  have b : ¬ (3 ≤ n ∧ n ≤ 6) := by omega
  rw [qz_okI (by omega)]
  exact ⟨fun z => z.2.2 h, fun z => ⟨fun w => absurd w a, fun w => absurd w b, fun _ => z⟩⟩
theorem qz_okD {x y : Int32} : qz_ok (nI 11) x y := by
  rw [qz_okI (by omega)]
  exact ⟨fun w => by omega, fun w => by omega, fun w => by omega⟩
theorem qz_ok12 {k x y : Int32} (h : qz_ok k x y) : ∃ n, n < 12 ∧ k = nI n := by
  obtain ⟨n, hn, e, _⟩ := h
  exact ⟨n, hn, e⟩
theorem qz_nb0 : vp_nar .boolean 0 = 0 := by decide +kernel
theorem qz_nb1 : vp_nar .boolean 1 = 1 := by decide +kernel
theorem qz_nw {x : Int32} (h : x = 0 ∨ x = 1) : narrow .boolean (.int x) = .int x := by
  rcases h with rfl | rfl
  · rfl
  · rfl
theorem qz_fw' {x : Int32} (h : x = 0 ∨ x = 1) : fits .boolean (.int x) = true := by
  rcases h with rfl | rfl
  · decide
  · decide
/-- an answer that is e where there is none, else the one q -/
def qz_op (P : Nat → Prop) (e r : Int32) : Prop := (r = e ∧ ∀ q, ¬ P q) ∨ ∃ q, r = nI q ∧ P q ∧ ∀ q', P q' → q' = q
def qz_xj (c : Nat) (K F : Nat → Int32) (p q : Nat) : Prop := q < c ∧ (K p = 9 ∨ K p = 10) ∧ F p = nI q
def qz_xn (c : Nat) (K : Nat → Int32) (p q : Nat) : Prop := q < c ∧ q = p + 1 ∧ K p ≠ 9 ∧ K p ≠ 11
theorem qz_nx_x {c : Nat} {K F : Nat → Int32} {p q : Nat} : qz_nx c K F p q ↔ qz_xj c K F p q ∨ qz_xn c K p q := by
  constructor
  · rintro ⟨h, h1 | h1⟩
    · exact Or.inr ⟨h, h1⟩
    · exact Or.inl ⟨h, h1⟩
  · rintro (⟨h, h1⟩ | ⟨h, h1⟩)
    · exact ⟨h, Or.inr h1⟩
    · exact ⟨h, Or.inl h1⟩
theorem qz_n3 {q : Nat} (h : q < 2 ^ 31) : ¬ nI q = -3 := fun z => nI_pos h (by rw [z]; decide)
theorem qz_n1 {q : Nat} (h : q < 2 ^ 31) : ¬ nI q = -1 := fun z => nI_pos h (by rw [z]; decide)
theorem qz_i24 {p : Nat} (h : p < 24) : vp_in (nI p) 24 := vp_in_nI h (by omega)
theorem qz_c24 {p : Nat} (h : p < 24) : (nI p).toNatClampNeg = p := nI_clamp (by omega)
theorem qz_x4 (p r : Nat) : nI p * 4 + nI r = nI (p * 4 + r) := by
  show nI p * nI 4 + nI r = _
  rw [pk_mul, nI_add]
theorem qz_va_g {K F S : Nat → Int32} (V : qz_va K F S) {p : Nat} (h : K p = 9 ∨ K p = 10) : ∃ a, a ≤ 24 ∧ F p = nI a := by
  have v := V p
  rcases h with h | h
  · rw [h] at v
    exact (qz_okC (n := 9) (Or.inl rfl)).mp v
  · rw [h] at v
    exact (qz_okC (n := 10) (Or.inr rfl)).mp v
theorem qz_va_a {K F S : Nat → Int32} (V : qz_va K F S) {p : Nat} (h : K p = 0 ∨ K p = 1 ∨ K p = 2 ∨ K p = 7 ∨ K p = 8) : ∃ a, a < 4 ∧ F p = nI a := by
  have v := V p
  rcases h with h | h | h | h | h
  · rw [h] at v
    exact (qz_okA (n := 0) (by omega)).mp v
  · rw [h] at v
    exact (qz_okA (n := 1) (by omega)).mp v
  · rw [h] at v
    exact (qz_okA (n := 2) (by omega)).mp v
  · rw [h] at v
    exact (qz_okA (n := 7) (by omega)).mp v
  · rw [h] at v
    exact (qz_okA (n := 8) (by omega)).mp v
theorem qz_va_b {K F S : Nat → Int32} (V : qz_va K F S) {p : Nat} (h : K p = 3 ∨ K p = 4 ∨ K p = 5 ∨ K p = 6) : (∃ a, a < 4 ∧ F p = nI a) ∧ ∃ b, b < 4 ∧ S p = nI b := by
  have v := V p
  rcases h with h | h | h | h
  · rw [h] at v
    exact (qz_okB (n := 3) (by omega) (by omega)).mp v
  · rw [h] at v
    exact (qz_okB (n := 4) (by omega) (by omega)).mp v
  · rw [h] at v
    exact (qz_okB (n := 5) (by omega) (by omega)).mp v
  · rw [h] at v
    exact (qz_okB (n := 6) (by omega) (by omega)).mp v
theorem qz_b24 (l : Nat) : bt 16777216 l = true ↔ l = 24 := by
  by_cases h : l < 32
  · have := (by decide +kernel : ∀ i, i < 32 → (bt 16777216 i = true ↔ i = 24)) l h
    exact this
  · rw [b_big (by omega)]
    exact ⟨fun z => (by cases z), fun z => by omega⟩
theorem qz_bshA {n : Nat} (hn : n < 32) (i : Nat) : bt ((1 : Int32) <<< (nI n &&& 31)) i = true ↔ i = n := by
  by_cases h : i < 32
  · rw [qz_bsh n hn i h]
    simp
  · rw [b_big (by omega)]
    exact ⟨fun z => (by cases z), fun z => by omega⟩
end
section
/-! ===== X: the small methods ===== -/
section
variable {c : Nat} {fq : Int32} {K F S sn lo em lv Q L : Nat → Int32} {post : Int32 → Prop}
theorem qx_ref (x : Int32) (h1 : ∀ a, a < 4 → x = nI a → post 1) (h0 : (∀ a, a < 4 → x ≠ nI a) → post 0) : wpX_isReference post (nI c, fq, K, F, S, sn, lo, em, lv, Q, L) x := qz_rng x 4 (by omega) h1 h0
theorem qx_own (x : Int32) (h1 : ∀ a, a < 4 → x = nI a → post 1) (h0 : (∀ a, a < 4 → x ≠ nI a) → post 0) : wpX_isOwner post (nI c, fq, K, F, S, sn, lo, em, lv, Q, L) x := qz_rng x 4 (by omega) h1 h0
theorem qx_pt (hc : c ≤ 24) (x : Int32) (h1 : ∀ a, a < c → x = nI a → post 1) (h0 : (∀ a, a < c → x ≠ nI a) → post 0) : wpX_isPoint post (nI c, fq, K, F, S, sn, lo, em, lv, Q, L) x := qz_rng x c (by omega) h1 h0
theorem qx_act (k x y : Int32) (h1 : qz_ok k x y → post 1) (h0 : ¬ qz_ok k x y → post 0) : wpX_isAction post (nI c, fq, K, F, S, sn, lo, em, lv, Q, L) k x y := by
  refine qz_rngL k 11 (by omega) (fun n hn e => ?_) (fun h => h0 (fun z => ?_))
  · subst e
    have A : (n < 3 ∨ n = 7 ∨ n = 8) → wX_isAction_64 post x (nI c) fq K F S sn lo em lv Q L := fun hh =>
      qx_own x (fun a ha e => ⟨rfl, h1 ((qz_okA hh).mpr ⟨a, ha, e⟩)⟩) (fun z => ⟨rfl, h0 (fun w => by
        obtain ⟨a, ha, e⟩ := (qz_okA hh).mp w
        exact z a ha e)⟩)
    have A' : (n < 3 ∨ n = 7 ∨ n = 8) → wX_isAction_114 post x (nI c) fq K F S sn lo em lv Q L := fun hh =>
      qx_ref x (fun a ha e => ⟨rfl, h1 ((qz_okA hh).mpr ⟨a, ha, e⟩)⟩) (fun z => ⟨rfl, h0 (fun w => by
        obtain ⟨a, ha, e⟩ := (qz_okA hh).mp w
        exact z a ha e)⟩)
    have B : 3 ≤ n → n ≤ 6 → wX_isAction_70 post x y (nI c) fq K F S sn lo em lv Q L := fun hh hh' =>
      qx_ref x (fun a ha e => br_f (by decide) (qx_own y (fun b hb e' => br_f (by decide) (h1 ((qz_okB hh hh').mpr ⟨⟨a, ha, e⟩, b, hb, e'⟩))) (fun z => br_t rfl (h0 (fun w => by
        obtain ⟨_, b, hb, e⟩ := (qz_okB hh hh').mp w
        exact z b hb e))))) (fun z => br_t rfl (h0 (fun w => by
        obtain ⟨⟨a, ha, e⟩, _⟩ := (qz_okB hh hh').mp w
        exact z a ha e)))
    have B' : 3 ≤ n → n ≤ 6 → wX_isAction_92 post x y (nI c) fq K F S sn lo em lv Q L := fun hh hh' =>
      qx_ref x (fun a ha e => br_f (by decide) (qx_ref y (fun b hb e' => br_f (by decide) (h1 ((qz_okB hh hh').mpr ⟨⟨a, ha, e⟩, b, hb, e'⟩))) (fun z => br_t rfl (h0 (fun w => by
        obtain ⟨_, b, hb, e⟩ := (qz_okB hh hh').mp w
        exact z b hb e))))) (fun z => br_t rfl (h0 (fun w => by
        obtain ⟨⟨a, ha, e⟩, _⟩ := (qz_okB hh hh').mp w
        exact z a ha e)))
    have C : (n = 9 ∨ n = 10) → wX_isAction_120 post x (nI c) fq K F S sn lo em lv Q L := fun hh =>
      qz_rngL x 24 (by omega) (fun a ha e => h1 ((qz_okC hh).mpr ⟨a, ha, e⟩)) (fun z => h0 (fun w => by
        obtain ⟨a, ha, e⟩ := (qz_okC hh).mp w
        exact z a ha e))
    exact pk_eq n 0 (fun _ => A (by omega)) (fun _ => pk_eq n 1 (fun _ => A (by omega)) (fun _ => pk_eq n 2 (fun _ => A (by omega)) (fun _ => pk_eq n 3 (fun _ => B (by omega) (by omega)) (fun _ => pk_eq n 4 (fun _ => B (by omega) (by omega)) (fun _ => pk_eq n 5 (fun _ => B' (by omega) (by omega)) (fun _ => pk_eq n 6 (fun _ => B' (by omega) (by omega)) (fun _ => pk_eq n 7 (fun _ => A' (by omega)) (fun _ => pk_eq n 8 (fun _ => A' (by omega)) (fun _ => pk_eq n 9 (fun _ => C (by omega)) (fun _ => pk_eq n 10 (fun _ => C (by omega)) (fun _ => pk_eq n 11 (fun e => h1 (by rw [e]; exact qz_okD)) (fun _ => trivial))))))))))))
  · obtain ⟨n, hn, e⟩ := qz_ok12 z
    exact h n (by omega) e
theorem qx_jump {p : Nat} (hp : p < 24) (hc : c ≤ 24) (V : qz_va K F S) (h : ∀ r, qz_op (qz_xj c K F p) (-3) r → post r) : wpX_jumpBehind post (nI c, fq, K, F, S, sn, lo, em, lv, Q, L) (nI p) := by
  have e := qz_c24 hp
  have i := qz_i24 hp
  have J : (K p = 9 ∨ K p = 10) → wX_jumpBehind_22 post (nI p) (nI c) fq K F S sn lo em lv Q L := by
    intro hk
    unfold wX_jumpBehind_22 wX_jumpBehind_27
    rw [e]
    obtain ⟨a, ha, ea⟩ := qz_va_g V hk
    refine br_f (by decide) ⟨i, pk_le c a (fun z => h _ (Or.inl ⟨rfl, ?_⟩)) (fun z => ⟨i, h _ (Or.inr ⟨a, ea, ⟨z, hk, ea⟩, ?_⟩)⟩) rfl ea⟩
    · rintro q ⟨hq, _, eq⟩
      have := (nI_eq (by omega) (by omega)).mp (ea.symm.trans eq)
      omega
    · rintro q ⟨hq, _, eq⟩
      exact ((nI_eq (by omega) (by omega)).mp (ea.symm.trans eq)).symm
  unfold wpX_jumpBehind
  simp only [e]
  refine ⟨i, br_c (fun hk => J (Or.inl hk)) (fun h9 => ⟨i, br_c (fun hk => J (Or.inr hk)) (fun h10 => ?_)⟩)⟩
  refine br_t rfl (h _ (Or.inl ⟨rfl, ?_⟩))
  rintro q ⟨_, hk | hk, _⟩
  · exact h9 hk
  · exact h10 hk
theorem qx_next {p : Nat} (hp : p < 24) (hc : c ≤ 24) (h : ∀ r, qz_op (qz_xn c K p) (-3) r → post r) : wpX_nextBehind post (nI c, fq, K, F, S, sn, lo, em, lv, Q, L) (nI p) := by
  have e := qz_c24 hp
  have i := qz_i24 hp
  have J : (K p = 9 ∨ K p = 11) → wX_nextBehind_22 post (nI p) (nI c) fq K F S sn lo em lv Q L := by
    intro hk
    refine br_f (by decide) (h _ (Or.inl ⟨rfl, ?_⟩))
    rintro q ⟨_, _, h9, h11⟩
    rcases hk with hk | hk
    · exact h9 hk
    · exact h11 hk
  unfold wpX_nextBehind
  simp only [e]
  refine ⟨i, br_c (fun hk => J (Or.inl hk)) (fun h9 => ⟨i, br_c (fun hk => J (Or.inr hk)) (fun h11 => ?_)⟩)⟩
  unfold wX_nextBehind_27
  rw [nI_1]
  refine br_t rfl (pk_le c (p + 1) (fun z => h _ (Or.inl ⟨rfl, ?_⟩)) (fun z => h _ (Or.inr ⟨p + 1, rfl, ⟨z, rfl, h9, h11⟩, fun q hq => hq.2.1⟩)))
  rintro q ⟨hq, eq, _⟩
  omega
theorem qx_empty {p : Nat} (hp : p < 24) (V : qz_va K F S) (h : ∀ x, (∀ o, o < 4 → (bt x o = true ↔ qz_ea K F em p o)) → post x) : wpX_emptyAfter post (nI c, fq, K, F, S, sn, lo, em, lv, Q, L) (nI p) := by
  have e := qz_c24 hp
  have i := qz_i24 hp
  unfold wpX_emptyAfter
  simp only [e]
  refine ⟨i, br_c (fun k0 => ⟨i, i, h _ ?_⟩) (fun k0 => ⟨i, br_c (fun k2 => ⟨i, i, h _ ?_⟩) (fun k2 => ⟨i, h _ ?_⟩)⟩)⟩
  · obtain ⟨a, ha, ea⟩ := qz_va_a V (Or.inl k0)
    intro o ho
    rw [ea, qz_clr _ a (by omega) (by omega)]
    unfold qz_ea
    rw [ea, qz_ne ha ho, k0]
    constructor
    · rintro ⟨h1, h2⟩
      exact Or.inr ⟨h1, fun z => h2 z.2.symm⟩
    · rintro (⟨z, _⟩ | ⟨h1, h2⟩)
      · exact absurd z (by decide)
      · exact ⟨h1, fun z => h2 ⟨rfl, z.symm⟩⟩
  · obtain ⟨a, ha, ea⟩ := qz_va_a V (Or.inr (Or.inr (Or.inl k2)))
    intro o ho
    rw [ea, qz_set _ a (by omega) (by omega)]
    unfold qz_ea
    rw [ea, qz_ne ha ho, k2]
    constructor
    · rintro (h1 | h1)
      · exact Or.inr ⟨h1, fun z => absurd z.1 (by decide)⟩
      · exact Or.inl ⟨rfl, h1.symm⟩
    · rintro (⟨_, z⟩ | ⟨h1, _⟩)
      · exact Or.inr z.symm
      · exact Or.inl h1
  · intro o ho
    unfold qz_ea
    constructor
    · intro h1
      exact Or.inr ⟨h1, fun z => k0 z.1⟩
    · rintro (⟨z, _⟩ | ⟨h1, _⟩)
      · exact absurd z k2
      · exact h1
theorem qx_uses {p r : Nat} (hp : p < 24) (h1 : K p = 7 → F p = nI r → post 1) (h0 : ¬ (K p = 7 ∧ F p = nI r) → post 0) : wpX_usesReference post (nI c, fq, K, F, S, sn, lo, em, lv, Q, L) (nI p) (nI r) := by
  have e := qz_c24 hp
  have i := qz_i24 hp
  unfold wpX_usesReference
  simp only [e]
  exact ⟨i, br_c (fun k7 => ⟨i, br_c (fun ef => h1 k7 ef) (fun ef => h0 (fun z => ef z.2))⟩) (fun k7 => h0 (fun z => k7 z.1))⟩
theorem qx_loans {p r : Nat} (hp : p < 24) (hr : r < 4) (V : qz_va K F S) (h : ∀ x, (∀ l, bt x l = true ↔ qz_la K F S lo p r l) → post x) : wpX_loansAfter post (nI c, fq, K, F, S, sn, lo, em, lv, Q, L) (nI p) (nI r) := by
  have e := qz_c24 hp
  have i := qz_i24 hp
  have i96 : ∀ r', r' < 4 → vp_in (nI p * 4 + nI r') 96 := fun r' hr' => by rw [qz_x4]; exact vp_in_nI (by omega) (by omega)
  have c96 : ∀ r', r' < 4 → (nI p * 4 + nI r').toNatClampNeg = p * 4 + r' := fun r' hr' => by rw [qz_x4]; exact nI_clamp (by omega)
  -- r keeps what it held
  have keep : (qz_hr K F S p r r) → wX_loansAfter_107 post (nI p) (nI r) (nI c) fq K F S sn lo em lv Q L := by
    intro hh
    unfold wX_loansAfter_107
    rw [c96 r hr]
    refine ⟨i96 r hr, h _ (fun l => ?_)⟩
    constructor
    · intro hb
      exact Or.inr (Or.inr ⟨r, hr, hh, hb⟩)
    · rintro (⟨m, ef, _⟩ | ⟨nu, _⟩ | ⟨r0, hr0, h0, hb⟩)
      · exact absurd ef (qz_hr_mk hh m)
      · exact (qz_nu_hr hr nu hh).elim
      · rw [← qz_hr_u hr hr0 hh h0] at hb
        exact hb
  have frmS : ∀ y, y < 4 → S p = nI y → qz_hr K F S p y r → vp_in (nI p * 4 + S p) 96 ∧ post (lo (nI p * 4 + S p).toNatClampNeg) := by
    intro y hy ey hh
    rw [ey, c96 y hy]
    refine ⟨i96 y hy, h _ (fun l => ?_)⟩
    constructor
    · intro hb
      exact Or.inr (Or.inr ⟨y, hy, hh, hb⟩)
    · rintro (⟨m, ef, _⟩ | ⟨nu, _⟩ | ⟨r0, hr0, h0, hb⟩)
      · exact absurd ef (qz_hr_mk hh m)
      · exact (qz_nu_hr hy nu hh).elim
      · rw [← qz_hr_u hy hr0 hh h0] at hb
        exact hb
  have none' : qz_nu K F S p r → post 16777216 := by
    intro nu
    refine h _ (fun l => ?_)
    rw [qz_b24]
    constructor
    · intro hl
      exact Or.inr (Or.inl ⟨nu, hl⟩)
    · rintro (⟨m, _⟩ | ⟨_, hl⟩ | ⟨r0, hr0, h0, _⟩)
      · exact (qz_nu_mk nu m).elim
      · exact hl
      · exact (qz_nu_hr hr0 nu h0).elim
  have new' : qz_mk K p → F p = nI r → post ((1 : Int32) <<< (nI p &&& 31)) := by
    intro m ef
    refine h _ (fun l => ?_)
    rw [qz_bshA (by omega)]
    constructor
    · intro hl
      exact Or.inl ⟨m, ef, hl⟩
    · rintro (⟨_, _, hl⟩ | ⟨nu, _⟩ | ⟨r0, _, h0, _⟩)
      · exact hl
      · exact (qz_nu_mk nu m).elim
      · exact absurd ef (qz_hr_mk h0 m)
  have L89 : (F p ≠ nI r ∨ (K p ≠ 3 ∧ K p ≠ 4 ∧ K p ≠ 5 ∧ K p ≠ 6 ∧ K p ≠ 8)) → (K p = 5 → F p ≠ nI r) → wX_loansAfter_89 post (nI p) (nI r) (K p) (nI c) fq K F S sn lo em lv Q L := by
    intro hf hf5
    unfold wX_loansAfter_89
    rw [e]
    refine br_c (fun k5 => ⟨i, br_c (fun es => none' (Or.inr ⟨k5, es, hf5 k5⟩)) (fun es => keep ⟨hr, Or.inl ⟨Or.inl k5, Or.inr ⟨es, hf5 k5, rfl⟩⟩⟩)⟩) (fun k5 => keep ?_)
    refine ⟨hr, ?_⟩
    by_cases k6 : K p = 6
    · have hf6 : F p ≠ nI r := by
        rcases hf with hf | hf
        · exact hf
        · exact absurd k6 hf.2.2.2.1
      by_cases es : S p = nI r
      · exact Or.inl ⟨Or.inr k6, Or.inl ⟨es, Or.inr ⟨k6, rfl⟩⟩⟩
      · exact Or.inl ⟨Or.inr k6, Or.inr ⟨es, hf6, rfl⟩⟩
    · by_cases k3 : K p = 3 ∨ K p = 4 ∨ K p = 8
      · refine Or.inr (Or.inl ⟨k3, ?_, rfl⟩)
        rcases hf with hf | hf
        · exact hf
        · rcases k3 with k | k | k
          · exact absurd k hf.1
          · exact absurd k hf.2.1
          · exact absurd k hf.2.2.2.2
      · exact Or.inr (Or.inr ⟨⟨fun z => k3 (Or.inl z), fun z => k3 (Or.inr (Or.inl z)), k5, k6, fun z => k3 (Or.inr (Or.inr z))⟩, rfl⟩)
  unfold wpX_loansAfter
  simp only [e]
  refine ⟨i, nm_e ⟨i, br_c (fun ef => ?_) (fun ef => ?_)⟩⟩
  · -- F p = nI r
    unfold wX_loansAfter_22
    have L43 : K p ≠ 3 → K p ≠ 4 → wX_loansAfter_43 post (nI p) (nI r) (K p) 1 (nI c) fq K F S sn lo em lv Q L := by
      intro k3 k4
      unfold wX_loansAfter_43 wX_loansAfter_57
      refine br_c (fun k8 => br_f (by decide) (none' (Or.inl ⟨k8, ef⟩))) (fun k8 => ?_)
      have L68 : (K p = 5 ∨ K p = 6) → wX_loansAfter_68 post (nI p) (nI r) (K p) 1 (nI c) fq K F S sn lo em lv Q L := by
        intro k56
        unfold wX_loansAfter_68
        rw [e]
        obtain ⟨_, y, hy, ey⟩ := qz_va_b V (Or.inr (Or.inr k56))
        exact br_f (by decide) ⟨i, frmS y hy ey ⟨hr, Or.inl ⟨k56, Or.inl ⟨ey, Or.inl ef⟩⟩⟩⟩
      refine br_c (fun k5 => L68 (Or.inl k5)) (fun k5 => br_c (fun k6 => L68 (Or.inr k6)) (fun k6 => L89 (Or.inr ⟨k3, k4, k5, k6, k8⟩) (fun z => absurd z k5)))
    have L34 : qz_mk K p → wX_loansAfter_34 post (nI p) (nI r) (K p) 1 (nI c) fq K F S sn lo em lv Q L := by
      intro m
      unfold wX_loansAfter_34
      exact br_f (by decide) (new' m ef)
    exact br_c (fun k3 => L34 (Or.inl k3)) (fun k3 => br_c (fun k4 => L34 (Or.inr k4)) (fun k4 => L43 k3 k4))
  · have L89' : wX_loansAfter_89 post (nI p) (nI r) (K p) (nI c) fq K F S sn lo em lv Q L := L89 (Or.inl ef) (fun _ => ef)
    have L68 : wX_loansAfter_68 post (nI p) (nI r) (K p) 0 (nI c) fq K F S sn lo em lv Q L := br_t rfl L89'
    have L57 : wX_loansAfter_57 post (nI p) (nI r) (K p) 0 (nI c) fq K F S sn lo em lv Q L := br_c (fun _ => L68) (fun _ => br_c (fun _ => L68) (fun _ => L89'))
    have L43 : wX_loansAfter_43 post (nI p) (nI r) (K p) 0 (nI c) fq K F S sn lo em lv Q L := br_c (fun _ => br_t rfl L57) (fun _ => L57)
    have L34 : wX_loansAfter_34 post (nI p) (nI r) (K p) 0 (nI c) fq K F S sn lo em lv Q L := br_t rfl L43
    exact br_c (fun _ => L34) (fun _ => br_c (fun _ => L34) (fun _ => L43))
theorem qx_heirs {p r : Nat} (hp : p < 24) (hr : r < 4) (V : qz_va K F S) (h : ∀ m, m < 16 → (∀ r', r' < 4 → (bt (nI m) r' = true ↔ qz_hr K F S p r r')) → post (nI m)) : wpX_heirs post (nI c, fq, K, F, S, sn, lo, em, lv, Q, L) (nI p) (nI r) := by
  have e := qz_c24 hp
  have i := qz_i24 hp
  have key : ∀ x : Int32, (∀ l, l < 32 → (bt x l = true ↔ (l < 4 ∧ qz_hr K F S p r l))) → post x := by
    intro x hx
    obtain ⟨m, hm, em⟩ := qz_of4 x (fun j hj h4 z => by have := ((hx j hj).mp z).1; omega)
    rw [em]
    refine h m hm (fun r' hr' => ?_)
    rw [← em, hx r' (by omega)]
    exact ⟨fun z => z.2, fun z => ⟨hr', z⟩⟩
  have self' : (∀ r', r' < 4 → (qz_hr K F S p r r' ↔ r' = r)) → post ((1 : Int32) <<< (nI r &&& 31)) := by
    intro hh
    refine key _ (fun l hl => ?_)
    rw [qz_bshA (by omega)]
    constructor
    · intro z
      exact ⟨by omega, (hh l (by omega)).mpr z⟩
    · rintro ⟨z, w⟩
      exact (hh l z).mp w
  have zero' : (∀ r', r' < 4 → ¬ qz_hr K F S p r r') → post 0 := by
    intro hh
    refine key _ (fun l hl => ?_)
    rw [b_0]
    exact ⟨fun z => (by cases z), fun z => absurd z.2 (hh l z.1)⟩
  have L23 : (K p = 5 ∨ K p = 6) → wX_heirs_23 post (nI p) (nI r) (K p) ((1 : Int32) <<< (nI r &&& 31)) (nI c) fq K F S sn lo em lv Q L := by
    intro k56
    obtain ⟨⟨x, hx, ex⟩, y, hy, ey⟩ := qz_va_b V (Or.inr (Or.inr k56))
    unfold wX_heirs_23
    rw [e]
    refine ⟨i, br_c (fun es => ⟨i, ?_⟩) (fun es => ⟨i, br_c (fun ef => zero' ?_) (fun ef => self' ?_)⟩)⟩
    · rw [ex]
      refine nm_e (br_c (fun k5 => key _ (fun l hl => ?_)) (fun k5 => key _ (fun l hl => ?_)))
      · rw [qz_bshA (by omega)]
        constructor
        · intro z
          refine ⟨by omega, by omega, Or.inl ⟨k56, Or.inl ⟨es, Or.inl ?_⟩⟩⟩
          rw [ex, z]
        · rintro ⟨h4, _, (⟨_, ⟨_, z | ⟨z, _⟩⟩ | ⟨z, _⟩⟩ | ⟨z, _⟩ | ⟨z, _⟩)⟩
          · exact ((qz_ne hx h4).mp (ex.symm.trans z)).symm
          · rw [k5] at z; exact absurd z (by decide)
          · exact absurd es z
          · rw [k5] at z; exact absurd z (by decide)
          · exact absurd k5 z.2.2.1
      · have k6 : K p = 6 := by
          rcases k56 with k | k
          · exact absurd k k5
          · exact k
        rw [b_or, Bool.or_eq_true, qz_bshA (by omega), qz_bshA (by omega)]
        constructor
        · rintro (z | z)
          · exact ⟨by omega, by omega, Or.inl ⟨k56, Or.inl ⟨es, Or.inr ⟨k6, z⟩⟩⟩⟩
          · refine ⟨by omega, by omega, Or.inl ⟨k56, Or.inl ⟨es, Or.inl ?_⟩⟩⟩
            rw [ex, z]
        · rintro ⟨h4, _, (⟨_, ⟨_, z | ⟨_, z⟩⟩ | ⟨z, _⟩⟩ | ⟨z, _⟩ | ⟨z, _⟩)⟩
          · exact Or.inr ((qz_ne hx h4).mp (ex.symm.trans z)).symm
          · exact Or.inl z
          · exact absurd es z
          · rw [k6] at z; exact absurd z (by decide)
          · exact absurd k6 z.2.2.2.1
    · rintro r' _ ⟨_, (⟨_, ⟨z, _⟩ | ⟨_, z, _⟩⟩ | ⟨z, _⟩ | ⟨z, _⟩)⟩
      · exact es z
      · exact z ef
      · rcases k56 with k | k <;> rw [k] at z <;> exact absurd z (by decide)
      · rcases k56 with k | k
        · exact z.2.2.1 k
        · exact z.2.2.2.1 k
    · intro r' hr'
      constructor
      · rintro ⟨_, (⟨_, ⟨z, _⟩ | ⟨_, _, z⟩⟩ | ⟨_, _, z⟩ | ⟨_, z⟩)⟩
        · exact absurd z es
        · exact z
        · exact z
        · exact z
      · intro z
        exact ⟨hr', Or.inl ⟨k56, Or.inr ⟨es, ef, z⟩⟩⟩
  have L92 : (K p = 3 ∨ K p = 4 ∨ K p = 8) → wX_heirs_92 post (nI p) (nI r) ((1 : Int32) <<< (nI r &&& 31)) (nI c) fq K F S sn lo em lv Q L := by
    intro k3
    unfold wX_heirs_92 wX_heirs_97
    rw [e]
    refine br_f (by decide) ⟨i, br_c (fun ef => zero' ?_) (fun ef => self' ?_)⟩
    · rintro r' _ ⟨_, (⟨z, _⟩ | ⟨_, z, _⟩ | ⟨z, _⟩)⟩
      · rcases z with z | z <;> rw [z] at k3 <;> exact absurd k3 (by decide)
      · exact z ef
      · rcases k3 with k | k | k
        · exact z.1 k
        · exact z.2.1 k
        · exact z.2.2.2.2 k
    · intro r' hr'
      constructor
      · rintro ⟨_, (⟨z, _⟩ | ⟨_, _, z⟩ | ⟨_, z⟩)⟩
        · rcases z with z | z <;> rw [z] at k3 <;> exact absurd k3 (by decide)
        · exact z
        · exact z
      · intro z
        exact ⟨hr', Or.inr (Or.inl ⟨k3, ef, z⟩)⟩
  unfold wpX_heirs
  simp only [e]
  refine ⟨i, nm_e (nm_e (br_c (fun k => L23 (Or.inl k)) (fun k5 => br_c (fun k => L23 (Or.inr k)) (fun k6 => br_c (fun k => L92 (Or.inl k)) (fun k3 => br_c (fun k => L92 (Or.inr (Or.inl k))) (fun k4 => br_c (fun k => L92 (Or.inr (Or.inr k))) (fun k8 => br_t rfl (self' ?_))))))))⟩
  intro r' hr'
  constructor
  · rintro ⟨_, (⟨z, _⟩ | ⟨z, _⟩ | ⟨_, z⟩)⟩
    · rcases z with z | z
      · exact absurd z k5
      · exact absurd z k6
    · rcases z with z | z | z
      · exact absurd z k3
      · exact absurd z k4
      · exact absurd z k8
    · exact z
  · intro z
    exact ⟨hr', Or.inr (Or.inr ⟨⟨k3, k4, k5, k6, k8⟩, z⟩)⟩
end
end
section
/-! ===== X: clearing, the begin, the forward rounds ===== -/
section
variable {c : Nat} {fq : Int32} {K F S sn lo em lv Q L : Nat → Int32}
theorem qx_clear {post : SX → Prop} (h : ∀ sn' lo' em' lv' : Nat → Int32, (∀ p, p < 24 → sn' p = 0) → (∀ i, i < 96 → lo' i = 0) → (∀ p, p < 24 → em' p = 0) → (∀ p, p < 24 → lv' p = 0) → (∀ p, 24 ≤ p → sn' p = sn p) → post (nI c, fq, K, F, S, sn', lo', em', lv', Q, L)) : wpX_clearFindings post (nI c, fq, K, F, S, sn, lo, em, lv, Q, L) := by
  unfold wpX_clearFindings
  refine loop_0 (fun n i (s : (Nat → Int32) × (Nat → Int32) × (Nat → Int32)) => wX_clearFindings_2 post (nI c) fq n (nI i) K F S s.1 lo s.2.1 s.2.2 Q L)
    (fun i s => (∀ p, p < i → s.1 p = 0 ∧ s.2.1 p = 0 ∧ s.2.2 p = 0) ∧ (∀ p, 24 ≤ p → s.1 p = sn p)) 24 (sn, em, lv) ⟨fun p hp => by omega, fun _ _ => rfl⟩ ?_ ?_
  · rintro n ⟨sn', em', lv'⟩ ⟨h1, h2⟩
    refine br_t (nI_le (Nat.le_refl 24) (by omega)) ?_
    refine loop_0 (fun n i (lo' : Nat → Int32) => wX_clearFindings_37 post (nI c) fq n (nI i) K F S sn' lo' em' lv' Q L)
      (fun i lo' => ∀ j, j < i → lo' j = 0) 96 lo (fun j hj => by omega) ?_ ?_
    · intro n lo' h3
      exact br_t (nI_le (Nat.le_refl 96) (by omega)) (h sn' lo' em' lv' (fun p hp => (h1 p hp).1) h3 (fun p hp => (h1 p hp).2.1) (fun p hp => (h1 p hp).2.2) h2)
    · intro n j lo' hj h3 hk
      refine br_f (nI_ge (b := 96) hj (by omega)) ⟨vp_in_nI hj (by omega), nm_e (nm_r (nI_1 j) (hk _ ?_))⟩
      intro k hkk
      rw [nI_clamp (by omega)]
      by_cases z : k = j
      · rw [z, pk_us]
      · rw [pk_un z]; exact h3 k (by omega)
  · rintro n j ⟨sn', em', lv'⟩ hj ⟨h1, h2⟩ hk
    have i := qz_i24 hj
    have e1 : upd sn' (nI j).toNatClampNeg (vp_nar .boolean 0) = upd sn' j 0 := by rw [qz_c24 hj, qz_nb0]
    have e2 : upd em' (nI j).toNatClampNeg 0 = upd em' j 0 := by rw [qz_c24 hj]
    have e3 : upd lv' (nI j).toNatClampNeg 0 = upd lv' j 0 := by rw [qz_c24 hj]
    refine br_f (nI_ge (b := 24) hj (by omega)) ⟨i, nm_r e1 ⟨i, nm_r e2 ⟨i, nm_r e3 (nm_r (nI_1 j) (hk (upd sn' j 0, upd em' j 0, upd lv' j 0) ⟨?_, ?_⟩))⟩⟩⟩
    · intro k hkk
      show upd sn' j 0 k = 0 ∧ upd em' j 0 k = 0 ∧ upd lv' j 0 k = 0
      by_cases z : k = j
      · rw [z, pk_us, pk_us, pk_us]
        exact ⟨rfl, rfl, rfl⟩
      · rw [pk_un z, pk_un z, pk_un z]
        exact h1 k (by omega)
    · intro k hkk
      show upd sn' j 0 k = sn k
      rw [pk_un (by omega)]
      exact h2 k hkk
theorem qx_begin {post : SX → Prop} (hc : 0 < c) (hsn : ∀ p, p < 24 → sn p = 0) (hlo : ∀ i, i < 96 → lo i = 0) (hem : ∀ p, p < 24 → em p = 0) (hb : ∀ p, sn p = 0 ∨ sn p = 1)
    (h : ∀ sn' lo' em' : Nat → Int32, qz_FI c K F S sn' em' lo' → post (nI c, fq, K, F, S, sn', lo', em', lv, Q, L)) : wpX_enterBegin post (nI c, fq, K, F, S, sn, lo, em, lv, Q, L) := by
  unfold wpX_enterBegin
  have nb : ∀ i, ¬ bt 0 i = true := by intro i; rw [b_0]; simp
  refine nm_e (nm_e ?_)
  refine loop_0 (fun n i (lo' : Nat → Int32) => wX_enterBegin_17 post (nI c) fq n (nI i) K F S (upd sn 0 (vp_nar .boolean 1)) lo' (upd em 0 15) lv Q L)
    (fun i lo' => (∀ j, j < i → lo' j = 16777216) ∧ (∀ j, i ≤ j → lo' j = lo j)) 4 lo ⟨fun j hj => by omega, fun _ _ => rfl⟩ ?_ ?_
  · rintro n lo' ⟨h1, h2⟩
    refine br_t (nI_le (Nat.le_refl 4) (by omega)) (h _ _ _ ?_)
    rw [qz_nb1]
    refine ⟨?_, ?_, ?_, ?_, ?_, ?_, ?_⟩
    · intro p hp z
      by_cases e : p = 0
      · rw [e]; exact qz_re0 hc
      · rw [pk_un e] at z
        exact absurd (hsn p hp) z
    · intro p o hp ho z
      by_cases e : p = 0
      · rw [e]; exact qz_R0 (Or.inl ⟨rfl, hc⟩)
      · rw [pk_un e, hem p hp] at z
        exact absurd z (nb o)
    · intro p r l hp hr z
      by_cases e : p = 0
      · rw [e, h1 (0 * 4 + r) (by omega), qz_b24] at z
        rw [e, z]
        exact qz_ho_0 hr hc
      · rw [h2 (p * 4 + r) (by omega), hlo (p * 4 + r) (by omega)] at z
        exact absurd z (nb l)
    · rw [pk_us]; decide
    · intro o ho
      rw [pk_us]
      exact (by decide +kernel : ∀ o, o < 4 → bt 15 o = true) o ho
    · intro r hr
      rw [h1 r hr, qz_b24]
    · intro p
      by_cases e : p = 0
      · rw [e, pk_us]; exact Or.inr rfl
      · rw [pk_un e]; exact hb p
  · rintro n j lo' hj ⟨h1, h2⟩ hk
    refine br_f (nI_ge (b := 4) hj (by omega)) ⟨vp_in_nI (by omega) (by omega), nm_e (nm_r (nI_1 j) (hk _ ⟨?_, ?_⟩))⟩
    · intro k hkk
      rw [nI_clamp (by omega)]
      by_cases z : k = j
      · rw [z, pk_us]
      · rw [pk_un z]; exact h1 k (by omega)
    · intro k hkk
      rw [nI_clamp (by omega), pk_un (by omega)]
      exact h2 k (by omega)
end
/-- the forward sets before and after, with the flag: nothing changed and C holds, or something grew -/
def qz_GX (sn em lo : Nat → Int32) (g : Int32) (sn' em' lo' : Nat → Int32) (C : Prop) : Prop := (g = 0 ∧ sn' = sn ∧ em' = em ∧ lo' = lo ∧ C) ∨ (g = 1 ∧ qz_mu sn em lo < qz_mu sn' em' lo')
theorem qz_GX_01 {sn em lo : Nat → Int32} {g : Int32} {sn' em' lo' : Nat → Int32} {C : Prop} (h : qz_GX sn em lo g sn' em' lo' C) : g = 0 ∨ g = 1 := by
  rcases h with h | h
  · exact Or.inl h.1
  · exact Or.inr h.1
section
variable {c : Nat} {fq : Int32} {K F S sn lo em lv Q L : Nat → Int32}
theorem qx_pass60 {post : Int32 → SX → Prop} {p q : Nat} (hc : c ≤ 24) (V : qz_va K F S) (hp : qz_re c K F p) (e : qz_nx c K F p q)
    (h : ∀ g sn' lo' em', qz_FI c K F S sn' em' lo' → qz_GX sn em lo g sn' em' lo' (qz_cl K F S sn em lo p q) → post g (nI c, fq, K, F, S, sn', lo', em', lv, Q, L)) :
    ∀ d r, r + d = 4 → ∀ g sn' lo' em', qz_FI c K F S sn' em' lo' → qz_GX sn em lo g sn' em' lo' (¬ sn q = 0 ∧ (∀ o, o < 4 → qz_ea K F em p o → bt (em q) o = true) ∧ (∀ r', r' < r → ∀ l, qz_la K F S lo p r' l → bt (lo (q * 4 + r')) l = true)) → wX_passTo_60 post (nI p) (nI q) (nI c) fq (d + 1) g (nI r) K F S sn' lo' em' lv Q L := by
  have hp24 : p < 24 := by have := qz_re_lt hp; omega
  have hq24 : q < 24 := by have := e.1; omega
  intro d
  induction d with
  | zero =>
    intro r hr g sn' lo' em' I G
    have : r = 4 := by omega
    subst this
    exact br_t (nI_le (Nat.le_refl 4) (by omega)) ⟨qz_nw (qz_GX_01 G), h _ _ _ _ I G⟩
  | succ d ih =>
    intro r hr g sn' lo' em' I G
    have hr4 : r < 4 := by omega
    refine br_f (nI_ge (b := 4) hr4 (by omega)) (nm_r (qz_x4 q r) ⟨vp_in_nI (by omega) (by omega), qx_loans hp24 hr4 V (fun x hx => nm_e ⟨vp_in_nI (by omega) (by omega), ?_⟩)⟩)
    rw [nI_clamp (by omega)]
    refine br_c (fun same => nm_r (nI_1 r) (ih (r + 1) (by omega) g sn' lo' em' I ?_)) (fun diff => ⟨vp_in_nI (by omega) (by omega), nm_e (nm_r (nI_1 r) (ih (r + 1) (by omega) 1 sn' _ em' ?_ ?_))⟩)
    · rcases G with ⟨g0, e1, e2, e3, c1, c2, c3⟩ | G
      · subst e1
        subst e2
        subst e3
        refine Or.inl ⟨g0, rfl, rfl, rfl, c1, c2, ?_⟩
        intro r' hr' l hl
        by_cases z : r' = r
        · subst z
          exact qz_or_e same ((hx l).mpr hl)
        · exact c3 r' (by omega) l hl
      · exact Or.inr G
    · exact qz_FI_lo hr4 I (fun l hl => qz_la_ho hc I hr4 hp e ((hx l).mp hl))
    · have gr := qz_mu_lo (sn := sn') (em := em') (lo := lo') (i := q * 4 + r) (x := x) (by omega) diff
      rcases G with ⟨_, e1, e2, e3, _⟩ | ⟨_, G⟩
      · subst e1
        subst e2
        subst e3
        exact Or.inr ⟨rfl, gr⟩
      · exact Or.inr ⟨rfl, by omega⟩
theorem qx_passTo {post : Int32 → SX → Prop} {p q : Nat} (hc : c ≤ 24) (V : qz_va K F S) (I : qz_FI c K F S sn em lo) (hp : qz_re c K F p) (e : qz_nx c K F p q)
    (h : ∀ g sn' lo' em', qz_FI c K F S sn' em' lo' → qz_GX sn em lo g sn' em' lo' (qz_cl K F S sn em lo p q) → post g (nI c, fq, K, F, S, sn', lo', em', lv, Q, L)) : wpX_passTo post (nI c, fq, K, F, S, sn, lo, em, lv, Q, L) (nI p) (nI q) := by
  have hp24 : p < 24 := by have := qz_re_lt hp; omega
  have hq24 : q < 24 := by have := e.1; omega
  have i := qz_i24 hq24
  have cq := qz_c24 hq24
  have I1 := qz_FI_sn I hq24 (qz_re1 hp e)
  have M : ∀ g : Int32, qz_GX sn em lo g (upd sn q 1) em lo (¬ sn q = 0) → wX_passTo_14 post (nI p) (nI q) g (nI c) fq K F S sn lo em lv Q L := by
    intro g G
    unfold wX_passTo_14
    rw [cq, qz_nb1]
    refine ⟨i, nm_e ⟨i, qx_empty hp24 V (fun x hx => nm_e ⟨i, br_c (fun same => ⟨5, ?_⟩) (fun diff => ⟨i, nm_e ⟨5, ?_⟩⟩)⟩)⟩⟩
    · refine qx_pass60 hc V hp e h 4 0 rfl g _ lo em I1 ?_
      rcases G with ⟨g0, e1, _, _, c1⟩ | G
      · exact Or.inl ⟨g0, e1, rfl, rfl, c1, fun o ho hh => qz_or_e same ((hx o ho).mpr hh), fun r' hr' => by omega⟩
      · exact Or.inr G
    · refine qx_pass60 hc V hp e h 4 0 rfl 1 _ lo _ (qz_FI_em I1 (fun o ho hb => qz_ea_em hc I1 ho hp e ((hx o ho).mp hb))) (Or.inr ⟨rfl, ?_⟩)
      have gr := qz_mu_em (sn := upd sn q 1) (lo := lo) hq24 diff
      rcases G with ⟨_, e1, _⟩ | ⟨_, G⟩
      · rw [e1] at gr ⊢
        exact gr
      · omega
  unfold wpX_passTo
  simp only [cq]
  refine ⟨i, br_c (fun z => M 1 (Or.inr ⟨rfl, qz_mu_sn hq24 z⟩)) (fun z => M 0 (Or.inl ⟨rfl, ?_, rfl, rfl, z⟩))⟩
  have s1 : sn q = 1 := by
    rcases I.2.2.2.2.2.2 q with w | w
    · exact absurd w z
    · exact w
  rw [← s1]
  exact qz_uu
theorem qx_passOn {post : Int32 → SX → Prop} {p : Nat} (hc : c ≤ 24) (V : qz_va K F S) (I : qz_FI c K F S sn em lo) (hp : qz_re c K F p)
    (h : ∀ g sn' lo' em', qz_FI c K F S sn' em' lo' → qz_GX sn em lo g sn' em' lo' (∀ q, qz_nx c K F p q → qz_cl K F S sn em lo p q) → post g (nI c, fq, K, F, S, sn', lo', em', lv, Q, L)) : wpX_passOn post (nI c, fq, K, F, S, sn, lo, em, lv, Q, L) (nI p) := by
  have hp24 : p < 24 := by have := qz_re_lt hp; omega
  unfold wpX_passOn
  refine qx_jump hp24 hc V (fun rj hj => qx_next hp24 hc (fun rn hn => ?_))
  -- the second half
  have H2 : ∀ g sn' lo' em', qz_FI c K F S sn' em' lo' → qz_GX sn em lo g sn' em' lo' (∀ q, qz_xj c K F p q → qz_cl K F S sn em lo p q) → wX_passOn_33 post (nI p) rn g (nI c) fq K F S sn' lo' em' lv Q L := by
    intro g sn' lo' em' I' G
    rcases hn with ⟨rfl, none⟩ | ⟨q, rfl, hq, uq⟩
    · refine br_t rfl ⟨qz_nw (qz_GX_01 G), h _ _ _ _ I' ?_⟩
      rcases G with ⟨g0, e1, e2, e3, c1⟩ | G
      · refine Or.inl ⟨g0, e1, e2, e3, fun q hq => ?_⟩
        rcases qz_nx_x.mp hq with w | w
        · exact c1 q w
        · exact absurd w (none q)
      · exact Or.inr G
    · have hqc := hq.1
      refine br_f (qz_n3 (by omega)) (qx_passTo hc V I' hp (qz_nx_x.mpr (Or.inr hq)) (fun g2 sn2 lo2 em2 I2 G2 => ?_))
      rcases G2 with ⟨g0, e1, e2, e3, c2⟩ | ⟨g1, G2⟩
      · subst e1
        subst e2
        subst e3
        refine br_t g0 ⟨qz_nw (qz_GX_01 G), h _ _ _ _ I' ?_⟩
        rcases G with ⟨g0, e1, e2, e3, c1⟩ | G
        · subst e1
          subst e2
          subst e3
          refine Or.inl ⟨g0, rfl, rfl, rfl, fun q' hq' => ?_⟩
          rcases qz_nx_x.mp hq' with w | w
          · exact c1 q' w
          · rw [uq q' w]; exact c2
        · exact Or.inr G
      · refine br_f (by rw [g1]; decide) (h _ _ _ _ I2 (Or.inr ⟨rfl, ?_⟩))
        rcases G with ⟨_, e1, e2, e3, _⟩ | ⟨_, G⟩
        · subst e1
          subst e2
          subst e3
          exact G2
        · omega
  rcases hj with ⟨rfl, none⟩ | ⟨q, rfl, hq, uq⟩
  · exact br_t rfl (H2 0 sn lo em I (Or.inl ⟨rfl, rfl, rfl, rfl, fun q hq => absurd hq (none q)⟩))
  · have hqc := hq.1
    refine br_f (qz_n3 (by omega)) (qx_passTo hc V I hp (qz_nx_x.mpr (Or.inl hq)) (fun g sn' lo' em' I' G => ?_))
    rcases G with ⟨g0, e1, e2, e3, c1⟩ | ⟨g1, G⟩
    · refine br_t g0 (H2 0 sn' lo' em' I' (Or.inl ⟨rfl, e1, e2, e3, fun q' hq' => ?_⟩))
      rw [uq q' hq']
      exact c1
    · exact br_f (by rw [g1]; decide) (H2 1 sn' lo' em' I' (Or.inr ⟨rfl, G⟩))
theorem qx_fwd19 {post : SX → Prop} {J : Int32 → Int32 → Int32 → Int32 → (Nat → Int32) → (Nat → Int32) → (Nat → Int32) → (Nat → Int32) → (Nat → Int32) → (Nat → Int32) → (Nat → Int32) → (Nat → Int32) → (Nat → Int32) → Prop} {w : Nat} (hc : c ≤ 24) (V : qz_va K F S)
    (h : ∀ g sn' lo' em', qz_FI c K F S sn' em' lo' → qz_GX sn em lo g sn' em' lo' (qz_FC c K F S sn em lo) → J g (nI (w + 1)) (nI c) fq K F S sn' lo' em' lv Q L) :
    ∀ d p, p + d = c → ∀ g sn' lo' em', qz_FI c K F S sn' em' lo' → qz_GX sn em lo g sn' em' lo' (∀ p', p' < p → ¬ sn p' = 0 → ∀ q, qz_nx c K F p' q → qz_cl K F S sn em lo p' q) → wX_findForward_19 post J (nI w) (d + 1) g (nI p) (nI c) fq K F S sn' lo' em' lv Q L := by
  intro d
  induction d with
  | zero =>
    intro p hp g sn' lo' em' I G
    have : p = c := by omega
    subst this
    exact br_t (nI_le (Nat.le_refl p) (by omega)) (nm_r (nI_1 w) (h _ _ _ _ I G))
  | succ d ih =>
    intro p hp g sn' lo' em' I G
    have hp24 : p < 24 := by omega
    refine br_f (nI_ge (b := c) (by omega) (by omega)) ⟨qz_i24 hp24, ?_⟩
    rw [qz_c24 hp24]
    refine br_c (fun z => nm_r (nI_1 p) (ih (p + 1) (by omega) g sn' lo' em' I ?_)) (fun z => qx_passOn hc V I (I.1 p hp24 z) (fun g2 sn2 lo2 em2 I2 G2 => ?_))
    · rcases G with ⟨g0, e1, e2, e3, c1⟩ | G
      · refine Or.inl ⟨g0, e1, e2, e3, fun p' hp' hs => ?_⟩
        by_cases w : p' = p
        · rw [w, ← e1] at hs; exact absurd z hs
        · exact c1 p' (by omega) hs
      · exact Or.inr G
    · rcases G2 with ⟨g0, e1, e2, e3, c2⟩ | ⟨g1, G2⟩
      · subst e1
        subst e2
        subst e3
        refine br_t g0 (nm_r (nI_1 p) (ih (p + 1) (by omega) g sn2 lo2 em2 I ?_))
        rcases G with ⟨g0, e1, e2, e3, c1⟩ | G
        · subst e1
          subst e2
          subst e3
          refine Or.inl ⟨g0, rfl, rfl, rfl, fun p' hp' hs => ?_⟩
          by_cases w : p' = p
          · rw [w]; exact c2
          · exact c1 p' (by omega) hs
        · exact Or.inr G
      · refine br_f (by rw [g1]; decide) (nm_r (nI_1 p) (ih (p + 1) (by omega) 1 sn2 lo2 em2 I2 (Or.inr ⟨rfl, ?_⟩)))
        rcases G with ⟨_, e1, e2, e3, _⟩ | ⟨_, G⟩
        · subst e1
          subst e2
          subst e3
          exact G2
        · omega
theorem qx_fwd4 {post : SX → Prop} (hc : c ≤ 24) (V : qz_va K F S)
    (h : ∀ sn' lo' em', qz_FS c K F S sn' em' lo' → post (nI c, fq, K, F, S, sn', lo', em', lv, Q, L)) :
    ∀ n w sn' lo' em', qz_FI c K F S sn' em' lo' → w ≤ qz_mu sn' em' lo' → 3865 - qz_mu sn' em' lo' ≤ n → wX_findForward_4 post (n + 1) 1 (nI w) (nI c) fq K F S sn' lo' em' lv Q L := by
  intro n
  induction n with
  | zero =>
    intro w sn' lo' em' I hw hn
    have := qz_mu_b sn' em' lo'
    omega
  | succ n ih =>
    intro w sn' lo' em' I hw hn
    have hb := qz_mu_b sn' em' lo'
    refine br_f (by decide) (br_f (nI_ge (b := 10000) (by omega) (by omega)) ⟨c + 1, ?_⟩)
    refine qx_fwd19 (sn := sn') (em := em') (lo := lo') hc V (fun g sn2 lo2 em2 I2 G => ?_) c 0 (by omega) 0 sn' lo' em' I (Or.inl ⟨rfl, rfl, rfl, rfl, fun p' hp' => by omega⟩)
    rcases G with ⟨g0, e1, e2, e3, c1⟩ | ⟨g1, G⟩
    · subst e1
      subst e2
      subst e3
      rw [g0]
      exact br_t rfl (h _ _ _ (qz_FS_of hc I2 c1))
    · rw [g1]
      exact ih (w + 1) sn2 lo2 em2 I2 (by omega) (by omega)
theorem qx_fwd {post : SX → Prop} (hc : c ≤ 24) (V : qz_va K F S) (I : qz_FI c K F S sn em lo)
    (h : ∀ sn' lo' em', qz_FS c K F S sn' em' lo' → post (nI c, fq, K, F, S, sn', lo', em', lv, Q, L)) : wpX_findForward post (nI c, fq, K, F, S, sn, lo, em, lv, Q, L) :=
  ⟨3866, qx_fwd4 hc V h 3865 0 sn lo em I (Nat.zero_le _) (Nat.sub_le _ _)⟩
end
end
section
/-! ===== X: the backward rounds, analyse ===== -/
section
variable {c : Nat} {fq : Int32} {K F S sn lo em lv Q L : Nat → Int32}
theorem qx_lb55 {post : Int32 → Prop} {p : Nat} {y : Int32} (hp : p < 24) (V : qz_va K F S)
    (h : ∀ x, (∀ i, bt x i = true ↔ (i < 4 ∧ ((K p = 7 ∧ F p = nI i) ∨ ∃ r', bt y r' = true ∧ qz_hr K F S p i r'))) → post x) :
    ∀ d r, r + d = 4 → ∀ x, (∀ i, bt x i = true ↔ (i < r ∧ ((K p = 7 ∧ F p = nI i) ∨ ∃ r', bt y r' = true ∧ qz_hr K F S p i r'))) → wX_liveBefore_55 post (nI p) y (nI c) fq K F S sn lo em lv Q L (d + 1) x (nI r) := by
  intro d
  induction d with
  | zero =>
    intro r hr x hx
    have : r = 4 := by omega
    subst this
    exact br_t (nI_le (Nat.le_refl 4) (by omega)) (h x hx)
  | succ d ih =>
    intro r hr x hx
    have hr4 : r < 4 := by omega
    have yes : ((K p = 7 ∧ F p = nI r) ∨ ∃ r', bt y r' = true ∧ qz_hr K F S p r r') → wX_liveBefore_84 post (wX_liveBefore_55 post (nI p) y (nI c) fq K F S sn lo em lv Q L (d + 1)) (nI p) y x (nI r) (nI c) fq K F S sn lo em lv Q L := by
      intro hy
      unfold wX_liveBefore_84
      refine nm_e (nm_r (nI_1 r) (ih (r + 1) (by omega) _ (fun i => ?_)))
      rw [b_or, Bool.or_eq_true, qz_bshA (by omega), hx i]
      constructor
      · rintro (⟨z, w⟩ | z)
        · exact ⟨by omega, w⟩
        · rw [z]; exact ⟨by omega, hy⟩
      · rintro ⟨z, w⟩
        by_cases e : i = r
        · exact Or.inr e
        · exact Or.inl ⟨by omega, w⟩
    refine br_f (nI_ge (b := 4) hr4 (by omega)) (qx_uses hp (fun k7 ef => br_f (by decide) (yes (Or.inl ⟨k7, ef⟩))) (fun nu => br_t rfl (qx_heirs hp hr4 V (fun m hm hh => ?_))))
    refine br_c (fun z => nm_r (nI_1 r) (ih (r + 1) (by omega) x (fun i => ?_))) (fun z => yes (Or.inr ?_))
    · rw [hx i]
      constructor
      · rintro ⟨a, b⟩
        exact ⟨by omega, b⟩
      · rintro ⟨a, b⟩
        refine ⟨?_, b⟩
        apply Classical.byContradiction
        intro w
        have ei : i = r := by omega
        subst ei
        rcases b with b | ⟨r', h1, h2⟩
        · exact nu b
        · have := qz_zero.mp z r' (by have := h2.1; omega)
          rw [b_and, h1, (hh r' h2.1).mpr h2] at this
          exact this rfl
    · apply Classical.byContradiction
      intro w
      apply z
      rw [qz_zero]
      intro j hj hb
      rw [b_and, Bool.and_eq_true] at hb
      by_cases h4 : 4 ≤ j
      · exact qz_hi4 m hm j hj h4 hb.1
      · exact w ⟨j, hb.2, (hh j (by omega)).mp hb.1⟩
theorem qx_lb {post : Int32 → Prop} {p : Nat} (hp : p < 24) (hc : c ≤ 24) (V : qz_va K F S)
    (h : ∀ x, (∀ i, bt x i = true ↔ (i < 4 ∧ qz_lb c K F S lv p i)) → post x) : wpX_liveBefore post (nI c, fq, K, F, S, sn, lo, em, lv, Q, L) (nI p) := by
  have nb : ∀ i, ¬ bt 0 i = true := by intro i; rw [b_0]; simp
  -- what y must be
  have H : ∀ y, (∀ r', bt y r' = true ↔ ∃ q, qz_nx c K F p q ∧ bt (lv q) r' = true) → ∃ n, wX_liveBefore_55 post (nI p) y (nI c) fq K F S sn lo em lv Q L n 0 0 := by
    intro y hy
    refine ⟨5, qx_lb55 hp V (fun x hx => h x (fun i => ?_)) 4 0 rfl 0 (fun i => ⟨fun z => absurd z (nb i), fun z => by omega⟩)⟩
    rw [hx i]
    unfold qz_lb
    constructor
    · rintro ⟨h4, a | ⟨r', a, b⟩⟩
      · exact ⟨h4, Or.inl a⟩
      · obtain ⟨q, e, f⟩ := (hy r').mp a
        exact ⟨h4, Or.inr ⟨q, r', e, b, f⟩⟩
    · rintro ⟨h4, a | ⟨q, r', e, b, f⟩⟩
      · exact ⟨h4, Or.inl a⟩
      · exact ⟨h4, Or.inr ⟨r', (hy r').mpr ⟨q, e, f⟩, b⟩⟩
  unfold wpX_liveBefore
  refine qx_jump hp hc V (fun rj hj => qx_next hp hc (fun rn hn => ?_))
  have H2 : ∀ y, (∀ r', bt y r' = true ↔ ∃ q, qz_xj c K F p q ∧ bt (lv q) r' = true) → wX_liveBefore_32 post (nI p) rn y (nI c) fq K F S sn lo em lv Q L := by
    intro y hy
    rcases hn with ⟨rfl, no⟩ | ⟨q, rfl, hq, uq⟩
    · refine br_t rfl (H y (fun r' => ?_))
      rw [hy r']
      constructor
      · rintro ⟨q, a, b⟩
        exact ⟨q, qz_nx_x.mpr (Or.inl a), b⟩
      · rintro ⟨q, a, b⟩
        rcases qz_nx_x.mp a with w | w
        · exact ⟨q, w, b⟩
        · exact absurd w (no q)
    · have hqc := hq.1
      refine br_f (qz_n3 (by omega)) ⟨qz_i24 (by omega), nm_e (H _ (fun r' => ?_))⟩
      rw [qz_c24 (by omega), b_or, Bool.or_eq_true, hy r']
      constructor
      · rintro (⟨q', a, b⟩ | b)
        · exact ⟨q', qz_nx_x.mpr (Or.inl a), b⟩
        · exact ⟨q, qz_nx_x.mpr (Or.inr hq), b⟩
      · rintro ⟨q', a, b⟩
        rcases qz_nx_x.mp a with w | w
        · exact Or.inl ⟨q', w, b⟩
        · rw [uq q' w] at b; exact Or.inr b
  rcases hj with ⟨rfl, no⟩ | ⟨q, rfl, hq, uq⟩
  · exact br_t rfl (H2 0 (fun r' => ⟨fun z => absurd z (nb r'), fun ⟨q, a, _⟩ => absurd a (no q)⟩))
  · have hqc := hq.1
    refine br_f (qz_n3 (by omega)) ⟨qz_i24 (by omega), nm_e (H2 _ (fun r' => ?_))⟩
    rw [qz_c24 (by omega), b_or, Bool.or_eq_true]
    constructor
    · rintro (z | b)
      · exact absurd z (nb r')
      · exact ⟨q, hq, b⟩
    · rintro ⟨q', a, b⟩
      rw [uq q' a] at b
      exact Or.inr b
def qz_ml (lv : Nat → Int32) : Nat := qz_sm (fun p => qz_pc (lv p)) 24
theorem qz_ml_b (lv : Nat → Int32) : qz_ml lv ≤ 768 := by
  have b := qz_sm_b (f := fun p => qz_pc (lv p)) (B := 32) 24 (fun i _ => qz_pc_le32 _)
  unfold qz_ml
  omega
def qz_GL (lv : Nat → Int32) (g : Int32) (lv' : Nat → Int32) (C : Prop) : Prop := (g = 0 ∧ lv' = lv ∧ C) ∨ (g = 1 ∧ qz_ml lv < qz_ml lv')
theorem qx_live24 {post : SX → Prop} {J : Int32 → Int32 → (Nat → Int32) → (Nat → Int32) → (Nat → Int32) → (Nat → Int32) → (Nat → Int32) → (Nat → Int32) → (Nat → Int32) → (Nat → Int32) → (Nat → Int32) → Prop} {w : Nat} (hc : c ≤ 24) (V : qz_va K F S)
    (h : ∀ g lv', qz_LI c K F S lv' → qz_GL lv g lv' (qz_LC c K F S lv) → J g (nI (w + 1)) K F S sn lo em lv' Q L) :
    ∀ d, d ≤ c → ∀ g lv', qz_LI c K F S lv' → qz_GL lv g lv' (∀ p, d ≤ p → p < c → ∀ r, r < 4 → qz_lb c K F S lv p r → bt (lv p) r = true) → wX_findLive_24 post J (nI w) (nI c) fq (d + 1) g (nI d + (-1)) K F S sn lo em lv' Q L := by
  intro d
  induction d with
  | zero =>
    intro _ g lv' I G
    refine br_t (by decide) (nm_r (nI_1 w) (h _ _ I ?_))
    rcases G with ⟨g0, e1, c1⟩ | G
    · exact Or.inl ⟨g0, e1, fun p hp => c1 p (Nat.zero_le p) hp⟩
    · exact Or.inr G
  | succ d ih =>
    intro hd g lv' I G
    have hd24 : d < 24 := by omega
    rw [pk_m1]
    refine br_f (nI_pos (by omega)) (qx_lb hd24 hc V (fun x hx => ⟨qz_i24 hd24, ?_⟩))
    rw [qz_c24 hd24]
    have up := qz_LI_up hc (p := d) (by omega) I hx
    refine br_c (fun same => nm_e (ih (by omega) g lv' I ?_)) (fun diff => ⟨qz_i24 hd24, nm_e (nm_e (ih (by omega) 1 _ up.1 ?_))⟩)
    · rcases G with ⟨g0, e1, c1⟩ | G
      · subst e1
        refine Or.inl ⟨g0, rfl, fun p hp hpc r hr hl => ?_⟩
        by_cases z : p = d
        · subst z
          rw [← same]
          exact (hx r).mpr ⟨hr, hl⟩
        · exact c1 p (by omega) hpc r hr hl
      · exact Or.inr G
    · have gr : qz_ml lv' < qz_ml (upd lv' d x) := qz_sm_up (f := qz_pc) hd24 (fun i hi => pk_un hi) (by rw [pk_us]; exact up.2 diff)
      rcases G with ⟨_, e1, _⟩ | ⟨_, G⟩
      · subst e1
        exact Or.inr ⟨rfl, gr⟩
      · exact Or.inr ⟨rfl, by omega⟩
theorem qx_live4 {post : SX → Prop} (hc : c ≤ 24) (V : qz_va K F S) (h : ∀ lv', qz_LS c K F S lv' → post (nI c, fq, K, F, S, sn, lo, em, lv', Q, L)) :
    ∀ n w lv', qz_LI c K F S lv' → w ≤ qz_ml lv' → 769 - qz_ml lv' ≤ n → wX_findLive_4 post (nI c) fq (n + 1) 1 (nI w) K F S sn lo em lv' Q L := by
  intro n
  induction n with
  | zero =>
    intro w lv' I hw hn
    have := qz_ml_b lv'
    omega
  | succ n ih =>
    intro w lv' I hw hn
    have hb := qz_ml_b lv'
    refine br_f (by decide) (br_f (nI_ge (b := 10000) (by omega) (by omega)) (nm_r (Int32.sub_eq_add_neg _ _) ⟨c + 1, ?_⟩))
    refine qx_live24 (lv := lv') hc V (fun g lv2 I2 G => ?_) c (Nat.le_refl c) 0 lv' I (Or.inl ⟨rfl, rfl, fun p hp hpc => by omega⟩)
    rcases G with ⟨g0, e1, c1⟩ | ⟨g1, G⟩
    · subst e1
      rw [g0]
      exact br_t rfl (h _ (qz_LS_of hc I2 c1))
    · rw [g1]
      exact ih (w + 1) lv2 I2 (by omega) (by omega)
theorem qx_live {post : SX → Prop} (hc : c ≤ 24) (V : qz_va K F S) (I : qz_LI c K F S lv) (h : ∀ lv', qz_LS c K F S lv' → post (nI c, fq, K, F, S, sn, lo, em, lv', Q, L)) : wpX_findLive post (nI c, fq, K, F, S, sn, lo, em, lv, Q, L) :=
  ⟨770, qx_live4 hc V h 769 0 lv I (Nat.zero_le _) (Nat.sub_le _ _)⟩
/-- after analyse the four findings are the least sets -/
theorem qx_ana {post : SX → Prop} (hc : c ≤ 24) (V : qz_va K F S) (hb : ∀ p, sn p = 0 ∨ sn p = 1)
    (h : ∀ sn' lo' em' lv', qz_FS c K F S sn' em' lo' → qz_LS c K F S lv' → post (nI c, fq, K, F, S, sn', lo', em', lv', Q, L)) : wpX_analyse post (nI c, fq, K, F, S, sn, lo, em, lv, Q, L) := by
  have nb : ∀ i, ¬ bt 0 i = true := by intro i; rw [b_0]; simp
  unfold wpX_analyse
  refine qx_clear (fun sn' lo' em' lv' h1 h2 h3 h4 h5 => ?_)
  have hb' : ∀ p, sn' p = 0 ∨ sn' p = 1 := by
    intro p
    by_cases z : p < 24
    · exact Or.inl (h1 p z)
    · rw [h5 p (by omega)]; exact hb p
  refine pk_le c 0 (fun z => h _ _ _ _ ?_ ?_) (fun z => ?_)
  · have c0 : c = 0 := by omega
    subst c0
    refine ⟨fun p hp => ⟨fun w => absurd (h1 p hp) w, fun w => ?_⟩, fun p o hp ho => ⟨fun w => ?_, fun w => ?_⟩, fun p r l hp hr => ⟨fun w => ?_, fun w => ?_⟩, hb'⟩
    · have := qz_re_lt w; omega
    · rw [h3 p hp] at w; exact absurd w (nb o)
    · have := qz_re_lt (qz_em_re w); omega
    · rw [h2 _ (by omega)] at w; exact absurd w (nb l)
    · have := (qz_ho_f w).1; omega
  · have c0 : c = 0 := by omega
    subst c0
    intro p r hp hr
    refine ⟨fun w => ?_, fun w => ?_⟩
    · rw [h4 p hp] at w; exact absurd w (nb r)
    · have := (qz_lv_f w).1; omega
  · refine qx_begin z h1 h2 h3 hb' (fun sn2 lo2 em2 I => ?_)
    refine qx_fwd hc V I (fun sn3 lo3 em3 FS => ?_)
    refine qx_live hc V ?_ (fun lv4 LS => h _ _ _ _ FS LS)
    exact ⟨fun p i hp w => by rw [h4 p hp] at w; exact absurd w (nb i), fun p i hp w => by rw [h4 p hp] at w; exact absurd w (nb i)⟩
end
end
section
/-! ===== X: the queries, each against the least sets ===== -/
section
variable (c : Nat) (K F S : Nat → Int32)
def qz_ow (p : Nat) : Int32 := if 2 < K p then S p else F p
def qz_ds (p b : Nat) : Prop := ((K p = 0 ∨ K p = 2 ∨ K p = 4) ∨ ((K p = 1 ∨ K p = 3) ∧ K b = 4)) ∧ qz_mk K b ∧ qz_ow K F S p = qz_ow K F S b
def qz_sp (b p : Nat) : Prop := ∃ r, r < 4 ∧ qz_ho c K F S b p r ∧ qz_lv c K F S p r
def qz_cf (b p : Nat) : Prop := qz_ds K F S p b ∧ qz_sp c K F S b p
def qz_ns (p : Nat) : Prop := (K p = 1 ∨ K p = 2 ∨ K p = 3 ∨ K p = 4) ∧ ∃ o, o < 4 ∧ qz_ow K F S p = nI o ∧ qz_em c K F o p
def qz_id (p : Nat) : Prop := K p = 7 ∧ ∃ r, r < 4 ∧ F p = nI r ∧ qz_ho c K F S 24 p r
def qz_ft (p : Nat) : Prop := qz_ns c K F S p ∨ qz_id c K F S p ∨ ∃ b, b < c ∧ qz_cf c K F S b p
end
/-- k of the places below n are P -/
def qz_cn (P : Nat → Prop) : Nat → Nat → Prop
  | 0 => fun k => k = 0
  | n + 1 => fun k => (P n ∧ ∃ j, k = j + 1 ∧ qz_cn P n j) ∨ (¬ P n ∧ qz_cn P n k)
theorem qz_cn_u {P : Nat → Prop} : ∀ n k k', qz_cn P n k → qz_cn P n k' → k = k' := by
  intro n
  induction n with
  | zero =>
    intro k k' h h'
    have h1 : k = 0 := h
    have h2 : k' = 0 := h'
    omega
  | succ n ih =>
    intro k k' h h'
    rcases h with ⟨p, j, e, h⟩ | ⟨p, h⟩
    · rcases h' with ⟨_, j', e', h'⟩ | ⟨p', _⟩
      · have := ih j j' h h'
        omega
      · exact absurd p p'
    · rcases h' with ⟨p', _⟩ | ⟨_, h'⟩
      · exact absurd p' p
      · exact ih k k' h h'
theorem qz_cn_le {P : Nat → Prop} : ∀ n k, qz_cn P n k → k ≤ n := by
  intro n
  induction n with
  | zero =>
    intro k h
    have h1 : k = 0 := h
    omega
  | succ n ih =>
    intro k h
    rcases h with ⟨p, j, e, h⟩ | ⟨p, h⟩
    · have := ih j h
      omega
    · have := ih k h
      omega
theorem qz_cn_x {P P' : Nat → Prop} : ∀ n k, (∀ i, i < n → (P i ↔ P' i)) → qz_cn P n k → qz_cn P' n k := by
  intro n
  induction n with
  | zero => intro k _ h; exact h
  | succ n ih =>
    intro k hp h
    have hn := hp n (by omega)
    rcases h with ⟨p, j, e, h⟩ | ⟨p, h⟩
    · exact Or.inl ⟨hn.mp p, j, e, ih j (fun i hi => hp i (by omega)) h⟩
    · exact Or.inr ⟨fun z => p (hn.mpr z), ih k (fun i hi => hp i (by omega)) h⟩
theorem qz_cn_m {P : Nat → Prop} {n k : Nat} : ∀ d, (∀ i, n ≤ i → ¬ P i) → qz_cn P n k → qz_cn P (n + d) k := by
  intro d
  induction d with
  | zero => intro _ h; exact h
  | succ d ih =>
    intro hp h
    exact Or.inr ⟨hp (n + d) (by omega), ih hp h⟩
theorem qz_a24 (x : Int32) : x &&& 16777216 = 0 ↔ ¬ bt x 24 = true := by
  rw [qz_zero]
  constructor
  · intro h z
    have := h 24 (by omega)
    rw [b_and, z, (qz_b24 24).mpr rfl] at this
    exact this rfl
  · intro h i _ z
    rw [b_and, Bool.and_eq_true, qz_b24] at z
    rw [z.2] at z
    exact h z.1
theorem qz_n24 (x : Int32) (i : Nat) (hi : i < 32) : bt (x &&& (-16777217)) i = true ↔ (bt x i = true ∧ i ≠ 24) := by
  rw [b_and, Bool.and_eq_true]
  have := (by decide +kernel : ∀ i, i < 32 → (bt (-16777217) i = true ↔ i ≠ 24)) i hi
  rw [this]
section
variable {c : Nat} {fq : Int32} {K F S sn lo em lv Q L : Nat → Int32} {post : Int32 → Prop}
theorem qx_free {p r : Nat} (hp : p < 24) (hr : r < 4) (FS : qz_FS c K F S sn em lo) (h1 : qz_ho c K F S 24 p r → post 1) (h0 : ¬ qz_ho c K F S 24 p r → post 0) : wpX_mayBeFree post (nI c, fq, K, F, S, sn, lo, em, lv, Q, L) (nI p) (nI r) := by
  unfold wpX_mayBeFree
  have f := FS.2.2.1 p r 24 hp hr
  rw [qz_x4]
  simp only [nI_clamp (show p * 4 + r < 2 ^ 31 by omega)]
  refine ⟨vp_in_nI (by omega) (by omega), br_c (fun z => h0 (fun w => ?_)) (fun z => h1 ?_)⟩
  · exact (qz_a24 _).mp z (f.mpr w)
  · apply Classical.byContradiction
    intro w
    exact z ((qz_a24 _).mpr (fun y => w (f.mp y)))
theorem qx_isLive {p r : Nat} (hp : p < 24) (hr : r < 4) (LS : qz_LS c K F S lv) (h1 : qz_lv c K F S p r → post 1) (h0 : ¬ qz_lv c K F S p r → post 0) : wpX_isLive post (nI c, fq, K, F, S, sn, lo, em, lv, Q, L) (nI p) (nI r) := by
  unfold wpX_isLive
  have f := LS p r hp hr
  simp only [qz_c24 hp]
  refine ⟨qz_i24 hp, br_c (fun z => h0 (fun w => ?_)) (fun z => h1 ?_)⟩
  · exact (qz_b1z _ r (by omega)).mp z (f.mpr w)
  · apply Classical.byContradiction
    intro w
    exact z ((qz_b1z _ r (by omega)).mpr (fun y => w (f.mp y)))
theorem qx_writes {p : Nat} (hp : p < 24) (h1 : (K p = 0 ∨ K p = 2 ∨ K p = 4) → post 1) (h0 : ¬ (K p = 0 ∨ K p = 2 ∨ K p = 4) → post 0) : wpX_writesOwner post (nI c, fq, K, F, S, sn, lo, em, lv, Q, L) (nI p) := by
  unfold wpX_writesOwner
  have i := qz_i24 hp
  simp only [qz_c24 hp]
  exact ⟨i, br_c (fun z => h1 (Or.inl z)) (fun a => ⟨i, br_c (fun z => h1 (Or.inr (Or.inl z))) (fun b => ⟨i, br_c (fun z => h1 (Or.inr (Or.inr z))) (fun d => h0 (fun z => by
    rcases z with z | z | z
    · exact a z
    · exact b z
    · exact d z))⟩)⟩)⟩
theorem qx_reads {p : Nat} (hp : p < 24) (h1 : (K p = 1 ∨ K p = 3) → post 1) (h0 : ¬ (K p = 1 ∨ K p = 3) → post 0) : wpX_readsOwner post (nI c, fq, K, F, S, sn, lo, em, lv, Q, L) (nI p) := by
  unfold wpX_readsOwner
  have i := qz_i24 hp
  simp only [qz_c24 hp]
  exact ⟨i, br_c (fun z => h1 (Or.inl z)) (fun a => ⟨i, br_c (fun z => h1 (Or.inr z)) (fun b => h0 (fun z => by
    rcases z with z | z
    · exact a z
    · exact b z))⟩)⟩
theorem qx_makes {p : Nat} (hp : p < 24) (h1 : qz_mk K p → post 1) (h0 : ¬ qz_mk K p → post 0) : wpX_makesLoan post (nI c, fq, K, F, S, sn, lo, em, lv, Q, L) (nI p) := by
  unfold wpX_makesLoan
  have i := qz_i24 hp
  simp only [qz_c24 hp]
  exact ⟨i, br_c (fun z => h1 (Or.inl z)) (fun a => ⟨i, br_c (fun z => h1 (Or.inr z)) (fun b => h0 (fun z => by
    rcases z with z | z
    · exact a z
    · exact b z))⟩)⟩
theorem qx_owner {p : Nat} (hp : p < 24) (h : post (qz_ow K F S p)) : wpX_ownerAt post (nI c, fq, K, F, S, sn, lo, em, lv, Q, L) (nI p) := by
  unfold wpX_ownerAt
  have i := qz_i24 hp
  simp only [qz_c24 hp]
  unfold qz_ow at h
  refine ⟨i, br_c (fun z => ⟨i, ?_⟩) (fun z => ⟨i, ?_⟩)⟩
  · rw [if_pos z] at h; exact h
  · rw [if_neg z] at h; exact h
theorem qx_disturbs {p b : Nat} (hp : p < 24) (hb : b < 24) (h1 : qz_ds K F S p b → post 1) (h0 : ¬ qz_ds K F S p b → post 0) : wpX_disturbs post (nI c, fq, K, F, S, sn, lo, em, lv, Q, L) (nI p) (nI b) := by
  have i := qz_i24 hb
  have no : ¬ ((K p = 0 ∨ K p = 2 ∨ K p = 4) ∨ ((K p = 1 ∨ K p = 3) ∧ K b = 4)) → wX_disturbs_30 post (nI p) (nI b) (nI c) fq K F S sn lo em lv Q L := by
    intro z
    exact br_t rfl (h0 (fun w => z w.1))
  have yes : ((K p = 0 ∨ K p = 2 ∨ K p = 4) ∨ ((K p = 1 ∨ K p = 3) ∧ K b = 4)) → wX_disturbs_26 post (nI p) (nI b) (nI c) fq K F S sn lo em lv Q L := by
    intro z
    refine br_f (by decide) (qx_makes hb (fun m => br_f (by decide) (qx_owner hp (qx_owner hb (br_c (fun e => h1 ⟨z, m, e⟩) (fun e => h0 (fun w => e w.2.2)))))) (fun m => br_t rfl (h0 (fun w => m w.2.1))))
  unfold wpX_disturbs
  refine qx_writes hp (fun w => br_f (by decide) (yes (Or.inl w))) (fun nw => br_t rfl (qx_reads hp (fun r => br_f (by decide) ?_) (fun nr => br_t rfl (no ?_))))
  · rw [qz_c24 hb]
    refine ⟨i, br_c (fun k4 => yes (Or.inr ⟨r, k4⟩)) (fun k4 => no ?_)⟩
    rintro (z | z)
    · exact nw z
    · exact k4 z.2
  · rintro (z | z)
    · exact nw z
    · exact nr z.1
theorem qx_sp2 {b p : Nat} (hp : p < 24) (hb : b < 24) (FS : qz_FS c K F S sn em lo) (LS : qz_LS c K F S lv) (h1 : qz_sp c K F S b p → post 1) (h0 : ¬ qz_sp c K F S b p → post 0) :
    ∀ d r, r + d = 4 → (∀ r', r' < r → ¬ (qz_ho c K F S b p r' ∧ qz_lv c K F S p r')) → wX_isInSpan_2 post (nI b) (nI p) (nI c) fq K F S sn lo em lv Q L (d + 1) (nI r) := by
  intro d
  induction d with
  | zero =>
    intro r hr hn
    have : r = 4 := by omega
    subst this
    refine br_t (nI_le (Nat.le_refl 4) (by omega)) (h0 ?_)
    rintro ⟨r, hr, hh⟩
    exact hn r hr hh
  | succ d ih =>
    intro r hr hn
    have hr4 : r < 4 := by omega
    have f := FS.2.2.1 p r b hp hr4
    have next : ¬ (qz_ho c K F S b p r ∧ qz_lv c K F S p r) → wX_isInSpan_2 post (nI b) (nI p) (nI c) fq K F S sn lo em lv Q L (d + 1) (nI (r + 1)) := by
      intro z
      refine ih (r + 1) (by omega) (fun r' hr' => ?_)
      by_cases e : r' = r
      · rw [e]; exact z
      · exact hn r' (by omega)
    refine br_f (nI_ge (b := 4) hr4 (by omega)) ?_
    rw [qz_x4, nI_clamp (by omega)]
    refine ⟨vp_in_nI (by omega) (by omega), br_c (fun z => ?_) (fun z => ?_)⟩
    · exact br_t rfl (nm_r (nI_1 r) (next (fun w => (qz_b1z _ b (by omega)).mp z (f.mpr w.1))))
    · have hb1 : qz_ho c K F S b p r := by
        apply Classical.byContradiction
        intro w
        exact z ((qz_b1z _ b (by omega)).mpr (fun y => w (f.mp y)))
      exact br_f (by decide) (qx_isLive hp hr4 LS (fun l => br_f (by decide) (h1 ⟨r, hr4, hb1, l⟩)) (fun l => br_t rfl (nm_r (nI_1 r) (next (fun w => l w.2)))))
theorem qx_span1 {b p : Nat} (hp : p < 24) (hb : b < 24) (FS : qz_FS c K F S sn em lo) (LS : qz_LS c K F S lv) (h1 : qz_sp c K F S b p → post 1) (h0 : ¬ qz_sp c K F S b p → post 0) : wpX_isInSpan post (nI c, fq, K, F, S, sn, lo, em, lv, Q, L) (nI b) (nI p) :=
  ⟨5, qx_sp2 hp hb FS LS h1 h0 4 0 rfl (fun r' hr' => by omega)⟩
theorem qx_conf {b p : Nat} (hp : p < 24) (hb : b < 24) (FS : qz_FS c K F S sn em lo) (LS : qz_LS c K F S lv) (h1 : qz_cf c K F S b p → post 1) (h0 : ¬ qz_cf c K F S b p → post 0) : wpX_isInConflict post (nI c, fq, K, F, S, sn, lo, em, lv, Q, L) (nI b) (nI p) := by
  unfold wpX_isInConflict
  exact qx_disturbs hp hb (fun d => br_f (by decide) (qx_span1 hp hb FS LS (fun s => br_f (by decide) (h1 ⟨d, s⟩)) (fun s => br_t rfl (h0 (fun z => s z.2))))) (fun d => br_t rfl (h0 (fun z => d z.1)))
theorem qx_cs4 {p : Nat} (hc : c ≤ 24) (hp : p < 24) (FS : qz_FS c K F S sn em lo) (LS : qz_LS c K F S lv) (h : ∀ x, (∀ i, bt x i = true ↔ (i < c ∧ qz_cf c K F S i p)) → post x) :
    ∀ d b, b + d = c → ∀ x, (∀ i, bt x i = true ↔ (i < b ∧ qz_cf c K F S i p)) → wX_conflictSet_4 post (nI p) (nI c) fq K F S sn lo em lv Q L (d + 1) x (nI b) := by
  intro d
  induction d with
  | zero =>
    intro b hb x hx
    have : b = c := by omega
    subst this
    exact br_t (nI_le (Nat.le_refl b) (by omega)) (h x hx)
  | succ d ih =>
    intro b hb x hx
    refine br_f (nI_ge (b := c) (by omega) (by omega)) (qx_conf hp (by omega) FS LS (fun cf => br_f (by decide) (nm_e (nm_r (nI_1 b) (ih (b + 1) (by omega) _ (fun i => ?_))))) (fun cf => br_t rfl (nm_r (nI_1 b) (ih (b + 1) (by omega) x (fun i => ?_)))))
    · rw [b_or, Bool.or_eq_true, qz_bshA (by omega), hx i]
      constructor
      · rintro (⟨z, w⟩ | z)
        · exact ⟨by omega, w⟩
        · rw [z]; exact ⟨by omega, cf⟩
      · rintro ⟨z, w⟩
        by_cases e : i = b
        · exact Or.inr e
        · exact Or.inl ⟨by omega, w⟩
    · rw [hx i]
      constructor
      · rintro ⟨z, w⟩
        exact ⟨by omega, w⟩
      · rintro ⟨z, w⟩
        refine ⟨?_, w⟩
        apply Classical.byContradiction
        intro y
        have e : i = b := by omega
        rw [e] at w
        exact cf w
theorem qx_cset {p : Nat} (hc : c ≤ 24) (hp : p < 24) (FS : qz_FS c K F S sn em lo) (LS : qz_LS c K F S lv) (h : ∀ x, (∀ i, bt x i = true ↔ (i < c ∧ qz_cf c K F S i p)) → post x) : wpX_conflictSet post (nI c, fq, K, F, S, sn, lo, em, lv, Q, L) (nI p) := by
  refine ⟨c + 1, qx_cs4 hc hp FS LS h c 0 (by omega) 0 (fun i => ?_)⟩
  rw [b_0]
  exact ⟨fun z => (by cases z), fun z => by omega⟩
theorem qz_ow_o (V : qz_va K F S) {p : Nat} (h : K p = 0 ∨ K p = 1 ∨ K p = 2 ∨ K p = 3 ∨ K p = 4) : ∃ o, o < 4 ∧ qz_ow K F S p = nI o := by
  unfold qz_ow
  rcases h with h | h | h | h | h
  · obtain ⟨a, ha, e⟩ := qz_va_a V (Or.inl h)
    rw [h, if_neg (by decide)]
    exact ⟨a, ha, e⟩
  · obtain ⟨a, ha, e⟩ := qz_va_a V (Or.inr (Or.inl h))
    rw [h, if_neg (by decide)]
    exact ⟨a, ha, e⟩
  · obtain ⟨a, ha, e⟩ := qz_va_a V (Or.inr (Or.inr (Or.inl h)))
    rw [h, if_neg (by decide)]
    exact ⟨a, ha, e⟩
  · obtain ⟨_, a, ha, e⟩ := qz_va_b V (Or.inl h)
    rw [h, if_pos (by decide)]
    exact ⟨a, ha, e⟩
  · obtain ⟨_, a, ha, e⟩ := qz_va_b V (Or.inr (Or.inl h))
    rw [h, if_pos (by decide)]
    exact ⟨a, ha, e⟩
theorem qx_unset {p : Nat} (hp : p < 24) (V : qz_va K F S) (FS : qz_FS c K F S sn em lo) (h1 : qz_ns c K F S p → post 1) (h0 : ¬ qz_ns c K F S p → post 0) : wpX_isUnset post (nI c, fq, K, F, S, sn, lo, em, lv, Q, L) (nI p) := by
  have i := qz_i24 hp
  have yes : (K p = 1 ∨ K p = 2 ∨ K p = 3 ∨ K p = 4) → wX_isUnset_28 post (nI p) (nI c) fq K F S sn lo em lv Q L := by
    intro hk
    obtain ⟨o, ho, eo⟩ := qz_ow_o V (Or.inr hk)
    have f := FS.2.1 p o hp ho
    unfold wX_isUnset_28 wX_isUnset_33
    rw [qz_c24 hp]
    refine br_f (by decide) ⟨i, qx_owner hp ?_⟩
    rw [eo]
    refine br_c (fun z => h0 (fun w => ?_)) (fun z => h1 ⟨hk, o, ho, eo, ?_⟩)
    · obtain ⟨_, o', ho', eo', w⟩ := w
      have : o = o' := (qz_ne ho ho').mp (eo.symm.trans eo')
      rw [← this] at w
      exact (qz_b1z _ o (by omega)).mp z (f.mpr w)
    · apply Classical.byContradiction
      intro w
      exact z ((qz_b1z _ o (by omega)).mpr (fun y => w (f.mp y)))
  unfold wpX_isUnset
  refine qx_reads hp (fun r => br_f (by decide) (yes ?_)) (fun nr => br_t rfl ?_)
  · rcases r with r | r
    · exact Or.inl r
    · exact Or.inr (Or.inr (Or.inl r))
  · rw [qz_c24 hp]
    refine ⟨i, br_c (fun k4 => yes (Or.inr (Or.inr (Or.inr k4)))) (fun k4 => ⟨i, br_c (fun k2 => yes (Or.inr (Or.inl k2))) (fun k2 => br_t rfl (h0 ?_))⟩)⟩
    rintro ⟨z | z | z | z, _⟩
    · exact nr (Or.inl z)
    · exact k2 z
    · exact nr (Or.inr z)
    · exact k4 z
theorem qx_idle {p : Nat} (hp : p < 24) (V : qz_va K F S) (FS : qz_FS c K F S sn em lo) (h1 : qz_id c K F S p → post 1) (h0 : ¬ qz_id c K F S p → post 0) : wpX_isIdle post (nI c, fq, K, F, S, sn, lo, em, lv, Q, L) (nI p) := by
  have i := qz_i24 hp
  unfold wpX_isIdle
  simp only [qz_c24 hp]
  refine ⟨i, br_c (fun k7 => ⟨i, ?_⟩) (fun k7 => h0 (fun z => k7 z.1))⟩
  obtain ⟨a, ha, ea⟩ := qz_va_a V (Or.inr (Or.inr (Or.inr (Or.inl k7))))
  rw [ea]
  refine qx_free hp ha FS (fun f => br_f (by decide) (h1 ⟨k7, a, ha, ea, f⟩)) (fun f => br_t rfl (h0 (fun z => ?_)))
  obtain ⟨_, a', ha', ea', z⟩ := z
  have : a = a' := (qz_ne ha ha').mp (ea.symm.trans ea')
  rw [← this] at z
  exact f z
theorem qz_bz {x : Int32} {P : Nat → Prop} {c : Nat} (hc : c ≤ 24) (hx : ∀ i, bt x i = true ↔ (i < c ∧ P i)) : x = 0 ↔ ¬ ∃ b, b < c ∧ P b := by
  rw [qz_zero]
  constructor
  · rintro h ⟨b, hb, z⟩
    exact h b (by omega) ((hx b).mpr ⟨hb, z⟩)
  · intro h i _ z
    exact h ⟨i, (hx i).mp z⟩
theorem qx_faulty {p : Nat} (hc : c ≤ 24) (hp : p < 24) (V : qz_va K F S) (FS : qz_FS c K F S sn em lo) (LS : qz_LS c K F S lv) (h1 : qz_ft c K F S p → post 1) (h0 : ¬ qz_ft c K F S p → post 0) : wpX_isFaulty post (nI c, fq, K, F, S, sn, lo, em, lv, Q, L) (nI p) := by
  unfold wpX_isFaulty
  refine qx_unset hp V FS (fun u => br_f (by decide) (h1 (Or.inl u))) (fun nu => br_t rfl (qx_idle hp V FS (fun u => br_f (by decide) (h1 (Or.inr (Or.inl u)))) (fun ni => br_t rfl (qx_cset hc hp FS LS (fun x hx => br_c (fun z => h0 ?_) (fun z => h1 (Or.inr (Or.inr ?_))))))))
  · rintro (w | w | w)
    · exact nu w
    · exact ni w
    · exact (qz_bz hc hx).mp z w
  · apply Classical.byContradiction
    intro w
    exact z ((qz_bz hc hx).mpr w)
theorem qx_ft4 (hc : c ≤ 24) (V : qz_va K F S) (FS : qz_FS c K F S sn em lo) (LS : qz_LS c K F S lv) (h : ∀ k, qz_cn (qz_ft c K F S) c k → post (nI k)) :
    ∀ d p, p + d = c → ∀ k, qz_cn (qz_ft c K F S) p k → wX_faults_4 post (nI c) fq K F S sn lo em lv Q L (d + 1) (nI k) (nI p) := by
  intro d
  induction d with
  | zero =>
    intro p hp k hk
    have : p = c := by omega
    subst this
    exact br_t (nI_le (Nat.le_refl p) (by omega)) (h k hk)
  | succ d ih =>
    intro p hp k hk
    exact br_f (nI_ge (b := c) (by omega) (by omega)) (qx_faulty hc (by omega) V FS LS (fun f => br_f (by decide) (nm_r (nI_1 k) (nm_r (nI_1 p) (ih (p + 1) (by omega) (k + 1) (Or.inl ⟨f, k, rfl, hk⟩))))) (fun f => br_t rfl (nm_r (nI_1 p) (ih (p + 1) (by omega) k (Or.inr ⟨f, hk⟩)))))
theorem qx_faults (hc : c ≤ 24) (V : qz_va K F S) (FS : qz_FS c K F S sn em lo) (LS : qz_LS c K F S lv) (h : ∀ k, qz_cn (qz_ft c K F S) c k → post (nI k)) : wpX_faults post (nI c, fq, K, F, S, sn, lo, em, lv, Q, L) :=
  ⟨c + 1, qx_ft4 hc V FS LS h c 0 (by omega) 0 rfl⟩
theorem qx_ff2 (hc : c ≤ 24) (V : qz_va K F S) (FS : qz_FS c K F S sn em lo) (LS : qz_LS c K F S lv) (h : ∀ p, p < c → qz_ft c K F S p → (∀ p', p' < p → ¬ qz_ft c K F S p') → post (nI p)) (h0 : (∀ p, p < c → ¬ qz_ft c K F S p) → post (-3)) :
    ∀ d p, p + d = c → (∀ p', p' < p → ¬ qz_ft c K F S p') → wX_firstFault_2 post (nI c) fq K F S sn lo em lv Q L (d + 1) (nI p) := by
  intro d
  induction d with
  | zero =>
    intro p hp hn
    have : p = c := by omega
    subst this
    exact br_t (nI_le (Nat.le_refl p) (by omega)) (h0 hn)
  | succ d ih =>
    intro p hp hn
    refine br_f (nI_ge (b := c) (by omega) (by omega)) (qx_faulty hc (by omega) V FS LS (fun f => br_f (by decide) (h p (by omega) f hn)) (fun f => br_t rfl (nm_r (nI_1 p) (ih (p + 1) (by omega) (fun p' hp' => ?_)))))
    by_cases e : p' = p
    · rw [e]; exact f
    · exact hn p' (by omega)
theorem qx_first (hc : c ≤ 24) (V : qz_va K F S) (FS : qz_FS c K F S sn em lo) (LS : qz_LS c K F S lv) (h : ∀ p, p < c → qz_ft c K F S p → (∀ p', p' < p → ¬ qz_ft c K F S p') → post (nI p)) (h0 : (∀ p, p < c → ¬ qz_ft c K F S p) → post (-3)) : wpX_firstFault post (nI c, fq, K, F, S, sn, lo, em, lv, Q, L) :=
  ⟨c + 1, qx_ff2 hc V FS LS h h0 c 0 (by omega) (fun p' hp' => by omega)⟩
theorem qx_sp14 {b : Nat} (hc : c ≤ 24) (hb : b < 24) (FS : qz_FS c K F S sn em lo) (LS : qz_LS c K F S lv) (h : ∀ x, (∀ i, bt x i = true ↔ (i < c ∧ qz_sp c K F S b i)) → post x) :
    ∀ d p, p + d = c → ∀ x, (∀ i, bt x i = true ↔ (i < p ∧ qz_sp c K F S b i)) → wX_span_14 post (nI b) (nI c) fq K F S sn lo em lv Q L (d + 1) x (nI p) := by
  intro d
  induction d with
  | zero =>
    intro p hp x hx
    have : p = c := by omega
    subst this
    exact br_t (nI_le (Nat.le_refl p) (by omega)) (h x hx)
  | succ d ih =>
    intro p hp x hx
    refine br_f (nI_ge (b := c) (by omega) (by omega)) (qx_span1 (by omega) hb FS LS (fun cf => br_f (by decide) (nm_e (nm_r (nI_1 p) (ih (p + 1) (by omega) _ (fun i => ?_))))) (fun cf => br_t rfl (nm_r (nI_1 p) (ih (p + 1) (by omega) x (fun i => ?_)))))
    · rw [b_or, Bool.or_eq_true, qz_bshA (by omega), hx i]
      constructor
      · rintro (⟨z, w⟩ | z)
        · exact ⟨by omega, w⟩
        · rw [z]; exact ⟨by omega, cf⟩
      · rintro ⟨z, w⟩
        by_cases e : i = p
        · exact Or.inr e
        · exact Or.inl ⟨by omega, w⟩
    · rw [hx i]
      constructor
      · rintro ⟨z, w⟩
        exact ⟨by omega, w⟩
      · rintro ⟨z, w⟩
        refine ⟨?_, w⟩
        apply Classical.byContradiction
        intro y
        have e : i = p := by omega
        rw [e] at w
        exact cf w
theorem qx_br30 {x : Int32} (hc : c ≤ 24) (h : ∀ k, qz_cn (fun i => bt x i = true) c k → post (nI k)) :
    ∀ d b, b + d = c → ∀ k, qz_cn (fun i => bt x i = true) b k → wX_broken_30 post x (nI c) fq K F S sn lo em lv Q L (d + 1) (nI k) (nI b) := by
  intro d
  induction d with
  | zero =>
    intro b hb k hk
    have : b = c := by omega
    subst this
    exact br_t (nI_le (Nat.le_refl b) (by omega)) (h k hk)
  | succ d ih =>
    intro b hb k hk
    refine br_f (nI_ge (b := c) (by omega) (by omega)) ?_
    rw [qz_b1 x b (by omega)]
    by_cases z : bt x b = true
    · rw [if_pos z]
      exact nm_r (nI_1 k) (nm_r (nI_1 b) (ih (b + 1) (by omega) (k + 1) (Or.inl ⟨z, k, rfl, hk⟩)))
    · rw [if_neg z]
      exact nm_r (Int32.add_zero _) (nm_r (nI_1 b) (ih (b + 1) (by omega) k (Or.inr ⟨z, hk⟩)))
theorem qx_br4 (hc : c ≤ 24) (FS : qz_FS c K F S sn em lo) (LS : qz_LS c K F S lv) (h : ∀ k, qz_cn (fun i => i < c ∧ ∃ p, p < c ∧ qz_cf c K F S i p) c k → post (nI k)) :
    ∀ d p, p + d = c → ∀ x, (∀ i, bt x i = true ↔ (i < c ∧ ∃ p', p' < p ∧ qz_cf c K F S i p')) → wX_broken_4 post (nI c) fq K F S sn lo em lv Q L (d + 1) x (nI p) := by
  intro d
  induction d with
  | zero =>
    intro p hp x hx
    have : p = c := by omega
    subst this
    refine br_t (nI_le (Nat.le_refl p) (by omega)) ⟨p + 1, qx_br30 hc (fun k hk => h k ?_) p 0 (by omega) 0 rfl⟩
    exact qz_cn_x p k (fun i _ => hx i) hk
  | succ d ih =>
    intro p hp x hx
    refine br_f (nI_ge (b := c) (by omega) (by omega)) (qx_cset hc (by omega) FS LS (fun y hy => nm_e (nm_r (nI_1 p) (ih (p + 1) (by omega) _ (fun i => ?_)))))
    rw [b_or, Bool.or_eq_true, hx i, hy i]
    constructor
    · rintro (⟨z, p', hp', w⟩ | ⟨z, w⟩)
      · exact ⟨z, p', by omega, w⟩
      · exact ⟨z, p, by omega, w⟩
    · rintro ⟨z, p', hp', w⟩
      by_cases e : p' = p
      · rw [e] at w; exact Or.inr ⟨z, w⟩
      · exact Or.inl ⟨z, p', by omega, w⟩
theorem qx_broken (hc : c ≤ 24) (FS : qz_FS c K F S sn em lo) (LS : qz_LS c K F S lv) (h : ∀ k, qz_cn (fun i => i < c ∧ ∃ p, p < c ∧ qz_cf c K F S i p) c k → post (nI k)) : wpX_broken post (nI c, fq, K, F, S, sn, lo, em, lv, Q, L) := by
  refine ⟨c + 1, qx_br4 hc FS LS h c 0 (by omega) 0 (fun i => ?_)⟩
  rw [b_0]
  exact ⟨fun z => (by cases z), fun ⟨_, p', hp', _⟩ => by omega⟩
end
end
section
/-! ===== X: the search of shown ===== -/
def qz_lk (fq : Int32) (Q L : Nat → Int32) (m : Nat) (q g : Nat → Nat) : Prop := fq = nI m ∧ (∀ j, j < m → Q j = nI (q j)) ∧ (∀ t, t < 216 → L t = nI (g t))
section
variable {c : Nat} {fq : Int32} {K F S sn lo em lv Q L : Nat → Int32} {b p i d m : Nat} {q g : Nat → Nat}
theorem qz_B_gb (B : qz_BM c K F S b p i d m q g) {t : Nat} (ht : t < 216) : g t ≤ 216 := by
  by_cases z : g t = 0
  · omega
  · obtain ⟨j, hj, hq⟩ := B.2.2.1 t ht (by omega)
    have := (B.2.1 j hj).2.2.2.1
    have hm := B.1
    rw [hq] at this
    omega
theorem qx_enter {post : SX → Prop} {a st : Nat} (hc : c ≤ 24) (B : qz_BM c K F S b p i d m q g) (hi : i < m) (hd : d = g (q i) + 1) (hk : qz_lk fq Q L m q g) (ha : a < c) (hst : st < 9) (hw : qz_xw c K F S b p (d - 1) (a * 9 + st))
    (h : ∀ fq' Q' L' m' q' g', qz_BM c K F S b p i d m' q' g' → qz_Ex m q g m' q' g' → (0 < g' (a * 9 + st) ∧ g' (a * 9 + st) ≤ d) → qz_lk fq' Q' L' m' q' g' → post (nI c, fq', K, F, S, sn, lo, em, lv, Q', L')) : wpX_enter post (nI c, fq, K, F, S, sn, lo, em, lv, Q, L) (nI a) (nI st) (nI d) := by
  have et : nI a * 9 + nI st = nI (a * 9 + st) := by
    show nI a * nI 9 + nI st = _
    rw [pk_mul, nI_add]
  have ht : a * 9 + st < 216 := by omega
  obtain ⟨k1, k2, k3⟩ := hk
  subst k1
  have gb := qz_B_gb B ht
  unfold wpX_enter
  refine nm_r et ⟨vp_in_nI ht (by omega), ?_⟩
  rw [nI_clamp (by omega), k3 _ ht]
  refine pk_eq (g (a * 9 + st)) 0 (fun z => ?_) (fun z => h _ _ _ _ _ _ B (qz_Ex_r m q g) (qz_B_old B ht z) ⟨rfl, k2, k3⟩)
  have room := qz_B_room B ht z
  obtain ⟨B', E⟩ := qz_B_enter B hi hd ht (by omega) hw z
  refine br_f (nI_ge (b := 216) room (by omega)) ⟨vp_in_nI ht (by omega), nm_e ⟨vp_in_nI room (by omega), nm_e (nm_r (nI_1 m) (h _ _ _ _ _ _ B' E ?_ ⟨rfl, ?_, ?_⟩))⟩⟩
  · rw [qz_uNs]
    exact ⟨by omega, Nat.le_refl _⟩
  · intro j hj
    rw [nI_clamp (by omega)]
    by_cases e : j = m
    · rw [e, pk_us, qz_uNs]
    · rw [pk_un e, qz_uNn e]
      exact k2 j (by omega)
  · intro t ht'
    by_cases e : t = a * 9 + st
    · rw [e, pk_us, qz_uNs]
    · rw [pk_un e, qz_uNn e]
      exact k3 t ht'
theorem qx_all10 {post : SX → Prop} {a : Nat} {x : Int32} (hc : c ≤ 24) (ha : a < c) (hw : ∀ st, st < 9 → bt x st = true → qz_xw c K F S b p (d - 1) (a * 9 + st))
    (h : ∀ fq' Q' L' m' q' g', qz_BM c K F S b p i d m' q' g' → qz_Ex m q g m' q' g' → (∀ st, st < 9 → bt x st = true → 0 < g' (a * 9 + st) ∧ g' (a * 9 + st) ≤ d) → qz_lk fq' Q' L' m' q' g' → post (nI c, fq', K, F, S, sn, lo, em, lv, Q', L')) :
    ∀ e st, st + e = 9 → ∀ fq' Q' L' m' q' g', qz_BM c K F S b p i d m' q' g' → i < m' → d = g' (q' i) + 1 → qz_Ex m q g m' q' g' → (∀ st', st' < st → bt x st' = true → 0 < g' (a * 9 + st') ∧ g' (a * 9 + st') ≤ d) → qz_lk fq' Q' L' m' q' g' → wX_enterAll_10 post (nI a) x (nI d) (e + 1) (nI st) (nI c) fq' K F S sn lo em lv Q' L' := by
  intro e
  induction e with
  | zero =>
    intro st hst fq' Q' L' m' q' g' B _ _ E C k
    have : st = 9 := by omega
    subst this
    exact br_t (nI_le (Nat.le_refl 9) (by omega)) (h _ _ _ _ _ _ B E C k)
  | succ e ih =>
    intro st hst fq' Q' L' m' q' g' B hi hd E C k
    have h9 : st < 9 := by omega
    refine br_f (nI_ge (b := 9) h9 (by omega)) (br_c (fun z => nm_r (nI_1 st) (ih (st + 1) (by omega) _ _ _ _ _ _ B hi hd E (fun st' hs hb => ?_) k)) (fun z => ?_))
    · by_cases w : st' = st
      · rw [w] at hb
        exact absurd hb ((qz_b1z x st (by omega)).mp z)
      · exact C st' (by omega) hb
    · have hb : bt x st = true := by
        apply Classical.byContradiction
        intro w
        exact z ((qz_b1z x st (by omega)).mpr w)
      refine qx_enter hc B hi hd k ha h9 (hw st h9 hb) (fun fq2 Q2 L2 m2 q2 g2 B2 E2 C2 k2 => nm_r (nI_1 st) (ih (st + 1) (by omega) _ _ _ _ _ _ B2 (Nat.lt_of_lt_of_le hi E2.1) ?_ (qz_Ex_t E E2) (fun st' hs hb' => ?_) k2))
      · rw [E2.2.1 i hi, E2.2.2 _ (B.2.1 i hi).2.2.1]
        exact hd
      · by_cases w : st' = st
        · rw [w]; exact C2
        · have := C st' (by omega) hb'
          rw [E2.2.2 _ this.1]
          exact this
theorem qx_all {post : SX → Prop} {P : Nat → Prop} {r x : Int32} (hc : c ≤ 24) (hr : qz_op P (-3) r) (hP : ∀ a, P a → a < c) (B : qz_BM c K F S b p i d m q g) (hi : i < m) (hd : d = g (q i) + 1) (k : qz_lk fq Q L m q g) (hw : ∀ a, P a → ∀ st, st < 9 → bt x st = true → qz_xw c K F S b p (d - 1) (a * 9 + st))
    (h : ∀ fq' Q' L' m' q' g', qz_BM c K F S b p i d m' q' g' → qz_Ex m q g m' q' g' → (∀ a, P a → ∀ st, st < 9 → bt x st = true → 0 < g' (a * 9 + st) ∧ g' (a * 9 + st) ≤ d) → qz_lk fq' Q' L' m' q' g' → post (nI c, fq', K, F, S, sn, lo, em, lv, Q', L')) : wpX_enterAll post (nI c, fq, K, F, S, sn, lo, em, lv, Q, L) r x (nI d) := by
  unfold wpX_enterAll
  rcases hr with ⟨rfl, no⟩ | ⟨a, rfl, ha, ua⟩
  · exact br_t rfl (h _ _ _ _ _ _ B (qz_Ex_r m q g) (fun a ha => absurd ha (no a)) k)
  · have hac := hP a ha
    refine br_f (qz_n3 (by omega)) ⟨10, qx_all10 hc hac (hw a ha) (fun fq' Q' L' m' q' g' B' E C k' => h _ _ _ _ _ _ B' E (fun a' ha' => ?_) k') 9 0 rfl _ _ _ _ _ _ B hi hd (qz_Ex_r m q g) (fun st' hs => by omega) k⟩
    rw [ua a' ha']
    exact C
theorem qz_shl5 (x : Int32) {i : Nat} (hi : i < 32) : bt (x <<< ((5 : Int32) &&& 31)) i = true ↔ (5 ≤ i ∧ bt x (i - 5) = true) := by
  rw [show ((5 : Int32)) = nI 5 from rfl, b_shl 5 (by omega) x hi]
  simp
theorem qz_shl1 (x : Int32) {i : Nat} (hi : i < 32) : bt (x <<< ((1 : Int32) &&& 31)) i = true ↔ (1 ≤ i ∧ bt x (i - 1) = true) := by
  rw [show ((1 : Int32)) = nI 1 from rfl, b_shl 1 (by omega) x hi]
  simp
theorem qx_stages {post : Int32 → Prop} {a st : Nat} (V : qz_va K F S) (ha : a < 24) (hst : st < 9) (hb : b < 24) (hp : p < 24) (hm : qz_mk K b) (h : ∀ x, (∀ st', st' < 9 → (bt x st' = true ↔ qz_xs K F S b p a st st')) → post x) : wpX_stagesAfter post (nI c, fq, K, F, S, sn, lo, em, lv, Q, L) (nI a) (nI st) (nI b) (nI p) := by
  unfold wpX_stagesAfter
  refine pk_eq st 0 (fun z => ?_) (fun z => ?_)
  · obtain ⟨y, hy, ey⟩ : ∃ y, y < 4 ∧ F b = nI y := by
      rcases hm with k | k
      · exact (qz_va_b V (Or.inl k)).1
      · exact (qz_va_b V (Or.inr (Or.inl k))).1
    refine pk_eq a b (fun e => ?_) (fun e => h _ (fun st' h9 => ?_))
    · rw [qz_c24 hb, ey]
      have e1 : (1 : Int32) + nI y = nI (1 + y) := by
        show nI 1 + nI y = _
        rw [nI_add]
      rw [e1]
      refine ⟨qz_i24 hb, nm_e (h _ (fun st' h9 => ?_))⟩
      rw [b_or, Bool.or_eq_true, qz_bone st' (by omega), decide_eq_true_iff, qz_bshA (by omega)]
      constructor
      · rintro (w | w)
        · exact Or.inl ⟨z, Or.inl w⟩
        · exact Or.inl ⟨z, Or.inr ⟨e, y, hy, ey, w⟩⟩
      · rintro (⟨_, w | ⟨_, y', hy', ey', w⟩⟩ | ⟨w, _⟩ | ⟨w, _⟩)
        · exact Or.inl w
        · have : y = y' := (qz_ne hy hy').mp (ey.symm.trans ey')
          exact Or.inr (by omega)
        · omega
        · omega
    · have e0 : (1 : Int32) ||| 0 = 1 := by decide
      rw [e0, qz_bone st' (by omega), decide_eq_true_iff]
      constructor
      · intro w
        exact Or.inl ⟨z, Or.inl w⟩
      · rintro (⟨_, w | ⟨w, _⟩⟩ | ⟨w, _⟩ | ⟨w, _⟩)
        · exact w
        · exact absurd w e
        · omega
        · omega
  · refine pk_lt st 5 (fun z5 => ?_) (fun z5 => ?_)
    · refine br_t rfl ?_
      have e1 : nI st - 1 = nI (st - 1) := by
        show nI st - nI 1 = _
        rw [pk_sub (by omega)]
      unfold wX_stagesAfter_56
      rw [e1]
      refine qx_heirs ha (by omega) V (fun m hm' hh => br_t rfl (pk_eq a p (fun e => h _ (fun st' h9 => ?_)) (fun e => h _ (fun st' h9 => ?_))))
      · rw [qz_shl5 _ (by omega)]
        constructor
        · rintro ⟨w, w'⟩
          exact Or.inr (Or.inl ⟨by omega, by omega, st' - 5, (hh (st' - 5) (by omega)).mp w', Or.inl ⟨e, by omega⟩⟩)
        · rintro (⟨w, _⟩ | ⟨_, _, r', w, ⟨_, w'⟩ | ⟨w', _⟩⟩ | ⟨w, _⟩)
          · exact absurd w z
          · have h4 := w.1
            refine ⟨by omega, ?_⟩
            rw [w', Nat.add_sub_cancel_left]
            exact (hh r' h4).mpr w
          · exact absurd e w'
          · omega
      · rw [qz_shl1 _ (by omega)]
        constructor
        · rintro ⟨w, w'⟩
          have h4 : st' - 1 < 4 := by
            apply Classical.byContradiction
            intro y
            exact qz_hi4 m hm' (st' - 1) (by omega) (by omega) w'
          exact Or.inr (Or.inl ⟨by omega, by omega, st' - 1, (hh (st' - 1) h4).mp w', Or.inr ⟨e, by omega⟩⟩)
        · rintro (⟨w, _⟩ | ⟨_, _, r', w, ⟨w', _⟩ | ⟨_, w'⟩⟩ | ⟨w, _⟩)
          · exact absurd w z
          · exact absurd w' e
          · have h4 := w.1
            refine ⟨by omega, ?_⟩
            rw [w', Nat.add_sub_cancel_left]
            exact (hh r' h4).mpr w
          · omega
    · refine br_f (by decide) ?_
      have e1 : nI st - 5 = nI (st - 5) := by
        show nI st - nI 5 = _
        rw [pk_sub (by omega)]
      unfold wX_stagesAfter_56
      rw [e1]
      refine qx_heirs ha (by omega) V (fun m hm' hh => br_f (by decide) (h _ (fun st' h9 => ?_)))
      rw [qz_shl5 _ (by omega)]
      constructor
      · rintro ⟨w, w'⟩
        exact Or.inr (Or.inr ⟨by omega, st' - 5, (hh (st' - 5) (by omega)).mp w', by omega⟩)
      · rintro (⟨w, _⟩ | ⟨_, w, _⟩ | ⟨_, r', w, w'⟩)
        · omega
        · omega
        · have h4 := w.1
          refine ⟨by omega, ?_⟩
          rw [w', Nat.add_sub_cancel_left]
          exact (hh r' h4).mpr w
theorem qx_sp77 {post : Int32 → SX → Prop} {J : Int32 → Int32 → Int32 → (Nat → Int32) → (Nat → Int32) → (Nat → Int32) → (Nat → Int32) → (Nat → Int32) → (Nat → Int32) → (Nat → Int32) → (Nat → Int32) → (Nat → Int32) → Prop} (hc : c ≤ 24) (V : qz_va K F S) (hb : b < 24) (hp : p < 24) (hm : qz_mk K b) (B : qz_BI c K F S b p i m q g) (hi : i < m) (k : qz_lk fq Q L m q g) (hg : ¬ qz_xg K F (q i))
    (h : ∀ fq' Q' L' m' q' g', qz_BI c K F S b p (i + 1) m' q' g' → qz_lk fq' Q' L' m' q' g' → J (nI (i + 1)) (nI c) fq' K F S sn lo em lv Q' L') : wX_shortestPath_77 post J (nI b) (nI p) (nI i) (nI (q i)) (nI (q i / 9)) (nI (q i % 9)) (nI c) fq K F S sn lo em lv Q L := by
  have BM := qz_B_at B hi
  obtain ⟨t1, t2, t3, t4, t5, t6⟩ := BM.2.1 i hi
  have ha : q i / 9 < 24 := by omega
  have step : ∀ (a st : Nat), qz_nx c K F (q i / 9) a → st < 9 → qz_xs K F S b p (q i / 9) (q i % 9) st → qz_xe c K F S b p (q i) (a * 9 + st) := by
    intro a st e h9 hs
    have e1 : (a * 9 + st) / 9 = a := by omega
    have e2 : (a * 9 + st) % 9 = st := by omega
    unfold qz_xe
    rw [e1, e2]
    exact ⟨e, hs⟩
  have walk : ∀ t, qz_xe c K F S b p (q i) t → qz_xw c K F S b p (g (q i) + 1 - 1) t := by
    intro t e
    have e3 : g (q i) + 1 - 1 = (g (q i) - 1) + 1 := by omega
    rw [e3]
    exact ⟨q i, t6, e⟩
  unfold wX_shortestPath_77
  refine qx_stages V ha (Nat.mod_lt _ (by omega)) hb hp hm (fun x hx => ⟨vp_in_nI t1 (by omega), ?_⟩)
  rw [nI_clamp (by omega), k.2.2 _ t1]
  refine nm_r (nI_1 _) (qx_jump ha hc V (fun rj hj => qx_next ha hc (fun rn hn => ?_)))
  refine qx_all hc hj (fun a z => z.1) BM hi rfl k (fun a z st h9 hbit => walk _ (step a st (qz_nx_x.mpr (Or.inl z)) h9 ((hx st h9).mp hbit))) (fun fq1 Q1 L1 m1 q1 g1 B1 E1 C1 k1 => ?_)
  have hi1 : i < m1 := Nat.lt_of_lt_of_le hi E1.1
  have eg1 : g1 (q1 i) = g (q i) := by rw [E1.2.1 i hi, E1.2.2 _ t3]
  have eq1 : q1 i = q i := E1.2.1 i hi
  refine qx_all hc hn (fun a z => z.1) B1 hi1 (by rw [eg1]) k1 (fun a z st h9 hbit => walk _ (step a st (qz_nx_x.mpr (Or.inr z)) h9 ((hx st h9).mp hbit))) (fun fq2 Q2 L2 m2 q2 g2 B2 E2 C2 k2 => ?_)
  have hi2 : i < m2 := Nat.lt_of_lt_of_le hi1 E2.1
  have t3' : 0 < g1 (q1 i) := by omega
  have eq2 : q2 i = q i := (E2.2.1 i hi1).trans eq1
  have eg2 : g2 (q2 i) = g (q i) := by rw [E2.2.1 i hi1, E2.2.2 _ t3', eg1]
  refine nm_r (nI_1 i) (h _ _ _ _ _ _ (qz_B_next B2 hi2 (by rw [eg2]) (by rw [eq2]; exact hg) (fun t e => ?_)) k2)
  rw [eq2] at e
  have h9 : t % 9 < 9 := Nat.mod_lt _ (by omega)
  have et : t / 9 * 9 + t % 9 = t := by omega
  have hbit := (hx (t % 9) h9).mpr e.2
  rcases qz_nx_x.mp e.1 with z | z
  · have := C1 (t / 9) z (t % 9) h9 hbit
    rw [et] at this
    rw [E2.2.2 t this.1]
    exact this
  · have := C2 (t / 9) z (t % 9) h9 hbit
    rw [et] at this
    exact this
theorem qx_sp13 {post : Int32 → SX → Prop} (hc : c ≤ 24) (V : qz_va K F S) (hb : b < 24) (hp : p < 24) (hm : qz_mk K b)
    (hS : ∀ d fq' Q' L', 0 < d → d ≤ 216 → qz_go c K F S b p (d - 1) → (∀ n, qz_go c K F S b p n → d ≤ n + 1) → post (nI d) (nI c, fq', K, F, S, sn, lo, em, lv, Q', L'))
    (hN : ∀ fq' Q' L', (∀ n, ¬ qz_go c K F S b p n) → post (-3) (nI c, fq', K, F, S, sn, lo, em, lv, Q', L')) :
    ∀ e i, i + e = 216 → ∀ fq' Q' L' m q g, qz_BI c K F S b p i m q g → qz_lk fq' Q' L' m q g → wX_shortestPath_13 post (nI b) (nI p) (e + 1) (nI i) (nI c) fq' K F S sn lo em lv Q' L' := by
  intro e
  induction e with
  | zero =>
    intro i hi fq' Q' L' m q g B k
    have : i = 216 := by omega
    subst this
    obtain ⟨d, BM, hd⟩ := B
    exact br_t (nI_le (Nat.le_refl 216) (by omega)) (hN _ _ _ (qz_B_none hc ⟨d, BM, hd⟩ (by have := BM.1; omega)))
  | succ e ih =>
    intro i hi fq' Q' L' m q g B k
    have hm216 : m ≤ 216 := by
      obtain ⟨d, BM, hd⟩ := B
      exact BM.1
    obtain ⟨k1, k2, k3⟩ := k
    subst k1
    refine br_f (nI_ge (b := 216) (by omega) (by omega)) (pk_le m i (fun z => hN _ _ _ (qz_B_none hc B (by omega))) (fun z => ⟨vp_in_nI (by omega) (by omega), ?_⟩))
    rw [nI_clamp (by omega), k2 i z]
    have BM := qz_B_at B z
    obtain ⟨t1, t2, t3, t4, t5, t6⟩ := BM.2.1 i z
    have ed : nI (q i) / 9 = nI (q i / 9) := pk_div (d := 9) (by omega) (by omega) (by omega)
    have er : nI (q i) - nI (q i) / 9 * 9 = nI (q i % 9) := pk_rem (d := 9) (by omega) (by omega) (by omega)
    refine nm_e ⟨by decide, nm_r ed ⟨by decide, nm_r er ?_⟩⟩
    have go77 : ¬ qz_xg K F (q i) → wX_shortestPath_77 post (wX_shortestPath_13 post (nI b) (nI p) (e + 1)) (nI b) (nI p) (nI i) (nI (q i)) (nI (q i / 9)) (nI (q i % 9)) (nI c) (nI m) K F S sn lo em lv Q' L' := fun hg =>
      qx_sp77 hc V hb hp hm B z ⟨rfl, k2, k3⟩ hg (fun fq2 Q2 L2 m2 q2 g2 B2 k2' => ih (i + 1) (by omega) _ _ _ _ _ _ B2 k2')
    refine pk_lt (q i % 9) 5 (fun w => go77 (fun y => by have := y.1; omega)) (fun w => ?_)
    have e5 : nI (q i % 9) - 5 = nI (q i % 9 - 5) := by
      show nI (q i % 9) - nI 5 = _
      rw [pk_sub (by omega)]
    rw [e5]
    refine qx_uses (by omega) (fun k7 ef => br_f (by decide) ⟨vp_in_nI t1 (by omega), ?_⟩) (fun nu => br_t rfl (go77 (fun y => nu ⟨y.2.1, y.2.2⟩)))
    rw [nI_clamp (by omega), k3 _ t1]
    have G := qz_B_goal hc B z ⟨w, k7, ef⟩
    exact hS _ _ _ _ G.2.1 G.2.2.1 G.1 G.2.2.2
theorem qx_clrs {post : SX → Prop} (h : ∀ L' : Nat → Int32, (∀ t, t < 216 → L' t = 0) → post (nI c, 0, K, F, S, sn, lo, em, lv, Q, L')) : wpX_clearSearch post (nI c, fq, K, F, S, sn, lo, em, lv, Q, L) := by
  unfold wpX_clearSearch
  refine loop_0 (fun n i (L' : Nat → Int32) => wX_clearSearch_7 post (nI c) 0 n (nI i) K F S sn lo em lv Q L') (fun i L' => ∀ t, t < i → L' t = 0) 216 L (fun t ht => by omega) ?_ ?_
  · intro n L' hL
    exact br_t (nI_le (Nat.le_refl 216) (by omega)) (h L' hL)
  · intro n j L' hj hL hk
    refine br_f (nI_ge (b := 216) hj (by omega)) ⟨vp_in_nI hj (by omega), nm_e (nm_r (nI_1 j) (hk _ ?_))⟩
    intro t ht
    rw [nI_clamp (by omega)]
    by_cases z : t = j
    · rw [z, pk_us]
    · rw [pk_un z]; exact hL t (by omega)
theorem qx_short {post : Int32 → SX → Prop} (hc : c ≤ 24) (V : qz_va K F S) (hb : b < c) (hp : p < c) (hm : qz_mk K b)
    (hS : ∀ d fq' Q' L', 0 < d → d ≤ 216 → qz_go c K F S b p (d - 1) → (∀ n, qz_go c K F S b p n → d ≤ n + 1) → post (nI d) (nI c, fq', K, F, S, sn, lo, em, lv, Q', L'))
    (hN : ∀ fq' Q' L', (∀ n, ¬ qz_go c K F S b p n) → post (-3) (nI c, fq', K, F, S, sn, lo, em, lv, Q', L')) : wpX_shortestPath post (nI c, fq, K, F, S, sn, lo, em, lv, Q, L) (nI b) (nI p) := by
  unfold wpX_shortestPath
  refine qx_clrs (fun L' hL => ?_)
  unfold wpX_enter
  have e0 : (0 : Int32) * 9 + 0 = nI 0 := by decide
  refine nm_r e0 ⟨vp_in_nI (by omega) (by omega), ?_⟩
  rw [nI_clamp (by omega), hL 0 (by omega)]
  refine br_t rfl (br_f (by decide) ⟨vp_in_nI (by omega) (by omega), nm_e ⟨vp_in_iff.mpr (by decide), nm_e (nm_r (show (0 : Int32) + 1 = nI 1 by decide) ⟨217, ?_⟩)⟩⟩)
  refine qx_sp13 hc V (by omega) (by omega) hm hS hN 216 0 (by omega) _ _ _ 1 _ _ (qz_B_0 (by omega) (fun _ => 0)) ⟨rfl, ?_, ?_⟩
  · intro j hj
    have : j = 0 := by omega
    subst this
    have c0 : (0 : Int32).toNatClampNeg = 0 := by decide
    rw [c0, pk_us, qz_uNs]
  · intro t ht
    by_cases z : t = 0
    · rw [z, pk_us, qz_uNs]; rfl
    · rw [pk_un z, qz_uNn z]; exact hL t ht
end
end
section
/-! ===== Y: the small methods ===== -/
def qz_p0 (c : Nat) (K F : Nat → Int32) (p q : Nat) : Prop := q < c ∧ ((K p = 9 ∧ F p = nI q) ∨ (K p ≠ 9 ∧ K p ≠ 11 ∧ q = p + 1))
def qz_p1 (c : Nat) (K F : Nat → Int32) (p q : Nat) : Prop := q < c ∧ K p = 10 ∧ F p = nI q
theorem qz_nx_y {c : Nat} {K F : Nat → Int32} {p q : Nat} : qz_nx c K F p q ↔ qz_p0 c K F p q ∨ qz_p1 c K F p q := by
  constructor
  · rintro ⟨h, ⟨e, h9, h11⟩ | ⟨h9 | h10, e⟩⟩
    · exact Or.inl ⟨h, Or.inr ⟨h9, h11, e⟩⟩
    · exact Or.inl ⟨h, Or.inl ⟨h9, e⟩⟩
    · exact Or.inr ⟨h, h10, e⟩
  · rintro (⟨h, ⟨h9, e⟩ | ⟨h9, h11, e⟩⟩ | ⟨h, h10, e⟩)
    · exact ⟨h, Or.inr ⟨Or.inl h9, e⟩⟩
    · exact ⟨h, Or.inl ⟨e, h9, h11⟩⟩
    · exact ⟨h, Or.inr ⟨Or.inr h10, e⟩⟩
theorem qz_and3 {a : Nat} (ha : a < 4) : nI a &&& 3 = nI a := (by decide +kernel : ∀ a, a < 4 → nI a &&& 3 = nI a) a ha
theorem qz_and3e (x : Int32) : ∃ a, a < 4 ∧ x &&& 3 = nI a := pk_andE x 2 (by decide)
section
variable {c : Nat} {fm : Int32} {K F S M U D : Nat → Int32} {post : Int32 → Prop}
theorem qy_in (x : Int32) (n : Nat) (hn : n + 1 < 2 ^ 31) (h1 : ∀ a, a ≤ n → x = nI a → post 1) (h0 : (∀ a, a ≤ n → x ≠ nI a) → post 0) : wpY_isIn post (nI c, fm, K, F, S, M, U, D) x 0 (nI n) := qz_rngL x n hn h1 h0
theorem qy_pt (hc : c ≤ 24) (x : Int32) (h1 : ∀ a, a < c → x = nI a → post 1) (h0 : (∀ a, a < c → x ≠ nI a) → post 0) : wpY_isPoint post (nI c, fm, K, F, S, M, U, D) x := qz_rng x c (by omega) h1 h0
theorem qy_inN {n l u : Nat} (hn : n < 2 ^ 31) (hl : l < 2 ^ 31) (hu : u < 2 ^ 31) (h1 : l ≤ n → n ≤ u → post 1) (h0 : ¬ (l ≤ n ∧ n ≤ u) → post 0) : wpY_isIn post (nI c, fm, K, F, S, M, U, D) (nI n) (nI l) (nI u) :=
  pk_lt n l (fun z => h0 (by omega)) (fun z => pk_lt u n (fun w => h0 (by omega)) (fun w => h1 z w))
theorem qy_fits (k x y : Int32) (h1 : qz_ok k x y → post 1) (h0 : ¬ qz_ok k x y → post 0) : wpY_fits post (nI c, fm, K, F, S, M, U, D) k x y := by
  unfold wpY_fits
  refine qy_in k 11 (by omega) (fun n hn e => br_f (by decide) ?_) (fun h => br_t rfl (h0 (fun z => ?_)))
  · subst e
    have A : ∀ (u : Nat), u + 1 < 2 ^ 31 → ((∃ a, a ≤ u ∧ x = nI a) ↔ qz_ok (nI n) x y) → wY_fits_50 post y 0 (nI u) 0 x (nI c) fm K F S M U D := by
      intro u hu hh
      exact qy_in x u hu (fun a ha e => br_f (by decide) (br_t rfl (h1 (hh.mp ⟨a, ha, e⟩)))) (fun z => br_t rfl (h0 (fun w => by
        obtain ⟨a, ha, e⟩ := hh.mpr w
        exact z a ha e)))
    have B : (((∃ a, a ≤ 3 ∧ x = nI a) ∧ ∃ a, a ≤ 3 ∧ y = nI a) ↔ qz_ok (nI n) x y) → wY_fits_50 post y 1 (nI 3) 0 x (nI c) fm K F S M U D := by
      intro hh
      exact qy_in x 3 (by omega) (fun a ha e => br_f (by decide) (br_f (by decide) (qy_in y 3 (by omega) (fun b hb e' => br_f (by decide) (h1 (hh.mp ⟨⟨a, ha, e⟩, b, hb, e'⟩))) (fun z => br_t rfl (h0 (fun w => by
        obtain ⟨_, b, hb, e⟩ := hh.mpr w
        exact z b hb e)))))) (fun z => br_t rfl (h0 (fun w => by
        obtain ⟨⟨a, ha, e⟩, _⟩ := hh.mpr w
        exact z a ha e)))
    have lt4 : ∀ x : Int32, (∃ a, a ≤ 3 ∧ x = nI a) ↔ ∃ a, a < 4 ∧ x = nI a := by
      intro x
      constructor
      · rintro ⟨a, ha, e⟩
        exact ⟨a, by omega, e⟩
      · rintro ⟨a, ha, e⟩
        exact ⟨a, by omega, e⟩
    have C : (n = 9 ∨ n = 10) → wY_fits_44 post y 0 0 x (nI c) fm K F S M U D := fun hh => A 24 (by omega) (qz_okC hh).symm
    refine qy_inN (l := 3) (u := 6) (by omega) (by omega) (by omega) (fun l u => ?_) (fun nlu => ?_)
    · refine pk_eq n 11 (fun e => by omega) (fun _ => pk_eq n 9 (fun e => by omega) (fun _ => pk_eq n 10 (fun e => by omega) (fun _ => B ?_)))
      rw [lt4, lt4]
      exact (qz_okB l u).symm
    · refine pk_eq n 11 (fun e => h1 (by rw [e]; exact qz_okD)) (fun n11 => pk_eq n 9 (fun e => C (Or.inl e)) (fun n9 => pk_eq n 10 (fun e => C (Or.inr e)) (fun n10 => A 3 (by omega) ?_)))
      rw [lt4]
      exact (qz_okA (by omega)).symm
  · obtain ⟨n, hn, e⟩ := qz_ok12 z
    exact h n (by omega) e
theorem qy_58 {z : Int32} {P : Nat → Prop} (hc : c ≤ 24) (hP : ∀ q, P q → q < c) (hz : (z = -1 ∧ ∀ q, ¬ P q) ∨ ∃ a, a < 2 ^ 31 ∧ z = nI a ∧ (a < c → P a) ∧ ∀ q, P q → q = a) (h : ∀ r, qz_op P (-1) r → post r) : wY_next_58 post z (nI c) fm K F S M U D := by
  unfold wY_next_58
  rcases hz with ⟨rfl, no⟩ | ⟨a, ha, rfl, hpa, ua⟩
  · exact br_c (fun _ => h _ (Or.inl ⟨rfl, no⟩)) (fun _ => h _ (Or.inl ⟨rfl, no⟩))
  · exact pk_le c a (fun w => h _ (Or.inl ⟨rfl, fun q hq => by have := ua q hq; have := hP q hq; omega⟩)) (fun w => h _ (Or.inr ⟨a, rfl, hpa w, ua⟩))
theorem qy_next0 {p : Nat} (hp : p < 24) (hc : c ≤ 24) (V : qz_va K F S) (h : ∀ r, qz_op (qz_p0 c K F p) (-1) r → post r) : wpY_next post (nI c, fm, K, F, S, M, U, D) (nI p) 0 := by
  have i := qz_i24 hp
  unfold wpY_next
  simp only [qz_c24 hp]
  refine ⟨i, nm_e (br_t trivial (br_c (fun k11 => ?_) (fun k11 => br_c (fun k9 => ⟨i, ?_⟩) (fun k9 => ?_))))⟩
  · refine qy_58 hc (fun q hq => hq.1) (Or.inl ⟨rfl, ?_⟩) h
    rintro q ⟨_, ⟨z, _⟩ | ⟨_, z, _⟩⟩
    · rw [k11] at z; exact absurd z (by decide)
    · exact z k11
  · obtain ⟨a, ha, ea⟩ := qz_va_g V (Or.inl k9)
    refine qy_58 hc (fun q hq => hq.1) (Or.inr ⟨a, by omega, ea, fun w => ⟨w, Or.inl ⟨k9, ea⟩⟩, ?_⟩) h
    rintro q ⟨hq, ⟨_, z⟩ | ⟨z, _⟩⟩
    · exact ((nI_eq (by omega) (by omega)).mp (ea.symm.trans z)).symm
    · exact absurd k9 z
  · refine qy_58 hc (fun q hq => hq.1) (Or.inr ⟨p + 1, by omega, nI_1 p, fun w => ⟨w, Or.inr ⟨k9, k11, rfl⟩⟩, ?_⟩) h
    rintro q ⟨_, ⟨z, _⟩ | ⟨_, _, z⟩⟩
    · exact absurd z k9
    · exact z
theorem qy_next1 {p : Nat} (hp : p < 24) (hc : c ≤ 24) (V : qz_va K F S) (h : ∀ r, qz_op (qz_p1 c K F p) (-1) r → post r) : wpY_next post (nI c, fm, K, F, S, M, U, D) (nI p) 1 := by
  have i := qz_i24 hp
  unfold wpY_next
  simp only [qz_c24 hp]
  refine ⟨i, nm_e (br_f (by decide) (br_c (fun k10 => ⟨i, ?_⟩) (fun k10 => ?_)))⟩
  · obtain ⟨a, ha, ea⟩ := qz_va_g V (Or.inr k10)
    refine qy_58 hc (fun q hq => hq.1) (Or.inr ⟨a, by omega, ea, fun w => ⟨w, k10, ea⟩, ?_⟩) h
    rintro q ⟨hq, _, z⟩
    exact ((nI_eq (by omega) (by omega)).mp (ea.symm.trans z)).symm
  · refine qy_58 hc (fun q hq => hq.1) (Or.inl ⟨rfl, ?_⟩) h
    rintro q ⟨_, z, _⟩
    exact k10 z
theorem qy_hold {p s : Nat} (hp : p < 24) (hs : s < 16) (V : qz_va K F S) (h : ∀ m, qz_hb K F S p s m → post (nI m)) : wpY_holdBehind post (nI c, fm, K, F, S, M, U, D) (nI p) (nI s) := by
  have i := qz_i24 hp
  have hi4 := qz_hi4 s hs
  have key : ∀ x : Int32, (∀ l, l < 32 → (bt x l = true ↔ (l < 4 ∧ ∃ r, r < 4 ∧ bt (nI s) r = true ∧ qz_hr K F S p r l))) → post x := by
    intro x hx
    obtain ⟨m, hm, em⟩ := qz_of4 x (fun j hj h4 z => by
      obtain ⟨y, _⟩ := (hx j hj).mp z
      exact absurd y (Nat.not_lt.mpr h4))
    rw [em]
    refine h m ⟨hm, fun r' hr' => ?_⟩
    rw [← em, hx r' (by omega)]
    exact ⟨fun z => z.2, fun z => ⟨hr', z⟩⟩
  have same : (∀ r r', r < 4 → r' < 4 → (qz_hr K F S p r r' ↔ r' = r)) → post (nI s) := by
    intro hh
    refine key _ (fun l hl => ?_)
    constructor
    · intro z
      have h4 : l < 4 := by
        apply Classical.byContradiction
        intro w
        exact hi4 l hl (by omega) z
      exact ⟨h4, l, h4, z, (hh l l h4 h4).mpr rfl⟩
    · rintro ⟨h4, r, hr, z, w⟩
      rw [(hh r l hr h4).mp w]
      exact z
  have wo : ∀ a, a < 4 → F p = nI a → (K p = 3 ∨ K p = 4 ∨ K p = 8) → post (nI s &&& (((1 : Int32) <<< (nI a &&& 31)) ^^^ (-1))) := by
    intro a ha ea hk
    refine key _ (fun l hl => ?_)
    rw [qz_clr _ a (by omega) hl]
    constructor
    · rintro ⟨z, w⟩
      have h4 : l < 4 := by
        apply Classical.byContradiction
        intro w
        exact hi4 l hl (by omega) z
      refine ⟨h4, l, h4, z, h4, Or.inr (Or.inl ⟨hk, ?_, rfl⟩)⟩
      rw [ea]
      exact fun y => w ((qz_ne ha h4).mp y).symm
    · rintro ⟨h4, r, hr, z, _, (⟨w, _⟩ | ⟨_, w, w'⟩ | ⟨w, _⟩)⟩
      · rcases w with w | w <;> rw [w] at hk <;> exact absurd hk (by decide)
      · rw [w']
        refine ⟨z, fun y => w ?_⟩
        rw [ea, ← y]
      · rcases hk with k | k | k
        · exact absurd k w.1
        · exact absurd k w.2.1
        · exact absurd k w.2.2.2.2
  have hr56 : ∀ a y r r', a < 4 → y < 4 → r < 4 → r' < 4 → F p = nI a → S p = nI y → (K p = 5 ∨ K p = 6) → (qz_hr K F S p r r' ↔ ((y = r ∧ (a = r' ∨ (K p = 6 ∧ r' = r))) ∨ (y ≠ r ∧ a ≠ r ∧ r' = r))) := by
    intro a y r r' ha hy hr hr' ea ey hk
    unfold qz_hr
    rw [ea, ey, Ne, Ne, qz_ne hy hr, qz_ne ha hr', qz_ne ha hr]
    constructor
    · rintro ⟨_, (⟨_, w⟩ | ⟨w, _⟩ | ⟨w, _⟩)⟩
      · exact w
      · rcases hk with k | k <;> rw [k] at w <;> exact absurd w (by decide)
      · rcases hk with k | k
        · exact absurd k w.2.2.1
        · exact absurd k w.2.2.2.1
    · intro w
      exact ⟨hr', Or.inl ⟨hk, w⟩⟩
  unfold wpY_holdBehind
  simp only [qz_c24 hp]
  refine ⟨i, nm_e ⟨i, ?_⟩⟩
  by_cases k348 : K p = 3 ∨ K p = 4 ∨ K p = 8
  · obtain ⟨a, ha, ea⟩ : ∃ a, a < 4 ∧ F p = nI a := by
      rcases k348 with k | k | k
      · exact (qz_va_b V (Or.inl k)).1
      · exact (qz_va_b V (Or.inr (Or.inl k))).1
      · exact qz_va_a V (Or.inr (Or.inr (Or.inr (Or.inr k))))
    have W := wo a ha ea k348
    have e4 : F p &&& 3 = nI a := by rw [ea]; exact qz_and3 ha
    refine nm_r e4 ⟨i, nm_e (nm_e (br_c (fun _ => W) (fun k3 => br_c (fun _ => W) (fun k4 => br_c (fun _ => W) (fun k8 => ?_)))))⟩
    rcases k348 with k | k | k
    · exact absurd k k3
    · exact absurd k k4
    · exact absurd k k8
  · have k3 : ¬ K p = 3 := fun z => k348 (Or.inl z)
    have k4 : ¬ K p = 4 := fun z => k348 (Or.inr (Or.inl z))
    have k8 : ¬ K p = 8 := fun z => k348 (Or.inr (Or.inr z))
    by_cases k56 : K p = 5 ∨ K p = 6
    · obtain ⟨⟨a, ha, ea⟩, y, hy, ey⟩ := qz_va_b V (Or.inr (Or.inr k56))
      have e4 : F p &&& 3 = nI a := by rw [ea]; exact qz_and3 ha
      have e5 : S p &&& 3 = nI y := by rw [ey]; exact qz_and3 hy
      refine nm_r e4 ⟨i, nm_r e5 (nm_e (br_f k3 (br_f k4 (br_f k8 ?_))))⟩
      have H := fun r r' hr hr' => hr56 a y r r' ha hy hr hr' ea ey k56
      -- the last rows, for the flag f
      have L110 : ∀ f : Int32, (f = 0 ∨ f = 1) → (f = 1 ↔ bt (nI s) y = true) → (K p = 5 → a = y) → wY_holdBehind_110 post (nI s) (K p) (nI a) (nI s &&& (((1 : Int32) <<< (nI a &&& 31)) ^^^ (-1))) f (nI c) fm K F S M U D := by
        intro f f01 ff k5
        unfold wY_holdBehind_110
        refine br_c (fun k6 => br_c (fun f0 => key _ (fun l hl => ?_)) (fun f0 => key _ (fun l hl => ?_))) (fun k6 => same (fun r r' hr hr' => ?_))
        · have nby : ¬ bt (nI s) y = true := fun z => by
            rw [ff.mpr z] at f0
            exact absurd f0 (by decide)
          rw [qz_clr _ a (by omega) hl]
          constructor
          · rintro ⟨z, w⟩
            have h4 : l < 4 := by
              apply Classical.byContradiction
              intro w
              exact hi4 l hl (by omega) z
            refine ⟨h4, l, h4, z, (H l l h4 h4).mpr ?_⟩
            by_cases e : y = l
            · rw [← e] at z; exact absurd z nby
            · exact Or.inr ⟨e, fun x => w x.symm, rfl⟩
          · rintro ⟨h4, r, hr, z, w⟩
            rcases (H r l hr h4).mp w with ⟨e, _⟩ | ⟨_, e, e'⟩
            · rw [← e] at z; exact absurd z nby
            · rw [e']; exact ⟨z, fun x => e x.symm⟩
        · have by' : bt (nI s) y = true := ff.mp (by
            rcases f01 with w | w
            · exact absurd w f0
            · exact w)
          rw [b_or, Bool.or_eq_true, qz_clr _ a (by omega) hl, qz_bshA (by omega)]
          constructor
          · rintro (⟨z, w⟩ | z)
            · have h4 : l < 4 := by
                apply Classical.byContradiction
                intro w
                exact hi4 l hl (by omega) z
              refine ⟨h4, l, h4, z, (H l l h4 h4).mpr ?_⟩
              by_cases e : y = l
              · exact Or.inl ⟨e, Or.inr ⟨k6, rfl⟩⟩
              · exact Or.inr ⟨e, fun x => w x.symm, rfl⟩
            · refine ⟨by omega, y, hy, by', (H y l hy (by omega)).mpr (Or.inl ⟨rfl, Or.inl z.symm⟩)⟩
          · rintro ⟨h4, r, hr, z, w⟩
            rcases (H r l hr h4).mp w with ⟨e, e' | ⟨_, e'⟩⟩ | ⟨_, e, e'⟩
            · exact Or.inr e'.symm
            · by_cases e2 : l = a
              · exact Or.inr e2
              · rw [← e'] at z; exact Or.inl ⟨z, e2⟩
            · rw [e']; exact Or.inl ⟨z, fun x => e x.symm⟩
        · have k5' : K p = 5 := by
            rcases k56 with k | k
            · exact k
            · exact absurd k k6
          rw [H r r' hr hr']
          have := k5 k5'
          constructor
          · rintro (⟨e, e' | ⟨z, _⟩⟩ | ⟨_, _, e⟩)
            · omega
            · exact absurd z k6
            · exact e
          · intro e
            by_cases e2 : y = r
            · exact Or.inl ⟨e2, Or.inl (by omega)⟩
            · exact Or.inr ⟨e2, by omega, e⟩
      have L71 : ∀ f : Int32, (f = 0 ∨ f = 1) → (f = 1 ↔ bt (nI s) y = true) → wY_holdBehind_71 post (nI s) (K p) (nI a) (nI y) (nI s &&& (((1 : Int32) <<< (nI a &&& 31)) ^^^ (-1))) f (nI c) fm K F S M U D := by
        intro f f01 ff
        unfold wY_holdBehind_71
        refine br_c (fun k5 => pk_eq a y (fun e => L110 f f01 ff (fun _ => e)) (fun ne => ?_)) (fun k5 => L110 f f01 ff (fun z => absurd z k5))
        have k6 : ¬ K p = 6 := by rw [k5]; decide
        refine br_c (fun f0 => key _ (fun l hl => ?_)) (fun f0 => key _ (fun l hl => ?_))
        · have nby : ¬ bt (nI s) y = true := fun z => by
            rw [ff.mpr z] at f0
            exact absurd f0 (by decide)
          rw [qz_clr _ y (by omega) hl, qz_clr _ a (by omega) hl]
          constructor
          · rintro ⟨⟨z, w⟩, w'⟩
            have h4 : l < 4 := by
              apply Classical.byContradiction
              intro w
              exact hi4 l hl (by omega) z
            exact ⟨h4, l, h4, z, (H l l h4 h4).mpr (Or.inr ⟨fun x => w' x.symm, fun x => w x.symm, rfl⟩)⟩
          · rintro ⟨h4, r, hr, z, w⟩
            rcases (H r l hr h4).mp w with ⟨e, _⟩ | ⟨e0, e, e'⟩
            · rw [← e] at z; exact absurd z nby
            · rw [e']; exact ⟨⟨z, fun x => e x.symm⟩, fun x => e0 x.symm⟩
        · have by' : bt (nI s) y = true := ff.mp (by
            rcases f01 with w | w
            · exact absurd w f0
            · exact w)
          rw [qz_clr _ y (by omega) hl, b_or, Bool.or_eq_true, qz_clr _ a (by omega) hl, qz_bshA (by omega)]
          constructor
          · rintro ⟨⟨z, w⟩ | z, w'⟩
            · have h4 : l < 4 := by
                apply Classical.byContradiction
                intro w
                exact hi4 l hl (by omega) z
              exact ⟨h4, l, h4, z, (H l l h4 h4).mpr (Or.inr ⟨fun x => w' x.symm, fun x => w x.symm, rfl⟩)⟩
            · exact ⟨by omega, y, hy, by', (H y l hy (by omega)).mpr (Or.inl ⟨rfl, Or.inl z.symm⟩)⟩
          · rintro ⟨h4, r, hr, z, w⟩
            rcases (H r l hr h4).mp w with ⟨e, e' | ⟨e', _⟩⟩ | ⟨e0, e, e'⟩
            · exact ⟨Or.inr e'.symm, by omega⟩
            · exact absurd e' k6
            · rw [e']; exact ⟨Or.inl ⟨z, fun x => e x.symm⟩, fun x => e0 x.symm⟩
      refine br_c (fun z => L71 1 (Or.inr rfl) ?_) (fun z => L71 0 (Or.inl rfl) ?_)
      · exact ⟨fun _ => (qz_b1o _ y (by omega)).mp z, fun _ => rfl⟩
      · exact ⟨fun w => absurd w (by decide), fun w => absurd ((qz_b1o _ y (by omega)).mpr w) z⟩
    · have k5 : ¬ K p = 5 := fun z => k56 (Or.inl z)
      have k6 : ¬ K p = 6 := fun z => k56 (Or.inr z)
      have W : post (nI s) := same (fun r r' hr hr' => ⟨by
        rintro ⟨_, (⟨w, _⟩ | ⟨w, _⟩ | ⟨_, w⟩)⟩
        · exact absurd w k56
        · exact absurd w k348
        · exact w, fun w => ⟨hr', Or.inr (Or.inr ⟨⟨k3, k4, k5, k6, k8⟩, w⟩)⟩⟩)
      exact nm_e ⟨i, nm_e (nm_e (br_f k3 (br_f k4 (br_f k8 (br_c (fun _ => br_f k5 (br_f k6 W)) (fun _ => br_f k5 (br_f k6 W)))))))⟩
end
end
section
/-! ===== Y: after, meet, spread, fromBegin, follow ===== -/
section
variable {c : Nat} {fm : Int32} {K F S M U D : Nat → Int32}
theorem qy_after {post : Int32 → Prop} {p s w : Nat} (hp : p < 24) (hs : s < 16) (hw : w < 3) (V : qz_va K F S) (h : ∀ m, qz_aw K F S w p s m → post (nI m)) : wpY_after post (nI c, fm, K, F, S, M, U, D) (nI p) (nI s) (nI w) := by
  have i := qz_i24 hp
  have hi4 := qz_hi4 s hs
  have key : ∀ (P : Nat → Prop) (x : Int32), (∀ l, l < 32 → (bt x l = true ↔ (l < 4 ∧ P l))) → (∀ m, m < 16 → (∀ r', r' < 4 → (bt (nI m) r' = true ↔ P r')) → post (nI m)) → post x := by
    intro P x hx hh
    obtain ⟨m, hm, em⟩ := qz_of4 x (fun j hj h4 z => by
      obtain ⟨y, _⟩ := (hx j hj).mp z
      exact absurd y (Nat.not_lt.mpr h4))
    rw [em]
    refine hh m hm (fun r' hr' => ?_)
    rw [← em, hx r' (by omega)]
    exact ⟨fun z => z.2, fun z => ⟨hr', z⟩⟩
  have lt4 : ∀ l, l < 32 → bt (nI s) l = true → l < 4 := by
    intro l hl z
    apply Classical.byContradiction
    intro w
    exact hi4 l hl (by omega) z
  unfold wpY_after
  simp only [qz_c24 hp]
  refine ⟨i, nm_e ⟨i, nm_e ?_⟩⟩
  refine pk_eq w 0 (fun w0 => qy_hold hp hs V (fun m hm => h m (Or.inl ⟨w0, hm⟩))) (fun w0 => pk_eq w 1 (fun w1 => ?_) (fun w1 => ?_))
  · have A : (K p = 3 ∨ K p = 4) → post (nI s ||| ((1 : Int32) <<< ((F p &&& 3) &&& 31))) := by
      intro hk
      obtain ⟨a, ha, ea⟩ : ∃ a, a < 4 ∧ F p = nI a := by
        rcases hk with k | k
        · exact (qz_va_b V (Or.inl k)).1
        · exact (qz_va_b V (Or.inr (Or.inl k))).1
      have hrk : ∀ r r', r' < 4 → (qz_hr K F S p r r' ↔ (F p ≠ nI r ∧ r' = r)) := by
        intro r r' hr'
        constructor
        · rintro ⟨_, (⟨z, _⟩ | ⟨_, z⟩ | ⟨z, _⟩)⟩
          · rcases z with z | z <;> rw [z] at hk <;> exact absurd hk (by decide)
          · exact z
          · rcases hk with k | k
            · exact absurd k z.1
            · exact absurd k z.2.1
        · intro z
          refine ⟨hr', Or.inr (Or.inl ⟨?_, z⟩)⟩
          rcases hk with k | k
          · exact Or.inl k
          · exact Or.inr (Or.inl k)
      rw [ea, qz_and3 ha]
      refine key (fun r' => (qz_mk K p ∧ F p = nI r') ∨ ∃ r, r < 4 ∧ bt (nI s) r = true ∧ qz_hr K F S p r r') _ (fun l hl => ?_) (fun m hm hh => h m (Or.inr (Or.inl ⟨w1, hm, hh⟩)))
      rw [qz_set _ a (by omega) hl]
      constructor
      · rintro (z | z)
        · have h4 := lt4 l hl z
          refine ⟨h4, ?_⟩
          by_cases e : F p = nI l
          · exact Or.inl ⟨hk, e⟩
          · exact Or.inr ⟨l, h4, z, (hrk l l h4).mpr ⟨e, rfl⟩⟩
        · exact ⟨by omega, Or.inl ⟨hk, by rw [ea, z]⟩⟩
      · rintro ⟨h4, ⟨_, z⟩ | ⟨r, hr, z, y⟩⟩
        · exact Or.inr ((qz_ne ha h4).mp (ea.symm.trans z)).symm
        · rw [((hrk r l h4).mp y).2]
          exact Or.inl z
    refine br_c (fun k => A (Or.inl k)) (fun k3 => br_c (fun k => A (Or.inr k)) (fun k4 => qy_hold hp hs V (fun m hm => h m (Or.inr (Or.inl ⟨w1, hm.1, fun r' hr' => ?_⟩)))))
    rw [hm.2 r' hr']
    constructor
    · exact fun z => Or.inr z
    · rintro (⟨z, _⟩ | z)
      · rcases z with z | z
        · exact absurd z k3
        · exact absurd z k4
      · exact z
  · have w2 : w = 2 := by omega
    have fin : ∀ x : Int32, (∀ l, l < 32 → (bt x l = true ↔ (l < 4 ∧ ((K p = 0 ∧ F p = nI l) ∨ (bt (nI s) l = true ∧ ¬ (K p = 2 ∧ F p = nI l)))))) → post x := fun x hx =>
      key (fun l => (K p = 0 ∧ F p = nI l) ∨ (bt (nI s) l = true ∧ ¬ (K p = 2 ∧ F p = nI l))) x hx (fun m hm hh => h m (Or.inr (Or.inr ⟨w2, hm, hh⟩)))
    refine br_c (fun k0 => fin _ (fun l hl => ?_)) (fun k0 => br_c (fun k2 => fin _ (fun l hl => ?_)) (fun k2 => fin _ (fun l hl => ?_)))
    · obtain ⟨a, ha, ea⟩ := qz_va_a V (Or.inl k0)
      rw [ea, qz_and3 ha, qz_set _ a (by omega) hl]
      constructor
      · rintro (z | z)
        · exact ⟨lt4 l hl z, Or.inr ⟨z, fun y => by rw [k0] at y; exact absurd y.1 (by decide)⟩⟩
        · exact ⟨by omega, Or.inl ⟨k0, by rw [z]⟩⟩
      · rintro ⟨h4, ⟨_, z⟩ | ⟨z, _⟩⟩
        · exact Or.inr ((qz_ne ha h4).mp z).symm
        · exact Or.inl z
    · obtain ⟨a, ha, ea⟩ := qz_va_a V (Or.inr (Or.inr (Or.inl k2)))
      rw [ea, qz_and3 ha, qz_clr _ a (by omega) hl]
      constructor
      · rintro ⟨z, y⟩
        have h4 := lt4 l hl z
        exact ⟨h4, Or.inr ⟨z, fun x => y ((qz_ne ha h4).mp x.2).symm⟩⟩
      · rintro ⟨h4, ⟨z, _⟩ | ⟨z, y⟩⟩
        · exact absurd z k0
        · exact ⟨z, fun x => y ⟨k2, by rw [x]⟩⟩
    · constructor
      · intro z
        exact ⟨lt4 l hl z, Or.inr ⟨z, fun y => k2 y.1⟩⟩
      · rintro ⟨h4, ⟨z, _⟩ | ⟨z, _⟩⟩
        · exact absurd z k0
        · exact z
theorem qz_x16 (a s : Nat) : (16 : Int32) * nI a + nI s = nI (16 * a + s) := by
  show nI 16 * nI a + nI s = _
  rw [pk_mul, nI_add]
theorem qy_meet {post : SY → Prop} {P : Nat → Prop} {r : Int32} {s : Nat} (hc : c ≤ 24) (hr : qz_op P (-1) r) (hP : ∀ a, P a → a < c) (hs : s < 16)
    (h : ∀ fm' M', ((fm' = fm ∧ M' = M ∧ ∀ a, P a → ¬ M (16 * a + s) = 0) ∨ (∃ a, P a ∧ (∀ a', P a' → a' = a) ∧ M (16 * a + s) = 0 ∧ fm' = 1 ∧ M' = upd M (16 * a + s) 1)) → post (nI c, fm', K, F, S, M', U, D)) : wpY_meet post (nI c, fm, K, F, S, M, U, D) r (nI s) := by
  unfold wpY_meet
  rcases hr with ⟨rfl, no⟩ | ⟨a, rfl, ha, ua⟩
  · exact br_t (by decide) (h _ _ (Or.inl ⟨rfl, rfl, fun a ha => absurd ha (no a)⟩))
  · have hac := hP a ha
    have iv : vp_in (nI (16 * a + s)) 384 := vp_in_nI (by omega) (by omega)
    refine br_f (nI_pos (by omega)) ?_
    rw [qz_x16, nI_clamp (by omega), qz_nb1]
    refine ⟨iv, br_c (fun z => ⟨iv, nm_e (h _ _ (Or.inr ⟨a, ha, ua, z, rfl, rfl⟩))⟩) (fun z => h _ _ (Or.inl ⟨rfl, rfl, fun a' ha' => ?_⟩))⟩
    rw [ua a' ha']
    exact z
/-- between the begin and what is reached -/
def qz_SI (R I0 : Nat → Prop) (M : Nat → Int32) : Prop := (∀ j, j < 384 → ¬ M j = 0 → R j) ∧ (∀ j, I0 j → ¬ M j = 0)
theorem qz_SI_up {R I0 : Nat → Prop} {k : Nat} (h : qz_SI R I0 M) (hk : R k) : qz_SI R I0 (upd M k 1) := by
  refine ⟨fun j hj z => ?_, fun j hj => ?_⟩
  · by_cases e : j = k
    · rw [e]; exact hk
    · rw [pk_un e] at z; exact h.1 j hj z
  · by_cases e : j = k
    · rw [e, pk_us]; decide
    · rw [pk_un e]; exact h.2 j hj
def qz_GC (M0 : Nat → Int32) (g : Int32) (M : Nat → Int32) (C : Prop) : Prop := (g = 0 ∧ M = M0 ∧ C) ∨ (g = 1 ∧ qz_ct M0 < qz_ct M)
theorem qz_GC_up {M0 : Nat → Int32} {g : Int32} {k : Nat} {C C' : Prop} (h : qz_GC M0 g M C) (hk : k < 384) (h0 : M k = 0) : qz_GC M0 1 (upd M k 1) C' := by
  have := qz_ct_up hk h0
  rcases h with ⟨_, h, _⟩ | ⟨_, h⟩
  · rw [h] at this ⊢
    exact Or.inr ⟨rfl, this⟩
  · exact Or.inr ⟨rfl, by omega⟩
theorem qz_GC_m {M0 : Nat → Int32} {g : Int32} {C C' : Prop} (h : qz_GC M0 g M C) (hC : M = M0 → C → C') : qz_GC M0 g M C' := by
  rcases h with ⟨a, b, d⟩ | h
  · exact Or.inl ⟨a, b, hC b d⟩
  · exact Or.inr h
/-- one place's step: both next points are met -/
theorem qy_sp69 {post : SY → Prop} {J5 : Int32 → Int32 → (Nat → Int32) → (Nat → Int32) → (Nat → Int32) → (Nat → Int32) → (Nat → Int32) → (Nat → Int32) → Prop} {J19 : Int32 → Int32 → Int32 → (Nat → Int32) → (Nat → Int32) → (Nat → Int32) → (Nat → Int32) → (Nat → Int32) → (Nat → Int32) → Prop} {R I0 : Nat → Prop} {M0 : Nat → Int32} {C : Prop} {w x1 : Int32} {j m : Nat} (hc : c ≤ 24) (V : qz_va K F S) (hj : j < 16 * c) (hm : m < 16) (hR : ∀ q, qz_nx c K F (j / 16) q → R (16 * q + m)) (I : qz_SI R I0 M) (G : qz_GC M0 fm M C)
    (h : ∀ fm' M', qz_SI R I0 M' → qz_GC M0 fm' M' (C ∧ ∀ q, qz_nx c K F (j / 16) q → ¬ M0 (16 * q + m) = 0) → J19 (nI (j + 1)) (nI c) fm' K F S M' U D) : wY_spread_69 post J5 J19 x1 (nI j) (nI m) (nI c) fm K F S M U D := by
  have ed : nI j / 16 = nI (j / 16) := pk_div (d := 16) (by omega) (by omega) (by omega)
  have hp : j / 16 < 24 := by omega
  unfold wY_spread_69
  rw [ed]
  refine ⟨by decide, qy_next0 hp hc V (fun r0 h0 => qy_meet hc h0 (fun a z => z.1) hm (fun fm1 M1 h1 => ⟨by decide, qy_next1 hp hc V (fun r1 h1' => qy_meet hc h1' (fun a z => z.1) hm (fun fm2 M2 h2 => nm_r (nI_1 j) ?_))⟩))⟩
  have S1 : qz_SI R I0 M1 ∧ qz_GC M0 fm1 M1 (C ∧ ∀ q, qz_p0 c K F (j / 16) q → ¬ M0 (16 * q + m) = 0) := by
    rcases h1 with ⟨e1, e2, ha⟩ | ⟨a, ha, ua, z, e1, e2⟩
    · subst e1
      subst e2
      exact ⟨I, qz_GC_m G (fun e hC => ⟨hC, fun q hq => by rw [← e]; exact ha q hq⟩)⟩
    · subst e1
      subst e2
      have hac := ha.1
      exact ⟨qz_SI_up I (hR a (qz_nx_y.mpr (Or.inl ha))), qz_GC_up G (by omega) z⟩
  have S2 : qz_SI R I0 M2 ∧ qz_GC M0 fm2 M2 (C ∧ ∀ q, qz_nx c K F (j / 16) q → ¬ M0 (16 * q + m) = 0) := by
    rcases h2 with ⟨e1, e2, ha⟩ | ⟨a, ha, ua, z, e1, e2⟩
    · subst e1
      subst e2
      refine ⟨S1.1, qz_GC_m S1.2 (fun e hC => ⟨hC.1, fun q hq => ?_⟩)⟩
      rcases qz_nx_y.mp hq with y | y
      · exact hC.2 q y
      · rw [← e]; exact ha q y
    · subst e1
      subst e2
      have hac := ha.1
      exact ⟨qz_SI_up S1.1 (hR a (qz_nx_y.mpr (Or.inr ha))), qz_GC_up S1.2 (by omega) z⟩
  exact h _ _ S2.1 S2.2
theorem qy_sp19 {post : SY → Prop} {J5 : Int32 → Int32 → (Nat → Int32) → (Nat → Int32) → (Nat → Int32) → (Nat → Int32) → (Nat → Int32) → (Nat → Int32) → Prop} {I0 : Nat → Prop} {M0 : Nat → Int32} {w : Nat} (hc : c ≤ 24) (V : qz_va K F S) (hw : w < 3)
    (h : ∀ fm' M', qz_SI (qz_R I0 (qz_ye c K F S w)) I0 M' → qz_GC M0 fm' M' (∀ j, j < 16 * c → ¬ M0 j = 0 → ∀ k, qz_ye c K F S w j k → ¬ M0 k = 0) → J5 (nI c) fm' K F S M' U D) :
    ∀ d j, j + d = 16 * c → ∀ fm' M', qz_SI (qz_R I0 (qz_ye c K F S w)) I0 M' → qz_GC M0 fm' M' (∀ j', j' < j → ¬ M0 j' = 0 → ∀ k, qz_ye c K F S w j' k → ¬ M0 k = 0) → wY_spread_19 post J5 (nI w) (d + 1) (nI j) (nI c) fm' K F S M' U D := by
  have e16 : (16 : Int32) * nI c = nI (16 * c) := by
    show nI 16 * nI c = _
    rw [pk_mul]
  intro d
  induction d with
  | zero =>
    intro j hj fm' M' I G
    have : j = 16 * c := by omega
    subst this
    refine pk_le (16 * c) (16 * c) (fun _ => h _ _ I G) (fun z => by omega) e16
  | succ d ih =>
    intro j hj fm' M' I G
    have hj384 : j < 384 := by omega
    have skip : (M' = M0 → ∀ k, ¬ M0 j = 0 → qz_ye c K F S w j k → ¬ M0 k = 0) → wY_spread_19 post J5 (nI w) (d + 1) (nI (j + 1)) (nI c) fm' K F S M' U D := by
      intro hk
      refine ih (j + 1) (by omega) fm' M' I (qz_GC_m G (fun e hC j' hj' z k y => ?_))
      by_cases e2 : j' = j
      · subst e2; exact hk e k z y
      · exact hC j' (by omega) z k y
    refine pk_le (16 * c) j (fun z => by omega) (fun _ => ⟨vp_in_nI hj384 (by omega), ?_⟩) e16
    rw [nI_clamp (by omega)]
    refine br_c (fun z => ?_) (fun z => ⟨by decide, by decide, ?_⟩)
    · exact br_f (by decide) (br_f (by decide) (nm_r (nI_1 j) (skip (fun e k y => by rw [e] at z; exact absurd z y))))
    · have ed : nI j / 16 = nI (j / 16) := pk_div (d := 16) (by omega) (by omega) (by omega)
      have er : nI j - nI j / 16 * 16 = nI (j % 16) := pk_rem (d := 16) (by omega) (by omega) (by omega)
      rw [er, ed]
      refine qy_after (by omega) (Nat.mod_lt _ (by omega)) hw V (fun m hm => ?_)
      have hm16 := qz_aw_lt hm
      have J69 : (m ≠ 0 ∨ w ≠ 0) → wY_spread_69 post J5 (wY_spread_19 post J5 (nI w) (d + 1)) (nI w) (nI j) (nI m) (nI c) fm' K F S M' U D := by
        intro hmw
        refine qy_sp69 (w := 0) hc V (by omega) hm16 (fun q hq => qz_R1 (I.1 j hj384 z) ⟨by omega, q, m, hq, hm, hmw, rfl⟩) I G (fun fm2 M2 I2 G2 => ih (j + 1) (by omega) fm2 M2 I2 (qz_GC_m G2 (fun e hC j' hj' z' k y => ?_)))
        by_cases e2 : j' = j
        · subst e2
          obtain ⟨_, q, m', hq, hm', _, rfl⟩ := y
          rw [qz_aw_u hm' hm]
          exact hC.2 q hq
        · exact hC.1 j' (by omega) z' k y
      unfold wY_spread_56
      refine pk_lt 0 m (fun y => J69 (Or.inl (by omega))) (fun y => ?_)
      have m0 : m = 0 := by omega
      refine br_t (by rw [m0]; rfl) (pk_le w 0 (fun x => nm_r (nI_1 j) (skip (fun e k _ y => ?_))) (fun x => J69 (Or.inr (by omega))))
      obtain ⟨_, q, m', hq, hm', hmw, _⟩ := y
      rw [qz_aw_u hm' hm] at hmw
      exfalso
      rcases hmw with hmw | hmw
      · exact hmw m0
      · exact hmw (by omega)
/-- met, by what is reached -/
def qz_mt (R : Nat → Prop) (M : Nat → Int32) : Prop := ∀ j, j < 384 → (¬ M j = 0 ↔ R j)
theorem qy_sp5 {post : SY → Prop} {I0 : Nat → Prop} {w : Nat} (hc : c ≤ 24) (V : qz_va K F S) (hw : w < 3) (hI : ∀ j, I0 j → j < 16 * c)
    (h : ∀ fm' M', qz_mt (qz_R I0 (qz_ye c K F S w)) M' → post (nI c, fm', K, F, S, M', U, D)) :
    ∀ n M', qz_SI (qz_R I0 (qz_ye c K F S w)) I0 M' → 385 - qz_ct M' ≤ n → wY_spread_5 post (nI w) (n + 1) (nI c) 1 K F S M' U D := by
  intro n
  induction n with
  | zero =>
    intro M' I hn
    have := qz_ct_b M'
    omega
  | succ n ih =>
    intro M' I hn
    have hb := qz_ct_b M'
    refine br_f (by decide) ⟨16 * c + 1, ?_⟩
    refine qy_sp19 (M0 := M') hc V hw (fun fm2 M2 I2 G => ?_) (16 * c) 0 (by omega) 0 M' I (Or.inl ⟨rfl, rfl, fun j' hj' => by omega⟩)
    rcases G with ⟨g0, e1, c1⟩ | ⟨g1, G⟩
    · subst e1
      rw [g0]
      refine br_t rfl (h _ _ (fun j hj => ⟨I2.1 j hj, fun z => ?_⟩))
      refine qz_Ri (P := fun j => j < 16 * c ∧ ¬ M2 j = 0) (fun t ht => ⟨hI t ht, I2.2 t ht⟩) (fun s t _ hs e => ⟨?_, c1 s hs.1 hs.2 t e⟩) z |>.2
      obtain ⟨_, q, m, hq, hm, _, rfl⟩ := e
      have := hq.1
      have := qz_aw_lt hm
      omega
    · rw [g1]
      exact ih M2 I2 (by omega)
theorem qy_spread {post : SY → Prop} {I0 : Nat → Prop} {w : Nat} (hc : c ≤ 24) (V : qz_va K F S) (hw : w < 3) (hI : ∀ j, I0 j → j < 16 * c) (I : qz_SI (qz_R I0 (qz_ye c K F S w)) I0 M)
    (h : ∀ fm' M', qz_mt (qz_R I0 (qz_ye c K F S w)) M' → post (nI c, fm', K, F, S, M', U, D)) : wpY_spread post (nI c, fm, K, F, S, M, U, D) (nI w) :=
  ⟨386, qy_sp5 hc V hw hI h 385 M I (Nat.sub_le _ _)⟩
theorem qy_clear {post : SY → Prop} (h : ∀ M' : Nat → Int32, (∀ j, j < 384 → M' j = 0) → post (nI c, fm, K, F, S, M', U, D)) : wpY_clear post (nI c, fm, K, F, S, M, U, D) := by
  unfold wpY_clear
  refine loop_0 (fun n i (M' : Nat → Int32) => wY_clear_2 post (nI c) fm n (nI i) K F S M' U D) (fun i M' => ∀ j, j < i → M' j = 0) 384 M (fun j hj => by omega) ?_ ?_
  · intro n M' hM
    exact br_t (nI_le (Nat.le_refl 384) (by omega)) (h M' hM)
  · intro n j M' hj hM hk
    refine br_f (nI_ge (b := 384) hj (by omega)) ⟨vp_in_nI hj (by omega), nm_e (nm_r (nI_1 j) (hk _ ?_))⟩
    intro t ht
    rw [nI_clamp (by omega), qz_nb0]
    by_cases z : t = j
    · rw [z, pk_us]
    · rw [pk_un z]; exact hM t (by omega)
theorem qy_begin {post : SY → Prop} {w : Nat} (hc : c ≤ 24) (V : qz_va K F S) (hw : w < 3) (h : ∀ fm' M', qz_mt (qz_yb c K F S w) M' → post (nI c, fm', K, F, S, M', U, D)) : wpY_fromBegin post (nI c, fm, K, F, S, M, U, D) (nI w) := by
  unfold wpY_fromBegin
  refine qy_clear (fun M1 h1 => pk_le c 0 (fun z => ?_) (fun z => nm_e ?_))
  · refine qy_spread (I0 := fun j => j = 0 ∧ 0 < c) hc V hw (fun j hj => by have := hj.1; have := hj.2; omega) ⟨fun j hj y => absurd (h1 j hj) y, fun j hj => by have := hj.2; omega⟩ h
  · rw [qz_nb1]
    refine qy_spread (I0 := fun j => j = 0 ∧ 0 < c) hc V hw (fun j hj => by have := hj.1; have := hj.2; omega) ⟨fun j hj y => ?_, fun j hj => ?_⟩ h
    · by_cases e : j = 0
      · exact qz_R0 ⟨e, z⟩
      · rw [pk_un e] at y
        exact absurd (h1 j hj) y
    · rw [hj.1, pk_us]; decide
theorem qy_met2 {post : Int32 → Prop} {p : Nat} (hp : p < 24) (h1 : (∃ s, s < 16 ∧ ¬ M (16 * p + s) = 0) → post 1) (h0 : ¬ (∃ s, s < 16 ∧ ¬ M (16 * p + s) = 0) → post 0) :
    ∀ d s, s + d = 16 → (∀ s', s' < s → M (16 * p + s') = 0) → wY_isMet_2 post (nI p) (nI c) fm K F S M U D (d + 1) (nI s) := by
  intro d
  induction d with
  | zero =>
    intro s hs hn
    have : s = 16 := by omega
    subst this
    refine br_t (nI_le (Nat.le_refl 16) (by omega)) (h0 ?_)
    rintro ⟨s, hs, z⟩
    exact z (hn s hs)
  | succ d ih =>
    intro s hs hn
    refine br_f (nI_ge (b := 16) (by omega) (by omega)) ?_
    rw [qz_x16, nI_clamp (by omega)]
    refine ⟨vp_in_nI (by omega) (by omega), br_c (fun z => nm_r (nI_1 s) (ih (s + 1) (by omega) (fun s' hs' => ?_))) (fun z => h1 ⟨s, by omega, z⟩)⟩
    by_cases e : s' = s
    · rw [e]; exact z
    · exact hn s' (by omega)
theorem qy_reached {post : Int32 → SY → Prop} (hc : c ≤ 24) (V : qz_va K F S) (x : Int32)
    (h1 : ∀ p, p < c → x = nI p → qz_re c K F p → ∀ fm' M', post 1 (nI c, fm', K, F, S, M', U, D))
    (h0 : (∀ p, p < c → x = nI p → ¬ qz_re c K F p) → ∀ fm' M', post 0 (nI c, fm', K, F, S, M', U, D)) : wpY_reached post (nI c, fm, K, F, S, M, U, D) x := by
  unfold wpY_reached
  refine qy_begin (w := 1) hc V (by omega) (fun fm1 M1 mt => qy_pt hc x (fun p hp e => br_f (by decide) ?_) (fun no => br_t rfl (h0 (fun p hp e => absurd e (no p hp)) _ _)))
  subst e
  have eqv : (∃ s, s < 16 ∧ ¬ M1 (16 * p + s) = 0) ↔ qz_re c K F p := by
    rw [← qz_met_re (S := S)]
    constructor
    · rintro ⟨s, hs, z⟩
      exact ⟨s, hs, (mt _ (by omega)).mp z⟩
    · rintro ⟨s, hs, z⟩
      exact ⟨s, hs, (mt _ (by omega)).mpr z⟩
  refine ⟨17, qy_met2 (by omega) (fun z => br_f (by decide) (h1 p hp rfl (eqv.mp z) _ _)) (fun z => br_t rfl (h0 (fun p' hp' e y => ?_) _ _)) 16 0 rfl (fun s' hs' => by omega)⟩
  have : p = p' := (nI_eq (by omega) (by omega)).mp e
  rw [← this] at y
  exact z (eqv.mpr y)
theorem qy_makes {post : Int32 → Prop} {p : Nat} (hp : p < 24) (h1 : qz_mk K p → post 1) (h0 : ¬ qz_mk K p → post 0) : wpY_makes post (nI c, fm, K, F, S, M, U, D) (nI p) := by
  unfold wpY_makes
  have i := qz_i24 hp
  simp only [qz_c24 hp]
  exact ⟨i, br_c (fun z => h1 (Or.inl z)) (fun a => ⟨i, br_c (fun z => h1 (Or.inr z)) (fun b => h0 (fun z => by
    rcases z with z | z
    · exact a z
    · exact b z))⟩)⟩
theorem qy_follow {post : Int32 → SY → Prop} {b : Nat} (hc : c ≤ 24) (V : qz_va K F S) (hb : b < c)
    (h1 : qz_mk K b → qz_re c K F b → ∀ fm' M', qz_mt (qz_yf c K F S b) M' → post 1 (nI c, fm', K, F, S, M', U, D))
    (h0 : ¬ (qz_mk K b ∧ qz_re c K F b) → ∀ fm' M', post 0 (nI c, fm', K, F, S, M', U, D)) : wpY_follow post (nI c, fm, K, F, S, M, U, D) (nI b) := by
  have hb24 : b < 24 := by omega
  unfold wpY_follow
  refine qy_makes hb24 (fun mk => br_f (by decide) (qy_reached hc V (nI b) (fun p hp e re fm1 M1 => br_f (by decide) ?_) (fun no fm1 M1 => br_t rfl (h0 (fun z => no b hb rfl z.2) _ _)))) (fun mk => br_t rfl (h0 (fun z => mk z.1) _ _))
  have ep : b = p := (nI_eq (by omega) (by omega)).mp e
  rw [← ep] at re
  obtain ⟨x, hx, ex⟩ : ∃ x, x < 4 ∧ F b = nI x := by
    rcases mk with k | k
    · exact (qz_va_b V (Or.inl k)).1
    · exact (qz_va_b V (Or.inr (Or.inl k))).1
  refine qy_clear (fun M2 hM2 => ⟨qz_i24 hb24, ?_⟩)
  rw [qz_c24 hb24, ex, (qz_pow4 x hx).1]
  refine nm_e (qy_next0 hb24 hc V (fun r hr => qy_meet hc hr (fun a z => z.1) (qz_pow_lt hx) (fun fm3 M3 h3 => ?_)))
  have nx0 : ∀ q, qz_nx c K F b q → qz_p0 c K F b q := by
    intro q hq
    rcases qz_nx_y.mp hq with z | z
    · exact z
    · exfalso
      have z10 := z.2.1
      unfold qz_mk at mk
      rw [z10] at mk
      exact absurd mk (by decide)
  have hI : ∀ j, (∃ q x, qz_nx c K F b q ∧ x < 4 ∧ F b = nI x ∧ j = 16 * q + 2 ^ x) → j < 16 * c := by
    rintro j ⟨q, y, hq, hy, _, rfl⟩
    have := hq.1
    have := qz_pow_lt hy
    omega
  refine qy_spread (w := 0) (I0 := fun j => ∃ q x, qz_nx c K F b q ∧ x < 4 ∧ F b = nI x ∧ j = 16 * q + 2 ^ x) hc V (by omega) hI ?_ (fun fm4 M4 mt => h1 mk re _ _ mt)
  rcases h3 with ⟨_, e2, ha⟩ | ⟨a, ha, ua, z, _, e2⟩
  · subst e2
    refine ⟨fun j hj y => absurd (hM2 j hj) y, ?_⟩
    rintro j ⟨q, y, hq, hy, ey, rfl⟩
    have : x = y := (qz_ne hx hy).mp (ex.symm.trans ey)
    rw [← this]
    exact ha q (nx0 q hq)
  · subst e2
    refine ⟨fun j hj y => ?_, ?_⟩
    · by_cases e : j = 16 * a + 2 ^ x
      · exact qz_R0 ⟨a, x, qz_nx_y.mpr (Or.inl ha), hx, ex, e⟩
      · rw [pk_un e] at y
        exact absurd (hM2 j hj) y
    · rintro j ⟨q, y, hq, hy, ey, rfl⟩
      have : x = y := (qz_ne hx hy).mp (ex.symm.trans ey)
      rw [← this, ua q (nx0 q hq), pk_us]
      decide
end
end
section
/-! ===== Y: findUseful ===== -/
def qz_us' (c : Nat) (K F S U : Nat → Int32) : Prop := ∀ j, j < 384 → (U j = 0 ∨ U j = 1) ∧ (¬ U j = 0 ↔ qz_yu c K F S j)
section
variable {c : Nat} {fm : Int32} {K F S M U D : Nat → Int32}
theorem qy_uses {post : Int32 → Prop} {p s : Nat} (hp : p < 24) (V : qz_va K F S) (h1 : qz_uz K F p s → post 1) (h0 : ¬ qz_uz K F p s → post 0) : wpY_uses post (nI c, fm, K, F, S, M, U, D) (nI p) (nI s) := by
  have i := qz_i24 hp
  unfold wpY_uses
  simp only [qz_c24 hp]
  refine ⟨i, br_c (fun k7 => ⟨i, ?_⟩) (fun k7 => h0 (fun z => k7 z.1))⟩
  obtain ⟨a, ha, ea⟩ := qz_va_a V (Or.inr (Or.inr (Or.inr (Or.inl k7))))
  rw [ea]
  refine br_c (fun z => h1 ⟨k7, a, ha, ea, (qz_b1o _ a (by omega)).mp z⟩) (fun z => h0 ?_)
  rintro ⟨_, a', ha', ea', y⟩
  have : a = a' := (qz_ne ha ha').mp (ea.symm.trans ea')
  rw [← this] at y
  exact z ((qz_b1o _ a (by omega)).mpr y)
theorem qy_useful {post : Int32 → Prop} {P : Nat → Prop} {r : Int32} {m : Nat} (hc : c ≤ 24) (hr : qz_op P (-1) r) (hP : ∀ a, P a → a < c) (hm : m < 16)
    (h1 : (∃ a, P a ∧ ¬ U (16 * a + m) = 0) → post 1) (h0 : ¬ (∃ a, P a ∧ ¬ U (16 * a + m) = 0) → post 0) : wpY_isUseful post (nI c, fm, K, F, S, M, U, D) r (nI m) := by
  unfold wpY_isUseful
  rcases hr with ⟨rfl, no⟩ | ⟨a, rfl, ha, ua⟩
  · exact br_t (by decide) (h0 (fun ⟨a, ha, _⟩ => no a ha))
  · have hac := hP a ha
    refine br_f (nI_pos (by omega)) ?_
    rw [qz_x16, nI_clamp (by omega)]
    refine ⟨vp_in_nI (by omega) (by omega), br_c (fun z => h0 ?_) (fun z => h1 ⟨a, ha, z⟩)⟩
    rintro ⟨a', ha', y⟩
    rw [ua a' ha'] at y
    exact y z
theorem qy_u161 {post : SY → Prop} {J57 : Int32 → (Nat → Int32) → (Nat → Int32) → (Nat → Int32) → (Nat → Int32) → (Nat → Int32) → (Nat → Int32) → Prop} {J71 : Int32 → Int32 → (Nat → Int32) → (Nat → Int32) → (Nat → Int32) → (Nat → Int32) → (Nat → Int32) → (Nat → Int32) → Prop} {j : Nat} {l z : Int32} (hj : j < 384) (hU : U j = 0 ∨ U j = 1) (hz : z = 0 ∨ z = 1)
    (A : ¬ l = 0 → U j = 0 → J71 (nI (j + 1)) z K F S M (upd U j 1) D) (B : (l = 0 ∨ ¬ U j = 0) → J71 (nI (j + 1)) z K F S M U D) : wY_findUseful_161 post J57 J71 (nI j) l z (nI c) fm K F S M U D := by
  have iv : vp_in (nI j) 384 := vp_in_nI hj (by omega)
  unfold wY_findUseful_161
  rw [nI_clamp (by omega), qz_nb0, qz_nb1]
  refine ⟨qz_nw hz, qz_fw' hz, iv, br_c (fun u0 => br_c (fun l0 => ⟨iv, nm_r (show upd U j 0 = U by rw [← u0]; exact qz_uu) (nm_r (nI_1 j) (B (Or.inl l0)))⟩) (fun l0 => ⟨iv, nm_e (nm_r (nI_1 j) (A l0 u0))⟩)) (fun u0 => ⟨iv, nm_r ?_ (nm_r (nI_1 j) (B (Or.inr u0)))⟩)⟩
  have u1 : U j = 1 := by
    rcases hU with w | w
    · exact absurd w u0
    · exact w
  rw [← u1]
  exact qz_uu
theorem qy_u134 {post : SY → Prop} {J57 : Int32 → (Nat → Int32) → (Nat → Int32) → (Nat → Int32) → (Nat → Int32) → (Nat → Int32) → (Nat → Int32) → Prop} {J71 : Int32 → Int32 → (Nat → Int32) → (Nat → Int32) → (Nat → Int32) → (Nat → Int32) → (Nat → Int32) → (Nat → Int32) → Prop} {j : Nat} {l : Int32} (hj : j < 384) (hU : U j = 0 ∨ U j = 1) (hfm : fm = 0 ∨ fm = 1)
    (A : ¬ l = 0 → U j = 0 → J71 (nI (j + 1)) 1 K F S M (upd U j 1) D) (B : (l = 0 ∨ ¬ U j = 0) → J71 (nI (j + 1)) fm K F S M U D) : wY_findUseful_134 post J57 J71 (nI j) l (nI c) fm K F S M U D := by
  have iv : vp_in (nI j) 384 := vp_in_nI hj (by omega)
  unfold wY_findUseful_134
  rw [nI_clamp (by omega)]
  refine br_c (fun f0 => br_c (fun l0 => ?_) (fun l0 => ⟨iv, br_c (fun u0 => ?_) (fun u0 => ?_)⟩)) (fun f0 => ?_)
  · exact qy_u161 hj hU (Or.inl rfl) (fun w => absurd l0 w) (fun w => by have := B w; rw [f0] at this; exact this)
  · exact qy_u161 hj hU (Or.inr rfl) A (fun w => by
      rcases w with w | w
      · exact absurd w l0
      · exact absurd u0 w)
  · exact qy_u161 hj hU (Or.inl rfl) (fun _ w => absurd w u0) (fun w => by have := B w; rw [f0] at this; exact this)
  · have f1 : fm = 1 := by
      rcases hfm with w | w
      · exact absurd w f0
      · exact w
    exact qy_u161 hj hU (Or.inr rfl) A (fun w => by have := B w; rw [f1] at this; exact this)
def qz_UI (c : Nat) (K F S U : Nat → Int32) : Prop := (∀ j, j < 384 → U j = 0 ∨ U j = 1) ∧ (∀ j, j < 384 → ¬ U j = 0 → qz_yu c K F S j) ∧ (∀ j, j < 16 * c → qz_uz K F (j / 16) (j % 16) → ¬ U j = 0)
def qz_ul (c : Nat) (K F S U : Nat → Int32) (j : Nat) : Prop := ∃ q m, qz_nx c K F (j / 16) q ∧ qz_hb K F S (j / 16) (j % 16) m ∧ ¬ U (16 * q + m) = 0
theorem qy_u71 {post : SY → Prop} {J57 : Int32 → (Nat → Int32) → (Nat → Int32) → (Nat → Int32) → (Nat → Int32) → (Nat → Int32) → (Nat → Int32) → Prop} {U0 : Nat → Int32} (hc : c ≤ 24) (V : qz_va K F S)
    (h : ∀ fm' U', qz_UI c K F S U' → qz_GC U0 fm' U' (∀ j, j < 16 * c → qz_ul c K F S U0 j → ¬ U0 j = 0) → J57 fm' K F S M U' D) :
    ∀ d j, j + d = 16 * c → ∀ fm' U', qz_UI c K F S U' → qz_GC U0 fm' U' (∀ j', j' < j → qz_ul c K F S U0 j' → ¬ U0 j' = 0) → wY_findUseful_71 post J57 (nI c) (d + 1) (nI j) fm' K F S M U' D := by
  have e16 : (16 : Int32) * nI c = nI (16 * c) := by
    show nI 16 * nI c = _
    rw [pk_mul]
  intro d
  induction d with
  | zero =>
    intro j hj fm' U' I G
    have : j = 16 * c := by omega
    subst this
    exact pk_le (16 * c) (16 * c) (fun _ => h _ _ I G) (fun z => by omega) e16
  | succ d ih =>
    intro j hj fm' U' I G
    have hj384 : j < 384 := by omega
    have hp : j / 16 < 24 := by omega
    have ed : nI j / 16 = nI (j / 16) := pk_div (d := 16) (by omega) (by omega) (by omega)
    have er : nI j - nI j / 16 * 16 = nI (j % 16) := pk_rem (d := 16) (by omega) (by omega) (by omega)
    have f01 : fm' = 0 ∨ fm' = 1 := by
      rcases G with G | G
      · exact Or.inl G.1
      · exact Or.inr G.1
    refine pk_le (16 * c) j (fun z => by omega) (fun _ => ?_) e16
    rw [er, ed]
    refine ⟨by decide, by decide, qy_hold hp (Nat.mod_lt _ (by omega)) V (fun m hm => ⟨by decide, qy_next0 hp hc V (fun r0 h0 => ?_)⟩)⟩
    have M134 : ∀ l : Int32, (¬ l = 0 ↔ qz_ul c K F S U' j) → wY_findUseful_134 post J57 (wY_findUseful_71 post J57 (nI c) (d + 1)) (nI j) l (nI c) fm' K F S M U' D := by
      intro l hl
      refine qy_u134 hj384 (I.1 j hj384) f01 (fun l0 u0 => ?_) (fun l0 => ?_)
      · refine ih (j + 1) (by omega) 1 _ ?_ (qz_GC_up G hj384 u0)
        obtain ⟨q, m', e, hb, z⟩ := hl.mp l0
        have hm' := hb.1
        have hq := e.1
        refine ⟨fun k hk => ?_, fun k hk y => ?_, fun k hk y => ?_⟩
        · by_cases w : k = j
          · rw [w, pk_us]; exact Or.inr rfl
          · rw [pk_un w]; exact I.1 k hk
        · by_cases w : k = j
          · rw [w]
            exact qz_R1 (I.2.1 (16 * q + m') (by omega) z) ⟨by omega, q, m', e, hb, rfl⟩
          · rw [pk_un w] at y; exact I.2.1 k hk y
        · by_cases w : k = j
          · rw [w, pk_us]; decide
          · rw [pk_un w]; exact I.2.2 k hk y
      · refine ih (j + 1) (by omega) fm' U' I (qz_GC_m G (fun e hC j' hj' y => ?_))
        by_cases w : j' = j
        · rw [w] at y ⊢
          rw [← e] at y ⊢
          rcases l0 with l0 | l0
          · exact absurd l0 (hl.mpr y)
          · exact l0
        · exact hC j' (by omega) y
    refine qy_useful hc h0 (fun a z => z.1) hm.1 (fun u => br_f (by decide) (M134 1 ⟨fun _ => ?_, fun _ => by decide⟩)) (fun nu => br_t rfl ⟨by decide, qy_next1 hp hc V (fun r1 h1 => qy_useful hc h1 (fun a z => z.1) hm.1 (fun u => br_f (by decide) (M134 1 ⟨fun _ => ?_, fun _ => by decide⟩)) (fun nu1 => br_t rfl (M134 0 ⟨fun z => absurd rfl z, fun z => ?_⟩)))⟩)
    · obtain ⟨a, ha, z⟩ := u
      exact ⟨a, m, qz_nx_y.mpr (Or.inl ha), hm, z⟩
    · obtain ⟨a, ha, z⟩ := u
      exact ⟨a, m, qz_nx_y.mpr (Or.inr ha), hm, z⟩
    · exfalso
      obtain ⟨q, m', e, hb, y⟩ := z
      rw [qz_hb_u hb hm] at y
      rcases qz_nx_y.mp e with w | w
      · exact nu ⟨q, w, y⟩
      · exact nu1 ⟨q, w, y⟩
theorem qy_u57 {post : SY → Prop} (hc : c ≤ 24) (V : qz_va K F S) (h : ∀ fm' U', qz_us' c K F S U' → post (nI c, fm', K, F, S, M, U', D)) :
    ∀ n U', qz_UI c K F S U' → 385 - qz_ct U' ≤ n → wY_findUseful_57 post (nI c) (n + 1) 1 K F S M U' D := by
  intro n
  induction n with
  | zero =>
    intro U' I hn
    have := qz_ct_b U'
    omega
  | succ n ih =>
    intro U' I hn
    have hb := qz_ct_b U'
    refine br_f (by decide) ⟨16 * c + 1, ?_⟩
    refine qy_u71 (U0 := U') hc V (fun fm2 U2 I2 G => ?_) (16 * c) 0 (by omega) 0 U' I (Or.inl ⟨rfl, rfl, fun j' hj' => by omega⟩)
    rcases G with ⟨g0, e1, c1⟩ | ⟨g1, G⟩
    · subst e1
      rw [g0]
      refine br_t rfl (h _ _ (fun j hj => ⟨I2.1 j hj, I2.2.1 j hj, fun z => ?_⟩))
      refine (qz_Ri (P := fun j => j < 16 * c ∧ ¬ U2 j = 0) (fun t ht => ⟨ht.1, I2.2.2 t ht.1 ht.2⟩) (fun s t _ hs e => ⟨e.1, c1 t e.1 ?_⟩) z).2
      obtain ⟨_, q, m, e, hm, es⟩ := e
      refine ⟨q, m, e, hm, ?_⟩
      rw [← es]
      exact hs.2
    · rw [g1]
      exact ih U2 I2 (by omega)
theorem qy_find {post : SY → Prop} (hc : c ≤ 24) (V : qz_va K F S) (h : ∀ fm' U', qz_us' c K F S U' → post (nI c, fm', K, F, S, M, U', D)) : wpY_findUseful post (nI c, fm, K, F, S, M, U, D) := by
  have e16 : (16 : Int32) * nI c = nI (16 * c) := by
    show nI 16 * nI c = _
    rw [pk_mul]
  unfold wpY_findUseful
  refine loop_0 (fun n i (U' : Nat → Int32) => wY_findUseful_2 post (nI c) fm n (nI i) K F S M U' D) (fun i U' => ∀ j, j < i → (U' j = 0 ∨ U' j = 1) ∧ (¬ U' j = 0 ↔ (j < 16 * c ∧ qz_uz K F (j / 16) (j % 16)))) 384 U (fun j hj => by omega) ?_ ?_
  · intro n U' hU
    refine br_t (nI_le (Nat.le_refl 384) (by omega)) ⟨386, qy_u57 hc V h 385 U' ⟨fun j hj => (hU j hj).1, fun j hj z => qz_R0 ((hU j hj).2.mp z), fun j hj z => (hU j (by omega)).2.mpr ⟨hj, z⟩⟩ (Nat.sub_le _ _)⟩
  · intro n j U' hj hU hk
    have iv : vp_in (nI j) 384 := vp_in_nI hj (by omega)
    have ed : nI j / 16 = nI (j / 16) := pk_div (d := 16) (by omega) (by omega) (by omega)
    have er : nI j - nI j / 16 * 16 = nI (j % 16) := pk_rem (d := 16) (by omega) (by omega) (by omega)
    have st : ∀ v : Int32, (v = 0 ∨ v = 1) → (¬ v = 0 ↔ (j < 16 * c ∧ qz_uz K F (j / 16) (j % 16))) → wY_findUseful_2 post (nI c) fm n (nI (j + 1)) K F S M (upd U' j v) D := by
      intro v hv hv2
      refine hk _ (fun k hkk => ?_)
      by_cases w : k = j
      · rw [w, pk_us]; exact ⟨hv, hv2⟩
      · rw [pk_un w]; exact hU k (by omega)
    refine br_f (nI_ge (b := 384) hj (by omega)) ?_
    rw [nI_clamp (by omega), qz_nb0, qz_nb1, er, ed]
    refine pk_le (16 * c) j (fun z => ⟨iv, nm_e (nm_r (nI_1 j) (st 0 (Or.inl rfl) ⟨fun w => absurd rfl w, fun w => ?_⟩))⟩) (fun z => ⟨by decide, by decide, qy_uses (by omega) V (fun u => br_f (by decide) ⟨iv, nm_e (nm_r (nI_1 j) (st 1 (Or.inr rfl) ⟨fun _ => ⟨z, u⟩, fun _ => by decide⟩))⟩) (fun u => br_t rfl ⟨iv, nm_e (nm_r (nI_1 j) (st 0 (Or.inl rfl) ⟨fun w => absurd rfl w, fun w => absurd w.2 u⟩))⟩)⟩) e16
    have := w.1
    omega
end
end
section
/-! ===== Y: the queries ===== -/
section
variable {c : Nat} {fm : Int32} {K F S M U D : Nat → Int32}
theorem qy_h45 {post : Int32 → SY → Prop} {J : Int32 → Int32 → Int32 → Int32 → (Nat → Int32) → (Nat → Int32) → (Nat → Int32) → (Nat → Int32) → (Nat → Int32) → (Nat → Int32) → Prop} {p r b : Nat} {x0 : Int32} (hp : p < 24) (hr : r < 4) (hb : b < 24)
    (h : ∀ x, (∀ i, bt x i = true ↔ (bt x0 i = true ∨ (i = b ∧ ∃ s, s < 16 ∧ bt (nI s) r = true ∧ ¬ M (16 * p + s) = 0))) → J x (nI (b + 1)) (nI c) fm K F S M U D) :
    ∀ d s, s + d = 16 → ∀ x, (∀ i, bt x i = true ↔ (bt x0 i = true ∨ (i = b ∧ ∃ s', s' < s ∧ bt (nI s') r = true ∧ ¬ M (16 * p + s') = 0))) → wY_holds_45 post J (nI p) (nI r) (nI b) 1 (nI c) fm K F S M U D (d + 1) x (nI s) := by
  intro d
  induction d with
  | zero =>
    intro s hs x hx
    have : s = 16 := by omega
    subst this
    exact br_t (nI_le (Nat.le_refl 16) (by omega)) (nm_r (nI_1 b) (h x hx))
  | succ d ih =>
    intro s hs x hx
    have skip : ¬ (bt (nI s) r = true ∧ ¬ M (16 * p + s) = 0) → wY_holds_45 post J (nI p) (nI r) (nI b) 1 (nI c) fm K F S M U D (d + 1) x (nI (s + 1)) := by
      intro z
      refine ih (s + 1) (by omega) x (fun i => ?_)
      rw [hx i]
      constructor
      · rintro (w | ⟨w, s', hs', y⟩)
        · exact Or.inl w
        · exact Or.inr ⟨w, s', by omega, y⟩
      · rintro (w | ⟨w, s', hs', y⟩)
        · exact Or.inl w
        · by_cases e : s' = s
          · rw [e] at y; exact absurd y z
          · exact Or.inr ⟨w, s', by omega, y⟩
    refine br_f (nI_ge (b := 16) (by omega) (by omega)) (br_f (by decide) ?_)
    rw [qz_x16, nI_clamp (by omega)]
    refine ⟨vp_in_nI (by omega) (by omega), br_c (fun z => nm_r (nI_1 s) (skip (fun y => y.2 z))) (fun z => br_c (fun y => nm_e (nm_r (nI_1 s) (ih (s + 1) (by omega) _ (fun i => ?_)))) (fun y => nm_r (nI_1 s) (skip (fun w => y ((qz_b1o _ r (by omega)).mpr w.1)))))⟩
    have yb := (qz_b1o _ r (by omega)).mp y
    rw [b_or, Bool.or_eq_true, qz_bshA (by omega), hx i]
    constructor
    · rintro ((w | ⟨w, s', hs', v⟩) | w)
      · exact Or.inl w
      · exact Or.inr ⟨w, s', by omega, v⟩
      · exact Or.inr ⟨w, s, by omega, yb, z⟩
    · rintro (w | ⟨w, _⟩)
      · exact Or.inl (Or.inl w)
      · exact Or.inr w
theorem qy_h25 {post : Int32 → SY → Prop} {p r : Nat} (hc : c ≤ 24) (V : qz_va K F S) (hp : p < 24) (hr : r < 4)
    (h : ∀ x fm' M', (∀ i, bt x i = true ↔ (i < c ∧ qz_ho c K F S i p r)) → post x (nI c, fm', K, F, S, M', U, D)) :
    ∀ d b, b + d = c → ∀ x fm' M', (∀ i, bt x i = true ↔ (i < b ∧ qz_ho c K F S i p r)) → wY_holds_25 post (nI p) (nI r) (d + 1) x (nI b) (nI c) fm' K F S M' U D := by
  intro d
  induction d with
  | zero =>
    intro b hb x fm' M' hx
    have : b = c := by omega
    subst this
    exact br_t (nI_le (Nat.le_refl b) (by omega)) (h x _ _ hx)
  | succ d ih =>
    intro b hb x fm' M' hx
    refine br_f (nI_ge (b := c) (by omega) (by omega)) (qy_follow hc V (by omega) (fun mk re fm2 M2 mt => ⟨17, ?_⟩) (fun no fm2 M2 => ⟨1, ?_⟩))
    · have eqv : (∃ s, s < 16 ∧ bt (nI s) r = true ∧ ¬ M2 (16 * p + s) = 0) ↔ qz_ho c K F S b p r := by
        rw [← qz_met_fo (by omega) re mk hr]
        constructor
        · rintro ⟨s, hs, y, z⟩
          exact ⟨s, hs, y, (mt _ (by omega)).mp z⟩
        · rintro ⟨s, hs, y, z⟩
          exact ⟨s, hs, y, (mt _ (by omega)).mpr z⟩
      refine qy_h45 (x0 := x) hp hr (by omega) (fun y hy => ih (b + 1) (by omega) y _ _ (fun i => ?_)) 16 0 rfl x (fun i => ⟨Or.inl, fun w => ?_⟩)
      · rw [hy i, hx i, eqv]
        constructor
        · rintro (⟨w, v⟩ | ⟨w, v⟩)
          · exact ⟨by omega, v⟩
          · rw [w]; exact ⟨by omega, v⟩
        · rintro ⟨w, v⟩
          by_cases e : i = b
          · rw [e] at v; exact Or.inr ⟨e, v⟩
          · exact Or.inl ⟨by omega, v⟩
      · rcases w with w | ⟨_, s', hs', _⟩
        · exact w
        · omega
    · refine br_f (by decide) (br_t rfl (nm_r (nI_1 b) (ih (b + 1) (by omega) x _ _ (fun i => ?_))))
      rw [hx i]
      constructor
      · rintro ⟨w, v⟩
        exact ⟨by omega, v⟩
      · rintro ⟨w, v⟩
        refine ⟨?_, v⟩
        apply Classical.byContradiction
        intro y
        have e : i = b := by omega
        rw [e] at v
        have f := (qz_ho_f v).2.2.2.2 (by omega)
        exact no ⟨f.2, f.1⟩
theorem qy_f7 {post : Int32 → SY → Prop} {p r : Nat} (hp : p < 24) (hr : r < 4) (h1 : (∃ s, s < 16 ∧ ¬ bt (nI s) r = true ∧ ¬ M (16 * p + s) = 0) → post 1 (nI c, fm, K, F, S, M, U, D)) (h0 : ¬ (∃ s, s < 16 ∧ ¬ bt (nI s) r = true ∧ ¬ M (16 * p + s) = 0) → post 0 (nI c, fm, K, F, S, M, U, D)) :
    ∀ d s, s + d = 16 → (∀ s', s' < s → ¬ (¬ bt (nI s') r = true ∧ ¬ M (16 * p + s') = 0)) → wY_isFree_7 post (nI p) (nI r) (nI c) fm K F S M U D (d + 1) (nI s) := by
  intro d
  induction d with
  | zero =>
    intro s hs hn
    have : s = 16 := by omega
    subst this
    refine br_t (nI_le (Nat.le_refl 16) (by omega)) (h0 ?_)
    rintro ⟨s, hs, z⟩
    exact hn s hs z
  | succ d ih =>
    intro s hs hn
    have skip : ¬ (¬ bt (nI s) r = true ∧ ¬ M (16 * p + s) = 0) → wY_isFree_7 post (nI p) (nI r) (nI c) fm K F S M U D (d + 1) (nI (s + 1)) := by
      intro z
      refine ih (s + 1) (by omega) (fun s' hs' => ?_)
      by_cases e : s' = s
      · rw [e]; exact z
      · exact hn s' (by omega)
    refine br_f (nI_ge (b := 16) (by omega) (by omega)) ?_
    rw [qz_x16, nI_clamp (by omega)]
    exact ⟨vp_in_nI (by omega) (by omega), br_c (fun z => nm_r (nI_1 s) (skip (fun y => y.2 z))) (fun z => br_c (fun y => h1 ⟨s, by omega, (qz_b1z _ r (by omega)).mp y, z⟩) (fun y => nm_r (nI_1 s) (skip (fun w => y ((qz_b1z _ r (by omega)).mpr w.1)))))⟩
theorem qy_isFree {post : Int32 → SY → Prop} {p r : Nat} (hc : c ≤ 24) (V : qz_va K F S) (hp : p < 24) (hr : r < 4) (h1 : qz_ho c K F S 24 p r → ∀ fm' M', post 1 (nI c, fm', K, F, S, M', U, D)) (h0 : ¬ qz_ho c K F S 24 p r → ∀ fm' M', post 0 (nI c, fm', K, F, S, M', U, D)) : wpY_isFree post (nI c, fm, K, F, S, M, U, D) (nI p) (nI r) := by
  unfold wpY_isFree
  refine qy_begin (w := 1) hc V (by omega) (fun fm1 M1 mt => ⟨17, ?_⟩)
  have eqv : (∃ s, s < 16 ∧ ¬ bt (nI s) r = true ∧ ¬ M1 (16 * p + s) = 0) ↔ qz_ho c K F S 24 p r := by
    rw [← qz_met_free V hr]
    constructor
    · rintro ⟨s, hs, y, z⟩
      exact ⟨s, hs, y, (mt _ (by omega)).mp z⟩
    · rintro ⟨s, hs, y, z⟩
      exact ⟨s, hs, y, (mt _ (by omega)).mpr z⟩
  exact qy_f7 hp hr (fun z => h1 (eqv.mp z) _ _) (fun z => h0 (fun y => z (eqv.mpr y)) _ _) 16 0 rfl (fun s' hs' => by omega)
theorem qz_kn (V : qz_va K F S) (p : Nat) : ∃ n, n < 12 ∧ K p = nI n := qz_ok12 (V p)
theorem qz_k04 {p n : Nat} (e : K p = nI n) (hn : n < 12) : (K p = 0 ∨ K p = 1 ∨ K p = 2 ∨ K p = 3 ∨ K p = 4) ↔ n < 5 := by
  rw [e]
  have f : ∀ k, k < 5 → (nI n = nI k ↔ n = k) := fun k hk => nI_eq (by omega) (by omega)
  have f0 := f 0 (by omega)
  have f1 := f 1 (by omega)
  have f2 := f 2 (by omega)
  have f3 := f 3 (by omega)
  have f4 := f 4 (by omega)
  constructor
  · rintro (z | z | z | z | z)
    · have := f0.mp z; omega
    · have := f1.mp z; omega
    · have := f2.mp z; omega
    · have := f3.mp z; omega
    · have := f4.mp z; omega
  · intro z
    have : n = 0 ∨ n = 1 ∨ n = 2 ∨ n = 3 ∨ n = 4 := by omega
    rcases this with z | z | z | z | z
    · exact Or.inl (f0.mpr z)
    · exact Or.inr (Or.inl (f1.mpr z))
    · exact Or.inr (Or.inr (Or.inl (f2.mpr z)))
    · exact Or.inr (Or.inr (Or.inr (Or.inl (f3.mpr z))))
    · exact Or.inr (Or.inr (Or.inr (Or.inr (f4.mpr z))))
theorem qy_owner {post : Int32 → Prop} {p : Nat} (hp : p < 24) (V : qz_va K F S) (h1 : (K p = 0 ∨ K p = 1 ∨ K p = 2 ∨ K p = 3 ∨ K p = 4) → post (qz_ow K F S p)) (h0 : ¬ (K p = 0 ∨ K p = 1 ∨ K p = 2 ∨ K p = 3 ∨ K p = 4) → post (-1)) : wpY_ownerOf post (nI c, fm, K, F, S, M, U, D) (nI p) := by
  have i := qz_i24 hp
  obtain ⟨n, hn, en⟩ := qz_kn V p
  rw [qz_k04 en hn] at h1 h0
  unfold qz_ow at h1
  rw [en] at h1
  unfold wpY_ownerOf
  simp only [qz_c24 hp]
  refine ⟨i, nm_r en (pk_le 3 n (fun z => pk_le 5 n (fun y => h0 (by omega)) (fun y => ⟨i, ?_⟩)) (fun z => ⟨i, ?_⟩))⟩
  · have := h1 (by omega)
    have lt : (2 : Int32) < nI n := nI_lt (a := 2) (b := n) (by omega) (by omega)
    rw [if_pos lt] at this
    exact this
  · have := h1 (by omega)
    have lt : ¬ (2 : Int32) < nI n := nI_nlt (a := 2) (b := n) (by omega) (by omega)
    rw [if_neg lt] at this
    exact this
theorem qy_against {post : Int32 → Prop} {p b : Nat} (hp : p < 24) (hb : b < 24) (V : qz_va K F S) (mk : qz_mk K b) (h1 : qz_ds K F S p b → post 1) (h0 : ¬ qz_ds K F S p b → post 0) : wpY_isAgainst post (nI c, fm, K, F, S, M, U, D) (nI p) (nI b) := by
  have i := qz_i24 hp
  have ib := qz_i24 hb
  have mb : K b = 0 ∨ K b = 1 ∨ K b = 2 ∨ K b = 3 ∨ K b = 4 := by
    rcases mk with k | k
    · exact Or.inr (Or.inr (Or.inr (Or.inl k)))
    · exact Or.inr (Or.inr (Or.inr (Or.inr k)))
  have L34 : ∀ z : Int32, (¬ z = 0 ↔ (K p = 0 ∨ K p = 2 ∨ K p = 4)) → wY_isAgainst_34 post (nI p) (nI b) z (nI c) fm K F S M U D := by
    intro z hz
    unfold wY_isAgainst_34
    rw [qz_c24 hb]
    have noP : ¬ (K p = 0 ∨ K p = 1 ∨ K p = 2 ∨ K p = 3 ∨ K p = 4) → ¬ qz_ds K F S p b := by
      rintro no ⟨(w | w | w) | ⟨w | w, _⟩, _⟩
      · exact no (Or.inl w)
      · exact no (Or.inr (Or.inr (Or.inl w)))
      · exact no (Or.inr (Or.inr (Or.inr (Or.inr w))))
      · exact no (Or.inr (Or.inl w))
      · exact no (Or.inr (Or.inr (Or.inr (Or.inl w))))
    refine qy_owner hp V (fun kp => ?_) (fun kp => br_t (by decide) (h0 (noP kp)))
    obtain ⟨o, ho, eo⟩ := qz_ow_o V kp
    refine br_f (by rw [eo]; exact nI_pos (by omega)) (qy_owner hp V (fun _ => qy_owner hb V (fun _ => br_c (fun e => br_c (fun z0 => ⟨ib, br_c (fun k4 => ?_) (fun k4 => h0 ?_)⟩) (fun z0 => h1 ⟨Or.inl (hz.mp z0), mk, e⟩)) (fun ne => h0 (fun w => ne w.2.2))) (fun no => absurd mb no)) (fun no => absurd kp no))
    · refine h1 ⟨?_, mk, e⟩
      rcases kp with w | w | w | w | w
      · exact Or.inl (Or.inl w)
      · exact Or.inr ⟨Or.inl w, k4⟩
      · exact Or.inl (Or.inr (Or.inl w))
      · exact Or.inr ⟨Or.inr w, k4⟩
      · exact Or.inl (Or.inr (Or.inr w))
    · rintro ⟨w | ⟨_, w⟩, _⟩
      · exact hz.mpr w z0
      · exact k4 w
  unfold wpY_isAgainst
  simp only [qz_c24 hp]
  refine ⟨i, br_c (fun k => L34 1 ⟨fun _ => Or.inl k, fun _ => by decide⟩) (fun k0 => ⟨i, br_c (fun k => L34 1 ⟨fun _ => Or.inr (Or.inl k), fun _ => by decide⟩) (fun k2 => ⟨i, br_c (fun k => L34 1 ⟨fun _ => Or.inr (Or.inr k), fun _ => by decide⟩) (fun k4 => L34 0 ⟨fun z => absurd rfl z, fun z => ?_⟩)⟩)⟩)⟩
  exfalso
  rcases z with z | z | z
  · exact k0 z
  · exact k2 z
  · exact k4 z
theorem qy_c29 {post : Int32 → SY → Prop} {p : Nat} (hc : c ≤ 24) (V : qz_va K F S) (hp : p < 24) (Q : Nat → Prop) (hQ : ∀ s m, s < 16 → qz_hb K F S p s m → ((∃ q, qz_nx c K F p q ∧ ¬ U (16 * q + m) = 0) ↔ Q s)) (h1 : (∃ s, s < 16 ∧ 1 ≤ s ∧ Q s ∧ ¬ M (16 * p + s) = 0) → post 1 (nI c, fm, K, F, S, M, U, D)) (h0 : ¬ (∃ s, s < 16 ∧ 1 ≤ s ∧ Q s ∧ ¬ M (16 * p + s) = 0) → post 0 (nI c, fm, K, F, S, M, U, D)) :
    ∀ d s, s + d = 16 → 1 ≤ s → (∀ s', s' < s → 1 ≤ s' → ¬ (Q s' ∧ ¬ M (16 * p + s') = 0)) → wY_isInConflict_29 post (nI p) (nI c) fm K F S M U D (d + 1) (nI s) := by
  intro d
  induction d with
  | zero =>
    intro s hs h1s hn
    have : s = 16 := by omega
    subst this
    refine br_t (nI_le (Nat.le_refl 16) (by omega)) (h0 ?_)
    rintro ⟨s, hs, h1s, z⟩
    exact hn s hs h1s z
  | succ d ih =>
    intro s hs h1s hn
    have skip : ¬ (Q s ∧ ¬ M (16 * p + s) = 0) → wY_isInConflict_29 post (nI p) (nI c) fm K F S M U D (d + 1) (nI (s + 1)) := by
      intro z
      refine ih (s + 1) (by omega) (by omega) (fun s' hs' h1' => ?_)
      by_cases e : s' = s
      · rw [e]; exact z
      · exact hn s' (by omega) h1'
    refine br_f (nI_ge (b := 16) (by omega) (by omega)) (qy_hold hp (by omega) V (fun m hm => ?_))
    rw [qz_x16, nI_clamp (by omega)]
    have eqv := hQ s m (by omega) hm
    refine ⟨vp_in_nI (by omega) (by omega), br_c (fun z => nm_r (nI_1 s) (skip (fun y => y.2 z))) (fun z => qy_next0 hp hc V (fun r0 hr0 => qy_useful hc hr0 (fun a w => w.1) hm.1 (fun u => br_f (by decide) (h1 ⟨s, by omega, h1s, eqv.mp ?_, z⟩)) (fun nu => br_t rfl (qy_next1 hp hc V (fun r1 hr1 => qy_useful hc hr1 (fun a w => w.1) hm.1 (fun u => br_f (by decide) (h1 ⟨s, by omega, h1s, eqv.mp ?_, z⟩)) (fun nu1 => br_t rfl (nm_r (nI_1 s) (skip (fun w => ?_)))))))))⟩
    · obtain ⟨a, ha, w⟩ := u
      exact ⟨a, qz_nx_y.mpr (Or.inl ha), w⟩
    · obtain ⟨a, ha, w⟩ := u
      exact ⟨a, qz_nx_y.mpr (Or.inr ha), w⟩
    · obtain ⟨q, e, y⟩ := eqv.mpr w.1
      rcases qz_nx_y.mp e with v | v
      · exact nu ⟨q, v, y⟩
      · exact nu1 ⟨q, v, y⟩
theorem qy_conf {post : Int32 → SY → Prop} {b p : Nat} (hc : c ≤ 24) (V : qz_va K F S) (hp : p < c) (hb : b < c) (us : qz_us' c K F S U) (h1 : qz_cf c K F S b p → ∀ fm' M', post 1 (nI c, fm', K, F, S, M', U, D)) (h0 : ¬ qz_cf c K F S b p → ∀ fm' M', post 0 (nI c, fm', K, F, S, M', U, D)) : wpY_isInConflict post (nI c, fm, K, F, S, M, U, D) (nI b) (nI p) := by
  have hp24 : p < 24 := by omega
  have hb24 : b < 24 := by omega
  unfold wpY_isInConflict
  refine qy_makes hb24 (fun mk => br_f (by decide) (qy_against hp24 hb24 V mk (fun ds => br_f (by decide) (qy_follow hc V hb (fun _ re fm1 M1 mt => br_f (by decide) ⟨16, ?_⟩) (fun no fm1 M1 => br_t rfl (h0 ?_ _ _)))) (fun nd => br_t rfl (h0 (fun z => nd z.1) _ _)))) (fun nm => br_t rfl (h0 (fun z => nm z.1.2.1) _ _))
  · have k7 : K p ≠ 7 := by
      intro z
      obtain ⟨(w | w | w) | ⟨w | w, _⟩, _⟩ := ds <;> rw [z] at w <;> exact absurd w (by decide)
    have eqv : (∃ s, s < 16 ∧ 1 ≤ s ∧ (∃ r, r < 4 ∧ bt (nI s) r = true ∧ qz_lv c K F S p r) ∧ ¬ M1 (16 * p + s) = 0) ↔ qz_sp c K F S b p := by
      constructor
      · rintro ⟨s, hs, _, ⟨r, hr, hbit, l⟩, z⟩
        exact ⟨r, hr, (qz_met_fo hb24 re mk hr).mp ⟨s, hs, hbit, (mt _ (by omega)).mp z⟩, l⟩
      · rintro ⟨r, hr, hh, l⟩
        obtain ⟨s, hs, hbit, z⟩ := (qz_met_fo hb24 re mk hr).mpr hh
        refine ⟨s, hs, ?_, ⟨r, hr, hbit, l⟩, (mt _ (by omega)).mpr z⟩
        apply Classical.byContradiction
        intro w
        have s0 : s = 0 := by omega
        rw [s0] at hbit
        exact qz_b00 r hbit
    refine qy_c29 hc V hp24 (fun s => ∃ r, r < 4 ∧ bt (nI s) r = true ∧ qz_lv c K F S p r) (fun s m hs hm => ?_) (fun z => h1 ⟨ds, eqv.mp z⟩ _ _) (fun z => h0 (fun w => z (eqv.mpr w.2)) _ _) 15 1 rfl (by omega) (fun s' hs' h1' => by omega)
    have hm16 := hm.1
    rw [← qz_yu_next hp k7 hm]
    constructor
    · rintro ⟨q, e, z⟩
      exact ⟨q, e, (us _ (by have := e.1; omega)).2.mp z⟩
    · rintro ⟨q, e, z⟩
      exact ⟨q, e, (us _ (by have := e.1; omega)).2.mpr z⟩
  · rintro ⟨_, r, hr, hh, _⟩
    have f := (qz_ho_f hh).2.2.2.2 hb24
    exact no ⟨f.2, f.1⟩
theorem qy_ca8 {post : Int32 → SY → Prop} {p : Nat} (hc : c ≤ 24) (V : qz_va K F S) (hp : p < c) (us : qz_us' c K F S U) (h : ∀ x fm' M', (∀ i, bt x i = true ↔ (i < c ∧ qz_cf c K F S i p)) → post x (nI c, fm', K, F, S, M', U, D)) :
    ∀ d b, b + d = c → ∀ x fm' M', (∀ i, bt x i = true ↔ (i < b ∧ qz_cf c K F S i p)) → wY_conflictsAt_8 post (nI p) (d + 1) x (nI b) (nI c) fm' K F S M' U D := by
  intro d
  induction d with
  | zero =>
    intro b hb x fm' M' hx
    have : b = c := by omega
    subst this
    exact br_t (nI_le (Nat.le_refl b) (by omega)) (h x _ _ hx)
  | succ d ih =>
    intro b hb x fm' M' hx
    refine br_f (nI_ge (b := c) (by omega) (by omega)) (qy_conf hc V hp (by omega) us (fun cf fm2 M2 => br_f (by decide) (nm_e (nm_r (nI_1 b) (ih (b + 1) (by omega) _ _ _ (fun i => ?_))))) (fun cf fm2 M2 => br_t rfl (nm_r (nI_1 b) (ih (b + 1) (by omega) x _ _ (fun i => ?_)))))
    · rw [b_or, Bool.or_eq_true, qz_bshA (by omega), hx i]
      constructor
      · rintro (⟨z, w⟩ | z)
        · exact ⟨by omega, w⟩
        · rw [z]; exact ⟨by omega, cf⟩
      · rintro ⟨z, w⟩
        by_cases e : i = b
        · exact Or.inr e
        · exact Or.inl ⟨by omega, w⟩
    · rw [hx i]
      constructor
      · rintro ⟨z, w⟩
        exact ⟨by omega, w⟩
      · rintro ⟨z, w⟩
        refine ⟨?_, w⟩
        apply Classical.byContradiction
        intro y
        have e : i = b := by omega
        rw [e] at w
        exact cf w
theorem qy_confAt {post : Int32 → SY → Prop} {p : Nat} (hc : c ≤ 24) (V : qz_va K F S) (hp : p < c) (h : ∀ x fm' M' U', (∀ i, bt x i = true ↔ (i < c ∧ qz_cf c K F S i p)) → post x (nI c, fm', K, F, S, M', U', D)) : wpY_conflictsAt post (nI c, fm, K, F, S, M, U, D) (nI p) := by
  unfold wpY_conflictsAt
  refine qy_find hc V (fun fm1 U1 us => ⟨c + 1, qy_ca8 hc V hp us (fun x fm' M' hx => h x _ _ _ hx) c 0 (by omega) 0 _ _ (fun i => ?_)⟩)
  rw [b_0]
  exact ⟨fun z => (by cases z), fun z => by omega⟩
theorem qy_u24 {post : Int32 → SY → Prop} {p o : Nat} (hp : p < 24) (V : qz_va K F S) (hk : K p = 1 ∨ K p = 2 ∨ K p = 3 ∨ K p = 4) (ho : o < 4) (eo : qz_ow K F S p = nI o) (h1 : (∃ s, s < 16 ∧ ¬ bt (nI s) o = true ∧ ¬ M (16 * p + s) = 0) → post 1 (nI c, fm, K, F, S, M, U, D)) (h0 : ¬ (∃ s, s < 16 ∧ ¬ bt (nI s) o = true ∧ ¬ M (16 * p + s) = 0) → post 0 (nI c, fm, K, F, S, M, U, D)) :
    ∀ d s, s + d = 16 → (∀ s', s' < s → ¬ (¬ bt (nI s') o = true ∧ ¬ M (16 * p + s') = 0)) → wY_isUnset_24 post (nI p) (nI c) fm K F S M U D (d + 1) (nI s) := by
  intro d
  induction d with
  | zero =>
    intro s hs hn
    have : s = 16 := by omega
    subst this
    refine br_t (nI_le (Nat.le_refl 16) (by omega)) (h0 ?_)
    rintro ⟨s, hs, z⟩
    exact hn s hs z
  | succ d ih =>
    intro s hs hn
    have skip : ¬ (¬ bt (nI s) o = true ∧ ¬ M (16 * p + s) = 0) → wY_isUnset_24 post (nI p) (nI c) fm K F S M U D (d + 1) (nI (s + 1)) := by
      intro z
      refine ih (s + 1) (by omega) (fun s' hs' => ?_)
      by_cases e : s' = s
      · rw [e]; exact z
      · exact hn s' (by omega)
    refine br_f (nI_ge (b := 16) (by omega) (by omega)) ?_
    rw [qz_x16, nI_clamp (by omega)]
    refine ⟨vp_in_nI (by omega) (by omega), br_c (fun z => nm_r (nI_1 s) (skip (fun y => y.2 z))) (fun z => qy_owner hp V (fun _ => ?_) (fun no => absurd (Or.inr hk) no))⟩
    rw [eo]
    exact br_c (fun y => h1 ⟨s, by omega, (qz_b1z _ o (by omega)).mp y, z⟩) (fun y => nm_r (nI_1 s) (skip (fun w => y ((qz_b1z _ o (by omega)).mpr w.1))))
theorem qy_unset {post : Int32 → SY → Prop} {p : Nat} (hc : c ≤ 24) (V : qz_va K F S) (hp : p < 24) (h1 : qz_ns c K F S p → ∀ fm' M', post 1 (nI c, fm', K, F, S, M', U, D)) (h0 : ¬ qz_ns c K F S p → ∀ fm' M', post 0 (nI c, fm', K, F, S, M', U, D)) : wpY_isUnset post (nI c, fm, K, F, S, M, U, D) (nI p) := by
  obtain ⟨n, hn, en⟩ := qz_kn V p
  have k14 : (K p = 1 ∨ K p = 2 ∨ K p = 3 ∨ K p = 4) ↔ (1 ≤ n ∧ n ≤ 4) := by
    rw [en]
    have f : ∀ k, k < 5 → (nI n = nI k ↔ n = k) := fun k hk => nI_eq (by omega) (by omega)
    have f1 := f 1 (by omega)
    have f2 := f 2 (by omega)
    have f3 := f 3 (by omega)
    have f4 := f 4 (by omega)
    constructor
    · rintro (z | z | z | z)
      · have := f1.mp z; omega
      · have := f2.mp z; omega
      · have := f3.mp z; omega
      · have := f4.mp z; omega
    · intro z
      have : n = 1 ∨ n = 2 ∨ n = 3 ∨ n = 4 := by omega
      rcases this with z | z | z | z
      · exact Or.inl (f1.mpr z)
      · exact Or.inr (Or.inl (f2.mpr z))
      · exact Or.inr (Or.inr (Or.inl (f3.mpr z)))
      · exact Or.inr (Or.inr (Or.inr (f4.mpr z)))
  unfold wpY_isUnset
  simp only [qz_c24 hp]
  refine ⟨qz_i24 hp, ?_⟩
  rw [en]
  refine qy_inN (l := 1) (u := 4) (by omega) (by omega) (by omega) (fun l u => br_f (by decide) ?_) (fun no => br_t rfl (h0 (fun z => no (k14.mp z.1)) _ _))
  have hk := k14.mpr ⟨l, u⟩
  obtain ⟨o, ho, eo⟩ := qz_ow_o V (Or.inr hk)
  refine qy_begin (w := 2) hc V (by omega) (fun fm1 M1 mt => ⟨17, ?_⟩)
  have eqv : (∃ s, s < 16 ∧ ¬ bt (nI s) o = true ∧ ¬ M1 (16 * p + s) = 0) ↔ qz_em c K F o p := by
    rw [← qz_met_em (S := S) ho]
    constructor
    · rintro ⟨s, hs, y, z⟩
      exact ⟨s, hs, y, (mt _ (by omega)).mp z⟩
    · rintro ⟨s, hs, y, z⟩
      exact ⟨s, hs, y, (mt _ (by omega)).mpr z⟩
  refine qy_u24 hp V hk ho eo (fun z => h1 ⟨hk, o, ho, eo, eqv.mp z⟩ _ _) (fun z => h0 (fun y => z (eqv.mpr ?_)) _ _) 16 0 rfl (fun s' hs' => by omega)
  obtain ⟨_, o', ho', eo', w⟩ := y
  have : o = o' := (qz_ne ho ho').mp (eo.symm.trans eo')
  rw [this]
  exact w
theorem qy_idle {post : Int32 → SY → Prop} {p : Nat} (hc : c ≤ 24) (V : qz_va K F S) (hp : p < 24) (h1 : qz_id c K F S p → ∀ fm' M', post 1 (nI c, fm', K, F, S, M', U, D)) (h0 : ¬ qz_id c K F S p → ∀ fm' M', post 0 (nI c, fm', K, F, S, M', U, D)) : wpY_isIdle post (nI c, fm, K, F, S, M, U, D) (nI p) := by
  have i := qz_i24 hp
  unfold wpY_isIdle
  simp only [qz_c24 hp]
  refine ⟨i, br_c (fun k7 => ⟨i, ?_⟩) (fun k7 => h0 (fun z => k7 z.1) _ _)⟩
  obtain ⟨a, ha, ea⟩ := qz_va_a V (Or.inr (Or.inr (Or.inr (Or.inl k7))))
  rw [ea]
  refine qy_isFree hc V hp ha (fun f fm' M' => br_f (by decide) (h1 ⟨k7, a, ha, ea, f⟩ _ _)) (fun f fm' M' => br_t rfl (h0 (fun z => ?_) _ _))
  obtain ⟨_, a', ha', ea', z⟩ := z
  have : a = a' := (qz_ne ha ha').mp (ea.symm.trans ea')
  rw [← this] at z
  exact f z
theorem qy_fault {post : Int32 → SY → Prop} {p : Nat} (hc : c ≤ 24) (V : qz_va K F S) (hp : p < c) (h1 : qz_ft c K F S p → ∀ fm' M' U', post 1 (nI c, fm', K, F, S, M', U', D)) (h0 : ¬ qz_ft c K F S p → ∀ fm' M' U', post 0 (nI c, fm', K, F, S, M', U', D)) : wpY_isFault post (nI c, fm, K, F, S, M, U, D) (nI p) := by
  unfold wpY_isFault
  refine qy_confAt hc V hp (fun x fm1 M1 U1 hx => br_c (fun z => qy_unset hc V (by omega) (fun u fm2 M2 => br_f (by decide) (h1 (Or.inl u) _ _ _)) (fun nu fm2 M2 => br_t rfl (qy_idle hc V (by omega) (fun u fm3 M3 => br_f (by decide) (h1 (Or.inr (Or.inl u)) _ _ _)) (fun ni fm3 M3 => br_t rfl (h0 ?_ _ _ _))))) (fun z => h1 (Or.inr (Or.inr ?_)) _ _ _))
  · rintro (w | w | w)
    · exact nu w
    · exact ni w
    · exact (qz_bz hc hx).mp z w
  · apply Classical.byContradiction
    intro w
    exact z ((qz_bz hc hx).mpr w)
theorem qy_ft4 {post : Int32 → SY → Prop} (hc : c ≤ 24) (V : qz_va K F S) (h : ∀ k fm' M' U', qz_cn (qz_ft c K F S) c k → post (nI k) (nI c, fm', K, F, S, M', U', D)) :
    ∀ d p, p + d = c → ∀ k fm' M' U', qz_cn (qz_ft c K F S) p k → wY_faults_4 post (d + 1) (nI k) (nI p) (nI c) fm' K F S M' U' D := by
  intro d
  induction d with
  | zero =>
    intro p hp k fm' M' U' hk
    have : p = c := by omega
    subst this
    exact br_t (nI_le (Nat.le_refl p) (by omega)) (h k _ _ _ hk)
  | succ d ih =>
    intro p hp k fm' M' U' hk
    exact br_f (nI_ge (b := c) (by omega) (by omega)) (qy_fault hc V (by omega) (fun f fm2 M2 U2 => br_f (by decide) (nm_r (nI_1 k) (nm_r (nI_1 p) (ih (p + 1) (by omega) (k + 1) _ _ _ (Or.inl ⟨f, k, rfl, hk⟩))))) (fun f fm2 M2 U2 => br_t rfl (nm_r (nI_1 p) (ih (p + 1) (by omega) k _ _ _ (Or.inr ⟨f, hk⟩)))))
theorem qy_faults {post : Int32 → SY → Prop} (hc : c ≤ 24) (V : qz_va K F S) (h : ∀ k fm' M' U', qz_cn (qz_ft c K F S) c k → post (nI k) (nI c, fm', K, F, S, M', U', D)) : wpY_faults post (nI c, fm, K, F, S, M, U, D) :=
  ⟨c + 1, qy_ft4 hc V h c 0 (by omega) 0 _ _ _ rfl⟩
theorem qy_ff2 {post : Int32 → SY → Prop} (hc : c ≤ 24) (V : qz_va K F S) (h : ∀ p fm' M' U', p < c → qz_ft c K F S p → (∀ p', p' < p → ¬ qz_ft c K F S p') → post (nI p) (nI c, fm', K, F, S, M', U', D)) (h0 : ∀ fm' M' U', (∀ p, p < c → ¬ qz_ft c K F S p) → post (-3) (nI c, fm', K, F, S, M', U', D)) :
    ∀ d p, p + d = c → ∀ fm' M' U', (∀ p', p' < p → ¬ qz_ft c K F S p') → wY_firstFault_2 post (d + 1) (nI p) (nI c) fm' K F S M' U' D := by
  intro d
  induction d with
  | zero =>
    intro p hp fm' M' U' hn
    have : p = c := by omega
    subst this
    exact br_t (nI_le (Nat.le_refl p) (by omega)) (h0 _ _ _ hn)
  | succ d ih =>
    intro p hp fm' M' U' hn
    refine br_f (nI_ge (b := c) (by omega) (by omega)) (qy_fault hc V (by omega) (fun f fm2 M2 U2 => br_f (by decide) (h p _ _ _ (by omega) f hn)) (fun f fm2 M2 U2 => br_t rfl (nm_r (nI_1 p) (ih (p + 1) (by omega) _ _ _ (fun p' hp' => ?_)))))
    by_cases e : p' = p
    · rw [e]; exact f
    · exact hn p' (by omega)
theorem qy_first {post : Int32 → SY → Prop} (hc : c ≤ 24) (V : qz_va K F S) (h : ∀ p fm' M' U', p < c → qz_ft c K F S p → (∀ p', p' < p → ¬ qz_ft c K F S p') → post (nI p) (nI c, fm', K, F, S, M', U', D)) (h0 : ∀ fm' M' U', (∀ p, p < c → ¬ qz_ft c K F S p) → post (-3) (nI c, fm', K, F, S, M', U', D)) : wpY_firstFault post (nI c, fm, K, F, S, M, U, D) :=
  ⟨c + 1, qy_ff2 hc V h h0 c 0 (by omega) _ _ _ (fun p' hp' => by omega)⟩
theorem qy_s28 {post : Int32 → SY → Prop} (hc : c ≤ 24) (h : ∀ x, (∀ i, bt x i = true ↔ ∃ j, j < 16 * c ∧ j / 16 = i ∧ ¬ M j = 0 ∧ ¬ U j = 0) → post x (nI c, fm, K, F, S, M, U, D)) :
    ∀ d j, j + d = 16 * c → ∀ x, (∀ i, bt x i = true ↔ ∃ j', j' < j ∧ j' / 16 = i ∧ ¬ M j' = 0 ∧ ¬ U j' = 0) → wY_span_28 post (nI c) fm K F S M U D (d + 1) x (nI j) := by
  have e16 : (16 : Int32) * nI c = nI (16 * c) := by
    show nI 16 * nI c = _
    rw [pk_mul]
  intro d
  induction d with
  | zero =>
    intro j hj x hx
    have : j = 16 * c := by omega
    subst this
    exact pk_le (16 * c) (16 * c) (fun _ => h x hx) (fun z => by omega) e16
  | succ d ih =>
    intro j hj x hx
    have iv : vp_in (nI j) 384 := vp_in_nI (by omega) (by omega)
    have ed : nI j / 16 = nI (j / 16) := pk_div (d := 16) (by omega) (by omega) (by omega)
    have skip : ¬ (¬ M j = 0 ∧ ¬ U j = 0) → wY_span_28 post (nI c) fm K F S M U D (d + 1) x (nI (j + 1)) := by
      intro z
      refine ih (j + 1) (by omega) x (fun i => ?_)
      rw [hx i]
      constructor
      · rintro ⟨j', hj', w⟩
        exact ⟨j', by omega, w⟩
      · rintro ⟨j', hj', w⟩
        by_cases e : j' = j
        · rw [e] at w; exact absurd w.2 z
        · exact ⟨j', by omega, w⟩
    refine pk_le (16 * c) j (fun z => by omega) (fun _ => ⟨iv, ?_⟩) e16
    rw [nI_clamp (by omega), ed]
    refine br_c (fun z => nm_r (nI_1 j) (skip (fun w => w.1 z))) (fun z => ⟨iv, br_c (fun y => nm_r (nI_1 j) (skip (fun w => w.2 y))) (fun y => ⟨by decide, nm_e (nm_r (nI_1 j) (ih (j + 1) (by omega) _ (fun i => ?_)))⟩)⟩)
    rw [b_or, Bool.or_eq_true, qz_bshA (by omega), hx i]
    constructor
    · rintro (⟨j', hj', w⟩ | w)
      · exact ⟨j', by omega, w⟩
      · exact ⟨j, by omega, w.symm, z, y⟩
    · rintro ⟨j', hj', w⟩
      by_cases e : j' = j
      · rw [e] at w; exact Or.inr w.1.symm
      · exact Or.inl ⟨j', by omega, w⟩
theorem qy_span {post : Int32 → SY → Prop} {b : Nat} (hc : c ≤ 24) (V : qz_va K F S) (hb : b < c) (h : ∀ x fm' M' U', (∀ i, bt x i = true ↔ (i < c ∧ qz_sp c K F S b i)) → post x (nI c, fm', K, F, S, M', U', D)) :
    wpY_span post (nI c, fm, K, F, S, M, U, D) (nI b) := by
  unfold wpY_span
  refine qy_pt hc (nI b) (fun _ _ _ => br_f (by decide) (qy_follow hc V hb (fun mk re fm1 M1 mt => br_f (by decide) (qy_find hc V (fun fm2 U2 us => ⟨16 * c + 1, qy_s28 hc (fun x hx => h x _ _ _ (fun i => ?_)) (16 * c) 0 (by omega) 0 (fun i => ?_)⟩))) (fun no fm1 M1 => br_t rfl (h 0 _ _ _ (fun i => ?_))))) (fun no => absurd rfl (no b hb))
  · rw [hx i]
    constructor
    · rintro ⟨j, hj, e, z, y⟩
      have hi : i < c := by omega
      have e16 : j = 16 * i + j % 16 := by omega
      have yu := (us j (by omega)).2.mp y
      have ym := (mt j (by omega)).mp z
      rw [e16] at yu ym
      obtain ⟨r, hr, hbit, l⟩ := (qz_yu_lv (Nat.mod_lt _ (by omega))).mp yu
      exact ⟨hi, r, hr, (qz_met_fo (by omega) re mk hr).mp ⟨j % 16, Nat.mod_lt _ (by omega), hbit, ym⟩, l⟩
    · rintro ⟨hi, r, hr, hh, l⟩
      obtain ⟨s, hs, hbit, z⟩ := (qz_met_fo (by omega) re mk hr).mpr hh
      exact ⟨16 * i + s, by omega, by omega, (mt _ (by omega)).mpr z, (us _ (by omega)).2.mpr ((qz_yu_lv hs).mpr ⟨r, hr, hbit, l⟩)⟩
  · rw [b_0]
    refine ⟨fun z => (by cases z), ?_⟩
    rintro ⟨j', hj', _⟩
    omega
  · rw [b_0]
    refine ⟨fun z => (by cases z), ?_⟩
    rintro ⟨_, r, hr, hh, _⟩
    have f := (qz_ho_f hh).2.2.2.2 (by omega)
    exact absurd ⟨f.2, f.1⟩ no
theorem qy_br30 {post : Int32 → SY → Prop} {x : Int32} (h : ∀ k, qz_cn (fun i => bt x i = true) 24 k → post (nI k) (nI c, fm, K, F, S, M, U, D)) :
    ∀ d b, b + d = 24 → ∀ k, qz_cn (fun i => bt x i = true) b k → wY_broken_30 post x (nI c) fm K F S M U D (d + 1) (nI k) (nI b) := by
  intro d
  induction d with
  | zero =>
    intro b hb k hk
    have : b = 24 := by omega
    subst this
    exact br_t (nI_le (Nat.le_refl 24) (by omega)) (h k hk)
  | succ d ih =>
    intro b hb k hk
    refine br_f (nI_ge (b := 24) (by omega) (by omega)) ?_
    rw [qz_b1 x b (by omega)]
    by_cases z : bt x b = true
    · rw [if_pos z]
      exact nm_r (nI_1 k) (nm_r (nI_1 b) (ih (b + 1) (by omega) (k + 1) (Or.inl ⟨z, k, rfl, hk⟩)))
    · rw [if_neg z]
      exact nm_r (Int32.add_zero _) (nm_r (nI_1 b) (ih (b + 1) (by omega) k (Or.inr ⟨z, hk⟩)))
theorem qy_br4 {post : Int32 → SY → Prop} (hc : c ≤ 24) (V : qz_va K F S) (h : ∀ k fm' M' U', qz_cn (fun i => i < c ∧ ∃ p, p < c ∧ qz_cf c K F S i p) 24 k → post (nI k) (nI c, fm', K, F, S, M', U', D)) :
    ∀ d p, p + d = c → ∀ x fm' M' U', (∀ i, bt x i = true ↔ (i < c ∧ ∃ p', p' < p ∧ qz_cf c K F S i p')) → wY_broken_4 post (d + 1) x (nI p) (nI c) fm' K F S M' U' D := by
  intro d
  induction d with
  | zero =>
    intro p hp x fm' M' U' hx
    have : p = c := by omega
    subst this
    refine br_t (nI_le (Nat.le_refl p) (by omega)) ⟨25, qy_br30 (fun k hk => h k _ _ _ ?_) 24 0 (by omega) 0 rfl⟩
    exact qz_cn_x 24 k (fun i _ => hx i) hk
  | succ d ih =>
    intro p hp x fm' M' U' hx
    refine br_f (nI_ge (b := c) (by omega) (by omega)) (qy_confAt hc V (by omega) (fun y fm2 M2 U2 hy => nm_e (nm_r (nI_1 p) (ih (p + 1) (by omega) _ _ _ _ (fun i => ?_)))))
    rw [b_or, Bool.or_eq_true, hx i, hy i]
    constructor
    · rintro (⟨z, p', hp', w⟩ | ⟨z, w⟩)
      · exact ⟨z, p', by omega, w⟩
      · exact ⟨z, p, by omega, w⟩
    · rintro ⟨z, p', hp', w⟩
      by_cases e : p' = p
      · rw [e] at w; exact Or.inr ⟨z, w⟩
      · exact Or.inl ⟨z, p', by omega, w⟩
theorem qy_broken {post : Int32 → SY → Prop} (hc : c ≤ 24) (V : qz_va K F S) (h : ∀ k fm' M' U', qz_cn (fun i => i < c ∧ ∃ p, p < c ∧ qz_cf c K F S i p) 24 k → post (nI k) (nI c, fm', K, F, S, M', U', D)) : wpY_broken post (nI c, fm, K, F, S, M, U, D) := by
  refine ⟨c + 1, qy_br4 hc V h c 0 (by omega) 0 _ _ _ (fun i => ?_)⟩
  rw [b_0]
  exact ⟨fun z => (by cases z), fun ⟨_, p', hp', _⟩ => by omega⟩
end
end
section
/-! ===== Y: the lengths of shown ===== -/
def qz_fl (D : Nat → Int32) (f : Nat → Nat) : Prop := ∀ n, n < 1152 → D n = nI (f n)
def qz_DG (f0 : Nat → Nat) (g : Int32) (f : Nat → Nat) (C : Prop) : Prop := (g = 0 ∧ f = f0 ∧ C) ∨ (g = 1 ∧ qz_sm f 1152 < qz_sm f0 1152)
theorem qz_DG_m {f0 f : Nat → Nat} {g : Int32} {C C' : Prop} (h : qz_DG f0 g f C) (hC : f = f0 → C → C') : qz_DG f0 g f C' := by
  rcases h with ⟨a, b, d⟩ | h
  · exact Or.inl ⟨a, b, hC b d⟩
  · exact Or.inr h
def qz_fq (K F S : Nat → Int32) (b p i q j : Nat) : Prop :=
  (i < 384 ∧ (j = 16 * q ∨ (i % 384 / 16 = b ∧ ∃ x, x < 4 ∧ F b = nI x ∧ j = 384 + 16 * q + 2 ^ x)))
  ∨ (384 ≤ i ∧ ∃ m, qz_hb K F S (i % 384 / 16) (i % 16) m ∧ m ≠ 0 ∧ (j = 384 * (i / 384) + 16 * q + m ∨ (i / 384 = 1 ∧ i % 384 / 16 = p ∧ j = 768 + 16 * q + m)))
section
variable {c : Nat} {fm : Int32} {K F S M U D : Nat → Int32} {b p : Nat}
theorem qy_come {post : SY → Prop} {P : Nat → Prop} {C : Prop} {r : Int32} {h m st : Nat} {f0 f : Nat → Nat} (hc : c ≤ 24) (hr : qz_op P (-1) r) (hP : ∀ a, P a → a < c) (hh : h ≤ 2) (hm : m < 16) (h1 : 1 ≤ st) (hst : st ≤ 100000) (k : qz_fl D f) (I : qz_DI c K F S b p f) (G : qz_DG f0 fm f C) (hw : ∀ a, P a → qz_fw c K F S b p (st - 1) (384 * h + 16 * a + m))
    (hp : ∀ fm' D' f', qz_fl D' f' → qz_DI c K F S b p f' → qz_DG f0 fm' f' (C ∧ ∀ a, P a → f0 (384 * h + 16 * a + m) ≤ st) → post (nI c, fm', K, F, S, M, U, D')) : wpY_come post (nI c, fm, K, F, S, M, U, D) (nI h) r (nI m) (nI st) := by
  unfold wpY_come
  rcases hr with ⟨rfl, no⟩ | ⟨a, rfl, ha, ua⟩
  · exact nm_e (br_t (by decide) (hp _ _ _ k I (qz_DG_m G (fun _ hC => ⟨hC, fun a ha => absurd ha (no a)⟩))))
  · have hac := hP a ha
    have ix : 384 * h + 16 * a + m < 1152 := by omega
    have ei : (384 : Int32) * nI h + 16 * nI a + nI m = nI (384 * h + 16 * a + m) := by
      show nI 384 * nI h + nI 16 * nI a + nI m = _
      rw [pk_mul, pk_mul, nI_add, nI_add]
    have fb := (I.2 _ ix).2.1
    refine nm_r ei (br_f (nI_pos (by omega)) ⟨vp_in_nI ix (by omega), ?_⟩)
    rw [nI_clamp (by omega), k _ ix]
    refine pk_le (f (384 * h + 16 * a + m)) st (fun z => hp _ _ _ k I (qz_DG_m G (fun e hC => ⟨hC, fun a' ha' => ?_⟩))) (fun z => ⟨vp_in_nI ix (by omega), nm_e ?_⟩)
    · rw [ua a' ha', ← e]
      exact z
    · obtain ⟨I', sm⟩ := qz_DI_up I h1 z ix (hw a ha)
      refine hp _ _ _ ?_ I' (Or.inr ⟨rfl, ?_⟩)
      · intro n hn
        by_cases e : n = 384 * h + 16 * a + m
        · rw [e, pk_us, qz_uNs]
        · rw [pk_un e, qz_uNn e]; exact k n hn
      · rcases G with ⟨_, e, _⟩ | ⟨_, G⟩
        · rw [e] at sm ⊢
          exact sm
        · omega
/-- the rows of goOn behind next, for one of the two next points -/
theorem qy_go1 {post : SY → Prop} {J : Int32 → Int32 → Int32 → (Nat → Int32) → (Nat → Int32) → (Nat → Int32) → (Nat → Int32) → (Nat → Int32) → (Nat → Int32) → Prop} {P : Nat → Prop} {C : Prop} {r : Int32} {i y m st : Nat} {f0 f : Nat → Nat} (hc : c ≤ 24) (V : qz_va K F S) (hb : b < 24) (hp24 : p < 24) (mk : qz_mk K b) (hi : i < 1152) (hr : qz_op P (-1) r) (hP : ∀ a, P a → qz_nx c K F (i % 384 / 16) a) (hm : (i < 384 ∧ m = 0) ∨ (384 ≤ i ∧ qz_hb K F S (i % 384 / 16) (i % 16) m)) (h1 : 1 ≤ st) (hst : st ≤ 100000) (k : qz_fl D f) (I : qz_DI c K F S b p f) (G : qz_DG f0 fm f C) (hw : ∀ j, qz_fe c K F S b p i j → qz_fw c K F S b p (st - 1) j)
    (h : ∀ fm' D' f', qz_fl D' f' → qz_DI c K F S b p f' → qz_DG f0 fm' f' (C ∧ ∀ q, P q → ∀ j, qz_fq K F S b p i q j → f0 j ≤ st) → J (nI (y + 1)) (nI c) fm' K F S M U D') :
    ((nI (i / 384) = 0 → wY_goOn_81 post J (nI b) (nI p) (nI (i / 384)) (nI (i % 384 / 16)) (nI st) (nI m) (nI y) r (nI c) fm K F S M U D) ∧ (¬ nI (i / 384) = 0 → ((nI m = 0 → wY_goOn_93 post J (nI b) (nI p) (nI (i / 384)) (nI (i % 384 / 16)) (nI st) (nI m) (nI y) r (nI c) fm K F S M U D) ∧ (¬ nI m = 0 → wY_goOn_81 post J (nI b) (nI p) (nI (i / 384)) (nI (i % 384 / 16)) (nI st) (nI m) (nI y) r (nI c) fm K F S M U D)))) := by
  have hPc : ∀ a, P a → a < c := fun a ha => (hP a ha).1
  have hfe : ∀ q j, P q → qz_fq K F S b p i q j → qz_fe c K F S b p i j := fun q j hq hj => ⟨q, hP q hq, hj⟩
  obtain ⟨x, hx, ex⟩ : ∃ x, x < 4 ∧ F b = nI x := by
    rcases mk with z | z
    · exact (qz_va_b V (Or.inl z)).1
    · exact (qz_va_b V (Or.inr (Or.inl z))).1
  rcases hm with ⟨hlt, m0⟩ | ⟨hge, hm⟩
  · -- phase 0
    subst m0
    have p0 : i / 384 = 0 := by omega
    rw [p0]
    refine br_t rfl ?_
    refine qy_come (h := 0) (m := 0) hc hr hPc (by omega) (by omega) h1 hst k I G (fun a ha => hw _ (hfe a _ ha (Or.inl ⟨hlt, Or.inl (by omega)⟩))) (fun fm1 D1 f1 k1 I1 G1 => ?_)
    unfold wY_goOn_93
    refine br_t rfl (pk_eq (i % 384 / 16) b (fun eb => ⟨qz_i24 hb, ?_⟩) (fun nb => br_f (by decide) (nm_r (nI_1 y) (h _ _ _ k1 I1 (qz_DG_m G1 (fun _ hC => ⟨hC.1, fun q hq j hj => ?_⟩))))))
    · rw [qz_c24 hb, ex, (qz_pow4 x hx).1]
      refine qy_come (h := 1) (m := 2 ^ x) hc hr hPc (by omega) (qz_pow_lt hx) h1 hst k1 I1 G1 (fun a ha => hw _ (hfe a _ ha (Or.inl ⟨hlt, Or.inr ⟨eb, x, hx, ex, by omega⟩⟩))) (fun fm2 D2 f2 k2 I2 G2 => br_f (by decide) (nm_r (nI_1 y) (h _ _ _ k2 I2 (qz_DG_m G2 (fun _ hC => ⟨hC.1.1, fun q hq j hj => ?_⟩)))))
      rcases hj with ⟨_, e | ⟨_, x', hx', ex', e⟩⟩ | ⟨z, _⟩
      · have := hC.1.2 q hq
        rw [e]
        have e0 : 384 * 0 + 16 * q + 0 = 16 * q := by omega
        rw [e0] at this
        exact this
      · have exx : x = x' := (qz_ne hx hx').mp (ex.symm.trans ex')
        have := hC.2 q hq
        rw [e, ← exx]
        have e0 : 384 * 1 + 16 * q + 2 ^ x = 384 + 16 * q + 2 ^ x := by omega
        rw [e0] at this
        exact this
      · exact absurd hlt (Nat.not_lt.mpr z)
    · rcases hj with ⟨_, e | ⟨z, _⟩⟩ | ⟨z, _⟩
      · have := hC.2 q hq
        rw [e]
        have e0 : 384 * 0 + 16 * q + 0 = 16 * q := by omega
        rw [e0] at this
        exact this
      · exact absurd z nb
      · exact absurd hlt (Nat.not_lt.mpr z)
  · have hm16 := hm.1
    have ph : i / 384 = 1 ∨ i / 384 = 2 := by omega
    have ph0 : ¬ nI (i / 384) = 0 := nI_ne0 (by omega) (by omega)
    refine br_f ph0 (pk_eq m 0 (fun m0 => ?_) (fun m0 => ?_))
    · -- nothing goes on
      have fin : J (nI (y + 1)) (nI c) fm K F S M U D := h _ _ _ k I (qz_DG_m G (fun _ hC => ⟨hC, fun q hq j hj => by
        rcases hj with ⟨z, _⟩ | ⟨_, m', hm', ne, _⟩
        · exact absurd z (Nat.not_lt.mpr hge)
        · exact absurd ((qz_hb_u hm' hm).trans m0) ne⟩))
      refine br_f ph0 ?_
      unfold wY_goOn_121
      exact br_c (fun _ => br_c (fun _ => br_t (by rw [m0]; rfl) (nm_r (nI_1 y) fin)) (fun _ => nm_r (nI_1 y) fin)) (fun _ => nm_r (nI_1 y) fin)
    · have nm0 : ¬ nI m = 0 := nI_ne0 (by omega) (by omega)
      refine qy_come (h := i / 384) (m := m) hc hr hPc (by omega) hm16 h1 hst k I G (fun a ha => hw _ (hfe a _ ha (Or.inr ⟨hge, m, hm, m0, Or.inl rfl⟩))) (fun fm1 D1 f1 k1 I1 G1 => br_f ph0 ?_)
      have fin : ¬ (i / 384 = 1 ∧ i % 384 / 16 = p) → J (nI (y + 1)) (nI c) fm1 K F S M U D1 := fun no => h _ _ _ k1 I1 (qz_DG_m G1 (fun _ hC => ⟨hC.1, fun q hq j hj => by
        rcases hj with ⟨z, _⟩ | ⟨_, m', hm', ne, e | ⟨z, z', _⟩⟩
        · exact absurd z (Nat.not_lt.mpr hge)
        · rw [e, qz_hb_u hm' hm]; exact hC.2 q hq
        · exact absurd ⟨z, z'⟩ no⟩))
      unfold wY_goOn_121
      refine pk_eq (i / 384) 1 (fun e1 => pk_eq (i % 384 / 16) p (fun ep => br_f nm0 ?_) (fun np => nm_r (nI_1 y) (fin (fun z => np z.2)))) (fun n1 => nm_r (nI_1 y) (fin (fun z => n1 z.1)))
      refine qy_come (h := 2) (m := m) hc hr hPc (by omega) hm16 h1 hst k1 I1 G1 (fun a ha => hw _ (hfe a _ ha (Or.inr ⟨hge, m, hm, m0, Or.inr ⟨e1, ep, by omega⟩⟩))) (fun fm2 D2 f2 k2 I2 G2 => nm_r (nI_1 y) (h _ _ _ k2 I2 (qz_DG_m G2 (fun _ hC => ⟨hC.1.1, fun q hq j hj => ?_⟩))))
      rcases hj with ⟨z, _⟩ | ⟨_, m', hm', ne, e | ⟨_, _, e⟩⟩
      · exact absurd z (Nat.not_lt.mpr hge)
      · rw [e, qz_hb_u hm' hm]; exact hC.1.2 q hq
      · have := hC.2 q hq
        rw [e, qz_hb_u hm' hm]
        have e0 : 384 * 2 + 16 * q + m = 768 + 16 * q + m := by omega
        rw [e0] at this
        exact this
theorem qy_goOn {post : SY → Prop} {C : Prop} {i : Nat} {f0 f : Nat → Nat} (hc : c ≤ 24) (V : qz_va K F S) (hb : b < 24) (hp24 : p < 24) (mk : qz_mk K b) (hi : i < 1152) (hfi : f i < 100000) (hat : i % 384 / 16 < 24) (k : qz_fl D f) (I : qz_DI c K F S b p f) (G : qz_DG f0 fm f C)
    (h : ∀ fm' D' f', qz_fl D' f' → qz_DI c K F S b p f' → qz_DG f0 fm' f' (C ∧ ∀ j, qz_fe c K F S b p i j → f0 j ≤ f0 i + 1) → post (nI c, fm', K, F, S, M, U, D')) : wpY_goOn post (nI c, fm, K, F, S, M, U, D) (nI i) (nI b) (nI p) := by
  have e1 : nI i / 384 = nI (i / 384) := pk_div (d := 384) (by omega) (by omega) (by omega)
  have e2 : (nI i - nI i / 384 * 384) / 16 = nI (i % 384 / 16) := by
    have : nI i - nI i / 384 * 384 = nI (i % 384) := pk_rem (d := 384) (by omega) (by omega) (by omega)
    rw [this]
    exact pk_div (d := 16) (by omega) (by omega) (by omega)
  have e3 : nI i - nI i / 16 * 16 = nI (i % 16) := pk_rem (d := 16) (by omega) (by omega) (by omega)
  have G' : qz_DG f0 fm f (C ∧ f i = f0 i) := qz_DG_m G (fun e hC => ⟨hC, by rw [e]⟩)
  have fi1 := (I.2 i hi).1
  have fiw := (I.2 i hi).2.2 hfi
  have hw : ∀ j, qz_fe c K F S b p i j → qz_fw c K F S b p (f i + 1 - 1) j := by
    intro j e
    have e0 : f i + 1 - 1 = (f i - 1) + 1 := by omega
    rw [e0]
    exact ⟨i, fiw, e⟩
  have body : ∀ m, ((i < 384 ∧ m = 0) ∨ (384 ≤ i ∧ qz_hb K F S (i % 384 / 16) (i % 16) m)) → ∃ n, wY_goOn_55 post (nI b) (nI p) (nI (i / 384)) (nI (i % 384 / 16)) (nI (f i + 1)) (nI m) n 0 (nI c) fm K F S M U D := by
    intro m hm
    refine ⟨3, br_f (by decide) (qy_next0 hat hc V (fun r0 h0 => ?_))⟩
    refine qy_go1 (y := 0) hc V hb hp24 mk hi h0 (fun a ha => qz_nx_y.mpr (Or.inl ha)) hm (by omega) (by omega) k I G' hw (fun fm1 D1 f1 k1 I1 G1 => ?_)
    refine br_f (by decide) (qy_next1 hat hc V (fun r1 h1 => ?_))
    refine qy_go1 (y := 1) hc V hb hp24 mk hi h1 (fun a ha => qz_nx_y.mpr (Or.inr ha)) hm (by omega) (by omega) k1 I1 G1 hw (fun fm2 D2 f2 k2 I2 G2 => ?_)
    refine br_t (by decide) (h _ _ _ k2 I2 (qz_DG_m G2 (fun _ hC => ⟨hC.1.1.1, fun j e => ?_⟩)))
    obtain ⟨q, e, ej⟩ := e
    have ei := hC.1.1.2
    rw [← ei]
    rcases qz_nx_y.mp e with w | w
    · exact hC.1.2 q w j ej
    · exact hC.2 q w j ej
  unfold wpY_goOn
  refine ⟨by decide, nm_r e1 ⟨by decide, by decide, nm_r e2 ⟨by decide, nm_r e3 ⟨vp_in_nI hi (by omega), ?_⟩⟩⟩⟩
  rw [nI_clamp (by omega), k i hi]
  refine nm_r (nI_1 (f i)) (pk_eq (i / 384) 0 (fun z => body 0 (Or.inl ⟨by omega, rfl⟩)) (fun z => qy_hold hat (Nat.mod_lt _ (by omega)) V (fun m hm => body m (Or.inr ⟨by omega, hm⟩))))
theorem qy_s88 {post : Int32 → SY → Prop} {J : Int32 → Int32 → (Nat → Int32) → (Nat → Int32) → (Nat → Int32) → (Nat → Int32) → (Nat → Int32) → (Nat → Int32) → Prop} {f0 : Nat → Nat} (hc : c ≤ 24) (V : qz_va K F S) (hb : b < 24) (hp24 : p < 24) (mk : qz_mk K b)
    (h : ∀ fm' D' f', qz_fl D' f' → qz_DI c K F S b p f' → qz_DG f0 fm' f' (qz_DC c K F S b p f0) → J (nI c) fm' K F S M U D') :
    ∀ d i, i + d = 1152 → ∀ fm' D' f', qz_fl D' f' → qz_DI c K F S b p f' → qz_DG f0 fm' f' (∀ i', i' < i → f0 i' < 100000 → ∀ j, qz_fe c K F S b p i' j → f0 j ≤ f0 i' + 1) → wY_shown_88 post J (nI b) (nI p) (d + 1) (nI i) (nI c) fm' K F S M U D' := by
  intro d
  induction d with
  | zero =>
    intro i hi fm' D' f' k I G
    have : i = 1152 := by omega
    subst this
    exact br_t (nI_le (Nat.le_refl 1152) (by omega)) (h _ _ _ k I G)
  | succ d ih =>
    intro i hi fm' D' f' k I G
    have hi' : i < 1152 := by omega
    have fb := (I.2 i hi').2.1
    refine br_f (nI_ge (b := 1152) hi' (by omega)) ⟨vp_in_nI hi' (by omega), ?_⟩
    rw [nI_clamp (by omega), k i hi']
    refine pk_le 100000 (f' i) (fun z => nm_r (nI_1 i) (ih (i + 1) (by omega) _ _ _ k I (qz_DG_m G (fun e hC i' hi2 hf j ej => ?_)))) (fun z => qy_goOn hc V hb hp24 mk hi' z (by omega) k I G (fun fm2 D2 f2 k2 I2 G2 => nm_r (nI_1 i) (ih (i + 1) (by omega) _ _ _ k2 I2 (qz_DG_m G2 (fun _ hC i' hi2 hf j ej => ?_)))))
    · by_cases w : i' = i
      · rw [w, ← e] at hf; omega
      · exact hC i' (by omega) hf j ej
    · by_cases w : i' = i
      · rw [w] at ej ⊢; exact hC.2 j ej
      · exact hC.1 i' (by omega) hf j ej
theorem qy_s130 {post : Int32 → SY → Prop} {f : Nat → Nat} (hc : c ≤ 24) (V : qz_va K F S) (k : qz_fl D f) (hf : ∀ n, n < 1152 → f n ≤ 100000)
    (h : ∀ l, qz_DL K F f (768 + 16 * c) l → post (if l = 100000 then -3 else nI l) (nI c, fm, K, F, S, M, U, D)) :
    ∀ d e, e + d = 768 + 16 * c → 768 ≤ e → ∀ l, qz_DL K F f e l → wY_shown_130 post (nI c) fm K F S M U D (d + 1) (nI l) (nI e) := by
  have e16 : (768 : Int32) + 16 * nI c = nI (768 + 16 * c) := by
    show nI 768 + nI 16 * nI c = _
    rw [pk_mul, nI_add]
  intro d
  induction d with
  | zero =>
    intro e he _ l hl
    have : e = 768 + 16 * c := by omega
    subst this
    have hh := h l hl
    have lb := hl.1
    refine pk_le (768 + 16 * c) (768 + 16 * c) (fun _ => pk_eq l 100000 (fun z => ?_) (fun z => ?_)) (fun z => by omega) e16
    · rw [if_pos z] at hh; exact hh
    · rw [if_neg z] at hh; exact hh
  | succ d ih =>
    intro e he h7 l hl
    have he' : e < 1152 := by omega
    have lb := hl.1
    have fb := hf e he'
    have iv : vp_in (nI e) 1152 := vp_in_nI he' (by omega)
    have e2 : (nI e - nI e / 384 * 384) / 16 = nI (e % 384 / 16) := by
      have : nI e - nI e / 384 * 384 = nI (e % 384) := pk_rem (d := 384) (by omega) (by omega) (by omega)
      rw [this]
      exact pk_div (d := 16) (by omega) (by omega) (by omega)
    have e3 : nI e - nI e / 16 * 16 = nI (e % 16) := pk_rem (d := 16) (by omega) (by omega) (by omega)
    have skip : (l ≤ f e ∨ ¬ qz_fg K F e) → wY_shown_182 post (wY_shown_130 post (nI c) fm K F S M U D (d + 1)) (nI l) (nI e) (nI c) fm K F S M U D := by
      intro z
      refine br_t rfl (nm_r (nI_1 e) (ih (e + 1) (by omega) (by omega) l ⟨hl.1, hl.2.1, fun n hn hn2 hg => ?_⟩))
      by_cases w : n = e
      · rcases z with z | z
        · rw [w]; exact z
        · rw [w] at hg; exact absurd hg z
      · exact hl.2.2 n hn (by omega) hg
    refine pk_le (768 + 16 * c) e (fun z => by omega) (fun _ => ⟨iv, ?_⟩) e16
    rw [nI_clamp (by omega), k e he']
    refine pk_le l (f e) (fun z => skip (Or.inl z)) (fun z => ⟨by decide, by decide, by decide, ?_⟩)
    rw [e2, e3]
    refine qy_uses (by omega) V (fun u => br_f (by decide) (br_f (by decide) ⟨iv, ?_⟩)) (fun nu => br_t rfl (skip (Or.inr (fun g => nu g.2))))
    rw [nI_clamp (by omega), k e he']
    refine nm_e (nm_r (nI_1 e) (ih (e + 1) (by omega) (by omega) (f e) ⟨by omega, Or.inr ⟨e, he', ⟨h7, u⟩, rfl⟩, fun n hn hn2 hg => ?_⟩))
    by_cases w : n = e
    · rw [w]; exact Nat.le_refl _
    · have := hl.2.2 n hn (by omega) hg
      omega
theorem qy_s74 {post : Int32 → SY → Prop} (hc : c ≤ 24) (V : qz_va K F S) (hb : b < 24) (hp24 : p < 24) (mk : qz_mk K b)
    (h : ∀ l f fm' D', qz_DI c K F S b p f → qz_DC c K F S b p f → qz_DL K F f (768 + 16 * c) l → post (if l = 100000 then -3 else nI l) (nI c, fm', K, F, S, M, U, D')) :
    ∀ n D' f, qz_fl D' f → qz_DI c K F S b p f → qz_sm f 1152 ≤ n → wY_shown_74 post (nI b) (nI p) (n + 2) (nI c) 1 K F S M U D' := by
  intro n
  induction n with
  | zero =>
    intro D' f k I hn
    refine br_f (by decide) ⟨1153, ?_⟩
    refine qy_s88 (f0 := f) hc V hb hp24 mk (fun fm2 D2 f2 k2 I2 G => ?_) 1152 0 (by omega) 0 D' f k I (Or.inl ⟨rfl, rfl, fun i' hi' => by omega⟩)
    rcases G with ⟨g0, e1, c1⟩ | ⟨g1, G⟩
    · subst e1
      rw [g0]
      exact br_t rfl ⟨16 * c + 1, qy_s130 hc V k2 (fun n hn => (I2.2 n hn).2.1) (fun l hl => h l f2 _ _ I2 c1 hl) (16 * c) 768 (by omega) (by omega) 100000 ⟨by omega, Or.inl rfl, fun n hn hn2 => by omega⟩⟩
    · omega
  | succ n ih =>
    intro D' f k I hn
    refine br_f (by decide) ⟨1153, ?_⟩
    refine qy_s88 (f0 := f) hc V hb hp24 mk (fun fm2 D2 f2 k2 I2 G => ?_) 1152 0 (by omega) 0 D' f k I (Or.inl ⟨rfl, rfl, fun i' hi' => by omega⟩)
    rcases G with ⟨g0, e1, c1⟩ | ⟨g1, G⟩
    · subst e1
      rw [g0]
      exact br_t rfl ⟨16 * c + 1, qy_s130 hc V k2 (fun n hn => (I2.2 n hn).2.1) (fun l hl => h l f2 _ _ I2 c1 hl) (16 * c) 768 (by omega) (by omega) 100000 ⟨by omega, Or.inl rfl, fun n hn hn2 => by omega⟩⟩
    · rw [g1]
      exact ih D2 f2 k2 I2 (by omega)
theorem qy_s40 {post : Int32 → SY → Prop} (hc : c ≤ 24) (V : qz_va K F S) (hb : b < 24) (hp24 : p < 24) (mk : qz_mk K b)
    (h : ∀ l f fm' D', qz_DI c K F S b p f → qz_DC c K F S b p f → qz_DL K F f (768 + 16 * c) l → post (if l = 100000 then -3 else nI l) (nI c, fm', K, F, S, M, U, D')) : ∃ n, wY_shown_40 post (nI b) (nI p) (nI c) fm n 0 K F S M U D := by
  refine loop_0 (fun n i (D' : Nat → Int32) => wY_shown_40 post (nI b) (nI p) (nI c) fm n (nI i) K F S M U D') (fun i D' => ∀ j, j < i → D' j = nI (if j = 0 then 1 else 100000)) 1152 D (fun j hj => by omega) ?_ ?_
  · intro n D' hD
    refine br_t (nI_le (Nat.le_refl 1152) (by omega)) ⟨_, qy_s74 hc V hb hp24 mk h _ D' (fun j => if j = 0 then 1 else 100000) hD ⟨?_, ?_⟩ (Nat.le_refl _)⟩
    · show (if 0 = 0 then 1 else 100000) ≤ 1
      rw [if_pos rfl]
      exact Nat.le_refl _
    · intro j hj
      dsimp only
      by_cases z : j = 0
      · subst z
        rw [if_pos rfl]
        exact ⟨by omega, by omega, fun _ => rfl⟩
      · rw [if_neg z]
        exact ⟨by omega, by omega, fun w => by omega⟩
  · intro n j D' hj hD hk
    have iv : vp_in (nI j) 1152 := vp_in_nI hj (by omega)
    refine br_f (nI_ge (b := 1152) hj (by omega)) ?_
    rw [nI_clamp (by omega)]
    refine pk_eq j 0 (fun z => ⟨iv, nm_e (nm_r (nI_1 j) (hk _ (fun t ht => ?_)))⟩) (fun z => ⟨iv, nm_e (nm_r (nI_1 j) (hk _ (fun t ht => ?_)))⟩)
    · by_cases w : t = j
      · rw [w, pk_us, if_pos z]; rfl
      · rw [pk_un w]; exact hD t (by omega)
    · by_cases w : t = j
      · rw [w, pk_us, if_neg z]; rfl
      · rw [pk_un w]; exact hD t (by omega)
end
end
section
/-! ===== the relation and what is owed ===== -/
def i_Rel (_ : Nat) (u : SX) (v : SY) : Prop := ∃ (c : Nat) (fq fm : Int32) (K F S sn lo em lv Q L M U D : Nat → Int32), u = (nI c, fq, K, F, S, sn, lo, em, lv, Q, L) ∧ v = (nI c, fm, K, F, S, M, U, D) ∧ c ≤ 24 ∧ qz_va K F S ∧ qz_FS c K F S sn em lo ∧ qz_LS c K F S lv
theorem qz_rel {k c : Nat} {fq fm : Int32} {K F S sn lo em lv Q L M U D : Nat → Int32} (hc : c ≤ 24) (V : qz_va K F S) (FS : qz_FS c K F S sn em lo) (LS : qz_LS c K F S lv) : i_Rel k (nI c, fq, K, F, S, sn, lo, em, lv, Q, L) (nI c, fm, K, F, S, M, U, D) := ⟨c, fq, fm, K, F, S, sn, lo, em, lv, Q, L, M, U, D, rfl, rfl, hc, V, FS, LS⟩
theorem i_up {k : Nat} {u : SX} {v : SY} (h : i_Rel k u v) : i_Rel (k + 5) u v := by
  exact h
theorem i_vc0 : wpX_init (fun u => wpY_init (fun v => i_Rel 0 u v)) := by
  have V : qz_va (fun _ => 0) (fun _ => 0) (fun _ => 0) := fun p => (qz_okA (n := 0) (by omega)).mpr ⟨0, by omega, rfl⟩
  exact qz_rel (k := 0) (c := 0) (by omega) V qz_FS_0 qz_LS_0
section
variable {c : Nat} {fq : Int32} {K F S sn lo em lv Q L : Nat → Int32}
theorem qx_write {post : SX → Prop} {p : Nat} (hp : p < 24) (k x y : Int32) (h : post (nI c, fq, (upd K p k), (upd F p x), (upd S p y), sn, lo, em, lv, Q, L)) : wpX_write post (nI c, fq, K, F, S, sn, lo, em, lv, Q, L) (nI p) k x y := by
  have i := qz_i24 hp
  unfold wpX_write
  simp only [qz_c24 hp]
  exact ⟨i, nm_e ⟨i, nm_e ⟨i, nm_e h⟩⟩⟩
theorem qz_va_up (V : qz_va K F S) {k x y : Int32} (h : qz_ok k x y) (p : Nat) : qz_va (upd K p k) (upd F p x) (upd S p y) := by
  intro j
  by_cases e : j = p
  · rw [e, pk_us, pk_us, pk_us]; exact h
  · rw [pk_un e, pk_un e, pk_un e]; exact V j
end
theorem i_vc_point {k : Nat} {u : SX} {v : SY} (I : i_Rel k u v) (hk : k + 5 ≤ 2560) (v1 : Int32) (v2 : Int32) (v3 : Int32) : wpX_point (fun r u' => wpY_point (fun r' v' => r' = r ∧ i_Rel (k + 5) u' v') v v1 v2 v3) u v1 v2 v3 := by
  obtain ⟨c, fq, fm, K, F, S, sn, lo, em, lv, Q, L, M, U, D, rfl, rfl, hc, V, FS, LS⟩ := I
  unfold wpX_point
  refine qx_act v1 v2 v3 (fun ok => br_f (by decide) (pk_lt c 24 (fun lt => nm_r (nI_1 c) (qx_write lt v1 v2 v3 (qx_ana (c := c + 1) (by omega) (qz_va_up V ok c) FS.2.2.2 (fun sn' lo' em' lv' FS' LS' => ?_)))) (fun ge => ?_))) (fun nok => br_t rfl ?_)
  · unfold wpY_point
    have i := qz_i24 lt
    refine qy_fits v1 v2 v3 (fun _ => br_f (by decide) (pk_eq c 24 (fun z => by omega) (fun z => ?_))) (fun nok => absurd ok nok)
    rw [qz_c24 lt]
    exact ⟨i, nm_e ⟨i, nm_e ⟨i, nm_e (nm_r (nI_1 c) ⟨nI_pred c, qz_rel (by omega) (qz_va_up V ok c) FS' LS'⟩)⟩⟩⟩
  · unfold wpY_point
    exact qy_fits v1 v2 v3 (fun _ => br_f (by decide) (pk_eq c 24 (fun z => ⟨rfl, qz_rel hc V FS LS⟩) (fun z => by omega))) (fun nok => absurd ok nok)
  · unfold wpY_point
    exact qy_fits v1 v2 v3 (fun ok => absurd ok nok) (fun _ => br_t rfl ⟨rfl, qz_rel hc V FS LS⟩)
theorem i_vc_change {k : Nat} {u : SX} {v : SY} (I : i_Rel k u v) (hk : k + 5 ≤ 2560) (v1 : Int32) (v2 : Int32) (v3 : Int32) (v4 : Int32) : wpX_change (fun r u' => wpY_change (fun r' v' => r' = r ∧ i_Rel (k + 5) u' v') v v1 v2 v3 v4) u v1 v2 v3 v4 := by
  obtain ⟨c, fq, fm, K, F, S, sn, lo, em, lv, Q, L, M, U, D, rfl, rfl, hc, V, FS, LS⟩ := I
  have R : i_Rel (k + 5) (nI c, fq, K, F, S, sn, lo, em, lv, Q, L) (nI c, fm, K, F, S, M, U, D) := qz_rel hc V FS LS
  unfold wpX_change
  refine qx_pt hc v1 (fun p hp e => br_f (by decide) (qx_act v2 v3 v4 (fun ok => br_f (by decide) ?_) (fun nok => br_t rfl ?_))) (fun no => br_t rfl ?_)
  · subst e
    have hp24 : p < 24 := by omega
    have i := qz_i24 hp24
    rw [qz_c24 hp24]
    refine ⟨i, nm_e (qx_write hp24 v2 v3 v4 (qx_ana hc (qz_va_up V ok p) FS.2.2.2 (fun sn' lo' em' lv' FS' LS' => ?_)))⟩
    unfold wpY_change
    refine qy_pt hc (nI p) (fun _ _ _ => br_f (by decide) (qy_fits v2 v3 v4 (fun _ => br_f (by decide) ?_) (fun nok => absurd ok nok))) (fun no => absurd rfl (no p hp))
    rw [qz_c24 hp24]
    exact ⟨i, nm_e ⟨i, nm_e ⟨i, nm_e ⟨i, nm_e ⟨rfl, qz_rel hc (qz_va_up V ok p) FS' LS'⟩⟩⟩⟩⟩
  · unfold wpY_change
    exact qy_pt hc v1 (fun _ _ _ => br_f (by decide) (qy_fits v2 v3 v4 (fun ok => absurd ok nok) (fun _ => br_t rfl ⟨rfl, R⟩))) (fun no => absurd e (no p hp))
  · unfold wpY_change
    exact qy_pt hc v1 (fun p hp e => absurd e (no p hp)) (fun _ => br_t rfl ⟨rfl, R⟩)
theorem i_vc_drop {k : Nat} {u : SX} {v : SY} (I : i_Rel k u v) (hk : k + 5 ≤ 2560) : wpX_drop (fun r u' => wpY_drop (fun r' v' => r' = r ∧ i_Rel (k + 5) u' v') v) u := by
  obtain ⟨c, fq, fm, K, F, S, sn, lo, em, lv, Q, L, M, U, D, rfl, rfl, hc, V, FS, LS⟩ := I
  unfold wpX_drop
  have e1 : 0 < c → nI c - 1 = nI (c - 1) := by
    intro h
    show nI c - nI 1 = _
    rw [pk_sub (by omega)]
  refine pk_lt 0 c (fun z => nm_r (e1 z) (qx_ana (c := c - 1) (by omega) V FS.2.2.2 (fun sn' lo' em' lv' FS' LS' => ?_))) (fun z => ?_)
  · unfold wpY_drop
    exact pk_eq c 0 (fun w => by omega) (fun w => nm_r (e1 z) ⟨rfl, qz_rel (by omega) V FS' LS'⟩)
  · unfold wpY_drop
    exact pk_eq c 0 (fun w => ⟨rfl, qz_rel hc V FS LS⟩) (fun w => by omega)
theorem i_vc_points {k : Nat} {u : SX} {v : SY} (I : i_Rel k u v) (hk : k + 5 ≤ 2560) : wpX_points (fun r => wpY_points (fun r' => r' = r ∧ i_Rel (k + 5) u v) v) u := by
  obtain ⟨c, fq, fm, K, F, S, sn, lo, em, lv, Q, L, M, U, D, rfl, rfl, hc, V, FS, LS⟩ := I
  exact ⟨rfl, qz_rel hc V FS LS⟩
theorem i_vc_reached {k : Nat} {u : SX} {v : SY} (I : i_Rel k u v) (hk : k + 5 ≤ 2560) (v1 : Int32) : wpX_reached (fun r => wpY_reached (fun r' v' => r' = r ∧ i_Rel (k + 5) u v') v v1) u v1 := by
  obtain ⟨c, fq, fm, K, F, S, sn, lo, em, lv, Q, L, M, U, D, rfl, rfl, hc, V, FS, LS⟩ := I
  unfold wpX_reached
  refine qx_pt hc v1 (fun p hp e => br_f (by decide) ?_) (fun no => br_t rfl ?_)
  · subst e
    have hp24 : p < 24 := by omega
    have f := FS.1 p hp24
    rw [qz_c24 hp24]
    refine ⟨qz_i24 hp24, br_c (fun z => qy_reached hc V _ (fun p' hp' e re => ?_) (fun _ fm' M' => ⟨rfl, qz_rel hc V FS LS⟩)) (fun z => qy_reached hc V _ (fun p' hp' e re fm' M' => ⟨rfl, qz_rel hc V FS LS⟩) (fun no => ?_))⟩
    · have : p = p' := (nI_eq (by omega) (by omega)).mp e
      rw [← this] at re
      exact absurd z (f.mpr re)
    · exact absurd (f.mp z) (no p hp rfl)
  · exact qy_reached hc V _ (fun p hp e _ => absurd e (no p hp)) (fun _ fm' M' => ⟨rfl, qz_rel hc V FS LS⟩)
theorem i_vc_holds {k : Nat} {u : SX} {v : SY} (I : i_Rel k u v) (hk : k + 5 ≤ 2560) (v1 : Int32) (v2 : Int32) : wpX_holds (fun r => wpY_holds (fun r' v' => r' = r ∧ i_Rel (k + 5) u v') v v1 v2) u v1 v2 := by
  obtain ⟨c, fq, fm, K, F, S, sn, lo, em, lv, Q, L, M, U, D, rfl, rfl, hc, V, FS, LS⟩ := I
  have R : i_Rel (k + 5) (nI c, fq, K, F, S, sn, lo, em, lv, Q, L) (nI c, fm, K, F, S, M, U, D) := qz_rel hc V FS LS
  unfold wpX_holds
  refine qx_pt hc v1 (fun p hp e => br_f (by decide) (qx_ref v2 (fun r hr e' => br_f (by decide) ?_) (fun no => br_t rfl ?_))) (fun no => br_t rfl ?_)
  · subst e
    subst e'
    have hp24 : p < 24 := by omega
    rw [qz_x4, nI_clamp (by omega)]
    refine ⟨vp_in_nI (by omega) (by omega), ?_⟩
    unfold wpY_holds
    refine qy_pt hc (nI p) (fun _ _ _ => br_f (by decide) (qy_in (nI r) 3 (by omega) (fun _ _ _ => br_f (by decide) ⟨c + 1, qy_h25 hc V hp24 hr (fun x fm' M' hx => ⟨?_, qz_rel hc V FS LS⟩) c 0 (by omega) 0 _ _ (fun i => ?_)⟩) (fun no => absurd rfl (no r (by omega))))) (fun no => absurd rfl (no p hp))
    · rw [b_0]
      exact ⟨fun z => (by cases z), fun z => by omega⟩
    · apply qz_ext
      intro i hi
      rw [hx i, qz_n24 _ i hi, FS.2.2.1 p r i hp24 hr]
      constructor
      · rintro ⟨z, w⟩
        exact ⟨w, by omega⟩
      · rintro ⟨w, z⟩
        have f := qz_ho_f w
        have h24 := f.2.2.2.1
        exact ⟨qz_re_lt (f.2.2.2.2 (by omega)).1, w⟩
  · unfold wpY_holds
    exact qy_pt hc v1 (fun _ _ _ => br_f (by decide) (qy_in v2 3 (by omega) (fun a ha e => absurd e (no a (by omega))) (fun _ => br_t rfl ⟨rfl, R⟩))) (fun no => absurd e (no p hp))
  · unfold wpY_holds
    exact qy_pt hc v1 (fun p hp e => absurd e (no p hp)) (fun _ => br_t rfl ⟨rfl, R⟩)
theorem i_vc_free {k : Nat} {u : SX} {v : SY} (I : i_Rel k u v) (hk : k + 5 ≤ 2560) (v1 : Int32) (v2 : Int32) : wpX_free (fun r => wpY_free (fun r' v' => r' = r ∧ i_Rel (k + 5) u v') v v1 v2) u v1 v2 := by
  obtain ⟨c, fq, fm, K, F, S, sn, lo, em, lv, Q, L, M, U, D, rfl, rfl, hc, V, FS, LS⟩ := I
  have R : i_Rel (k + 5) (nI c, fq, K, F, S, sn, lo, em, lv, Q, L) (nI c, fm, K, F, S, M, U, D) := qz_rel hc V FS LS
  unfold wpX_free
  refine qx_pt hc v1 (fun p hp e => br_f (by decide) (qx_ref v2 (fun r hr e' => br_f (by decide) ?_) (fun no => br_t rfl ?_))) (fun no => br_t rfl ?_)
  · subst e
    subst e'
    have hp24 : p < 24 := by omega
    refine qx_free hp24 hr FS (fun f => br_f (by decide) ?_) (fun nf => br_t rfl ?_)
    · unfold wpY_free
      exact qy_pt hc (nI p) (fun _ _ _ => br_f (by decide) (qy_in (nI r) 3 (by omega) (fun _ _ _ => br_f (by decide) (qy_isFree hc V hp24 hr (fun _ fm' M' => br_f (by decide) ⟨rfl, qz_rel hc V FS LS⟩) (fun nf => absurd f nf))) (fun no => absurd rfl (no r (by omega))))) (fun no => absurd rfl (no p hp))
    · unfold wpY_free
      exact qy_pt hc (nI p) (fun _ _ _ => br_f (by decide) (qy_in (nI r) 3 (by omega) (fun _ _ _ => br_f (by decide) (qy_isFree hc V hp24 hr (fun f => absurd f nf) (fun _ fm' M' => br_t rfl ⟨rfl, qz_rel hc V FS LS⟩))) (fun no => absurd rfl (no r (by omega))))) (fun no => absurd rfl (no p hp))
  · unfold wpY_free
    exact qy_pt hc v1 (fun _ _ _ => br_f (by decide) (qy_in v2 3 (by omega) (fun a ha e => absurd e (no a (by omega))) (fun _ => br_t rfl ⟨rfl, R⟩))) (fun no => absurd e (no p hp))
  · unfold wpY_free
    exact qy_pt hc v1 (fun p hp e => absurd e (no p hp)) (fun _ => br_t rfl ⟨rfl, R⟩)
section
variable {c : Nat} {fm : Int32} {K F S M U D : Nat → Int32}
theorem qy_wanted {post : Int32 → SY → Prop} {p r : Nat} (hc : c ≤ 24) (V : qz_va K F S) (hp : p < c) (hr : r < 4)
    (h1 : qz_re c K F p → qz_lv c K F S p r → ∀ fm' M' U', post 1 (nI c, fm', K, F, S, M', U', D))
    (h0 : ¬ (qz_re c K F p ∧ qz_lv c K F S p r) → ∀ fm' M' U', post 0 (nI c, fm', K, F, S, M', U', D)) : wpY_wanted post (nI c, fm, K, F, S, M, U, D) (nI p) (nI r) := by
  have hx := qz_pow_lt hr
  have ei : (16 : Int32) * nI p + ((1 : Int32) <<< (nI r &&& 31)) = nI (16 * p + 2 ^ r) := by
    rw [(qz_pow4 r hr).1, qz_x16]
  unfold wpY_wanted
  refine qy_pt hc (nI p) (fun _ _ _ => br_f (by decide) (qy_in (nI r) 3 (by omega) (fun _ _ _ => br_f (by decide) (qy_reached hc V (nI p) (fun p' hp' e re fm1 M1 => br_f (by decide) (qy_find hc V (fun fm2 U2 us => ?_))) (fun no fm1 M1 => br_t rfl (h0 (fun z => no p hp rfl z.1) _ _ _)))) (fun no => absurd rfl (no r (by omega))))) (fun no => absurd rfl (no p hp))
  have ep : p = p' := (nI_eq (by omega) (by omega)).mp e
  rw [← ep] at re
  rw [ei, nI_clamp (by omega)]
  have uj := us (16 * p + 2 ^ r) (by omega)
  have eqv : qz_yu c K F S (16 * p + 2 ^ r) ↔ qz_lv c K F S p r := by
    rw [qz_yu_lv hx]
    constructor
    · rintro ⟨r', hr', z, w⟩
      rw [((qz_pow4 r hr).2.2 r' hr').mp z] at w
      exact w
    · intro w
      exact ⟨r, hr, ((qz_pow4 r hr).2.2 r hr).mpr rfl, w⟩
  refine ⟨vp_in_nI (by omega) (by omega), qz_nw uj.1, ?_⟩
  rcases uj.1 with z | z
  · rw [z]
    exact h0 (fun w => (uj.2.mpr (eqv.mpr w.2)) z) _ _ _
  · rw [z]
    exact h1 re (eqv.mp (uj.2.mp (by rw [z]; decide))) _ _ _
end
theorem i_vc_wanted {k : Nat} {u : SX} {v : SY} (I : i_Rel k u v) (hk : k + 5 ≤ 2560) (v1 : Int32) (v2 : Int32) : wpX_wanted (fun r => wpY_wanted (fun r' v' => r' = r ∧ i_Rel (k + 5) u v') v v1 v2) u v1 v2 := by
  obtain ⟨c, fq, fm, K, F, S, sn, lo, em, lv, Q, L, M, U, D, rfl, rfl, hc, V, FS, LS⟩ := I
  have R : i_Rel (k + 5) (nI c, fq, K, F, S, sn, lo, em, lv, Q, L) (nI c, fm, K, F, S, M, U, D) := qz_rel hc V FS LS
  unfold wpX_wanted
  refine qx_pt hc v1 (fun p hp e => br_f (by decide) (qx_ref v2 (fun r hr e' => br_f (by decide) ?_) (fun no => br_t rfl ?_))) (fun no => br_t rfl ?_)
  · subst e
    subst e'
    have hp24 : p < 24 := by omega
    have f := FS.1 p hp24
    rw [qz_c24 hp24]
    refine ⟨qz_i24 hp24, br_c (fun z => qy_wanted hc V hp hr (fun re => absurd z (f.mpr re)) (fun _ fm' M' U' => ⟨rfl, qz_rel hc V FS LS⟩)) (fun z => qx_isLive hp24 hr LS (fun l => br_f (by decide) (qy_wanted hc V hp hr (fun _ _ fm' M' U' => ⟨rfl, qz_rel hc V FS LS⟩) (fun no => absurd ⟨f.mp z, l⟩ no))) (fun nl => br_t rfl (qy_wanted hc V hp hr (fun _ l => absurd l nl) (fun _ fm' M' U' => ⟨rfl, qz_rel hc V FS LS⟩))))⟩
  · unfold wpY_wanted
    exact qy_pt hc v1 (fun _ _ _ => br_f (by decide) (qy_in v2 3 (by omega) (fun a ha e => absurd e (no a (by omega))) (fun _ => br_t rfl ⟨rfl, R⟩))) (fun no => absurd e (no p hp))
  · unfold wpY_wanted
    exact qy_pt hc v1 (fun p hp e => absurd e (no p hp)) (fun _ => br_t rfl ⟨rfl, R⟩)
theorem i_vc_conflicts {k : Nat} {u : SX} {v : SY} (I : i_Rel k u v) (hk : k + 5 ≤ 2560) (v1 : Int32) : wpX_conflicts (fun r => wpY_conflicts (fun r' v' => r' = r ∧ i_Rel (k + 5) u v') v v1) u v1 := by
  obtain ⟨c, fq, fm, K, F, S, sn, lo, em, lv, Q, L, M, U, D, rfl, rfl, hc, V, FS, LS⟩ := I
  have R : i_Rel (k + 5) (nI c, fq, K, F, S, sn, lo, em, lv, Q, L) (nI c, fm, K, F, S, M, U, D) := qz_rel hc V FS LS
  unfold wpX_conflicts
  refine qx_pt hc v1 (fun p hp e => br_f (by decide) ?_) (fun no => br_t rfl ?_)
  · subst e
    refine qx_cset hc (by omega) FS LS (fun x hx => ?_)
    unfold wpY_conflicts
    refine qy_pt hc (nI p) (fun _ _ _ => br_f (by decide) (qy_confAt hc V hp (fun y fm' M' U' hy => ⟨?_, qz_rel hc V FS LS⟩))) (fun no => absurd rfl (no p hp))
    apply qz_ext
    intro i _
    rw [hx i, hy i]
  · unfold wpY_conflicts
    exact qy_pt hc v1 (fun p hp e => absurd e (no p hp)) (fun _ => br_t rfl ⟨rfl, R⟩)
theorem i_vc_unset {k : Nat} {u : SX} {v : SY} (I : i_Rel k u v) (hk : k + 5 ≤ 2560) (v1 : Int32) : wpX_unset (fun r => wpY_unset (fun r' v' => r' = r ∧ i_Rel (k + 5) u v') v v1) u v1 := by
  obtain ⟨c, fq, fm, K, F, S, sn, lo, em, lv, Q, L, M, U, D, rfl, rfl, hc, V, FS, LS⟩ := I
  have R : i_Rel (k + 5) (nI c, fq, K, F, S, sn, lo, em, lv, Q, L) (nI c, fm, K, F, S, M, U, D) := qz_rel hc V FS LS
  unfold wpX_unset
  refine qx_pt hc v1 (fun p hp e => br_f (by decide) ?_) (fun no => br_t rfl ?_)
  · subst e
    have hp24 : p < 24 := by omega
    refine qx_unset hp24 V FS (fun z => br_f (by decide) ?_) (fun z => br_t rfl ?_)
    · unfold wpY_unset
      exact qy_pt hc (nI p) (fun _ _ _ => br_f (by decide) (qy_unset hc V hp24 (fun _ fm' M' => br_f (by decide) ⟨rfl, qz_rel hc V FS LS⟩) (fun w => absurd z w))) (fun no => absurd rfl (no p hp))
    · unfold wpY_unset
      exact qy_pt hc (nI p) (fun _ _ _ => br_f (by decide) (qy_unset hc V hp24 (fun w => absurd w z) (fun _ fm' M' => br_t rfl ⟨rfl, qz_rel hc V FS LS⟩))) (fun no => absurd rfl (no p hp))
  · unfold wpY_unset
    exact qy_pt hc v1 (fun p hp e => absurd e (no p hp)) (fun _ => br_t rfl ⟨rfl, R⟩)
theorem i_vc_idle {k : Nat} {u : SX} {v : SY} (I : i_Rel k u v) (hk : k + 5 ≤ 2560) (v1 : Int32) : wpX_idle (fun r => wpY_idle (fun r' v' => r' = r ∧ i_Rel (k + 5) u v') v v1) u v1 := by
  obtain ⟨c, fq, fm, K, F, S, sn, lo, em, lv, Q, L, M, U, D, rfl, rfl, hc, V, FS, LS⟩ := I
  have R : i_Rel (k + 5) (nI c, fq, K, F, S, sn, lo, em, lv, Q, L) (nI c, fm, K, F, S, M, U, D) := qz_rel hc V FS LS
  unfold wpX_idle
  refine qx_pt hc v1 (fun p hp e => br_f (by decide) ?_) (fun no => br_t rfl ?_)
  · subst e
    have hp24 : p < 24 := by omega
    refine qx_idle hp24 V FS (fun z => br_f (by decide) ?_) (fun z => br_t rfl ?_)
    · unfold wpY_idle
      exact qy_pt hc (nI p) (fun _ _ _ => br_f (by decide) (qy_idle hc V hp24 (fun _ fm' M' => br_f (by decide) ⟨rfl, qz_rel hc V FS LS⟩) (fun w => absurd z w))) (fun no => absurd rfl (no p hp))
    · unfold wpY_idle
      exact qy_pt hc (nI p) (fun _ _ _ => br_f (by decide) (qy_idle hc V hp24 (fun w => absurd w z) (fun _ fm' M' => br_t rfl ⟨rfl, qz_rel hc V FS LS⟩))) (fun no => absurd rfl (no p hp))
  · unfold wpY_idle
    exact qy_pt hc v1 (fun p hp e => absurd e (no p hp)) (fun _ => br_t rfl ⟨rfl, R⟩)
theorem i_vc_faults {k : Nat} {u : SX} {v : SY} (I : i_Rel k u v) (hk : k + 5 ≤ 2560) : wpX_faults (fun r => wpY_faults (fun r' v' => r' = r ∧ i_Rel (k + 5) u v') v) u := by
  obtain ⟨c, fq, fm, K, F, S, sn, lo, em, lv, Q, L, M, U, D, rfl, rfl, hc, V, FS, LS⟩ := I
  exact qx_faults hc V FS LS (fun a ha => qy_faults hc V (fun b fm' M' U' hb => ⟨by rw [qz_cn_u c b a hb ha], qz_rel hc V FS LS⟩))
theorem i_vc_firstFault {k : Nat} {u : SX} {v : SY} (I : i_Rel k u v) (hk : k + 5 ≤ 2560) : wpX_firstFault (fun r => wpY_firstFault (fun r' v' => r' = r ∧ i_Rel (k + 5) u v') v) u := by
  obtain ⟨c, fq, fm, K, F, S, sn, lo, em, lv, Q, L, M, U, D, rfl, rfl, hc, V, FS, LS⟩ := I
  refine qx_first hc V FS LS (fun p hp f hn => qy_first hc V (fun p' fm' M' U' hp' f' hn' => ⟨?_, qz_rel hc V FS LS⟩) (fun fm' M' U' no => absurd f (no p hp))) (fun no => qy_first hc V (fun p' fm' M' U' hp' f' hn' => absurd f' (no p' hp')) (fun fm' M' U' _ => ⟨rfl, qz_rel hc V FS LS⟩))
  have : p' = p := by
    apply Classical.byContradiction
    intro ne
    rcases Nat.lt_or_gt_of_ne ne with z | z
    · exact hn p' z f'
    · exact hn' p z f
  rw [this]
theorem i_vc_span {k : Nat} {u : SX} {v : SY} (I : i_Rel k u v) (hk : k + 5 ≤ 2560) (v1 : Int32) : wpX_span (fun r => wpY_span (fun r' v' => r' = r ∧ i_Rel (k + 5) u v') v v1) u v1 := by
  obtain ⟨c, fq, fm, K, F, S, sn, lo, em, lv, Q, L, M, U, D, rfl, rfl, hc, V, FS, LS⟩ := I
  have R : i_Rel (k + 5) (nI c, fq, K, F, S, sn, lo, em, lv, Q, L) (nI c, fm, K, F, S, M, U, D) := qz_rel hc V FS LS
  unfold wpX_span
  refine qx_pt hc v1 (fun b hb e => br_f (by decide) ?_) (fun no => br_t rfl ?_)
  · subst e
    refine ⟨c + 1, qx_sp14 hc (by omega) FS LS (fun x hx => ?_) c 0 (by omega) 0 (fun i => ?_)⟩
    · refine qy_span hc V hb (fun y fm' M' U' hy => ⟨?_, qz_rel hc V FS LS⟩)
      apply qz_ext
      intro i _
      rw [hx i, hy i]
    · rw [b_0]
      exact ⟨fun z => (by cases z), fun z => by omega⟩
  · unfold wpY_span
    exact qy_pt hc v1 (fun p hp e => absurd e (no p hp)) (fun _ => br_t rfl ⟨rfl, R⟩)
theorem i_vc_broken {k : Nat} {u : SX} {v : SY} (I : i_Rel k u v) (hk : k + 5 ≤ 2560) : wpX_broken (fun r => wpY_broken (fun r' v' => r' = r ∧ i_Rel (k + 5) u v') v) u := by
  obtain ⟨c, fq, fm, K, F, S, sn, lo, em, lv, Q, L, M, U, D, rfl, rfl, hc, V, FS, LS⟩ := I
  refine qx_broken hc FS LS (fun a ha => qy_broken hc V (fun b fm' M' U' hb => ⟨?_, qz_rel hc V FS LS⟩))
  have up := qz_cn_m (24 - c) (fun i hi z => by have := z.1; omega) ha
  have e24 : c + (24 - c) = 24 := by omega
  rw [e24] at up
  rw [qz_cn_u 24 b a hb up]
theorem i_vc_shown {k : Nat} {u : SX} {v : SY} (I : i_Rel k u v) (hk : k + 5 ≤ 2560) (v1 : Int32) (v2 : Int32) : wpX_shown (fun r u' => wpY_shown (fun r' v' => r' = r ∧ i_Rel (k + 5) u' v') v v1 v2) u v1 v2 := by
  obtain ⟨c, fq, fm, K, F, S, sn, lo, em, lv, Q, L, M, U, D, rfl, rfl, hc, V, FS, LS⟩ := I
  have R : i_Rel (k + 5) (nI c, fq, K, F, S, sn, lo, em, lv, Q, L) (nI c, fm, K, F, S, M, U, D) := qz_rel hc V FS LS
  unfold wpX_shown
  refine qx_pt hc v1 (fun b hb e => br_f (by decide) (qx_pt hc v2 (fun p hp e' => br_f (by decide) ?_) (fun no => br_t rfl ?_))) (fun no => br_t rfl ?_)
  · subst e
    subst e'
    have hb24 : b < 24 := by omega
    have hp24 : p < 24 := by omega
    have k7 : qz_ds K F S p b → K p ≠ 7 := by
      intro ds z
      obtain ⟨(w | w | w) | ⟨w | w, _⟩, _⟩ := ds <;> rw [z] at w <;> exact absurd w (by decide)
    refine qx_conf hp24 hb24 FS LS (fun cf => br_f (by decide) ?_) (fun ncf => br_t rfl ?_)
    · obtain ⟨ds, sp⟩ := cf
      have mk := ds.2.1
      have ex := (qz_go_iff hb24 (by omega) mk (k7 ds)).mpr sp
      refine qx_short hc V hb hp mk (fun d fq' Q' L' h0 h216 hg hl => ?_) (fun fq' Q' L' no => ?_)
      · unfold wpY_shown
        refine qy_pt hc (nI b) (fun _ _ _ => br_f (by decide) (qy_pt hc (nI p) (fun _ _ _ => br_f (by decide) (qy_makes hb24 (fun _ => br_f (by decide) (qy_against hp24 hb24 V mk (fun _ => br_f (by decide) (qy_s40 hc V hb24 hp24 mk (fun l f fm' D' DI DC DL => ⟨?_, qz_rel hc V FS LS⟩))) (fun nd => absurd ds nd))) (fun nm => absurd mk nm))) (fun no => absurd rfl (no p hp)))) (fun no => absurd rfl (no b hb))
        have el := qz_D_some hc DI DC h0 h216 hg hl DL
        rw [el, if_neg (by omega)]
      · obtain ⟨n, hn⟩ := ex
        exact absurd hn (no n)
    · unfold wpY_shown
      refine qy_pt hc (nI b) (fun _ _ _ => br_f (by decide) (qy_pt hc (nI p) (fun _ _ _ => br_f (by decide) (qy_makes hb24 (fun mk => br_f (by decide) (qy_against hp24 hb24 V mk (fun ds => br_f (by decide) (qy_s40 hc V hb24 hp24 mk (fun l f fm' D' DI DC DL => ⟨?_, qz_rel hc V FS LS⟩))) (fun nd => br_t rfl ⟨rfl, R⟩))) (fun nm => br_t rfl ⟨rfl, R⟩))) (fun no => absurd rfl (no p hp)))) (fun no => absurd rfl (no b hb))
      have no : ∀ n, ¬ qz_go c K F S b p n := fun n hn => ncf ⟨ds, (qz_go_iff hb24 (by omega) mk (k7 ds)).mp ⟨n, hn⟩⟩
      rw [qz_D_none hc DI no DL, if_pos rfl]
  · unfold wpY_shown
    exact qy_pt hc v1 (fun _ _ _ => br_f (by decide) (qy_pt hc v2 (fun p hp e => absurd e (no p hp)) (fun _ => br_t rfl ⟨rfl, R⟩))) (fun no => absurd e (no b hb))
  · unfold wpY_shown
    exact qy_pt hc v1 (fun p hp e => absurd e (no p hp)) (fun _ => br_t rfl ⟨rfl, R⟩)
end
