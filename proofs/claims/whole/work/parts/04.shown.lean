/-! ===== the two graphs of shown: 9 * at + stage, and 384 * phase + 16 * at + set ===== -/
section
variable (c : Nat) (K F S : Nat → Int32) (b p : Nat)
def qz_xs (at' st st' : Nat) : Prop :=
  (st = 0 ∧ (st' = 0 ∨ (at' = b ∧ ∃ x, x < 4 ∧ F b = nI x ∧ st' = 1 + x)))
  ∨ (1 ≤ st ∧ st ≤ 4 ∧ ∃ r', qz_hr K F S at' (st - 1) r' ∧ ((at' = p ∧ st' = 5 + r') ∨ (at' ≠ p ∧ st' = 1 + r')))
  ∨ (5 ≤ st ∧ ∃ r', qz_hr K F S at' (st - 5) r' ∧ st' = 5 + r')
def qz_xe (t u : Nat) : Prop := qz_nx c K F (t / 9) (u / 9) ∧ qz_xs K F S b p (t / 9) (t % 9) (u % 9)
def qz_xw : Nat → Nat → Prop := qz_w (fun t => t = 0) (qz_xe c K F S b p)
def qz_xg (t : Nat) : Prop := 5 ≤ t % 9 ∧ K (t / 9) = 7 ∧ F (t / 9) = nI (t % 9 - 5)
/-- a walk of n steps shows it -/
def qz_go (n : Nat) : Prop := ∃ t, qz_xw c K F S b p n t ∧ qz_xg K F t
def qz_fe (i j : Nat) : Prop := ∃ q, qz_nx c K F (i % 384 / 16) q ∧
  ((i < 384 ∧ (j = 16 * q ∨ (i % 384 / 16 = b ∧ ∃ x, x < 4 ∧ F b = nI x ∧ j = 384 + 16 * q + 2 ^ x)))
  ∨ (384 ≤ i ∧ ∃ m, qz_hb K F S (i % 384 / 16) (i % 16) m ∧ m ≠ 0 ∧ (j = 384 * (i / 384) + 16 * q + m ∨ (i / 384 = 1 ∧ i % 384 / 16 = p ∧ j = 768 + 16 * q + m))))
def qz_fw : Nat → Nat → Prop := qz_w (fun j => j = 0) (qz_fe c K F S b p)
def qz_fg (j : Nat) : Prop := 768 ≤ j ∧ qz_uz K F (j % 384 / 16) (j % 16)
end
section
variable {c : Nat} {K F S : Nat → Int32} {b p : Nat}
theorem qz_ix {h q m : Nat} (hq : q < 24) (hm : m < 16) : (384 * h + 16 * q + m) % 384 / 16 = q ∧ (384 * h + 16 * q + m) % 16 = m ∧ (384 * h + 16 * q + m) / 384 = h := by omega
theorem qz_ix9 {q s : Nat} (hs : s < 9) : (9 * q + s) / 9 = q ∧ (9 * q + s) % 9 = s := by omega
theorem qz_xf (hc : c ≤ 24) : ∀ n t, qz_xw c K F S b p n t →
    (t % 9 = 0 → qz_fw c K F S b p n (16 * (t / 9)))
    ∧ (∀ r, r < 4 → t % 9 = 1 + r → ∃ s, s < 16 ∧ bt (nI s) r = true ∧ qz_fw c K F S b p n (384 + 16 * (t / 9) + s))
    ∧ (∀ r, r < 4 → t % 9 = 5 + r → ∃ s, s < 16 ∧ bt (nI s) r = true ∧ qz_fw c K F S b p n (768 + 16 * (t / 9) + s))
    ∧ (n = 0 ∨ t / 9 < c) := by
  intro n
  induction n with
  | zero =>
    intro t ht
    have h0 : t = 0 := ht
    subst h0
    refine ⟨fun _ => rfl, fun r hr z => by omega, fun r hr z => by omega, Or.inl rfl⟩
  | succ n ih =>
    intro t ht
    obtain ⟨s, hs, e, hx⟩ := ht
    obtain ⟨i0, i1, i2, i3⟩ := ih s hs
    have hq : t / 9 < 24 := by have := e.1; omega
    have hat : s / 9 < 24 := by
      rcases i3 with z | z
      · subst z
        have : s = 0 := hs
        omega
      · omega
    have step1 : ∀ (m' h : Nat) (r r' : Nat), m' < 16 → r < 4 → bt (nI m') r = true → qz_hr K F S (s / 9) r r' → ∃ m, m < 16 ∧ bt (nI m) r' = true ∧ m ≠ 0 ∧ qz_hb K F S (s / 9) m' m := by
      intro m' _ r r' hm' hr hbit hrr
      obtain ⟨m, hm⟩ := qz_hb_ex (K := K) (F := F) (S := S) (s / 9) m'
      have hb : bt (nI m) r' = true := (hm.2 r' hrr.1).mpr ⟨r, hr, hbit, hrr⟩
      exact ⟨m, hm.1, hb, fun z => by rw [z] at hb; exact qz_b00 _ hb, hm⟩
    have A0 : (16 * (s / 9)) % 384 / 16 = s / 9 ∧ 16 * (s / 9) < 384 := by omega
    refine ⟨?_, ?_, ?_, Or.inr e.1⟩
    · intro z
      rcases hx with ⟨h0, _⟩ | ⟨_, _, r', hr', h | h⟩ | ⟨_, r', _, h⟩
      · refine ⟨16 * (s / 9), i0 h0, t / 9, ?_, Or.inl ⟨A0.2, Or.inl rfl⟩⟩
        rw [A0.1]; exact e
      · omega
      · omega
      · omega
    · intro r hr z
      rcases hx with ⟨h0, hh⟩ | ⟨h1, h4, r', hr', hh⟩ | ⟨_, r', _, h⟩
      · rcases hh with hh | ⟨hb, x, hx, hf, hh⟩
        · omega
        · have : x = r := by omega
          subst this
          refine ⟨2 ^ x, qz_pow_lt hx, ((qz_pow4 x hx).2.2 x hx).mpr rfl, 16 * (s / 9), i0 h0, t / 9, ?_, Or.inl ⟨A0.2, Or.inr ⟨?_, x, hx, hf, rfl⟩⟩⟩
          · rw [A0.1]; exact e
          · rw [A0.1]; exact hb
      · rcases hh with ⟨_, hh⟩ | ⟨hp, hh⟩
        · omega
        · have : r' = r := by omega
          subst this
          obtain ⟨m', hm', hbit, hw⟩ := i1 (s % 9 - 1) (by omega) (by omega)
          obtain ⟨m, hm, hb, hne, hhb⟩ := step1 m' 0 _ _ hm' (by omega) hbit hr'
          have A := qz_ix (h := 1) (q := s / 9) (m := m') hat hm'
          rw [Nat.mul_one] at A
          refine ⟨m, hm, hb, _, hw, t / 9, ?_, Or.inr ⟨by omega, m, ?_, hne, Or.inl ?_⟩⟩
          · rw [A.1]; exact e
          · rw [A.1, A.2.1]; exact hhb
          · rw [A.2.2]
      · omega
    · intro r hr z
      rcases hx with ⟨h0, hh⟩ | ⟨h1, h4, r', hr', hh⟩ | ⟨h5, r', hr', hh⟩
      · rcases hh with hh | ⟨_, x, hx, _, hh⟩
        · omega
        · omega
      · rcases hh with ⟨hp, hh⟩ | ⟨_, hh⟩
        · have : r' = r := by omega
          subst this
          obtain ⟨m', hm', hbit, hw⟩ := i1 (s % 9 - 1) (by omega) (by omega)
          obtain ⟨m, hm, hb, hne, hhb⟩ := step1 m' 0 _ _ hm' (by omega) hbit hr'
          have A := qz_ix (h := 1) (q := s / 9) (m := m') hat hm'
          rw [Nat.mul_one] at A
          refine ⟨m, hm, hb, _, hw, t / 9, ?_, Or.inr ⟨by omega, m, ?_, hne, Or.inr ⟨A.2.2, ?_, rfl⟩⟩⟩
          · rw [A.1]; exact e
          · rw [A.1, A.2.1]; exact hhb
          · rw [A.1]; exact hp
        · have := hr'.1
          omega
      · have : r' = r := by omega
        subst this
        obtain ⟨m', hm', hbit, hw⟩ := i2 (s % 9 - 5) (by omega) (by omega)
        obtain ⟨m, hm, hb, hne, hhb⟩ := step1 m' 0 _ _ hm' (by omega) hbit hr'
        have A := qz_ix (h := 2) (q := s / 9) (m := m') hat hm'
        have E2 : 384 * 2 = 768 := by omega
        rw [E2] at A
        refine ⟨m, hm, hb, _, hw, t / 9, ?_, Or.inr ⟨by omega, m, ?_, hne, Or.inl ?_⟩⟩
        · rw [A.1]; exact e
        · rw [A.1, A.2.1]; exact hhb
        · rw [A.2.2]
theorem qz_fx (hc : c ≤ 24) : ∀ n j, qz_fw c K F S b p n j →
    j < 1152 ∧ (n = 0 ∨ j % 384 / 16 < c)
    ∧ (j < 384 → j % 16 = 0 ∧ qz_xw c K F S b p n (9 * (j % 384 / 16)))
    ∧ (384 ≤ j → ∀ r, r < 4 → bt (nI (j % 16)) r = true → qz_xw c K F S b p n (9 * (j % 384 / 16) + (5 + r)) ∨ (j < 768 ∧ qz_xw c K F S b p n (9 * (j % 384 / 16) + (1 + r)))) := by
  intro n
  induction n with
  | zero =>
    intro j hj
    have h0 : j = 0 := hj
    subst h0
    exact ⟨by omega, Or.inl rfl, fun _ => ⟨rfl, rfl⟩, fun z => by omega⟩
  | succ n ih =>
    intro j hj
    obtain ⟨i, hi, q, e, hx⟩ := hj
    obtain ⟨i0, i1, i2, i3⟩ := ih i hi
    have hq : q < 24 := by have := e.1; omega
    have mk : ∀ st st', st < 9 → st' < 9 → qz_xw c K F S b p n (9 * (i % 384 / 16) + st) → qz_xs K F S b p (i % 384 / 16) st st' → qz_xw c K F S b p (n + 1) (9 * q + st') := by
      intro st st' h9 h9' hw hs
      have A := qz_ix9 (q := i % 384 / 16) h9
      have B := qz_ix9 (q := q) h9'
      refine ⟨_, hw, ?_, ?_⟩
      · rw [A.1, B.1]; exact e
      · rw [A.1, A.2, B.2]; exact hs
    rcases hx with ⟨h0, hh⟩ | ⟨h1, m, hm, hne, hh⟩
    · obtain ⟨_, hw⟩ := i2 h0
      rcases hh with hh | ⟨hb, x, hx, hf, hh⟩
      · subst hh
        have B : 16 * q % 384 / 16 = q ∧ 16 * q < 384 ∧ 16 * q % 16 = 0 := by omega
        refine ⟨by omega, Or.inr (by rw [B.1]; exact e.1), fun _ => ⟨B.2.2, ?_⟩, fun z => by omega⟩
        rw [B.1]
        exact mk 0 0 (by omega) (by omega) hw (Or.inl ⟨rfl, Or.inl rfl⟩)
      · have hp := qz_pow_lt hx
        have B := qz_ix (h := 1) (q := q) (m := 2 ^ x) hq hp
        rw [Nat.mul_one, ← hh] at B
        refine ⟨by omega, Or.inr (by rw [B.1]; exact e.1), fun z => by omega, fun _ r hr hbit => Or.inr ⟨by omega, ?_⟩⟩
        rw [B.2.1] at hbit
        have hxr : r = x := ((qz_pow4 x hx).2.2 r hr).mp hbit
        subst hxr
        rw [B.1]
        exact mk 0 (1 + r) (by omega) (by omega) hw (Or.inl ⟨rfl, Or.inr ⟨hb, r, hr, hf, rfl⟩⟩)
    · have hm16 := hm.1
      have lift5 : ∀ r, r < 4 → bt (nI m) r = true → (∀ r0, r0 < 4 → bt (nI (i % 16)) r0 = true → qz_xw c K F S b p n (9 * (i % 384 / 16) + (5 + r0))) → qz_xw c K F S b p (n + 1) (9 * q + (5 + r)) := by
        intro r hr hbit hall
        obtain ⟨r0, hr0, hs0, hrr⟩ := (hm.2 r hr).mp hbit
        refine mk (5 + r0) (5 + r) (by omega) (by omega) (hall r0 hr0 hs0) (Or.inr (Or.inr ⟨by omega, r, ?_, rfl⟩))
        have : 5 + r0 - 5 = r0 := by omega
        rw [this]; exact hrr
      have lift1 : ∀ r, r < 4 → bt (nI m) r = true → qz_xw c K F S b p (n + 1) (9 * q + (5 + r)) ∨ (i < 768 ∧ i % 384 / 16 ≠ p ∧ qz_xw c K F S b p (n + 1) (9 * q + (1 + r))) := by
        intro r hr hbit
        obtain ⟨r0, hr0, hs0, hrr⟩ := (hm.2 r hr).mp hbit
        rcases i3 h1 r0 hr0 hs0 with hw | ⟨h7, hw⟩
        · left
          refine mk (5 + r0) (5 + r) (by omega) (by omega) hw (Or.inr (Or.inr ⟨by omega, r, ?_, rfl⟩))
          have : 5 + r0 - 5 = r0 := by omega
          rw [this]; exact hrr
        · have e1 : 1 + r0 - 1 = r0 := by omega
          by_cases hp : i % 384 / 16 = p
          · left
            refine mk (1 + r0) (5 + r) (by omega) (by omega) hw (Or.inr (Or.inl ⟨by omega, by omega, r, ?_, Or.inl ⟨hp, rfl⟩⟩))
            rw [e1]; exact hrr
          · right
            refine ⟨h7, hp, mk (1 + r0) (1 + r) (by omega) (by omega) hw (Or.inr (Or.inl ⟨by omega, by omega, r, ?_, Or.inr ⟨hp, rfl⟩⟩))⟩
            rw [e1]; exact hrr
      rcases hh with hh | ⟨hph, hp, hh⟩
      · have B := qz_ix (h := i / 384) (q := q) (m := m) hq hm16
        rw [← hh] at B
        refine ⟨by omega, Or.inr (by rw [B.1]; exact e.1), fun z => by omega, fun _ r hr hbit => ?_⟩
        rw [B.2.1] at hbit
        rw [B.1]
        rcases lift1 r hr hbit with h | ⟨h7, _, h⟩
        · exact Or.inl h
        · exact Or.inr ⟨by omega, h⟩
      · have B := qz_ix (h := 2) (q := q) (m := m) hq hm16
        have E2 : 384 * 2 = 768 := by omega
        rw [E2, ← hh] at B
        refine ⟨by omega, Or.inr (by rw [B.1]; exact e.1), fun z => by omega, fun _ r hr hbit => Or.inl ?_⟩
        rw [B.2.1] at hbit
        rw [B.1]
        rcases lift1 r hr hbit with h | ⟨_, h, _⟩
        · exact h
        · exact absurd hp h
/-- the same lengths -/
theorem qz_go_f (hc : c ≤ 24) (n : Nat) : qz_go c K F S b p n ↔ ∃ j, j < 1152 ∧ j % 384 / 16 < c ∧ qz_fw c K F S b p n j ∧ qz_fg K F j := by
  constructor
  · rintro ⟨t, hw, h5, hk, hf⟩
    obtain ⟨_, _, h2, h3⟩ := qz_xf hc n t hw
    obtain ⟨s, hs, hbit, hw'⟩ := h2 (t % 9 - 5) (by omega) (by omega)
    have ht : t / 9 < c := by
      rcases h3 with z | z
      · subst z
        have : t = 0 := hw
        omega
      · exact z
    have A := qz_ix (h := 2) (q := t / 9) (m := s) (by omega) hs
    have E2 : 384 * 2 = 768 := by omega
    rw [E2] at A
    refine ⟨768 + 16 * (t / 9) + s, by omega, by rw [A.1]; exact ht, hw', by omega, ?_⟩
    rw [A.1, A.2.1]
    exact ⟨hk, t % 9 - 5, by omega, hf, hbit⟩
  · rintro ⟨j, hj, hjc, hw, h7, hk, x, hx, hf, hbit⟩
    obtain ⟨_, _, _, h3⟩ := qz_fx hc n j hw
    rcases h3 (by omega) x hx hbit with h | ⟨z, _⟩
    · have A := qz_ix9 (q := j % 384 / 16) (s := 5 + x) (by omega)
      refine ⟨_, h, ?_, ?_, ?_⟩
      · rw [A.2]; omega
      · rw [A.1]; exact hk
      · rw [A.1, A.2, hf]
        have : 5 + x - 5 = x := by omega
        rw [this]
    · omega
/-- there is a walk just where the conflict is -/
theorem qz_go_re (hcp : 0 < c) : ∀ n q, qz_w (fun p => p = 0 ∧ 0 < c) (qz_nx c K F) n q → qz_xw c K F S b p n (9 * q + 0) := by
  intro n
  induction n with
  | zero => intro q hq; show 9 * q + 0 = 0; have := hq.1; omega
  | succ n ih =>
    intro q hq
    obtain ⟨s, hs, e⟩ := hq
    have A := qz_ix9 (q := s) (s := 0) (by omega)
    have B := qz_ix9 (q := q) (s := 0) (by omega)
    refine ⟨9 * s + 0, ih s hs, ?_, ?_⟩
    · rw [A.1, B.1]; exact e
    · rw [A.2, B.2]; exact Or.inl ⟨rfl, Or.inl rfl⟩
theorem qz_go_lv {q r : Nat} (h : qz_lv c K F S q r) : ∀ n, qz_xw c K F S b p n (9 * q + (5 + r)) → ∃ n', qz_go c K F S b p n' :=
  qz_Ri (P := fun t : Nat × Nat => ∀ n, qz_xw c K F S b p n (9 * t.1 + (5 + t.2)) → ∃ n', qz_go c K F S b p n')
    (fun t ht n hw => by
      obtain ⟨_, hr, hk, hf⟩ := ht
      have A := qz_ix9 (q := t.1) (s := 5 + t.2) (by omega)
      refine ⟨n, _, hw, by rw [A.2]; omega, by rw [A.1]; exact hk, ?_⟩
      rw [A.1, A.2, hf]
      have : 5 + t.2 - 5 = t.2 := by omega
      rw [this])
    (fun t u _ IH e n hw => by
      obtain ⟨_, hr, e, e'⟩ := e
      have hr' := e'.1
      have A := qz_ix9 (q := u.1) (s := 5 + u.2) (by omega)
      have B := qz_ix9 (q := t.1) (s := 5 + t.2) (by omega)
      refine IH (n + 1) ⟨_, hw, ?_, ?_⟩
      · rw [A.1, B.1]; exact e
      · rw [A.1, A.2, B.2]
        refine Or.inr (Or.inr ⟨by omega, t.2, ?_, rfl⟩)
        have : 5 + u.2 - 5 = u.2 := by omega
        rw [this]; exact e') h
theorem qz_go_ho (hb : b < 24) {q r : Nat} (h : qz_ho c K F S b q r) : ∃ n, qz_xw c K F S b p n (9 * q + (1 + r)) ∨ qz_xw c K F S b p n (9 * q + (5 + r)) :=
  qz_Ri (P := fun t : Nat × Nat => ∃ n, qz_xw c K F S b p n (9 * t.1 + (1 + t.2)) ∨ qz_xw c K F S b p n (9 * t.1 + (5 + t.2)))
    (fun t ht => by
      obtain ⟨hr, hh⟩ := ht
      rcases hh with ⟨_, h1, h2, h3, e⟩ | ⟨z, _⟩
      · have hlt := qz_re_lt h1
        obtain ⟨n, hn⟩ := h1
        have A := qz_ix9 (q := b) (s := 0) (by omega)
        have B := qz_ix9 (q := t.1) (s := 1 + t.2) (by omega)
        refine ⟨n + 1, Or.inl ⟨9 * b + 0, qz_go_re (by omega) n b hn, ?_, ?_⟩⟩
        · rw [A.1, B.1]; exact e
        · rw [A.1, A.2, B.2]
          exact Or.inl ⟨rfl, Or.inr ⟨rfl, t.2, hr, h3, rfl⟩⟩
      · omega)
    (fun t u ht IH e => by
      obtain ⟨e, e'⟩ := e
      have hf := qz_ho_f (p := t.1) (r := t.2) ht
      have hr' := e'.1
      have hr := hf.2.1
      obtain ⟨n, hw | hw⟩ := IH
      · have A := qz_ix9 (q := t.1) (s := 1 + t.2) (by omega)
        have e1 : 1 + t.2 - 1 = t.2 := by omega
        by_cases hp : t.1 = p
        · have B := qz_ix9 (q := u.1) (s := 5 + u.2) (by omega)
          refine ⟨n + 1, Or.inr ⟨_, hw, ?_, ?_⟩⟩
          · rw [A.1, B.1]; exact e
          · rw [A.1, A.2, B.2]
            refine Or.inr (Or.inl ⟨by omega, by omega, u.2, ?_, Or.inl ⟨hp, rfl⟩⟩)
            rw [e1]; exact e'
        · have B := qz_ix9 (q := u.1) (s := 1 + u.2) (by omega)
          refine ⟨n + 1, Or.inl ⟨_, hw, ?_, ?_⟩⟩
          · rw [A.1, B.1]; exact e
          · rw [A.1, A.2, B.2]
            refine Or.inr (Or.inl ⟨by omega, by omega, u.2, ?_, Or.inr ⟨hp, rfl⟩⟩)
            rw [e1]; exact e'
      · have A := qz_ix9 (q := t.1) (s := 5 + t.2) (by omega)
        have B := qz_ix9 (q := u.1) (s := 5 + u.2) (by omega)
        refine ⟨n + 1, Or.inr ⟨_, hw, ?_, ?_⟩⟩
        · rw [A.1, B.1]; exact e
        · rw [A.1, A.2, B.2]
          refine Or.inr (Or.inr ⟨by omega, u.2, ?_, rfl⟩)
          have : 5 + t.2 - 5 = t.2 := by omega
          rw [this]; exact e') h
theorem qz_go_2 (hb : b < 24) (hcp : 0 < c) (hm : qz_mk K b) : ∀ n t, qz_xw c K F S b p n t →
    (t % 9 = 0 → qz_re c K F (t / 9)) ∧ (∀ r, r < 4 → t % 9 = 1 + r → qz_ho c K F S b (t / 9) r)
    ∧ (∀ r, r < 4 → t % 9 = 5 + r → qz_lv c K F S (t / 9) r → ∃ r0, r0 < 4 ∧ qz_ho c K F S b p r0 ∧ qz_lv c K F S p r0) ∧ t / 9 < c := by
  intro n
  induction n with
  | zero =>
    intro t ht
    have h0 : t = 0 := ht
    subst h0
    exact ⟨fun _ => qz_re0 hcp, fun r hr z => by omega, fun r hr z => by omega, hcp⟩
  | succ n ih =>
    intro t ht
    obtain ⟨s, hs, e, hx⟩ := ht
    obtain ⟨i0, i1, i2, i3⟩ := ih s hs
    refine ⟨?_, ?_, ?_, e.1⟩
    · intro z
      rcases hx with ⟨h0, _⟩ | ⟨_, _, r', hr', h | h⟩ | ⟨_, r', _, h⟩
      · exact qz_re1 (i0 h0) e
      · omega
      · omega
      · omega
    · intro r hr z
      rcases hx with ⟨h0, hh⟩ | ⟨h1, h4, r', hr', hh⟩ | ⟨_, r', _, h⟩
      · rcases hh with hh | ⟨hbb, x, hx, hf, hh⟩
        · omega
        · have : x = r := by omega
          subst this
          have hre := i0 h0
          rw [hbb] at hre e
          exact qz_ho_mk hb hr hre hm hf e
      · rcases hh with ⟨_, hh⟩ | ⟨hp, hh⟩
        · omega
        · have : r' = r := by omega
          subst this
          exact qz_ho1 (i1 (s % 9 - 1) (by omega) (by omega)) e hr'
      · omega
    · intro r hr z hl
      rcases hx with ⟨h0, hh⟩ | ⟨h1, h4, r', hr', hh⟩ | ⟨h5, r', hr', hh⟩
      · rcases hh with hh | ⟨_, x, hx, _, hh⟩
        · omega
        · omega
      · rcases hh with ⟨hp, hh⟩ | ⟨_, hh⟩
        · have : r' = r := by omega
          subst this
          have hho := i1 (s % 9 - 1) (by omega) (by omega)
          have hlv := qz_lv_1 i3 (by omega) e hr' hl
          rw [hp] at hho hlv
          exact ⟨s % 9 - 1, by omega, hho, hlv⟩
        · have := hr'.1
          omega
      · have : r' = r := by omega
        subst this
        exact i2 (s % 9 - 5) (by omega) (by omega) (qz_lv_1 i3 (by omega) e hr' hl)
theorem qz_go_iff (hb : b < 24) (hcp : 0 < c) (hm : qz_mk K b) (hk : K p ≠ 7) : (∃ n, qz_go c K F S b p n) ↔ ∃ r, r < 4 ∧ qz_ho c K F S b p r ∧ qz_lv c K F S p r := by
  constructor
  · rintro ⟨n, t, hw, h5, hk7, hf⟩
    obtain ⟨_, _, h2, h3⟩ := qz_go_2 hb hcp hm n t hw
    exact h2 (t % 9 - 5) (by omega) (by omega) (qz_lv_0 h3 (by omega) hk7 hf)
  · rintro ⟨r, hr, hh, hl⟩
    obtain ⟨n, hw | hw⟩ := qz_go_ho (p := p) hb hh
    · rcases qz_lv_c hl with ⟨z, _⟩ | ⟨q, r', e, e', hl'⟩
      · exact absurd z hk
      · have hr' := e'.1
        have A := qz_ix9 (q := p) (s := 1 + r) (by omega)
        have B := qz_ix9 (q := q) (s := 5 + r') (by omega)
        refine qz_go_lv hl' (n + 1) ⟨_, hw, ?_, ?_⟩
        · rw [A.1, B.1]; exact e
        · rw [A.1, A.2, B.2]
          refine Or.inr (Or.inl ⟨by omega, by omega, r', ?_, Or.inl ⟨rfl, rfl⟩⟩)
          have : 1 + r - 1 = r := by omega
          rw [this]; exact e'
    · exact qz_go_lv hl n hw
end
