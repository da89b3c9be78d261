/-! ===== X: the breadth-first search, by a ghost queue q and ghost lengths g ===== -/
def qz_uN (f : Nat → Nat) (k x : Nat) : Nat → Nat := fun j => if j = k then x else f j
theorem qz_uNs {f : Nat → Nat} {k x : Nat} : qz_uN f k x k = x := if_pos rfl
theorem qz_uNn {f : Nat → Nat} {k j x : Nat} (h : j ≠ k) : qz_uN f k x j = f j := if_neg h
section
variable (c : Nat) (K F S : Nat → Int32) (b p : Nat)
/-- what holds at every moment of the search while place i is looked at; d bounds the lengths -/
def qz_BM (i d m : Nat) (q g : Nat → Nat) : Prop :=
  m ≤ 216
  ∧ (∀ j, j < m → q j < 216 ∧ q j / 9 < c ∧ 0 < g (q j) ∧ g (q j) ≤ j + 1 ∧ g (q j) ≤ d ∧ qz_xw c K F S b p (g (q j) - 1) (q j))
  ∧ (∀ t, t < 216 → 0 < g t → ∃ j, j < m ∧ q j = t)
  ∧ qz_sm (fun t => if g t = 0 then 0 else 1) 216 = m
  ∧ (∀ j j', j ≤ j' → j' < m → g (q j) ≤ g (q j'))
  ∧ (∀ j, j < i → ∀ t, qz_xe c K F S b p (q j) t → 0 < g t ∧ g t ≤ g (q j) + 1)
  ∧ (∀ j, j < i → ¬ qz_xg K F (q j))
  ∧ (0 < m ∧ q 0 = 0 ∧ g 0 = 1)
  ∧ i ≤ m
/-- the head of the search's loop -/
def qz_BI (i m : Nat) (q g : Nat → Nat) : Prop := ∃ d, qz_BM c K F S b p i d m q g ∧ (i < m → d ≤ g (q i) + 1)
end
def qz_Ex (m : Nat) (q g : Nat → Nat) (m' : Nat) (q' g' : Nat → Nat) : Prop := m ≤ m' ∧ (∀ j, j < m → q' j = q j) ∧ (∀ t, 0 < g t → g' t = g t)
theorem qz_Ex_r (m : Nat) (q g : Nat → Nat) : qz_Ex m q g m q g := ⟨Nat.le_refl _, fun _ _ => rfl, fun _ _ => rfl⟩
theorem qz_Ex_t {m m' m'' : Nat} {q g q' g' q'' g'' : Nat → Nat} (h : qz_Ex m q g m' q' g') (h' : qz_Ex m' q' g' m'' q'' g'') : qz_Ex m q g m'' q'' g'' :=
  ⟨Nat.le_trans h.1 h'.1, fun j hj => (h'.2.1 j (Nat.lt_of_lt_of_le hj h.1)).trans (h.2.1 j hj), fun t ht => (h'.2.2 t (by rw [h.2.2 t ht]; exact ht)).trans (h.2.2 t ht)⟩
section
variable {c : Nat} {K F S : Nat → Int32} {b p : Nat} {i d m : Nat} {q g : Nat → Nat}
theorem qz_B_room (B : qz_BM c K F S b p i d m q g) {t : Nat} (ht : t < 216) (h0 : g t = 0) : m < 216 := by
  obtain ⟨_, _, _, h4, _⟩ := B
  have := qz_sm_lt (f := fun t => if g t = 0 then 0 else 1) (g := fun _ => 1) 216 (by
    intro i _
    show (if g i = 0 then 0 else 1) ≤ 1
    split <;> omega) t ht (by
    show (if g t = 0 then 0 else 1) < 1
    rw [if_pos h0]
    exact Nat.zero_lt_one)
  have one : qz_sm (fun _ => 1) 216 ≤ 1 * 216 := qz_sm_b 216 (fun _ _ => Nat.le_refl _)
  omega
theorem qz_B_enter (B : qz_BM c K F S b p i d m q g) (hi : i < m) (hd : d = g (q i) + 1) {t : Nat} (ht : t < 216) (htc : t / 9 < c) (hw : qz_xw c K F S b p (d - 1) t) (h0 : g t = 0) :
    qz_BM c K F S b p i d (m + 1) (qz_uN q m t) (qz_uN g t d) ∧ qz_Ex m q g (m + 1) (qz_uN q m t) (qz_uN g t d) := by
  have room := qz_B_room B ht h0
  obtain ⟨b1, b2, b3, b4, b5, b6, b7, b8, b9⟩ := B
  have nt : ∀ u, 0 < g u → u ≠ t := fun u hu e => by rw [e] at hu; omega
  have gk : ∀ u, 0 < g u → qz_uN g t d u = g u := fun u hu => qz_uNn (nt u hu)
  have qk : ∀ j, j < m → qz_uN q m t j = q j := fun j hj => qz_uNn (by omega)
  have qm : qz_uN q m t m = t := qz_uNs
  have gt : qz_uN g t d t = d := qz_uNs
  have gqk : ∀ j, j < m → qz_uN g t d (qz_uN q m t j) = g (q j) := fun j hj => by rw [qk j hj]; exact gk _ (b2 j hj).2.2.1
  have dpos : 0 < d := by omega
  refine ⟨⟨by omega, ?_, ?_, ?_, ?_, ?_, ?_, ?_, by omega⟩, by omega, qk, gk⟩
  · intro j hj
    by_cases e : j = m
    · subst e
      rw [qm, gt]
      have hb := (b2 i hi).2.2.2.1
      exact ⟨ht, htc, dpos, by omega, Nat.le_refl _, hw⟩
    · have hj' : j < m := by omega
      rw [gqk j hj', qk j hj']
      exact b2 j hj'
  · intro u hu hg
    by_cases e : u = t
    · exact ⟨m, by omega, by rw [qm, e]⟩
    · rw [qz_uNn e] at hg
      obtain ⟨j, hj, hq⟩ := b3 u hu hg
      exact ⟨j, by omega, by rw [qk j hj]; exact hq⟩
  · rw [← b4]
    refine qz_sm_1 216 t ht ?_ ?_
    · intro u _ hne
      show (if qz_uN g t d u = 0 then 0 else 1) = (if g u = 0 then 0 else 1)
      rw [qz_uNn hne]
    · show (if qz_uN g t d t = 0 then 0 else 1) = (if g t = 0 then 0 else 1) + 1
      rw [gt, if_pos h0, if_neg (by omega)]
  · intro j j' hjj hj'
    by_cases e' : j' = m
    · subst e'
      by_cases e : j = j'
      · subst e; exact Nat.le_refl _
      · rw [gqk j (by omega), qm, gt]
        exact (b2 j (by omega)).2.2.2.2.1
    · rw [gqk j (by omega), gqk j' (by omega)]
      exact b5 j j' hjj (by omega)
  · intro j hj u e
    rw [qk j (by omega)] at e
    have h := b6 j hj u e
    rw [gqk j (by omega), gk u h.1]
    exact h
  · intro j hj
    rw [qk j (by omega)]
    exact b7 j hj
  · refine ⟨by omega, ?_, ?_⟩
    · rw [qk 0 b8.1]; exact b8.2.1
    · rw [gk 0 (by omega)]; exact b8.2.2
/-- entered: its length stands -/
theorem qz_B_old (B : qz_BM c K F S b p i d m q g) {t : Nat} (ht : t < 216) (h0 : ¬ g t = 0) : 0 < g t ∧ g t ≤ d := by
  obtain ⟨j, hj, hq⟩ := B.2.2.1 t ht (by omega)
  have := (B.2.1 j hj).2.2.2.2.1
  rw [hq] at this
  exact ⟨by omega, this⟩
/-- place i is done -/
theorem qz_B_next (B : qz_BM c K F S b p i d m q g) (hi : i < m) (hd : d = g (q i) + 1) (hg : ¬ qz_xg K F (q i)) (h : ∀ t, qz_xe c K F S b p (q i) t → 0 < g t ∧ g t ≤ d) : qz_BI c K F S b p (i + 1) m q g := by
  obtain ⟨b1, b2, b3, b4, b5, b6, b7, b8, b9⟩ := B
  refine ⟨d, ⟨b1, b2, b3, b4, b5, ?_, ?_, b8, by omega⟩, fun h1 => ?_⟩
  · intro j hj t e
    by_cases z : j = i
    · subst z; rw [← hd]; exact h t e
    · exact b6 j (by omega) t e
  · intro j hj
    by_cases z : j = i
    · subst z; exact hg
    · exact b7 j (by omega)
  · have := b5 i (i + 1) (by omega) h1
    omega
/-- the begin of looking at place i -/
theorem qz_B_at (B : qz_BI c K F S b p i m q g) (hi : i < m) : qz_BM c K F S b p i (g (q i) + 1) m q g := by
  obtain ⟨d, ⟨b1, b2, b3, b4, b5, b6, b7, b8, b9⟩, hd⟩ := B
  have := hd hi
  refine ⟨b1, ?_, b3, b4, b5, b6, b7, b8, b9⟩
  intro j hj
  obtain ⟨x1, x2, x3, x4, x5, x6⟩ := b2 j hj
  exact ⟨x1, x2, x3, x4, by omega, x6⟩
theorem qz_B_walk (hc : c ≤ 24) (B : qz_BI c K F S b p i m q g) : ∀ n t, qz_xw c K F S b p n t → (i < m ∧ g (q i) ≤ n + 1) ∨ (∃ j, j < i ∧ q j = t ∧ g t ≤ n + 1) := by
  obtain ⟨d, ⟨b1, b2, b3, b4, b5, b6, b7, b8, b9⟩, hd⟩ := B
  intro n
  induction n with
  | zero =>
    intro t ht
    have h0 : t = 0 := ht
    subst h0
    by_cases z : i = 0
    · subst z
      left
      refine ⟨b8.1, ?_⟩
      rw [b8.2.1, b8.2.2]
      exact Nat.le_refl _
    · right
      exact ⟨0, by omega, b8.2.1, by rw [b8.2.2]; exact Nat.le_refl _⟩
  | succ n ih =>
    intro t ht
    obtain ⟨s, hs, e⟩ := ht
    have tl : t < 216 := by
      have := e.1.1
      omega
    rcases ih s hs with ⟨h, h'⟩ | ⟨j, hj, hq, h⟩
    · exact Or.inl ⟨h, by omega⟩
    · have e2 := e
      rw [← hq] at e2
      obtain ⟨g0, g1⟩ := b6 j hj t e2
      rw [hq] at g1
      obtain ⟨j', hj', hq'⟩ := b3 t tl g0
      by_cases z : j' < i
      · exact Or.inr ⟨j', z, hq', by omega⟩
      · left
        have := b5 i j' (by omega) hj'
        rw [hq'] at this
        exact ⟨by omega, by omega⟩
theorem qz_B_goal (hc : c ≤ 24) (B : qz_BI c K F S b p i m q g) (hi : i < m) (hg : qz_xg K F (q i)) : qz_go c K F S b p (g (q i) - 1) ∧ 0 < g (q i) ∧ g (q i) ≤ 216 ∧ ∀ n, qz_go c K F S b p n → g (q i) ≤ n + 1 := by
  have W := qz_B_walk hc B
  obtain ⟨d, ⟨b1, b2, b3, b4, b5, b6, b7, b8, b9⟩, hd⟩ := B
  obtain ⟨_, _, x3, x4, _, x6⟩ := b2 i hi
  refine ⟨⟨q i, x6, hg⟩, x3, by omega, ?_⟩
  rintro n ⟨t, hw, hgt⟩
  rcases W n t hw with ⟨_, h⟩ | ⟨j, hj, hq, _⟩
  · exact h
  · rw [← hq] at hgt
    exact absurd hgt (b7 j hj)
theorem qz_B_none (hc : c ≤ 24) (B : qz_BI c K F S b p i m q g) (hi : ¬ i < m) : ∀ n, ¬ qz_go c K F S b p n := by
  have W := qz_B_walk hc B
  obtain ⟨d, ⟨b1, b2, b3, b4, b5, b6, b7, b8, b9⟩, hd⟩ := B
  rintro n ⟨t, hw, hgt⟩
  rcases W n t hw with ⟨h, _⟩ | ⟨j, hj, hq, _⟩
  · exact hi h
  · rw [← hq] at hgt
    exact absurd hgt (b7 j hj)
theorem qz_B_0 (hc : 0 < c) (q : Nat → Nat) : qz_BI c K F S b p 0 1 (qz_uN q 0 0) (qz_uN (fun _ => 0) 0 1) := by
  have q0 : qz_uN q 0 0 0 = 0 := qz_uNs
  have g0 : qz_uN (fun _ => 0) 0 1 0 = 1 := qz_uNs
  refine ⟨1, ⟨by omega, ?_, ?_, ?_, ?_, fun j hj => by omega, fun j hj => by omega, ⟨by omega, q0, g0⟩, by omega⟩, fun _ => ?_⟩
  · intro j hj
    have : j = 0 := by omega
    subst this
    rw [q0, g0]
    exact ⟨by omega, by omega, by omega, by omega, by omega, rfl⟩
  · intro t _ h
    by_cases z : t = 0
    · exact ⟨0, by omega, by rw [q0, z]⟩
    · rw [qz_uNn z] at h
      omega
  · have e := qz_sm_1 (f := fun _ => 0) (g := fun t => if qz_uN (fun _ => 0) 0 1 t = 0 then 0 else 1) 216 0 (by omega) (by
      intro i _ hne
      show (if qz_uN (fun _ => 0) 0 1 i = 0 then 0 else 1) = 0
      rw [qz_uNn hne, if_pos rfl]) (by
      show (if qz_uN (fun _ => 0) 0 1 0 = 0 then 0 else 1) = 0 + 1
      rw [g0, if_neg (by omega)])
    have z := qz_sm_b (f := fun _ => 0) (B := 0) 216 (fun _ _ => Nat.le_refl _)
    rw [e]
    omega
  · intro j j' _ hj'
    have h1 : j' = 0 := by omega
    have h2 : j = 0 := by omega
    rw [h1, h2]
    exact Nat.le_refl _
  · rw [q0, g0]
    omega
end
