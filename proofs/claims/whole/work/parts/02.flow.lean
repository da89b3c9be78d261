/-! ===== the flow: successors, heirs, least sets ===== -/
section
variable (c : Nat) (K F S : Nat → Int32)
def qz_nx (p q : Nat) : Prop := q < c ∧ ((q = p + 1 ∧ K p ≠ 9 ∧ K p ≠ 11) ∨ ((K p = 9 ∨ K p = 10) ∧ F p = nI q))
/-- r' holds behind p what r held before -/
def qz_hr (p r r' : Nat) : Prop := r' < 4 ∧
  (((K p = 5 ∨ K p = 6) ∧ ((S p = nI r ∧ (F p = nI r' ∨ (K p = 6 ∧ r' = r))) ∨ (S p ≠ nI r ∧ F p ≠ nI r ∧ r' = r)))
  ∨ ((K p = 3 ∨ K p = 4 ∨ K p = 8) ∧ F p ≠ nI r ∧ r' = r)
  ∨ ((K p ≠ 3 ∧ K p ≠ 4 ∧ K p ≠ 5 ∧ K p ≠ 6 ∧ K p ≠ 8) ∧ r' = r))
/-- r holds nothing behind p, whatever was held before -/
def qz_nu (p r : Nat) : Prop := (K p = 8 ∧ F p = nI r) ∨ (K p = 5 ∧ S p = nI r ∧ F p ≠ nI r)
def qz_mk (p : Nat) : Prop := K p = 3 ∨ K p = 4
def qz_re : Nat → Prop := qz_R (fun p => p = 0 ∧ 0 < c) (qz_nx c K F)
def qz_hi (l : Nat) (t : Nat × Nat) : Prop := t.2 < 4 ∧ ((l < 24 ∧ qz_re c K F l ∧ qz_mk K l ∧ F l = nI t.2 ∧ qz_nx c K F l t.1) ∨ (l = 24 ∧ ((t.1 = 0 ∧ 0 < c) ∨ ∃ p, qz_re c K F p ∧ qz_nx c K F p t.1 ∧ qz_nu K F S p t.2)))
def qz_he (s t : Nat × Nat) : Prop := qz_nx c K F s.1 t.1 ∧ qz_hr K F S s.1 s.2 t.2
/-- a path comes to p with r holding a loan of l; l = 24: nothing -/
def qz_ho (l p r : Nat) : Prop := qz_R (qz_hi c K F S l) (qz_he c K F S) (p, r)
/-- a path comes to p with o empty -/
def qz_em (o : Nat) : Nat → Prop := qz_R (fun q => (q = 0 ∧ 0 < c) ∨ ∃ p, qz_re c K F p ∧ K p = 2 ∧ F p = nI o ∧ qz_nx c K F p q) (fun p q => qz_nx c K F p q ∧ ¬ (K p = 0 ∧ F p = nI o))
/-- what r alone holds at p can still be used -/
def qz_lv (p r : Nat) : Prop := qz_R (fun t : Nat × Nat => t.1 < c ∧ t.2 < 4 ∧ K t.1 = 7 ∧ F t.1 = nI t.2) (fun s t : Nat × Nat => t.1 < c ∧ t.2 < 4 ∧ qz_nx c K F t.1 s.1 ∧ qz_hr K F S t.1 t.2 s.2) (p, r)
/-- what point holds: every action is one of the twelve, its arguments within -/
def qz_ok (k x y : Int32) : Prop := ∃ n, n < 12 ∧ k = nI n ∧ (n < 9 → ∃ a, a < 4 ∧ x = nI a) ∧ (3 ≤ n ∧ n ≤ 6 → ∃ b, b < 4 ∧ y = nI b) ∧ (n = 9 ∨ n = 10 → ∃ a, a ≤ 24 ∧ x = nI a)
def qz_va : Prop := ∀ p, qz_ok (K p) (F p) (S p)
end
theorem qz_lit : (0 : Int32) = nI 0 ∧ (1 : Int32) = nI 1 ∧ (2 : Int32) = nI 2 ∧ (3 : Int32) = nI 3 ∧ (4 : Int32) = nI 4 ∧ (5 : Int32) = nI 5 ∧ (6 : Int32) = nI 6 ∧ (7 : Int32) = nI 7 ∧ (8 : Int32) = nI 8 ∧ (9 : Int32) = nI 9 ∧ (10 : Int32) = nI 10 ∧ (11 : Int32) = nI 11 := by decide +kernel
theorem qz_ne {a b : Nat} (ha : a < 4) (hb : b < 4) : nI a = nI b ↔ a = b := nI_eq (by omega) (by omega)
section
variable {c : Nat} {K F S : Nat → Int32}
theorem qz_nx_lt {p q : Nat} (h : qz_nx c K F p q) : q < c := h.1
theorem qz_re_lt {p : Nat} (h : qz_re c K F p) : p < c :=
  qz_Ri (P := fun p => p < c) (fun t ht => by rw [ht.1]; exact ht.2) (fun _ _ _ _ e => e.1) h
theorem qz_re0 (h : 0 < c) : qz_re c K F 0 := qz_R0 ⟨rfl, h⟩
theorem qz_re1 {p q : Nat} (h : qz_re c K F p) (e : qz_nx c K F p q) : qz_re c K F q := qz_R1 h e
theorem qz_ho_f {l p r : Nat} (h : qz_ho c K F S l p r) : p < c ∧ r < 4 ∧ qz_re c K F p ∧ l ≤ 24 ∧ (l < 24 → qz_re c K F l ∧ qz_mk K l) :=
  qz_Ri (P := fun t : Nat × Nat => t.1 < c ∧ t.2 < 4 ∧ qz_re c K F t.1 ∧ l ≤ 24 ∧ (l < 24 → qz_re c K F l ∧ qz_mk K l))
    (fun t ht => by
      obtain ⟨h4, hh⟩ := ht
      rcases hh with ⟨hl, h1, h2, h3, h5⟩ | ⟨hl, hh⟩
      · exact ⟨h5.1, h4, qz_re1 h1 h5, by omega, fun _ => ⟨h1, h2⟩⟩
      · rcases hh with ⟨h0, hc⟩ | ⟨p, h1, h2, h3⟩
        · refine ⟨by omega, h4, ?_, by omega, fun z => by omega⟩
          rw [h0]; exact qz_re0 hc
        · exact ⟨h2.1, h4, qz_re1 h1 h2, by omega, fun z => by omega⟩)
    (fun s t _ hs e => ⟨e.1.1, e.2.1, qz_re1 hs.2.2.1 e.1, hs.2.2.2⟩) h
theorem qz_em_re {o p : Nat} (h : qz_em c K F o p) : qz_re c K F p :=
  qz_Ri (P := qz_re c K F)
    (fun t ht => by
      rcases ht with ⟨h0, hc⟩ | ⟨p, h1, _, _, h2⟩
      · rw [h0]; exact qz_re0 hc
      · exact qz_re1 h1 h2)
    (fun _ _ _ hs e => qz_re1 hs e.1) h
theorem qz_ho1 {l p r q r' : Nat} (h : qz_ho c K F S l p r) (e : qz_nx c K F p q) (e' : qz_hr K F S p r r') : qz_ho c K F S l q r' := qz_R1 (s := (p, r)) h ⟨e, e'⟩
theorem qz_ho_mk {b q r : Nat} (hb : b < 24) (hr : r < 4) (h1 : qz_re c K F b) (h2 : qz_mk K b) (h3 : F b = nI r) (e : qz_nx c K F b q) : qz_ho c K F S b q r := qz_R0 (t := (q, r)) ⟨hr, Or.inl ⟨hb, h1, h2, h3, e⟩⟩
theorem qz_ho_0 {r : Nat} (hr : r < 4) (hc : 0 < c) : qz_ho c K F S 24 0 r := qz_R0 (t := (0, r)) ⟨hr, Or.inr ⟨rfl, Or.inl ⟨rfl, hc⟩⟩⟩
theorem qz_ho_nu {p q r : Nat} (hr : r < 4) (h1 : qz_re c K F p) (e : qz_nx c K F p q) (h2 : qz_nu K F S p r) : qz_ho c K F S 24 q r := qz_R0 (t := (q, r)) ⟨hr, Or.inr ⟨rfl, Or.inr ⟨p, h1, e, h2⟩⟩⟩
theorem qz_lv_f {p r : Nat} (h : qz_lv c K F S p r) : p < c ∧ r < 4 :=
  qz_Ri (P := fun t : Nat × Nat => t.1 < c ∧ t.2 < 4) (fun _ ht => ⟨ht.1, ht.2.1⟩) (fun _ _ _ _ e => ⟨e.1, e.2.1⟩) h
theorem qz_lv_0 {p r : Nat} (hp : p < c) (hr : r < 4) (h : K p = 7) (h' : F p = nI r) : qz_lv c K F S p r := qz_R0 (t := (p, r)) ⟨hp, hr, h, h'⟩
theorem qz_lv_1 {p r q r' : Nat} (hp : p < c) (hr : r < 4) (e : qz_nx c K F p q) (e' : qz_hr K F S p r r') (h : qz_lv c K F S q r') : qz_lv c K F S p r := qz_R1 (s := (q, r')) (t := (p, r)) h ⟨hp, hr, e, e'⟩
theorem qz_lv_c {p r : Nat} (h : qz_lv c K F S p r) : (K p = 7 ∧ F p = nI r) ∨ ∃ q r', qz_nx c K F p q ∧ qz_hr K F S p r r' ∧ qz_lv c K F S q r' :=
  qz_Ri (P := fun t : Nat × Nat => (K t.1 = 7 ∧ F t.1 = nI t.2) ∨ ∃ q r', qz_nx c K F t.1 q ∧ qz_hr K F S t.1 t.2 r' ∧ qz_lv c K F S q r')
    (fun _ ht => Or.inl ⟨ht.2.2.1, ht.2.2.2⟩) (fun s _ hs _ e => Or.inr ⟨s.1, s.2, e.2.2.1, e.2.2.2, hs⟩) h
/-! heirs: at most one source; a source, a new loan, or nothing -/
theorem qz_k {x y : Int32} (h : x = y) (n : ¬ x = y) : False := n h
theorem qz_hr_u {p r r0 r' : Nat} (hr : r < 4) (hr0 : r0 < 4) (h : qz_hr K F S p r r') (h0 : qz_hr K F S p r0 r') : r = r0 := by
  obtain ⟨h4, h⟩ := h
  obtain ⟨_, h0⟩ := h0
  have inj : ∀ {a b : Nat}, a < 4 → b < 4 → nI a = nI b → a = b := fun ha hb => (qz_ne ha hb).mp
  rcases h with ⟨hk, h⟩ | ⟨hk, h, e⟩ | ⟨hk, e⟩
  · rcases h0 with ⟨_, h0⟩ | ⟨hk0, _⟩ | ⟨hk0, _⟩
    · rcases h with ⟨a, b⟩ | ⟨a, b, e⟩
      · rcases h0 with ⟨a0, b0⟩ | ⟨a0, b0, e0⟩
        · exact inj hr hr0 (a.symm.trans a0)
        · rcases b with b | ⟨_, b⟩
          · rw [← e0] at b0; exact absurd b b0
          · omega
      · rcases h0 with ⟨a0, b0⟩ | ⟨a0, b0, e0⟩
        · rcases b0 with b0 | ⟨_, b0⟩
          · rw [← e] at b; exact absurd b0 b
          · omega
        · omega
    · exfalso
      rcases hk with hk | hk <;> rw [hk] at hk0 <;> revert hk0 <;> decide
    · exfalso
      rcases hk with hk | hk
      · exact hk0.2.2.1 hk
      · exact hk0.2.2.2.1 hk
  · rcases h0 with ⟨hk0, _⟩ | ⟨_, _, e0⟩ | ⟨_, e0⟩
    · exfalso
      rcases hk0 with hk0 | hk0 <;> rw [hk0] at hk <;> revert hk <;> decide
    · omega
    · omega
  · rcases h0 with ⟨hk0, _⟩ | ⟨_, _, e0⟩ | ⟨_, e0⟩
    · exfalso
      rcases hk0 with hk0 | hk0
      · exact hk.2.2.1 hk0
      · exact hk.2.2.2.1 hk0
    · omega
    · omega
theorem qz_hr_mk {p r r' : Nat} (h : qz_hr K F S p r r') (m : qz_mk K p) : F p ≠ nI r' := by
  obtain ⟨_, h⟩ := h
  rcases h with ⟨hk, _⟩ | ⟨_, h, e⟩ | ⟨hk, _⟩
  · exfalso
    rcases hk with hk | hk <;> unfold qz_mk at m <;> rw [hk] at m <;> revert m <;> decide
  · rw [e]; exact h
  · exfalso
    rcases m with m | m
    · exact hk.1 m
    · exact hk.2.1 m
theorem qz_nu_mk {p r : Nat} (h : qz_nu K F S p r) (m : qz_mk K p) : False := by
  unfold qz_mk at m
  rcases h with ⟨hk, _⟩ | ⟨hk, _⟩ <;> rw [hk] at m <;> revert m <;> decide
theorem qz_nu_hr {p r r0 : Nat} (hr0 : r0 < 4) (h : qz_nu K F S p r) (h' : qz_hr K F S p r0 r) : False := by
  obtain ⟨h4, h'⟩ := h'
  rcases h with ⟨hk, h⟩ | ⟨hk, h, hf⟩
  · rcases h' with ⟨hk0, _⟩ | ⟨_, h0, e⟩ | ⟨hk0, _⟩
    · rw [hk] at hk0; revert hk0; decide
    · rw [← e] at h0; exact h0 h
    · exact hk0.2.2.2.2 hk
  · rcases h' with ⟨_, h0⟩ | ⟨hk0, _⟩ | ⟨hk0, _⟩
    · rcases h0 with ⟨a, b | ⟨b, _⟩⟩ | ⟨a, b, e⟩
      · exact hf b
      · rw [hk] at b; revert b; decide
      · rw [← e] at a; exact a h
    · rw [hk] at hk0; revert hk0; decide
    · exact hk0.2.2.1 hk
theorem qz_src (V : qz_va K F S) {p r' : Nat} (hr : r' < 4) : (qz_mk K p ∧ F p = nI r') ∨ qz_nu K F S p r' ∨ ∃ r, r < 4 ∧ qz_hr K F S p r r' := by
  obtain ⟨n, hn, hk, h1, h2, h3⟩ := V p
  by_cases k56 : K p = 5 ∨ K p = 6
  · have hn56 : n = 5 ∨ n = 6 := by
      rw [hk] at k56
      rcases k56 with k | k
      · left; exact (nI_eq (b := 5) (by omega) (by omega)).mp k
      · right; exact (nI_eq (b := 6) (by omega) (by omega)).mp k
    obtain ⟨y, hy, ey⟩ := h2 (by omega)
    by_cases ef : F p = nI r'
    · exact Or.inr (Or.inr ⟨y, hy, hr, Or.inl ⟨k56, Or.inl ⟨ey, Or.inl ef⟩⟩⟩)
    · by_cases es : S p = nI r'
      · rcases k56 with k | k
        · exact Or.inr (Or.inl (Or.inr ⟨k, es, ef⟩))
        · exact Or.inr (Or.inr ⟨r', hr, hr, Or.inl ⟨Or.inr k, Or.inl ⟨es, Or.inr ⟨k, rfl⟩⟩⟩⟩)
      · exact Or.inr (Or.inr ⟨r', hr, hr, Or.inl ⟨k56, Or.inr ⟨es, ef, rfl⟩⟩⟩)
  · by_cases k348 : K p = 3 ∨ K p = 4 ∨ K p = 8
    · by_cases ef : F p = nI r'
      · rcases k348 with k | k | k
        · exact Or.inl ⟨Or.inl k, ef⟩
        · exact Or.inl ⟨Or.inr k, ef⟩
        · exact Or.inr (Or.inl (Or.inl ⟨k, ef⟩))
      · exact Or.inr (Or.inr ⟨r', hr, hr, Or.inr (Or.inl ⟨k348, ef, rfl⟩)⟩)
    · refine Or.inr (Or.inr ⟨r', hr, hr, Or.inr (Or.inr ⟨⟨?_, ?_, ?_, ?_, ?_⟩, rfl⟩)⟩)
      · exact fun z => k348 (Or.inl z)
      · exact fun z => k348 (Or.inr (Or.inl z))
      · exact fun z => k56 (Or.inl z)
      · exact fun z => k56 (Or.inr z)
      · exact fun z => k348 (Or.inr (Or.inr z))
end
