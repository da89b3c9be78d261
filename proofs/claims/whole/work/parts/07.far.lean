/-! ===== Y: the lengths of shown, by a ghost f; counts of a boolean array ===== -/
section
variable (c : Nat) (K F S : Nat → Int32) (b p : Nat)
def qz_DI (f : Nat → Nat) : Prop := f 0 ≤ 1 ∧ ∀ n, n < 1152 → 1 ≤ f n ∧ f n ≤ 100000 ∧ (f n < 100000 → qz_fw c K F S b p (f n - 1) n)
def qz_DC (f : Nat → Nat) : Prop := ∀ n, n < 1152 → f n < 100000 → ∀ n', qz_fe c K F S b p n n' → f n' ≤ f n + 1
/-- what the last loop of shown finds up to place e -/
def qz_DL (f : Nat → Nat) (e L : Nat) : Prop := L ≤ 100000 ∧ (L = 100000 ∨ ∃ n, n < 1152 ∧ qz_fg K F n ∧ f n = L) ∧ ∀ n, 768 ≤ n → n < e → qz_fg K F n → L ≤ f n
end
section
variable {c : Nat} {K F S : Nat → Int32} {b p : Nat} {f : Nat → Nat}
theorem qz_DI_up (I : qz_DI c K F S b p f) {n s : Nat} (h1 : 1 ≤ s) (hs : s < f n) (hn : n < 1152) (hw : qz_fw c K F S b p (s - 1) n) : qz_DI c K F S b p (qz_uN f n s) ∧ qz_sm (qz_uN f n s) 1152 < qz_sm f 1152 := by
  obtain ⟨i0, i1⟩ := I
  refine ⟨⟨?_, ?_⟩, ?_⟩
  · by_cases e : 0 = n
    · rw [← e, qz_uNs]; rw [← e] at hs; omega
    · rw [qz_uNn e]; exact i0
  · intro k hk
    by_cases e : k = n
    · rw [e, qz_uNs]
      have := i1 n hn
      exact ⟨h1, by omega, fun _ => hw⟩
    · rw [qz_uNn e]; exact i1 k hk
  · refine qz_sm_lt 1152 ?_ n hn (by rw [qz_uNs]; exact hs)
    intro k _
    by_cases e : k = n
    · rw [e, qz_uNs]; omega
    · rw [qz_uNn e]; exact Nat.le_refl _
theorem qz_D_walk (hc : c ≤ 24) (I : qz_DI c K F S b p f) (C : qz_DC c K F S b p f) : ∀ n t, qz_fw c K F S b p n t → n + 1 < 100000 → f t ≤ n + 1 := by
  intro n
  induction n with
  | zero =>
    intro t ht _
    have h0 : t = 0 := ht
    subst h0
    exact I.1
  | succ n ih =>
    intro t ht hn
    obtain ⟨s, hs, e⟩ := ht
    have hsl := (qz_fx hc n s hs).1
    have h := ih s hs (by omega)
    have := C s hsl (by omega) t e
    omega
theorem qz_D_some (hc : c ≤ 24) (I : qz_DI c K F S b p f) (C : qz_DC c K F S b p f) {d L : Nat} (hd : 0 < d) (hd2 : d ≤ 216) (hg : qz_go c K F S b p (d - 1)) (hl : ∀ n, qz_go c K F S b p n → d ≤ n + 1) (hL : qz_DL K F f (768 + 16 * c) L) : L = d := by
  obtain ⟨l1, l2, l3⟩ := hL
  obtain ⟨j, hj, hjc, hw, hgj⟩ := (qz_go_f hc (d - 1)).mp hg
  have h1 := qz_D_walk hc I C (d - 1) j hw (by omega)
  have h7 := hgj.1
  have h2 := l3 j h7 (by omega) hgj
  have up : L ≤ d := by omega
  rcases l2 with l2 | ⟨n, hn, hgn, hf⟩
  · omega
  · have hw2 := (I.2 n hn).2.2 (by omega)
    have h1n := (I.2 n hn).1
    have hnc : n % 384 / 16 < c := by
      rcases (qz_fx hc _ n hw2).2.1 with z | z
      · rw [z] at hw2
        have : n = 0 := hw2
        have := hgn.1
        omega
      · exact z
    have := hl (f n - 1) ((qz_go_f hc _).mpr ⟨n, hn, hnc, hw2, hgn⟩)
    omega
theorem qz_D_none (hc : c ≤ 24) (I : qz_DI c K F S b p f) {L : Nat} (hg : ∀ n, ¬ qz_go c K F S b p n) (hL : qz_DL K F f (768 + 16 * c) L) : L = 100000 := by
  obtain ⟨l1, l2, l3⟩ := hL
  rcases l2 with l2 | ⟨n, hn, hgn, hf⟩
  · exact l2
  · by_cases z : L = 100000
    · exact z
    · exfalso
      have hw2 := (I.2 n hn).2.2 (by omega)
      have hnc : n % 384 / 16 < c := by
        rcases (qz_fx hc _ n hw2).2.1 with z | z
        · rw [z] at hw2
          have : n = 0 := hw2
          have := hgn.1
          omega
        · exact z
      exact hg (f n - 1) ((qz_go_f hc _).mpr ⟨n, hn, hnc, hw2, hgn⟩)
end
/-! a boolean array of 384 -/
def qz_ct (M : Nat → Int32) : Nat := qz_sm (fun j => if M j = 0 then 0 else 1) 384
theorem qz_ct_b (M : Nat → Int32) : qz_ct M ≤ 384 := by
  have a := qz_sm_b (f := fun p => if M p = 0 then 0 else 1) (B := 1) 384 (by
    intro i _
    show (if M i = 0 then 0 else 1) ≤ 1
    split <;> omega)
  unfold qz_ct
  omega
theorem qz_ct_up {M : Nat → Int32} {k : Nat} (hk : k < 384) (h : M k = 0) : qz_ct M < qz_ct (upd M k 1) := by
  refine qz_sm_up (f := fun x : Int32 => if x = 0 then 0 else 1) (a := M) (b := upd M k 1) hk (fun i hi => qz_un hi) ?_
  show (if M k = 0 then 0 else 1) < (if upd M k 1 k = 0 then 0 else 1)
  rw [qz_us, if_pos h]
  decide
/-- a round's flag and its array: nothing grew, or the count did -/
def qz_G (M0 : Nat → Int32) (g : Int32) (M : Nat → Int32) : Prop := (g = 0 ∧ M = M0) ∨ (g = 1 ∧ qz_ct M0 < qz_ct M)
theorem qz_G_r (M : Nat → Int32) : qz_G M 0 M := Or.inl ⟨rfl, rfl⟩
theorem qz_G_up {M0 M : Nat → Int32} {g : Int32} {k : Nat} (h : qz_G M0 g M) (hk : k < 384) (h0 : M k = 0) : qz_G M0 1 (upd M k 1) := by
  have := qz_ct_up hk h0
  rcases h with ⟨_, h⟩ | ⟨_, h⟩
  · rw [h] at this ⊢
    exact Or.inr ⟨rfl, this⟩
  · exact Or.inr ⟨rfl, by omega⟩
