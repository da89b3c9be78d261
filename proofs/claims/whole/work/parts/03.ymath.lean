/-! ===== the reference's sets of references: 16 * p + set ===== -/
section
variable (c : Nat) (K F S : Nat → Int32)
def qz_hb (p s m : Nat) : Prop := m < 16 ∧ ∀ r', r' < 4 → (bt (nI m) r' = true ↔ ∃ r, r < 4 ∧ bt (nI s) r = true ∧ qz_hr K F S p r r')
def qz_a1 (p s m : Nat) : Prop := m < 16 ∧ ∀ r', r' < 4 → (bt (nI m) r' = true ↔ ((qz_mk K p ∧ F p = nI r') ∨ ∃ r, r < 4 ∧ bt (nI s) r = true ∧ qz_hr K F S p r r'))
def qz_a2 (p s m : Nat) : Prop := m < 16 ∧ ∀ o, o < 4 → (bt (nI m) o = true ↔ ((K p = 0 ∧ F p = nI o) ∨ (bt (nI s) o = true ∧ ¬ (K p = 2 ∧ F p = nI o))))
/-- what 'after' answers: ways 0, 1 and 2 -/
def qz_aw (w p s m : Nat) : Prop := (w = 0 ∧ qz_hb K F S p s m) ∨ (w = 1 ∧ qz_a1 K F S p s m) ∨ (w = 2 ∧ qz_a2 K F p s m)
def qz_ye (w i j : Nat) : Prop := i < 16 * c ∧ ∃ q m, qz_nx c K F (i / 16) q ∧ qz_aw K F S w (i / 16) (i % 16) m ∧ (m ≠ 0 ∨ w ≠ 0) ∧ j = 16 * q + m
/-- met after fromBegin(w) -/
def qz_yb (w : Nat) : Nat → Prop := qz_R (fun j => j = 0 ∧ 0 < c) (qz_ye c K F S w)
/-- met after follow(b) -/
def qz_yf (b : Nat) : Nat → Prop := qz_R (fun j => ∃ q x, qz_nx c K F b q ∧ x < 4 ∧ F b = nI x ∧ j = 16 * q + 2 ^ x) (qz_ye c K F S 0)
def qz_uz (p s : Nat) : Prop := K p = 7 ∧ ∃ x, x < 4 ∧ F p = nI x ∧ bt (nI s) x = true
/-- useful after findUseful -/
def qz_yu : Nat → Prop := qz_R (fun j => j < 16 * c ∧ qz_uz K F (j / 16) (j % 16)) (fun i j => j < 16 * c ∧ ∃ q m, qz_nx c K F (j / 16) q ∧ qz_hb K F S (j / 16) (j % 16) m ∧ i = 16 * q + m)
end
theorem qz_exm (P : Nat → Prop) : ∃ m, m < 16 ∧ ∀ r, r < 4 → (bt (nI m) r = true ↔ P r) := by
  have key : ∀ a b c d : Bool, ∃ m, m < 16 ∧ bt (nI m) 0 = a ∧ bt (nI m) 1 = b ∧ bt (nI m) 2 = c ∧ bt (nI m) 3 = d := by decide +kernel
  have pb : ∀ Q : Prop, ∃ a : Bool, (a = true ↔ Q) := by
    intro Q
    by_cases h : Q
    · exact ⟨true, fun _ => h, fun _ => rfl⟩
    · exact ⟨false, fun z => (by cases z), fun z => absurd z h⟩
  obtain ⟨a, ha⟩ := pb (P 0)
  obtain ⟨b, hb⟩ := pb (P 1)
  obtain ⟨d, hd⟩ := pb (P 2)
  obtain ⟨e, he⟩ := pb (P 3)
  obtain ⟨m, hm, h0, h1, h2, h3⟩ := key a b d e
  refine ⟨m, hm, ?_⟩
  intro r hr
  have : r = 0 ∨ r = 1 ∨ r = 2 ∨ r = 3 := by omega
  rcases this with rfl | rfl | rfl | rfl
  · rw [h0]; exact ha
  · rw [h1]; exact hb
  · rw [h2]; exact hd
  · rw [h3]; exact he
theorem qz_d16 {p s : Nat} (h : s < 16) : (16 * p + s) / 16 = p := by omega
theorem qz_m16 {p s : Nat} (h : s < 16) : (16 * p + s) % 16 = s := by omega
theorem qz_b00 (r : Nat) : ¬ bt (nI 0) r = true := by
  rw [nI_0, b_0]
  simp
section
variable {c : Nat} {K F S : Nat → Int32}
theorem qz_ye1 {w p q s m : Nat} (hp : p < c) (hs : s < 16) (e : qz_nx c K F p q) (h : qz_aw K F S w p s m) (hm : m ≠ 0 ∨ w ≠ 0) : qz_ye c K F S w (16 * p + s) (16 * q + m) := by
  refine ⟨by omega, q, m, ?_, ?_, hm, rfl⟩
  · rw [qz_d16 hs]; exact e
  · rw [qz_d16 hs, qz_m16 hs]; exact h
theorem qz_aw_lt {w p s m : Nat} (h : qz_aw K F S w p s m) : m < 16 := by
  rcases h with ⟨_, h⟩ | ⟨_, h⟩ | ⟨_, h⟩
  · exact h.1
  · exact h.1
  · exact h.1
theorem qz_aw_ex {w : Nat} (hw : w < 3) (p s : Nat) : ∃ m, qz_aw K F S w p s m := by
  have : w = 0 ∨ w = 1 ∨ w = 2 := by omega
  rcases this with rfl | rfl | rfl
  · obtain ⟨m, hm⟩ := qz_exm (fun r' => ∃ r, r < 4 ∧ bt (nI s) r = true ∧ qz_hr K F S p r r')
    exact ⟨m, Or.inl ⟨rfl, hm⟩⟩
  · obtain ⟨m, hm⟩ := qz_exm (fun r' => (qz_mk K p ∧ F p = nI r') ∨ ∃ r, r < 4 ∧ bt (nI s) r = true ∧ qz_hr K F S p r r')
    exact ⟨m, Or.inr (Or.inl ⟨rfl, hm⟩)⟩
  · obtain ⟨m, hm⟩ := qz_exm (fun o => (K p = 0 ∧ F p = nI o) ∨ (bt (nI s) o = true ∧ ¬ (K p = 2 ∧ F p = nI o)))
    exact ⟨m, Or.inr (Or.inr ⟨rfl, hm⟩)⟩
theorem qz_aw_u {w p s m m' : Nat} (h : qz_aw K F S w p s m) (h' : qz_aw K F S w p s m') : m = m' := by
  rcases h with ⟨e, h⟩ | ⟨e, h⟩ | ⟨e, h⟩
  · rcases h' with ⟨e', h'⟩ | ⟨e', h'⟩ | ⟨e', h'⟩
    · exact qz_uni h.1 h'.1 h.2 h'.2
    · omega
    · omega
  · rcases h' with ⟨e', h'⟩ | ⟨e', h'⟩ | ⟨e', h'⟩
    · omega
    · exact qz_uni h.1 h'.1 h.2 h'.2
    · omega
  · rcases h' with ⟨e', h'⟩ | ⟨e', h'⟩ | ⟨e', h'⟩
    · omega
    · omega
    · exact qz_uni h.1 h'.1 h.2 h'.2
theorem qz_hb_u {p s m m' : Nat} (h : qz_hb K F S p s m) (h' : qz_hb K F S p s m') : m = m' := qz_uni h.1 h'.1 h.2 h'.2
theorem qz_hb_ex (p s : Nat) : ∃ m, qz_hb K F S p s m := qz_exm (fun r' => ∃ r, r < 4 ∧ bt (nI s) r = true ∧ qz_hr K F S p r r')
/-! from the begin -/
theorem qz_yb_re {w j : Nat} (h : qz_yb c K F S w j) : qz_re c K F (j / 16) :=
  qz_Ri (P := fun j => qz_re c K F (j / 16))
    (fun t ht => by rw [ht.1]; exact qz_re0 ht.2)
    (fun s t _ hs e => by
      obtain ⟨_, q, m, e, h, _, rfl⟩ := e
      rw [qz_d16 (qz_aw_lt h)]
      exact qz_re1 hs e) h
theorem qz_re_yb {w : Nat} (hw : w = 1 ∨ w = 2) {p : Nat} (h : qz_re c K F p) : ∃ s, s < 16 ∧ qz_yb c K F S w (16 * p + s) :=
  qz_Ri (P := fun p => ∃ s, s < 16 ∧ qz_yb c K F S w (16 * p + s))
    (fun t ht => ⟨0, by omega, qz_R0 ⟨by omega, ht.2⟩⟩)
    (fun p q hp hs e => by
      obtain ⟨s, hs, h⟩ := hs
      obtain ⟨m, hm⟩ := qz_aw_ex (K := K) (F := F) (S := S) (w := w) (by omega) p s
      exact ⟨m, qz_aw_lt hm, qz_R1 h (qz_ye1 (qz_re_lt hp) hs e hm (Or.inr (by omega)))⟩) h
theorem qz_met_re {p : Nat} : (∃ s, s < 16 ∧ qz_yb c K F S 1 (16 * p + s)) ↔ qz_re c K F p := by
  constructor
  · rintro ⟨s, hs, h⟩
    have := qz_yb_re h
    rw [qz_d16 hs] at this
    exact this
  · exact qz_re_yb (Or.inl rfl)
theorem qz_free_1 (V : qz_va K F S) {j : Nat} (h : qz_yb c K F S 1 j) : ∀ r, r < 4 → ¬ bt (nI (j % 16)) r = true → qz_ho c K F S 24 (j / 16) r :=
  qz_Ri (P := fun j => ∀ r, r < 4 → ¬ bt (nI (j % 16)) r = true → qz_ho c K F S 24 (j / 16) r)
    (fun t ht r hr _ => by rw [ht.1]; exact qz_ho_0 hr ht.2)
    (fun i j hi IH e r hr hb => by
      obtain ⟨hlt, q, m, e, h, _, rfl⟩ := e
      have hm := qz_aw_lt h
      rw [qz_m16 hm] at hb
      rw [qz_d16 hm]
      rcases h with ⟨z, _⟩ | ⟨_, h⟩ | ⟨z, _⟩
      · omega
      · rw [h.2 r hr] at hb
        rcases qz_src V (p := i / 16) hr with hh | hh | ⟨r0, hr0, hh⟩
        · exact absurd (Or.inl hh) hb
        · exact qz_ho_nu hr (qz_yb_re hi) e hh
        · refine qz_ho1 (IH r0 hr0 ?_) e hh
          intro z
          exact hb (Or.inr ⟨r0, hr0, z, hh⟩)
      · omega) h
theorem qz_free_2 {p r : Nat} (h : qz_ho c K F S 24 p r) : ∃ s, s < 16 ∧ ¬ bt (nI s) r = true ∧ qz_yb c K F S 1 (16 * p + s) :=
  qz_Ri (P := fun t : Nat × Nat => ∃ s, s < 16 ∧ ¬ bt (nI s) t.2 = true ∧ qz_yb c K F S 1 (16 * t.1 + s))
    (fun t ht => by
      obtain ⟨hr, hh⟩ := ht
      rcases hh with ⟨z, _⟩ | ⟨_, hh⟩
      · omega
      · rcases hh with ⟨h0, hc⟩ | ⟨p, h1, e, h2⟩
        · exact ⟨0, by omega, qz_b00 _, qz_R0 ⟨by omega, hc⟩⟩
        · obtain ⟨s, hs, h⟩ := qz_re_yb (S := S) (w := 1) (Or.inl rfl) h1
          obtain ⟨m, hm⟩ := qz_aw_ex (K := K) (F := F) (S := S) (w := 1) (by omega) p s
          refine ⟨m, qz_aw_lt hm, ?_, qz_R1 h (qz_ye1 (qz_re_lt h1) hs e hm (Or.inr (by omega)))⟩
          rcases hm with ⟨z, _⟩ | ⟨_, hm⟩ | ⟨z, _⟩
          · omega
          · rw [hm.2 _ hr]
            rintro (⟨z, _⟩ | ⟨r0, hr0, _, z⟩)
            · exact qz_nu_mk h2 z
            · exact qz_nu_hr hr0 h2 z
          · omega)
    (fun t u ht IH e => by
      obtain ⟨s, hs, hb, h⟩ := IH
      obtain ⟨e, e'⟩ := e
      have hf := qz_ho_f (p := t.1) (r := t.2) ht
      obtain ⟨m, hm⟩ := qz_aw_ex (K := K) (F := F) (S := S) (w := 1) (by omega) t.1 s
      refine ⟨m, qz_aw_lt hm, ?_, qz_R1 h (qz_ye1 hf.1 hs e hm (Or.inr (by omega)))⟩
      rcases hm with ⟨z, _⟩ | ⟨_, hm⟩ | ⟨z, _⟩
      · omega
      · rw [hm.2 _ e'.1]
        rintro (⟨z, z'⟩ | ⟨r0, hr0, z, z'⟩)
        · exact qz_hr_mk e' z z'
        · have := qz_hr_u hf.2.1 hr0 e' z'
          rw [← this] at z
          exact hb z
      · omega) h
theorem qz_met_free (V : qz_va K F S) {p r : Nat} (hr : r < 4) : (∃ s, s < 16 ∧ ¬ bt (nI s) r = true ∧ qz_yb c K F S 1 (16 * p + s)) ↔ qz_ho c K F S 24 p r := by
  constructor
  · rintro ⟨s, hs, hb, h⟩
    have := qz_free_1 V h r hr (by rw [qz_m16 hs]; exact hb)
    rw [qz_d16 hs] at this
    exact this
  · exact qz_free_2
theorem qz_em_1 {j : Nat} (h : qz_yb c K F S 2 j) : ∀ o, o < 4 → ¬ bt (nI (j % 16)) o = true → qz_em c K F o (j / 16) :=
  qz_Ri (P := fun j => ∀ o, o < 4 → ¬ bt (nI (j % 16)) o = true → qz_em c K F o (j / 16))
    (fun t ht o _ _ => by rw [ht.1]; exact qz_R0 (Or.inl ⟨rfl, ht.2⟩))
    (fun i j hi IH e o ho hb => by
      obtain ⟨hlt, q, m, e, h, _, rfl⟩ := e
      have hm := qz_aw_lt h
      rw [qz_m16 hm] at hb
      rw [qz_d16 hm]
      rcases h with ⟨z, _⟩ | ⟨z, _⟩ | ⟨_, h⟩
      · omega
      · omega
      · rw [h.2 o ho] at hb
        by_cases k2 : K (i / 16) = 2 ∧ F (i / 16) = nI o
        · exact qz_R0 (Or.inr ⟨i / 16, qz_yb_re hi, k2.1, k2.2, e⟩)
        · refine qz_R1 (IH o ho ?_) ⟨e, ?_⟩
          · exact fun z => hb (Or.inr ⟨z, k2⟩)
          · exact fun z => hb (Or.inl z)) h
theorem qz_em_2 {p o : Nat} (ho : o < 4) (h : qz_em c K F o p) : ∃ s, s < 16 ∧ ¬ bt (nI s) o = true ∧ qz_yb c K F S 2 (16 * p + s) :=
  qz_Ri (P := fun p => ∃ s, s < 16 ∧ ¬ bt (nI s) o = true ∧ qz_yb c K F S 2 (16 * p + s))
    (fun t ht => by
      rcases ht with ⟨h0, hc⟩ | ⟨p, h1, k2, f2, e⟩
      · exact ⟨0, by omega, qz_b00 _, qz_R0 ⟨by omega, hc⟩⟩
      · obtain ⟨s, hs, h⟩ := qz_re_yb (S := S) (w := 2) (Or.inr rfl) h1
        obtain ⟨m, hm⟩ := qz_aw_ex (K := K) (F := F) (S := S) (w := 2) (by omega) p s
        refine ⟨m, qz_aw_lt hm, ?_, qz_R1 h (qz_ye1 (qz_re_lt h1) hs e hm (Or.inr (by omega)))⟩
        rcases hm with ⟨z, _⟩ | ⟨z, _⟩ | ⟨_, hm⟩
        · omega
        · omega
        · rw [hm.2 _ ho]
          rintro (⟨z, _⟩ | ⟨_, z⟩)
          · rw [k2] at z; revert z; decide
          · exact z ⟨k2, f2⟩)
    (fun p q hp IH e => by
      obtain ⟨s, hs, hb, h⟩ := IH
      obtain ⟨e, e'⟩ := e
      obtain ⟨m, hm⟩ := qz_aw_ex (K := K) (F := F) (S := S) (w := 2) (by omega) p s
      refine ⟨m, qz_aw_lt hm, ?_, qz_R1 h (qz_ye1 (qz_re_lt (qz_em_re hp)) hs e hm (Or.inr (by omega)))⟩
      rcases hm with ⟨z, _⟩ | ⟨z, _⟩ | ⟨_, hm⟩
      · omega
      · omega
      · rw [hm.2 _ ho]
        rintro (z | ⟨z, _⟩)
        · exact e' z
        · exact hb z) h
theorem qz_met_em {p o : Nat} (ho : o < 4) : (∃ s, s < 16 ∧ ¬ bt (nI s) o = true ∧ qz_yb c K F S 2 (16 * p + s)) ↔ qz_em c K F o p := by
  constructor
  · rintro ⟨s, hs, hb, h⟩
    have := qz_em_1 h o ho (by rw [qz_m16 hs]; exact hb)
    rw [qz_d16 hs] at this
    exact this
  · exact qz_em_2 ho
/-! following a loan -/
theorem qz_pow_lt {x : Nat} (h : x < 4) : 2 ^ x < 16 := (qz_pow4 x h).2.1
theorem qz_fo_1 {b : Nat} (hb : b < 24) (h1 : qz_re c K F b) (h2 : qz_mk K b) {j : Nat} (h : qz_yf c K F S b j) : ∀ r, r < 4 → bt (nI (j % 16)) r = true → qz_ho c K F S b (j / 16) r :=
  qz_Ri (P := fun j => ∀ r, r < 4 → bt (nI (j % 16)) r = true → qz_ho c K F S b (j / 16) r)
    (fun t ht r hr hh => by
      obtain ⟨q, x, e, hx, hf, rfl⟩ := ht
      rw [qz_m16 (qz_pow_lt hx)] at hh
      rw [qz_d16 (qz_pow_lt hx)]
      have := ((qz_pow4 x hx).2.2 r hr).mp hh
      rw [← this] at hf
      exact qz_ho_mk hb hr h1 h2 hf e)
    (fun i j hi IH e r hr hh => by
      obtain ⟨hlt, q, m, e, h, _, rfl⟩ := e
      have hm := qz_aw_lt h
      rw [qz_m16 hm] at hh
      rw [qz_d16 hm]
      rcases h with ⟨_, h⟩ | ⟨z, _⟩ | ⟨z, _⟩
      · rw [h.2 r hr] at hh
        obtain ⟨r0, hr0, hs, hh⟩ := hh
        exact qz_ho1 (IH r0 hr0 hs) e hh
      · omega
      · omega) h
theorem qz_fo_2 {b : Nat} (hb : b < 24) {p r : Nat} (h : qz_ho c K F S b p r) : ∃ s, s < 16 ∧ bt (nI s) r = true ∧ qz_yf c K F S b (16 * p + s) :=
  qz_Ri (P := fun t : Nat × Nat => ∃ s, s < 16 ∧ bt (nI s) t.2 = true ∧ qz_yf c K F S b (16 * t.1 + s))
    (fun t ht => by
      obtain ⟨hr, hh⟩ := ht
      rcases hh with ⟨_, h1, h2, h3, e⟩ | ⟨z, _⟩
      · exact ⟨2 ^ t.2, qz_pow_lt hr, ((qz_pow4 t.2 hr).2.2 t.2 hr).mpr rfl, qz_R0 ⟨t.1, t.2, e, hr, h3, rfl⟩⟩
      · omega)
    (fun t u ht IH e => by
      obtain ⟨s, hs, hh, h⟩ := IH
      obtain ⟨e, e'⟩ := e
      have hf := qz_ho_f (p := t.1) (r := t.2) ht
      obtain ⟨m, hm⟩ := qz_hb_ex (K := K) (F := F) (S := S) t.1 s
      have hbit : bt (nI m) u.2 = true := (hm.2 _ e'.1).mpr ⟨t.2, hf.2.1, hh, e'⟩
      refine ⟨m, hm.1, hbit, qz_R1 h (qz_ye1 hf.1 hs e (Or.inl ⟨rfl, hm⟩) (Or.inl ?_))⟩
      intro z
      rw [z] at hbit
      exact qz_b00 _ hbit) h
theorem qz_met_fo {b : Nat} (hb : b < 24) (h1 : qz_re c K F b) (h2 : qz_mk K b) {p r : Nat} (hr : r < 4) : (∃ s, s < 16 ∧ bt (nI s) r = true ∧ qz_yf c K F S b (16 * p + s)) ↔ qz_ho c K F S b p r := by
  constructor
  · rintro ⟨s, hs, hh, h⟩
    have := qz_fo_1 hb h1 h2 h r hr (by rw [qz_m16 hs]; exact hh)
    rw [qz_d16 hs] at this
    exact this
  · exact qz_fo_2 hb
/-! useful sets -/
theorem qz_us_1 {j : Nat} (h : qz_yu c K F S j) : ∃ r, r < 4 ∧ bt (nI (j % 16)) r = true ∧ qz_lv c K F S (j / 16) r :=
  qz_Ri (P := fun j => ∃ r, r < 4 ∧ bt (nI (j % 16)) r = true ∧ qz_lv c K F S (j / 16) r)
    (fun t ht => by
      obtain ⟨hlt, hk, x, hx, hf, hh⟩ := ht
      exact ⟨x, hx, hh, qz_lv_0 (by omega) hx hk hf⟩)
    (fun i j hi IH e => by
      obtain ⟨hlt, q, m, e, hm, rfl⟩ := e
      obtain ⟨r', hr', hh, hl⟩ := IH
      rw [qz_m16 hm.1] at hh
      rw [qz_d16 hm.1] at hl
      obtain ⟨r, hr, hs, hq⟩ := (hm.2 r' hr').mp hh
      exact ⟨r, hr, hs, qz_lv_1 (by omega) hr e hq hl⟩) h
theorem qz_us_2 {p r : Nat} (h : qz_lv c K F S p r) : ∀ s, s < 16 → bt (nI s) r = true → qz_yu c K F S (16 * p + s) :=
  qz_Ri (P := fun t : Nat × Nat => ∀ s, s < 16 → bt (nI s) t.2 = true → qz_yu c K F S (16 * t.1 + s))
    (fun t ht s hs hh => by
      obtain ⟨hp, hr, hk, hf⟩ := ht
      refine qz_R0 ⟨by omega, ?_⟩
      rw [qz_d16 hs, qz_m16 hs]
      exact ⟨hk, t.2, hr, hf, hh⟩)
    (fun t u ht IH e s hs hh => by
      obtain ⟨hp, hr, e, e'⟩ := e
      obtain ⟨m, hm⟩ := qz_hb_ex (K := K) (F := F) (S := S) u.1 s
      have hbit : bt (nI m) t.2 = true := (hm.2 _ e'.1).mpr ⟨u.2, hr, hh, e'⟩
      refine qz_R1 (IH m hm.1 hbit) ⟨by omega, t.1, m, ?_, ?_, rfl⟩
      · rw [qz_d16 hs]; exact e
      · rw [qz_d16 hs, qz_m16 hs]; exact hm) h
theorem qz_yu_lv {p s : Nat} (hs : s < 16) : qz_yu c K F S (16 * p + s) ↔ ∃ r, r < 4 ∧ bt (nI s) r = true ∧ qz_lv c K F S p r := by
  constructor
  · intro h
    have := qz_us_1 h
    rw [qz_m16 hs, qz_d16 hs] at this
    exact this
  · rintro ⟨r, _, hh, hl⟩
    exact qz_us_2 hl s hs hh
/-- behind p: the reference's look at the next points -/
theorem qz_yu_next {p s m : Nat} (hp : p < c) (hk : K p ≠ 7) (hm : qz_hb K F S p s m) : (∃ q, qz_nx c K F p q ∧ qz_yu c K F S (16 * q + m)) ↔ ∃ r, r < 4 ∧ bt (nI s) r = true ∧ qz_lv c K F S p r := by
  constructor
  · rintro ⟨q, e, h⟩
    obtain ⟨r', hr', hh, hl⟩ := (qz_yu_lv hm.1).mp h
    obtain ⟨r, hr, hs, hq⟩ := (hm.2 r' hr').mp hh
    exact ⟨r, hr, hs, qz_lv_1 hp hr e hq hl⟩
  · rintro ⟨r, hr, hh, hl⟩
    rcases qz_lv_c hl with ⟨z, _⟩ | ⟨q, r', e, e', hl'⟩
    · exact absurd z hk
    · exact ⟨q, e, (qz_yu_lv hm.1).mpr ⟨r', e'.1, (hm.2 r' e'.1).mpr ⟨r, hr, hh, e'⟩, hl'⟩⟩
end
