/-! ===== X: the forward sets, their measure, their end ===== -/
section
variable (c : Nat) (K F S : Nat → Int32)
def qz_la (lo : Nat → Int32) (p r' l : Nat) : Prop := (qz_mk K p ∧ F p = nI r' ∧ l = p) ∨ (qz_nu K F S p r' ∧ l = 24) ∨ ∃ r, r < 4 ∧ qz_hr K F S p r r' ∧ bt (lo (p * 4 + r)) l = true
def qz_ea (em : Nat → Int32) (p o : Nat) : Prop := (K p = 2 ∧ F p = nI o) ∨ (bt (em p) o = true ∧ ¬ (K p = 0 ∧ F p = nI o))
def qz_FI (sn em lo : Nat → Int32) : Prop := (∀ p, p < 24 → ¬ sn p = 0 → qz_re c K F p) ∧ (∀ p o, p < 24 → o < 4 → bt (em p) o = true → qz_em c K F o p) ∧ (∀ p r l, p < 24 → r < 4 → bt (lo (p * 4 + r)) l = true → qz_ho c K F S l p r) ∧ (¬ sn 0 = 0) ∧ (∀ o, o < 4 → bt (em 0) o = true) ∧ (∀ r, r < 4 → bt (lo r) 24 = true) ∧ (∀ p, sn p = 0 ∨ sn p = 1)
def qz_cl (sn em lo : Nat → Int32) (p q : Nat) : Prop := ¬ sn q = 0 ∧ (∀ o, o < 4 → qz_ea K F em p o → bt (em q) o = true) ∧ (∀ r', r' < 4 → ∀ l, qz_la K F S lo p r' l → bt (lo (q * 4 + r')) l = true)
def qz_FC (sn em lo : Nat → Int32) : Prop := ∀ p, p < c → ¬ sn p = 0 → ∀ q, qz_nx c K F p q → qz_cl K F S sn em lo p q
def qz_FS (sn em lo : Nat → Int32) : Prop := (∀ p, p < 24 → (¬ sn p = 0 ↔ qz_re c K F p)) ∧ (∀ p o, p < 24 → o < 4 → (bt (em p) o = true ↔ qz_em c K F o p)) ∧ (∀ p r l, p < 24 → r < 4 → (bt (lo (p * 4 + r)) l = true ↔ qz_ho c K F S l p r)) ∧ (∀ p, sn p = 0 ∨ sn p = 1)
def qz_lb (lv : Nat → Int32) (p r : Nat) : Prop := (K p = 7 ∧ F p = nI r) ∨ ∃ q r', qz_nx c K F p q ∧ qz_hr K F S p r r' ∧ bt (lv q) r' = true
def qz_LI (lv : Nat → Int32) : Prop := (∀ p i, p < 24 → bt (lv p) i = true → i < 4 ∧ qz_lv c K F S p i) ∧ (∀ p i, p < 24 → bt (lv p) i = true → qz_lb c K F S lv p i)
def qz_LC (lv : Nat → Int32) : Prop := ∀ p, p < c → ∀ r, r < 4 → qz_lb c K F S lv p r → bt (lv p) r = true
def qz_LS (lv : Nat → Int32) : Prop := ∀ p r, p < 24 → r < 4 → (bt (lv p) r = true ↔ qz_lv c K F S p r)
end
def qz_mu (sn em lo : Nat → Int32) : Nat := qz_sm (fun p => if sn p = 0 then 0 else 1) 24 + qz_sm (fun p => qz_pc (em p)) 24 + qz_sm (fun i => qz_pc (lo i)) 96
theorem qz_mu_b (sn em lo : Nat → Int32) : qz_mu sn em lo ≤ 3864 := by
  have a := qz_sm_b (f := fun p => if sn p = 0 then 0 else 1) (B := 1) 24 (by
    intro i _
    show (if sn i = 0 then 0 else 1) ≤ 1
    split <;> omega)
  have b := qz_sm_b (f := fun p => qz_pc (em p)) (B := 32) 24 (fun i _ => qz_pc_le32 _)
  have d := qz_sm_b (f := fun p => qz_pc (lo p)) (B := 32) 96 (fun i _ => qz_pc_le32 _)
  unfold qz_mu
  omega
theorem qz_mu_sn {sn em lo : Nat → Int32} {q : Nat} (hq : q < 24) (h : sn q = 0) : qz_mu sn em lo < qz_mu (upd sn q 1) em lo := by
  have a := qz_sm_up (f := fun x : Int32 => if x = 0 then 0 else 1) (a := sn) (b := upd sn q 1) hq (fun i hi => qz_un hi) (by
    show (if sn q = 0 then 0 else 1) < (if upd sn q 1 q = 0 then 0 else 1)
    rw [qz_us, if_pos h]
    decide)
  unfold qz_mu
  omega
theorem qz_or_l (x y : Int32) : ∀ i, i < 32 → bt x i = true → bt (x ||| y) i = true := by
  intro i _ h
  rw [b_or, h]
  rfl
theorem qz_mu_em {sn em lo : Nat → Int32} {q : Nat} {x : Int32} (hq : q < 24) (h : ¬ em q ||| x = em q) : qz_mu sn em lo < qz_mu sn (upd em q (em q ||| x)) lo := by
  have a := qz_sm_up (f := qz_pc) (a := em) (b := upd em q (em q ||| x)) hq (fun i hi => qz_un hi) (by
    rw [qz_us]
    exact qz_pc_lt (qz_or_l _ _) (fun z => h z.symm))
  unfold qz_mu
  omega
theorem qz_mu_lo {sn em lo : Nat → Int32} {i : Nat} {x : Int32} (hi : i < 96) (h : ¬ lo i ||| x = lo i) : qz_mu sn em lo < qz_mu sn em (upd lo i (lo i ||| x)) := by
  have a := qz_sm_up (f := qz_pc) (a := lo) (b := upd lo i (lo i ||| x)) hi (fun i hi => qz_un hi) (by
    rw [qz_us]
    exact qz_pc_lt (qz_or_l _ _) (fun z => h z.symm))
  unfold qz_mu
  omega
theorem qz_or_e {x y : Int32} (h : x ||| y = x) {i : Nat} (hy : bt y i = true) : bt x i = true := by
  rw [← h, b_or, hy]
  simp
section
variable {c : Nat} {K F S : Nat → Int32} {sn em lo lv : Nat → Int32}
theorem qz_FI_sn {q : Nat} (I : qz_FI c K F S sn em lo) (hq : q < 24) (h : qz_re c K F q) : qz_FI c K F S (upd sn q 1) em lo := by
  obtain ⟨i1, i2, i3, i4, i5, i6, i7⟩ := I
  refine ⟨?_, i2, i3, ?_, i5, i6, ?_⟩
  · intro p hp hs
    by_cases e : p = q
    · rw [e]; exact h
    · rw [qz_un e] at hs
      exact i1 p hp hs
  · by_cases e : 0 = q
    · rw [← e, qz_us]; decide
    · rw [qz_un e]; exact i4
  · intro p
    by_cases e : p = q
    · rw [e, qz_us]; exact Or.inr rfl
    · rw [qz_un e]; exact i7 p
theorem qz_FI_em {q : Nat} {x : Int32} (I : qz_FI c K F S sn em lo) (h : ∀ o, o < 4 → bt x o = true → qz_em c K F o q) : qz_FI c K F S sn (upd em q (em q ||| x)) lo := by
  obtain ⟨i1, i2, i3, i4, i5, i6, i7⟩ := I
  refine ⟨i1, ?_, i3, i4, ?_, i6, i7⟩
  · intro p o hp ho hb
    by_cases e : p = q
    · subst e
      rw [qz_us, b_or, Bool.or_eq_true] at hb
      rcases hb with hb | hb
      · exact i2 p o hp ho hb
      · exact h o ho hb
    · rw [qz_un e] at hb
      exact i2 p o hp ho hb
  · intro o ho
    by_cases e : 0 = q
    · subst e
      rw [qz_us, b_or, i5 o ho]
      rfl
    · rw [qz_un e]; exact i5 o ho
theorem qz_FI_lo {q r' : Nat} {x : Int32} (hr' : r' < 4) (I : qz_FI c K F S sn em lo) (h : ∀ l, bt x l = true → qz_ho c K F S l q r') : qz_FI c K F S sn em (upd lo (q * 4 + r') (lo (q * 4 + r') ||| x)) := by
  obtain ⟨i1, i2, i3, i4, i5, i6, i7⟩ := I
  refine ⟨i1, i2, ?_, i4, i5, ?_, i7⟩
  · intro p r l hp hr hb
    by_cases e : p * 4 + r = q * 4 + r'
    · have e1 : p = q := by omega
      have e2 : r = r' := by omega
      subst e1
      subst e2
      rw [qz_us, b_or, Bool.or_eq_true] at hb
      rcases hb with hb | hb
      · exact i3 p r l hp hr hb
      · exact h l hb
    · rw [qz_un e] at hb
      exact i3 p r l hp hr hb
  · intro r hr
    by_cases e : r = q * 4 + r'
    · rw [e, qz_us, b_or, ← e, i6 r hr]
      rfl
    · rw [qz_un e]; exact i6 r hr
theorem qz_la_ho {p q r' l : Nat} (hc : c ≤ 24) (I : qz_FI c K F S sn em lo) (hr' : r' < 4) (hp : qz_re c K F p) (e : qz_nx c K F p q) (h : qz_la K F S lo p r' l) : qz_ho c K F S l q r' := by
  have hlt := qz_re_lt hp
  rcases h with ⟨h1, h2, h3⟩ | ⟨h1, h2⟩ | ⟨r, hr, h1, h2⟩
  · rw [h3]; exact qz_ho_mk (by omega) hr' hp h1 h2 e
  · rw [h2]; exact qz_ho_nu hr' hp e h1
  · exact qz_ho1 (I.2.2.1 p r l (by omega) hr h2) e h1
theorem qz_ea_em {p q o : Nat} (hc : c ≤ 24) (I : qz_FI c K F S sn em lo) (ho : o < 4) (hp : qz_re c K F p) (e : qz_nx c K F p q) (h : qz_ea K F em p o) : qz_em c K F o q := by
  have hlt := qz_re_lt hp
  rcases h with ⟨h1, h2⟩ | ⟨h1, h2⟩
  · exact qz_R0 (Or.inr ⟨p, hp, h1, h2, e⟩)
  · exact qz_R1 (I.2.1 p o (by omega) ho h1) ⟨e, h2⟩
theorem qz_FS_of (hc : c ≤ 24) (I : qz_FI c K F S sn em lo) (C : qz_FC c K F S sn em lo) : qz_FS c K F S sn em lo := by
  obtain ⟨i1, i2, i3, i4, i5, i6, i7⟩ := I
  have A : ∀ p, qz_re c K F p → ¬ sn p = 0 := fun p h =>
    qz_Ri (P := fun p => ¬ sn p = 0) (fun t ht => by rw [ht.1]; exact i4) (fun s t hs IH e => (C s (qz_re_lt hs) IH t e).1) h
  refine ⟨fun p hp => ⟨i1 p hp, A p⟩, fun p o hp ho => ⟨i2 p o hp ho, fun h => ?_⟩, fun p r l hp hr => ⟨i3 p r l hp hr, fun h => ?_⟩, i7⟩
  · exact qz_Ri (P := fun p => bt (em p) o = true)
      (fun t ht => by
        rcases ht with ⟨h0, _⟩ | ⟨p, h1, h2, h3, e⟩
        · rw [h0]; exact i5 o ho
        · exact (C p (qz_re_lt h1) (A p h1) t e).2.1 o ho (Or.inl ⟨h2, h3⟩))
      (fun s t hs IH e => by
        have hre := qz_em_re hs
        exact (C s (qz_re_lt hre) (A s hre) t e.1).2.1 o ho (Or.inr ⟨IH, e.2⟩)) h
  · exact qz_Ri (P := fun t : Nat × Nat => bt (lo (t.1 * 4 + t.2)) l = true)
      (fun t ht => by
        obtain ⟨hr, hh⟩ := ht
        rcases hh with ⟨_, h1, h2, h3, e⟩ | ⟨hl, ⟨h0, _⟩ | ⟨p, h1, e, h2⟩⟩
        · exact (C l (qz_re_lt h1) (A l h1) t.1 e).2.2 t.2 hr l (Or.inl ⟨h2, h3, rfl⟩)
        · rw [h0, Nat.zero_mul, Nat.zero_add, hl]; exact i6 t.2 hr
        · exact (C p (qz_re_lt h1) (A p h1) t.1 e).2.2 t.2 hr l (Or.inr (Or.inl ⟨h2, hl⟩)))
      (fun s t hs IH e => by
        have hf := qz_ho_f (p := s.1) (r := s.2) hs
        exact (C s.1 hf.1 (A s.1 hf.2.2.1) t.1 e.1).2.2 t.2 e.2.1 l (Or.inr (Or.inr ⟨s.2, hf.2.1, e.2, IH⟩))) h
theorem qz_FS_0 : qz_FS 0 K F S (fun _ => 0) (fun _ => 0) (fun _ => 0) := by
  have nb : ∀ i, ¬ bt 0 i = true := by intro i; rw [b_0]; simp
  refine ⟨fun p _ => ⟨fun z => absurd rfl z, fun z => ?_⟩, fun p o _ _ => ⟨fun z => absurd z (nb o), fun z => ?_⟩, fun p r l _ _ => ⟨fun z => absurd z (nb l), fun z => ?_⟩, fun _ => Or.inl rfl⟩
  · have := qz_re_lt z; omega
  · have := qz_re_lt (qz_em_re z); omega
  · have := (qz_ho_f z).1; omega
/-! live -/
theorem qz_LS_of (hc : c ≤ 24) (I : qz_LI c K F S lv) (C : qz_LC c K F S lv) : qz_LS c K F S lv := by
  intro p r hp hr
  refine ⟨fun h => (I.1 p r hp h).2, fun h => ?_⟩
  exact qz_Ri (P := fun t : Nat × Nat => bt (lv t.1) t.2 = true)
    (fun t ht => C t.1 ht.1 t.2 ht.2.1 (Or.inl ⟨ht.2.2.1, ht.2.2.2⟩))
    (fun s t hs IH e => C t.1 e.1 t.2 e.2.1 (Or.inr ⟨s.1, s.2, e.2.2.1, e.2.2.2, IH⟩)) h
theorem qz_LI_0 : qz_LI c K F S (fun _ => 0) := by
  have nb : ∀ i, ¬ bt 0 i = true := by intro i; rw [b_0]; simp
  exact ⟨fun p i _ z => absurd z (nb i), fun p i _ z => absurd z (nb i)⟩
theorem qz_LS_0 : qz_LS 0 K F S (fun _ => 0) := by
  have nb : ∀ i, ¬ bt 0 i = true := by intro i; rw [b_0]; simp
  intro p r _ _
  refine ⟨fun z => absurd z (nb r), fun z => ?_⟩
  have := (qz_lv_f z).1; omega
theorem qz_lb_mono {lv' : Nat → Int32} (hc : c ≤ 24) (h : ∀ q i, q < 24 → bt (lv q) i = true → bt (lv' q) i = true) {p r : Nat} (hl : qz_lb c K F S lv p r) : qz_lb c K F S lv' p r := by
  rcases hl with hl | ⟨q, r', e, e', hb⟩
  · exact Or.inl hl
  · exact Or.inr ⟨q, r', e, e', h q r' (by have := e.1; omega) hb⟩
theorem qz_lb_lv (hc : c ≤ 24) (I : qz_LI c K F S lv) {p r : Nat} (hp : p < c) (hr : r < 4) (h : qz_lb c K F S lv p r) : qz_lv c K F S p r := by
  rcases h with ⟨h1, h2⟩ | ⟨q, r', e, e', hb⟩
  · exact qz_lv_0 hp hr h1 h2
  · exact qz_lv_1 hp hr e e' (I.1 q r' (by have := e.1; omega) hb).2
theorem qz_LI_up {p : Nat} {x : Int32} (hc : c ≤ 24) (hp : p < c) (I : qz_LI c K F S lv) (hx : ∀ i, bt x i = true ↔ (i < 4 ∧ qz_lb c K F S lv p i)) : qz_LI c K F S (upd lv p x) ∧ (¬ x = lv p → qz_pc (lv p) < qz_pc x) := by
  have sub : ∀ i, bt (lv p) i = true → bt x i = true := fun i h => (hx i).mpr ⟨(I.1 p i (by omega) h).1, I.2 p i (by omega) h⟩
  have mono : ∀ q i, q < 24 → bt (lv q) i = true → bt (upd lv p x q) i = true := by
    intro q i _ h
    by_cases e : q = p
    · rw [e, qz_us]; rw [e] at h; exact sub i h
    · rw [qz_un e]; exact h
  refine ⟨⟨?_, ?_⟩, fun hne => qz_pc_lt (fun i _ => sub i) (fun z => hne z.symm)⟩
  · intro q i hq h
    by_cases e : q = p
    · rw [e, qz_us] at h
      obtain ⟨h4, hl⟩ := (hx i).mp h
      rw [e]
      exact ⟨h4, qz_lb_lv hc I hp h4 hl⟩
    · rw [qz_un e] at h
      exact I.1 q i hq h
  · intro q i hq h
    by_cases e : q = p
    · rw [e, qz_us] at h
      rw [e]
      exact qz_lb_mono hc mono ((hx i).mp h).2
    · rw [qz_un e] at h
      exact qz_lb_mono hc mono (I.2 q i hq h)
end
