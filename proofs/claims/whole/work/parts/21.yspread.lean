/-! ===== Y: after, meet, spread, fromBegin, follow ===== -/
section
variable {c : Nat} {fm : Int32} {K F S M U D : Nat → Int32}
theorem qy_after {post : Int32 → Prop} {p s w : Nat} (hp : p < 24) (hs : s < 16) (hw : w < 3) (V : qz_va K F S) (h : ∀ m, qz_aw K F S w p s m → post (nI m)) : wpY_after post (nI c, fm, K, F, S, M, U, D) (nI p) (nI s) (nI w) := by
  have i := qz_i24 hp
  have hi4 := qz_hi4 s hs
  have key : ∀ (P : Nat → Prop) (x : Int32), (∀ l, l < 32 → (bt x l = true ↔ (l < 4 ∧ P l))) → (∀ m, m < 16 → (∀ r', r' < 4 → (bt (nI m) r' = true ↔ P r')) → post (nI m)) → post x := by
    intro P x hx hh
    obtain ⟨m, hm, em⟩ := qz_of4 x (fun j hj h4 z => by
      obtain ⟨y, _⟩ := (hx j hj).mp z
      exact absurd y (Nat.not_lt.mpr h4))
    rw [em]
    refine hh m hm (fun r' hr' => ?_)
    rw [← em, hx r' (by omega)]
    exact ⟨fun z => z.2, fun z => ⟨hr', z⟩⟩
  have lt4 : ∀ l, l < 32 → bt (nI s) l = true → l < 4 := by
    intro l hl z
    apply Classical.byContradiction
    intro w
    exact hi4 l hl (by omega) z
  unfold wpY_after
  simp only [qz_c24 hp]
  refine ⟨i, nm_e ⟨i, nm_e ?_⟩⟩
  refine pk_eq w 0 (fun w0 => qy_hold hp hs V (fun m hm => h m (Or.inl ⟨w0, hm⟩))) (fun w0 => pk_eq w 1 (fun w1 => ?_) (fun w1 => ?_))
  · have A : (K p = 3 ∨ K p = 4) → post (nI s ||| ((1 : Int32) <<< ((F p &&& 3) &&& 31))) := by
      intro hk
      obtain ⟨a, ha, ea⟩ : ∃ a, a < 4 ∧ F p = nI a := by
        rcases hk with k | k
        · exact (qz_va_b V (Or.inl k)).1
        · exact (qz_va_b V (Or.inr (Or.inl k))).1
      have hrk : ∀ r r', r' < 4 → (qz_hr K F S p r r' ↔ (F p ≠ nI r ∧ r' = r)) := by
        intro r r' hr'
        constructor
        · rintro ⟨_, (⟨z, _⟩ | ⟨_, z⟩ | ⟨z, _⟩)⟩
          · rcases z with z | z <;> rw [z] at hk <;> exact absurd hk (by decide)
          · exact z
          · rcases hk with k | k
            · exact absurd k z.1
            · exact absurd k z.2.1
        · intro z
          refine ⟨hr', Or.inr (Or.inl ⟨?_, z⟩)⟩
          rcases hk with k | k
          · exact Or.inl k
          · exact Or.inr (Or.inl k)
      rw [ea, qz_and3 ha]
      refine key (fun r' => (qz_mk K p ∧ F p = nI r') ∨ ∃ r, r < 4 ∧ bt (nI s) r = true ∧ qz_hr K F S p r r') _ (fun l hl => ?_) (fun m hm hh => h m (Or.inr (Or.inl ⟨w1, hm, hh⟩)))
      rw [qz_set _ a (by omega) hl]
      constructor
      · rintro (z | z)
        · have h4 := lt4 l hl z
          refine ⟨h4, ?_⟩
          by_cases e : F p = nI l
          · exact Or.inl ⟨hk, e⟩
          · exact Or.inr ⟨l, h4, z, (hrk l l h4).mpr ⟨e, rfl⟩⟩
        · exact ⟨by omega, Or.inl ⟨hk, by rw [ea, z]⟩⟩
      · rintro ⟨h4, ⟨_, z⟩ | ⟨r, hr, z, y⟩⟩
        · exact Or.inr ((qz_ne ha h4).mp (ea.symm.trans z)).symm
        · rw [((hrk r l h4).mp y).2]
          exact Or.inl z
    refine br_c (fun k => A (Or.inl k)) (fun k3 => br_c (fun k => A (Or.inr k)) (fun k4 => qy_hold hp hs V (fun m hm => h m (Or.inr (Or.inl ⟨w1, hm.1, fun r' hr' => ?_⟩)))))
    rw [hm.2 r' hr']
    constructor
    · exact fun z => Or.inr z
    · rintro (⟨z, _⟩ | z)
      · rcases z with z | z
        · exact absurd z k3
        · exact absurd z k4
      · exact z
  · have w2 : w = 2 := by omega
    have fin : ∀ x : Int32, (∀ l, l < 32 → (bt x l = true ↔ (l < 4 ∧ ((K p = 0 ∧ F p = nI l) ∨ (bt (nI s) l = true ∧ ¬ (K p = 2 ∧ F p = nI l)))))) → post x := fun x hx =>
      key (fun l => (K p = 0 ∧ F p = nI l) ∨ (bt (nI s) l = true ∧ ¬ (K p = 2 ∧ F p = nI l))) x hx (fun m hm hh => h m (Or.inr (Or.inr ⟨w2, hm, hh⟩)))
    refine br_c (fun k0 => fin _ (fun l hl => ?_)) (fun k0 => br_c (fun k2 => fin _ (fun l hl => ?_)) (fun k2 => fin _ (fun l hl => ?_)))
    · obtain ⟨a, ha, ea⟩ := qz_va_a V (Or.inl k0)
      rw [ea, qz_and3 ha, qz_set _ a (by omega) hl]
      constructor
      · rintro (z | z)
        · exact ⟨lt4 l hl z, Or.inr ⟨z, fun y => by rw [k0] at y; exact absurd y.1 (by decide)⟩⟩
        · exact ⟨by omega, Or.inl ⟨k0, by rw [z]⟩⟩
      · rintro ⟨h4, ⟨_, z⟩ | ⟨z, _⟩⟩
        · exact Or.inr ((qz_ne ha h4).mp z).symm
        · exact Or.inl z
    · obtain ⟨a, ha, ea⟩ := qz_va_a V (Or.inr (Or.inr (Or.inl k2)))
      rw [ea, qz_and3 ha, qz_clr _ a (by omega) hl]
      constructor
      · rintro ⟨z, y⟩
        have h4 := lt4 l hl z
        exact ⟨h4, Or.inr ⟨z, fun x => y ((qz_ne ha h4).mp x.2).symm⟩⟩
      · rintro ⟨h4, ⟨z, _⟩ | ⟨z, y⟩⟩
        · exact absurd z k0
        · exact ⟨z, fun x => y ⟨k2, by rw [x]⟩⟩
    · constructor
      · intro z
        exact ⟨lt4 l hl z, Or.inr ⟨z, fun y => k2 y.1⟩⟩
      · rintro ⟨h4, ⟨z, _⟩ | ⟨z, _⟩⟩
        · exact absurd z k0
        · exact z
theorem qz_x16 (a s : Nat) : (16 : Int32) * nI a + nI s = nI (16 * a + s) := by
  show nI 16 * nI a + nI s = _
  rw [pk_mul, nI_add]
theorem qy_meet {post : SY → Prop} {P : Nat → Prop} {r : Int32} {s : Nat} (hc : c ≤ 24) (hr : qz_op P (-1) r) (hP : ∀ a, P a → a < c) (hs : s < 16)
    (h : ∀ fm' M', ((fm' = fm ∧ M' = M ∧ ∀ a, P a → ¬ M (16 * a + s) = 0) ∨ (∃ a, P a ∧ (∀ a', P a' → a' = a) ∧ M (16 * a + s) = 0 ∧ fm' = 1 ∧ M' = upd M (16 * a + s) 1)) → post (nI c, fm', K, F, S, M', U, D)) : wpY_meet post (nI c, fm, K, F, S, M, U, D) r (nI s) := by
  unfold wpY_meet
  rcases hr with ⟨rfl, no⟩ | ⟨a, rfl, ha, ua⟩
  · exact br_t (by decide) (h _ _ (Or.inl ⟨rfl, rfl, fun a ha => absurd ha (no a)⟩))
  · have hac := hP a ha
    have iv : vp_in (nI (16 * a + s)) 384 := vp_in_nI (by omega) (by omega)
    refine br_f (nI_pos (by omega)) ?_
    rw [qz_x16, nI_clamp (by omega), qz_nb1]
    refine ⟨iv, br_c (fun z => ⟨iv, nm_e (h _ _ (Or.inr ⟨a, ha, ua, z, rfl, rfl⟩))⟩) (fun z => h _ _ (Or.inl ⟨rfl, rfl, fun a' ha' => ?_⟩))⟩
    rw [ua a' ha']
    exact z
/-- between the begin and what is reached -/
def qz_SI (R I0 : Nat → Prop) (M : Nat → Int32) : Prop := (∀ j, j < 384 → ¬ M j = 0 → R j) ∧ (∀ j, I0 j → ¬ M j = 0)
theorem qz_SI_up {R I0 : Nat → Prop} {k : Nat} (h : qz_SI R I0 M) (hk : R k) : qz_SI R I0 (upd M k 1) := by
  refine ⟨fun j hj z => ?_, fun j hj => ?_⟩
  · by_cases e : j = k
    · rw [e]; exact hk
    · rw [pk_un e] at z; exact h.1 j hj z
  · by_cases e : j = k
    · rw [e, pk_us]; decide
    · rw [pk_un e]; exact h.2 j hj
def qz_GC (M0 : Nat → Int32) (g : Int32) (M : Nat → Int32) (C : Prop) : Prop := (g = 0 ∧ M = M0 ∧ C) ∨ (g = 1 ∧ qz_ct M0 < qz_ct M)
theorem qz_GC_up {M0 : Nat → Int32} {g : Int32} {k : Nat} {C C' : Prop} (h : qz_GC M0 g M C) (hk : k < 384) (h0 : M k = 0) : qz_GC M0 1 (upd M k 1) C' := by
  have := qz_ct_up hk h0
  rcases h with ⟨_, h, _⟩ | ⟨_, h⟩
  · rw [h] at this ⊢
    exact Or.inr ⟨rfl, this⟩
  · exact Or.inr ⟨rfl, by omega⟩
theorem qz_GC_m {M0 : Nat → Int32} {g : Int32} {C C' : Prop} (h : qz_GC M0 g M C) (hC : M = M0 → C → C') : qz_GC M0 g M C' := by
  rcases h with ⟨a, b, d⟩ | h
  · exact Or.inl ⟨a, b, hC b d⟩
  · exact Or.inr h
/-- one place's step: both next points are met -/
theorem qy_sp69 {post : SY → Prop} {J5 : Int32 → Int32 → (Nat → Int32) → (Nat → Int32) → (Nat → Int32) → (Nat → Int32) → (Nat → Int32) → (Nat → Int32) → Prop} {J19 : Int32 → Int32 → Int32 → (Nat → Int32) → (Nat → Int32) → (Nat → Int32) → (Nat → Int32) → (Nat → Int32) → (Nat → Int32) → Prop} {R I0 : Nat → Prop} {M0 : Nat → Int32} {C : Prop} {w x1 : Int32} {j m : Nat} (hc : c ≤ 24) (V : qz_va K F S) (hj : j < 16 * c) (hm : m < 16) (hR : ∀ q, qz_nx c K F (j / 16) q → R (16 * q + m)) (I : qz_SI R I0 M) (G : qz_GC M0 fm M C)
    (h : ∀ fm' M', qz_SI R I0 M' → qz_GC M0 fm' M' (C ∧ ∀ q, qz_nx c K F (j / 16) q → ¬ M0 (16 * q + m) = 0) → J19 (nI (j + 1)) (nI c) fm' K F S M' U D) : wY_spread_69 post J5 J19 x1 (nI j) (nI m) (nI c) fm K F S M U D := by
  have ed : nI j / 16 = nI (j / 16) := pk_div (d := 16) (by omega) (by omega) (by omega)
  have hp : j / 16 < 24 := by omega
  unfold wY_spread_69
  rw [ed]
  refine ⟨by decide, qy_next0 hp hc V (fun r0 h0 => qy_meet hc h0 (fun a z => z.1) hm (fun fm1 M1 h1 => ⟨by decide, qy_next1 hp hc V (fun r1 h1' => qy_meet hc h1' (fun a z => z.1) hm (fun fm2 M2 h2 => nm_r (nI_1 j) ?_))⟩))⟩
  have S1 : qz_SI R I0 M1 ∧ qz_GC M0 fm1 M1 (C ∧ ∀ q, qz_p0 c K F (j / 16) q → ¬ M0 (16 * q + m) = 0) := by
    rcases h1 with ⟨e1, e2, ha⟩ | ⟨a, ha, ua, z, e1, e2⟩
    · subst e1
      subst e2
      exact ⟨I, qz_GC_m G (fun e hC => ⟨hC, fun q hq => by rw [← e]; exact ha q hq⟩)⟩
    · subst e1
      subst e2
      have hac := ha.1
      exact ⟨qz_SI_up I (hR a (qz_nx_y.mpr (Or.inl ha))), qz_GC_up G (by omega) z⟩
  have S2 : qz_SI R I0 M2 ∧ qz_GC M0 fm2 M2 (C ∧ ∀ q, qz_nx c K F (j / 16) q → ¬ M0 (16 * q + m) = 0) := by
    rcases h2 with ⟨e1, e2, ha⟩ | ⟨a, ha, ua, z, e1, e2⟩
    · subst e1
      subst e2
      refine ⟨S1.1, qz_GC_m S1.2 (fun e hC => ⟨hC.1, fun q hq => ?_⟩)⟩
      rcases qz_nx_y.mp hq with y | y
      · exact hC.2 q y
      · rw [← e]; exact ha q y
    · subst e1
      subst e2
      have hac := ha.1
      exact ⟨qz_SI_up S1.1 (hR a (qz_nx_y.mpr (Or.inr ha))), qz_GC_up S1.2 (by omega) z⟩
  exact h _ _ S2.1 S2.2
theorem qy_sp19 {post : SY → Prop} {J5 : Int32 → Int32 → (Nat → Int32) → (Nat → Int32) → (Nat → Int32) → (Nat → Int32) → (Nat → Int32) → (Nat → Int32) → Prop} {I0 : Nat → Prop} {M0 : Nat → Int32} {w : Nat} (hc : c ≤ 24) (V : qz_va K F S) (hw : w < 3)
    (h : ∀ fm' M', qz_SI (qz_R I0 (qz_ye c K F S w)) I0 M' → qz_GC M0 fm' M' (∀ j, j < 16 * c → ¬ M0 j = 0 → ∀ k, qz_ye c K F S w j k → ¬ M0 k = 0) → J5 (nI c) fm' K F S M' U D) :
    ∀ d j, j + d = 16 * c → ∀ fm' M', qz_SI (qz_R I0 (qz_ye c K F S w)) I0 M' → qz_GC M0 fm' M' (∀ j', j' < j → ¬ M0 j' = 0 → ∀ k, qz_ye c K F S w j' k → ¬ M0 k = 0) → wY_spread_19 post J5 (nI w) (d + 1) (nI j) (nI c) fm' K F S M' U D := by
  have e16 : (16 : Int32) * nI c = nI (16 * c) := by
    show nI 16 * nI c = _
    rw [pk_mul]
  intro d
  induction d with
  | zero =>
    intro j hj fm' M' I G
    have : j = 16 * c := by omega
    subst this
    refine pk_le (16 * c) (16 * c) (fun _ => h _ _ I G) (fun z => by omega) e16
  | succ d ih =>
    intro j hj fm' M' I G
    have hj384 : j < 384 := by omega
    have skip : (M' = M0 → ∀ k, ¬ M0 j = 0 → qz_ye c K F S w j k → ¬ M0 k = 0) → wY_spread_19 post J5 (nI w) (d + 1) (nI (j + 1)) (nI c) fm' K F S M' U D := by
      intro hk
      refine ih (j + 1) (by omega) fm' M' I (qz_GC_m G (fun e hC j' hj' z k y => ?_))
      by_cases e2 : j' = j
      · subst e2; exact hk e k z y
      · exact hC j' (by omega) z k y
    refine pk_le (16 * c) j (fun z => by omega) (fun _ => ⟨vp_in_nI hj384 (by omega), ?_⟩) e16
    rw [nI_clamp (by omega)]
    refine br_c (fun z => ?_) (fun z => ⟨by decide, by decide, ?_⟩)
    · exact br_f (by decide) (br_f (by decide) (nm_r (nI_1 j) (skip (fun e k y => by rw [e] at z; exact absurd z y))))
    · have ed : nI j / 16 = nI (j / 16) := pk_div (d := 16) (by omega) (by omega) (by omega)
      have er : nI j - nI j / 16 * 16 = nI (j % 16) := pk_rem (d := 16) (by omega) (by omega) (by omega)
      rw [er, ed]
      refine qy_after (by omega) (Nat.mod_lt _ (by omega)) hw V (fun m hm => ?_)
      have hm16 := qz_aw_lt hm
      have J69 : (m ≠ 0 ∨ w ≠ 0) → wY_spread_69 post J5 (wY_spread_19 post J5 (nI w) (d + 1)) (nI w) (nI j) (nI m) (nI c) fm' K F S M' U D := by
        intro hmw
        refine qy_sp69 (w := 0) hc V (by omega) hm16 (fun q hq => qz_R1 (I.1 j hj384 z) ⟨by omega, q, m, hq, hm, hmw, rfl⟩) I G (fun fm2 M2 I2 G2 => ih (j + 1) (by omega) fm2 M2 I2 (qz_GC_m G2 (fun e hC j' hj' z' k y => ?_)))
        by_cases e2 : j' = j
        · subst e2
          obtain ⟨_, q, m', hq, hm', _, rfl⟩ := y
          rw [qz_aw_u hm' hm]
          exact hC.2 q hq
        · exact hC.1 j' (by omega) z' k y
      unfold wY_spread_56
      refine pk_lt 0 m (fun y => J69 (Or.inl (by omega))) (fun y => ?_)
      have m0 : m = 0 := by omega
      refine br_t (by rw [m0]; rfl) (pk_le w 0 (fun x => nm_r (nI_1 j) (skip (fun e k _ y => ?_))) (fun x => J69 (Or.inr (by omega))))
      obtain ⟨_, q, m', hq, hm', hmw, _⟩ := y
      rw [qz_aw_u hm' hm] at hmw
      exfalso
      rcases hmw with hmw | hmw
      · exact hmw m0
      · exact hmw (by omega)
/-- met, by what is reached -/
def qz_mt (R : Nat → Prop) (M : Nat → Int32) : Prop := ∀ j, j < 384 → (¬ M j = 0 ↔ R j)
theorem qy_sp5 {post : SY → Prop} {I0 : Nat → Prop} {w : Nat} (hc : c ≤ 24) (V : qz_va K F S) (hw : w < 3) (hI : ∀ j, I0 j → j < 16 * c)
    (h : ∀ fm' M', qz_mt (qz_R I0 (qz_ye c K F S w)) M' → post (nI c, fm', K, F, S, M', U, D)) :
    ∀ n M', qz_SI (qz_R I0 (qz_ye c K F S w)) I0 M' → 385 - qz_ct M' ≤ n → wY_spread_5 post (nI w) (n + 1) (nI c) 1 K F S M' U D := by
  intro n
  induction n with
  | zero =>
    intro M' I hn
    have := qz_ct_b M'
    omega
  | succ n ih =>
    intro M' I hn
    have hb := qz_ct_b M'
    refine br_f (by decide) ⟨16 * c + 1, ?_⟩
    refine qy_sp19 (M0 := M') hc V hw (fun fm2 M2 I2 G => ?_) (16 * c) 0 (by omega) 0 M' I (Or.inl ⟨rfl, rfl, fun j' hj' => by omega⟩)
    rcases G with ⟨g0, e1, c1⟩ | ⟨g1, G⟩
    · subst e1
      rw [g0]
      refine br_t rfl (h _ _ (fun j hj => ⟨I2.1 j hj, fun z => ?_⟩))
      refine qz_Ri (P := fun j => j < 16 * c ∧ ¬ M2 j = 0) (fun t ht => ⟨hI t ht, I2.2 t ht⟩) (fun s t _ hs e => ⟨?_, c1 s hs.1 hs.2 t e⟩) z |>.2
      obtain ⟨_, q, m, hq, hm, _, rfl⟩ := e
      have := hq.1
      have := qz_aw_lt hm
      omega
    · rw [g1]
      exact ih M2 I2 (by omega)
theorem qy_spread {post : SY → Prop} {I0 : Nat → Prop} {w : Nat} (hc : c ≤ 24) (V : qz_va K F S) (hw : w < 3) (hI : ∀ j, I0 j → j < 16 * c) (I : qz_SI (qz_R I0 (qz_ye c K F S w)) I0 M)
    (h : ∀ fm' M', qz_mt (qz_R I0 (qz_ye c K F S w)) M' → post (nI c, fm', K, F, S, M', U, D)) : wpY_spread post (nI c, fm, K, F, S, M, U, D) (nI w) :=
  ⟨386, qy_sp5 hc V hw hI h 385 M I (Nat.sub_le _ _)⟩
theorem qy_clear {post : SY → Prop} (h : ∀ M' : Nat → Int32, (∀ j, j < 384 → M' j = 0) → post (nI c, fm, K, F, S, M', U, D)) : wpY_clear post (nI c, fm, K, F, S, M, U, D) := by
  unfold wpY_clear
  refine loop_0 (fun n i (M' : Nat → Int32) => wY_clear_2 post (nI c) fm n (nI i) K F S M' U D) (fun i M' => ∀ j, j < i → M' j = 0) 384 M (fun j hj => by omega) ?_ ?_
  · intro n M' hM
    exact br_t (nI_le (Nat.le_refl 384) (by omega)) (h M' hM)
  · intro n j M' hj hM hk
    refine br_f (nI_ge (b := 384) hj (by omega)) ⟨vp_in_nI hj (by omega), nm_e (nm_r (nI_1 j) (hk _ ?_))⟩
    intro t ht
    rw [nI_clamp (by omega), qz_nb0]
    by_cases z : t = j
    · rw [z, pk_us]
    · rw [pk_un z]; exact hM t (by omega)
theorem qy_begin {post : SY → Prop} {w : Nat} (hc : c ≤ 24) (V : qz_va K F S) (hw : w < 3) (h : ∀ fm' M', qz_mt (qz_yb c K F S w) M' → post (nI c, fm', K, F, S, M', U, D)) : wpY_fromBegin post (nI c, fm, K, F, S, M, U, D) (nI w) := by
  unfold wpY_fromBegin
  refine qy_clear (fun M1 h1 => pk_le c 0 (fun z => ?_) (fun z => nm_e ?_))
  · refine qy_spread (I0 := fun j => j = 0 ∧ 0 < c) hc V hw (fun j hj => by have := hj.1; have := hj.2; omega) ⟨fun j hj y => absurd (h1 j hj) y, fun j hj => by have := hj.2; omega⟩ h
  · rw [qz_nb1]
    refine qy_spread (I0 := fun j => j = 0 ∧ 0 < c) hc V hw (fun j hj => by have := hj.1; have := hj.2; omega) ⟨fun j hj y => ?_, fun j hj => ?_⟩ h
    · by_cases e : j = 0
      · exact qz_R0 ⟨e, z⟩
      · rw [pk_un e] at y
        exact absurd (h1 j hj) y
    · rw [hj.1, pk_us]; decide
theorem qy_met2 {post : Int32 → Prop} {p : Nat} (hp : p < 24) (h1 : (∃ s, s < 16 ∧ ¬ M (16 * p + s) = 0) → post 1) (h0 : ¬ (∃ s, s < 16 ∧ ¬ M (16 * p + s) = 0) → post 0) :
    ∀ d s, s + d = 16 → (∀ s', s' < s → M (16 * p + s') = 0) → wY_isMet_2 post (nI p) (nI c) fm K F S M U D (d + 1) (nI s) := by
  intro d
  induction d with
  | zero =>
    intro s hs hn
    have : s = 16 := by omega
    subst this
    refine br_t (nI_le (Nat.le_refl 16) (by omega)) (h0 ?_)
    rintro ⟨s, hs, z⟩
    exact z (hn s hs)
  | succ d ih =>
    intro s hs hn
    refine br_f (nI_ge (b := 16) (by omega) (by omega)) ?_
    rw [qz_x16, nI_clamp (by omega)]
    refine ⟨vp_in_nI (by omega) (by omega), br_c (fun z => nm_r (nI_1 s) (ih (s + 1) (by omega) (fun s' hs' => ?_))) (fun z => h1 ⟨s, by omega, z⟩)⟩
    by_cases e : s' = s
    · rw [e]; exact z
    · exact hn s' (by omega)
theorem qy_reached {post : Int32 → SY → Prop} (hc : c ≤ 24) (V : qz_va K F S) (x : Int32)
    (h1 : ∀ p, p < c → x = nI p → qz_re c K F p → ∀ fm' M', post 1 (nI c, fm', K, F, S, M', U, D))
    (h0 : (∀ p, p < c → x = nI p → ¬ qz_re c K F p) → ∀ fm' M', post 0 (nI c, fm', K, F, S, M', U, D)) : wpY_reached post (nI c, fm, K, F, S, M, U, D) x := by
  unfold wpY_reached
  refine qy_begin (w := 1) hc V (by omega) (fun fm1 M1 mt => qy_pt hc x (fun p hp e => br_f (by decide) ?_) (fun no => br_t rfl (h0 (fun p hp e => absurd e (no p hp)) _ _)))
  subst e
  have eqv : (∃ s, s < 16 ∧ ¬ M1 (16 * p + s) = 0) ↔ qz_re c K F p := by
    rw [← qz_met_re (S := S)]
    constructor
    · rintro ⟨s, hs, z⟩
      exact ⟨s, hs, (mt _ (by omega)).mp z⟩
    · rintro ⟨s, hs, z⟩
      exact ⟨s, hs, (mt _ (by omega)).mpr z⟩
  refine ⟨17, qy_met2 (by omega) (fun z => br_f (by decide) (h1 p hp rfl (eqv.mp z) _ _)) (fun z => br_t rfl (h0 (fun p' hp' e y => ?_) _ _)) 16 0 rfl (fun s' hs' => by omega)⟩
  have : p = p' := (nI_eq (by omega) (by omega)).mp e
  rw [← this] at y
  exact z (eqv.mpr y)
theorem qy_makes {post : Int32 → Prop} {p : Nat} (hp : p < 24) (h1 : qz_mk K p → post 1) (h0 : ¬ qz_mk K p → post 0) : wpY_makes post (nI c, fm, K, F, S, M, U, D) (nI p) := by
  unfold wpY_makes
  have i := qz_i24 hp
  simp only [qz_c24 hp]
  exact ⟨i, br_c (fun z => h1 (Or.inl z)) (fun a => ⟨i, br_c (fun z => h1 (Or.inr z)) (fun b => h0 (fun z => by
    rcases z with z | z
    · exact a z
    · exact b z))⟩)⟩
theorem qy_follow {post : Int32 → SY → Prop} {b : Nat} (hc : c ≤ 24) (V : qz_va K F S) (hb : b < c)
    (h1 : qz_mk K b → qz_re c K F b → ∀ fm' M', qz_mt (qz_yf c K F S b) M' → post 1 (nI c, fm', K, F, S, M', U, D))
    (h0 : ¬ (qz_mk K b ∧ qz_re c K F b) → ∀ fm' M', post 0 (nI c, fm', K, F, S, M', U, D)) : wpY_follow post (nI c, fm, K, F, S, M, U, D) (nI b) := by
  have hb24 : b < 24 := by omega
  unfold wpY_follow
  refine qy_makes hb24 (fun mk => br_f (by decide) (qy_reached hc V (nI b) (fun p hp e re fm1 M1 => br_f (by decide) ?_) (fun no fm1 M1 => br_t rfl (h0 (fun z => no b hb rfl z.2) _ _)))) (fun mk => br_t rfl (h0 (fun z => mk z.1) _ _))
  have ep : b = p := (nI_eq (by omega) (by omega)).mp e
  rw [← ep] at re
  obtain ⟨x, hx, ex⟩ : ∃ x, x < 4 ∧ F b = nI x := by
    rcases mk with k | k
    · exact (qz_va_b V (Or.inl k)).1
    · exact (qz_va_b V (Or.inr (Or.inl k))).1
  refine qy_clear (fun M2 hM2 => ⟨qz_i24 hb24, ?_⟩)
  rw [qz_c24 hb24, ex, (qz_pow4 x hx).1]
  refine nm_e (qy_next0 hb24 hc V (fun r hr => qy_meet hc hr (fun a z => z.1) (qz_pow_lt hx) (fun fm3 M3 h3 => ?_)))
  have nx0 : ∀ q, qz_nx c K F b q → qz_p0 c K F b q := by
    intro q hq
    rcases qz_nx_y.mp hq with z | z
    · exact z
    · exfalso
      have z10 := z.2.1
      unfold qz_mk at mk
      rw [z10] at mk
      exact absurd mk (by decide)
  have hI : ∀ j, (∃ q x, qz_nx c K F b q ∧ x < 4 ∧ F b = nI x ∧ j = 16 * q + 2 ^ x) → j < 16 * c := by
    rintro j ⟨q, y, hq, hy, _, rfl⟩
    have := hq.1
    have := qz_pow_lt hy
    omega
  refine qy_spread (w := 0) (I0 := fun j => ∃ q x, qz_nx c K F b q ∧ x < 4 ∧ F b = nI x ∧ j = 16 * q + 2 ^ x) hc V (by omega) hI ?_ (fun fm4 M4 mt => h1 mk re _ _ mt)
  rcases h3 with ⟨_, e2, ha⟩ | ⟨a, ha, ua, z, _, e2⟩
  · subst e2
    refine ⟨fun j hj y => absurd (hM2 j hj) y, ?_⟩
    rintro j ⟨q, y, hq, hy, ey, rfl⟩
    have : x = y := (qz_ne hx hy).mp (ex.symm.trans ey)
    rw [← this]
    exact ha q (nx0 q hq)
  · subst e2
    refine ⟨fun j hj y => ?_, ?_⟩
    · by_cases e : j = 16 * a + 2 ^ x
      · exact qz_R0 ⟨a, x, qz_nx_y.mpr (Or.inl ha), hx, ex, e⟩
      · rw [pk_un e] at y
        exact absurd (hM2 j hj) y
    · rintro j ⟨q, y, hq, hy, ey, rfl⟩
      have : x = y := (qz_ne hx hy).mp (ex.symm.trans ey)
      rw [← this, ua q (nx0 q hq), pk_us]
      decide
end
