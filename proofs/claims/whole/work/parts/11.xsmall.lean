/-! ===== X: the small methods ===== -/
section
variable {c : Nat} {fq : Int32} {K F S sn lo em lv Q L : Nat → Int32} {post : Int32 → Prop}
theorem qx_ref (x : Int32) (h1 : ∀ a, a < 4 → x = nI a → post 1) (h0 : (∀ a, a < 4 → x ≠ nI a) → post 0) : wpX_isReference post (nI c, fq, K, F, S, sn, lo, em, lv, Q, L) x := qz_rng x 4 (by omega) h1 h0
theorem qx_own (x : Int32) (h1 : ∀ a, a < 4 → x = nI a → post 1) (h0 : (∀ a, a < 4 → x ≠ nI a) → post 0) : wpX_isOwner post (nI c, fq, K, F, S, sn, lo, em, lv, Q, L) x := qz_rng x 4 (by omega) h1 h0
theorem qx_pt (hc : c ≤ 24) (x : Int32) (h1 : ∀ a, a < c → x = nI a → post 1) (h0 : (∀ a, a < c → x ≠ nI a) → post 0) : wpX_isPoint post (nI c, fq, K, F, S, sn, lo, em, lv, Q, L) x := qz_rng x c (by omega) h1 h0
theorem qx_act (k x y : Int32) (h1 : qz_ok k x y → post 1) (h0 : ¬ qz_ok k x y → post 0) : wpX_isAction post (nI c, fq, K, F, S, sn, lo, em, lv, Q, L) k x y := by
  refine qz_rngL k 11 (by omega) (fun n hn e => ?_) (fun h => h0 (fun z => ?_))
  · subst e
    have A : (n < 3 ∨ n = 7 ∨ n = 8) → wX_isAction_64 post x (nI c) fq K F S sn lo em lv Q L := fun hh =>
      qx_own x (fun a ha e => ⟨rfl, h1 ((qz_okA hh).mpr ⟨a, ha, e⟩)⟩) (fun z => ⟨rfl, h0 (fun w => by
        obtain ⟨a, ha, e⟩ := (qz_okA hh).mp w
        exact z a ha e)⟩)
    have A' : (n < 3 ∨ n = 7 ∨ n = 8) → wX_isAction_114 post x (nI c) fq K F S sn lo em lv Q L := fun hh =>
      qx_ref x (fun a ha e => ⟨rfl, h1 ((qz_okA hh).mpr ⟨a, ha, e⟩)⟩) (fun z => ⟨rfl, h0 (fun w => by
        obtain ⟨a, ha, e⟩ := (qz_okA hh).mp w
        exact z a ha e)⟩)
    have B : 3 ≤ n → n ≤ 6 → wX_isAction_70 post x y (nI c) fq K F S sn lo em lv Q L := fun hh hh' =>
      qx_ref x (fun a ha e => br_f (by decide) (qx_own y (fun b hb e' => br_f (by decide) (h1 ((qz_okB hh hh').mpr ⟨⟨a, ha, e⟩, b, hb, e'⟩))) (fun z => br_t rfl (h0 (fun w => by
        obtain ⟨_, b, hb, e⟩ := (qz_okB hh hh').mp w
        exact z b hb e))))) (fun z => br_t rfl (h0 (fun w => by
        obtain ⟨⟨a, ha, e⟩, _⟩ := (qz_okB hh hh').mp w
        exact z a ha e)))
    have B' : 3 ≤ n → n ≤ 6 → wX_isAction_92 post x y (nI c) fq K F S sn lo em lv Q L := fun hh hh' =>
      qx_ref x (fun a ha e => br_f (by decide) (qx_ref y (fun b hb e' => br_f (by decide) (h1 ((qz_okB hh hh').mpr ⟨⟨a, ha, e⟩, b, hb, e'⟩))) (fun z => br_t rfl (h0 (fun w => by
        obtain ⟨_, b, hb, e⟩ := (qz_okB hh hh').mp w
        exact z b hb e))))) (fun z => br_t rfl (h0 (fun w => by
        obtain ⟨⟨a, ha, e⟩, _⟩ := (qz_okB hh hh').mp w
        exact z a ha e)))
    have C : (n = 9 ∨ n = 10) → wX_isAction_120 post x (nI c) fq K F S sn lo em lv Q L := fun hh =>
      qz_rngL x 24 (by omega) (fun a ha e => h1 ((qz_okC hh).mpr ⟨a, ha, e⟩)) (fun z => h0 (fun w => by
        obtain ⟨a, ha, e⟩ := (qz_okC hh).mp w
        exact z a ha e))
    exact pk_eq n 0 (fun _ => A (by omega)) (fun _ => pk_eq n 1 (fun _ => A (by omega)) (fun _ => pk_eq n 2 (fun _ => A (by omega)) (fun _ => pk_eq n 3 (fun _ => B (by omega) (by omega)) (fun _ => pk_eq n 4 (fun _ => B (by omega) (by omega)) (fun _ => pk_eq n 5 (fun _ => B' (by omega) (by omega)) (fun _ => pk_eq n 6 (fun _ => B' (by omega) (by omega)) (fun _ => pk_eq n 7 (fun _ => A' (by omega)) (fun _ => pk_eq n 8 (fun _ => A' (by omega)) (fun _ => pk_eq n 9 (fun _ => C (by omega)) (fun _ => pk_eq n 10 (fun _ => C (by omega)) (fun _ => pk_eq n 11 (fun e => h1 (by rw [e]; exact qz_okD)) (fun _ => trivial))))))))))))
  · obtain ⟨n, hn, e⟩ := qz_ok12 z
    exact h n (by omega) e
theorem qx_jump {p : Nat} (hp : p < 24) (hc : c ≤ 24) (V : qz_va K F S) (h : ∀ r, qz_op (qz_xj c K F p) (-3) r → post r) : wpX_jumpBehind post (nI c, fq, K, F, S, sn, lo, em, lv, Q, L) (nI p) := by
  have e := qz_c24 hp
  have i := qz_i24 hp
  have J : (K p = 9 ∨ K p = 10) → wX_jumpBehind_22 post (nI p) (nI c) fq K F S sn lo em lv Q L := by
    intro hk
    unfold wX_jumpBehind_22 wX_jumpBehind_27
    rw [e]
    obtain ⟨a, ha, ea⟩ := qz_va_g V hk
    refine br_f (by decide) ⟨i, pk_le c a (fun z => h _ (Or.inl ⟨rfl, ?_⟩)) (fun z => ⟨i, h _ (Or.inr ⟨a, ea, ⟨z, hk, ea⟩, ?_⟩)⟩) rfl ea⟩
    · rintro q ⟨hq, _, eq⟩
      have := (nI_eq (by omega) (by omega)).mp (ea.symm.trans eq)
      omega
    · rintro q ⟨hq, _, eq⟩
      exact ((nI_eq (by omega) (by omega)).mp (ea.symm.trans eq)).symm
  unfold wpX_jumpBehind
  simp only [e]
  refine ⟨i, br_c (fun hk => J (Or.inl hk)) (fun h9 => ⟨i, br_c (fun hk => J (Or.inr hk)) (fun h10 => ?_)⟩)⟩
  refine br_t rfl (h _ (Or.inl ⟨rfl, ?_⟩))
  rintro q ⟨_, hk | hk, _⟩
  · exact h9 hk
  · exact h10 hk
theorem qx_next {p : Nat} (hp : p < 24) (hc : c ≤ 24) (h : ∀ r, qz_op (qz_xn c K p) (-3) r → post r) : wpX_nextBehind post (nI c, fq, K, F, S, sn, lo, em, lv, Q, L) (nI p) := by
  have e := qz_c24 hp
  have i := qz_i24 hp
  have J : (K p = 9 ∨ K p = 11) → wX_nextBehind_22 post (nI p) (nI c) fq K F S sn lo em lv Q L := by
    intro hk
    refine br_f (by decide) (h _ (Or.inl ⟨rfl, ?_⟩))
    rintro q ⟨_, _, h9, h11⟩
    rcases hk with hk | hk
    · exact h9 hk
    · exact h11 hk
  unfold wpX_nextBehind
  simp only [e]
  refine ⟨i, br_c (fun hk => J (Or.inl hk)) (fun h9 => ⟨i, br_c (fun hk => J (Or.inr hk)) (fun h11 => ?_)⟩)⟩
  unfold wX_nextBehind_27
  rw [nI_1]
  refine br_t rfl (pk_le c (p + 1) (fun z => h _ (Or.inl ⟨rfl, ?_⟩)) (fun z => h _ (Or.inr ⟨p + 1, rfl, ⟨z, rfl, h9, h11⟩, fun q hq => hq.2.1⟩)))
  rintro q ⟨hq, eq, _⟩
  omega
theorem qx_empty {p : Nat} (hp : p < 24) (V : qz_va K F S) (h : ∀ x, (∀ o, o < 4 → (bt x o = true ↔ qz_ea K F em p o)) → post x) : wpX_emptyAfter post (nI c, fq, K, F, S, sn, lo, em, lv, Q, L) (nI p) := by
  have e := qz_c24 hp
  have i := qz_i24 hp
  unfold wpX_emptyAfter
  simp only [e]
  refine ⟨i, br_c (fun k0 => ⟨i, i, h _ ?_⟩) (fun k0 => ⟨i, br_c (fun k2 => ⟨i, i, h _ ?_⟩) (fun k2 => ⟨i, h _ ?_⟩)⟩)⟩
  · obtain ⟨a, ha, ea⟩ := qz_va_a V (Or.inl k0)
    intro o ho
    rw [ea, qz_clr _ a (by omega) (by omega)]
    unfold qz_ea
    rw [ea, qz_ne ha ho, k0]
    constructor
    · rintro ⟨h1, h2⟩
      exact Or.inr ⟨h1, fun z => h2 z.2.symm⟩
    · rintro (⟨z, _⟩ | ⟨h1, h2⟩)
      · exact absurd z (by decide)
      · exact ⟨h1, fun z => h2 ⟨rfl, z.symm⟩⟩
  · obtain ⟨a, ha, ea⟩ := qz_va_a V (Or.inr (Or.inr (Or.inl k2)))
    intro o ho
    rw [ea, qz_set _ a (by omega) (by omega)]
    unfold qz_ea
    rw [ea, qz_ne ha ho, k2]
    constructor
    · rintro (h1 | h1)
      · exact Or.inr ⟨h1, fun z => absurd z.1 (by decide)⟩
      · exact Or.inl ⟨rfl, h1.symm⟩
    · rintro (⟨_, z⟩ | ⟨h1, _⟩)
      · exact Or.inr z.symm
      · exact Or.inl h1
  · intro o ho
    unfold qz_ea
    constructor
    · intro h1
      exact Or.inr ⟨h1, fun z => k0 z.1⟩
    · rintro (⟨z, _⟩ | ⟨h1, _⟩)
      · exact absurd z k2
      · exact h1
theorem qx_uses {p r : Nat} (hp : p < 24) (h1 : K p = 7 → F p = nI r → post 1) (h0 : ¬ (K p = 7 ∧ F p = nI r) → post 0) : wpX_usesReference post (nI c, fq, K, F, S, sn, lo, em, lv, Q, L) (nI p) (nI r) := by
  have e := qz_c24 hp
  have i := qz_i24 hp
  unfold wpX_usesReference
  simp only [e]
  exact ⟨i, br_c (fun k7 => ⟨i, br_c (fun ef => h1 k7 ef) (fun ef => h0 (fun z => ef z.2))⟩) (fun k7 => h0 (fun z => k7 z.1))⟩
theorem qx_loans {p r : Nat} (hp : p < 24) (hr : r < 4) (V : qz_va K F S) (h : ∀ x, (∀ l, bt x l = true ↔ qz_la K F S lo p r l) → post x) : wpX_loansAfter post (nI c, fq, K, F, S, sn, lo, em, lv, Q, L) (nI p) (nI r) := by
  have e := qz_c24 hp
  have i := qz_i24 hp
  have i96 : ∀ r', r' < 4 → vp_in (nI p * 4 + nI r') 96 := fun r' hr' => by rw [qz_x4]; exact vp_in_nI (by omega) (by omega)
  have c96 : ∀ r', r' < 4 → (nI p * 4 + nI r').toNatClampNeg = p * 4 + r' := fun r' hr' => by rw [qz_x4]; exact nI_clamp (by omega)
  -- r keeps what it held
  have keep : (qz_hr K F S p r r) → wX_loansAfter_107 post (nI p) (nI r) (nI c) fq K F S sn lo em lv Q L := by
    intro hh
    unfold wX_loansAfter_107
    rw [c96 r hr]
    refine ⟨i96 r hr, h _ (fun l => ?_)⟩
    constructor
    · intro hb
      exact Or.inr (Or.inr ⟨r, hr, hh, hb⟩)
    · rintro (⟨m, ef, _⟩ | ⟨nu, _⟩ | ⟨r0, hr0, h0, hb⟩)
      · exact absurd ef (qz_hr_mk hh m)
      · exact (qz_nu_hr hr nu hh).elim
      · rw [← qz_hr_u hr hr0 hh h0] at hb
        exact hb
  have frmS : ∀ y, y < 4 → S p = nI y → qz_hr K F S p y r → vp_in (nI p * 4 + S p) 96 ∧ post (lo (nI p * 4 + S p).toNatClampNeg) := by
    intro y hy ey hh
    rw [ey, c96 y hy]
    refine ⟨i96 y hy, h _ (fun l => ?_)⟩
    constructor
    · intro hb
      exact Or.inr (Or.inr ⟨y, hy, hh, hb⟩)
    · rintro (⟨m, ef, _⟩ | ⟨nu, _⟩ | ⟨r0, hr0, h0, hb⟩)
      · exact absurd ef (qz_hr_mk hh m)
      · exact (qz_nu_hr hy nu hh).elim
      · rw [← qz_hr_u hy hr0 hh h0] at hb
        exact hb
  have none' : qz_nu K F S p r → post 16777216 := by
    intro nu
    refine h _ (fun l => ?_)
    rw [qz_b24]
    constructor
    · intro hl
      exact Or.inr (Or.inl ⟨nu, hl⟩)
    · rintro (⟨m, _⟩ | ⟨_, hl⟩ | ⟨r0, hr0, h0, _⟩)
      · exact (qz_nu_mk nu m).elim
      · exact hl
      · exact (qz_nu_hr hr0 nu h0).elim
  have new' : qz_mk K p → F p = nI r → post ((1 : Int32) <<< (nI p &&& 31)) := by
    intro m ef
    refine h _ (fun l => ?_)
    rw [qz_bshA (by omega)]
    constructor
    · intro hl
      exact Or.inl ⟨m, ef, hl⟩
    · rintro (⟨_, _, hl⟩ | ⟨nu, _⟩ | ⟨r0, _, h0, _⟩)
      · exact hl
      · exact (qz_nu_mk nu m).elim
      · exact absurd ef (qz_hr_mk h0 m)
  have L89 : (F p ≠ nI r ∨ (K p ≠ 3 ∧ K p ≠ 4 ∧ K p ≠ 5 ∧ K p ≠ 6 ∧ K p ≠ 8)) → (K p = 5 → F p ≠ nI r) → wX_loansAfter_89 post (nI p) (nI r) (K p) (nI c) fq K F S sn lo em lv Q L := by
    intro hf hf5
    unfold wX_loansAfter_89
    rw [e]
    refine br_c (fun k5 => ⟨i, br_c (fun es => none' (Or.inr ⟨k5, es, hf5 k5⟩)) (fun es => keep ⟨hr, Or.inl ⟨Or.inl k5, Or.inr ⟨es, hf5 k5, rfl⟩⟩⟩)⟩) (fun k5 => keep ?_)
    refine ⟨hr, ?_⟩
    by_cases k6 : K p = 6
    · have hf6 : F p ≠ nI r := by
        rcases hf with hf | hf
        · exact hf
        · exact absurd k6 hf.2.2.2.1
      by_cases es : S p = nI r
      · exact Or.inl ⟨Or.inr k6, Or.inl ⟨es, Or.inr ⟨k6, rfl⟩⟩⟩
      · exact Or.inl ⟨Or.inr k6, Or.inr ⟨es, hf6, rfl⟩⟩
    · by_cases k3 : K p = 3 ∨ K p = 4 ∨ K p = 8
      · refine Or.inr (Or.inl ⟨k3, ?_, rfl⟩)
        rcases hf with hf | hf
        · exact hf
        · rcases k3 with k | k | k
          · exact absurd k hf.1
          · exact absurd k hf.2.1
          · exact absurd k hf.2.2.2.2
      · exact Or.inr (Or.inr ⟨⟨fun z => k3 (Or.inl z), fun z => k3 (Or.inr (Or.inl z)), k5, k6, fun z => k3 (Or.inr (Or.inr z))⟩, rfl⟩)
  unfold wpX_loansAfter
  simp only [e]
  refine ⟨i, nm_e ⟨i, br_c (fun ef => ?_) (fun ef => ?_)⟩⟩
  · -- F p = nI r
    unfold wX_loansAfter_22
    have L43 : K p ≠ 3 → K p ≠ 4 → wX_loansAfter_43 post (nI p) (nI r) (K p) 1 (nI c) fq K F S sn lo em lv Q L := by
      intro k3 k4
      unfold wX_loansAfter_43 wX_loansAfter_57
      refine br_c (fun k8 => br_f (by decide) (none' (Or.inl ⟨k8, ef⟩))) (fun k8 => ?_)
      have L68 : (K p = 5 ∨ K p = 6) → wX_loansAfter_68 post (nI p) (nI r) (K p) 1 (nI c) fq K F S sn lo em lv Q L := by
        intro k56
        unfold wX_loansAfter_68
        rw [e]
        obtain ⟨_, y, hy, ey⟩ := qz_va_b V (Or.inr (Or.inr k56))
        exact br_f (by decide) ⟨i, frmS y hy ey ⟨hr, Or.inl ⟨k56, Or.inl ⟨ey, Or.inl ef⟩⟩⟩⟩
      refine br_c (fun k5 => L68 (Or.inl k5)) (fun k5 => br_c (fun k6 => L68 (Or.inr k6)) (fun k6 => L89 (Or.inr ⟨k3, k4, k5, k6, k8⟩) (fun z => absurd z k5)))
    have L34 : qz_mk K p → wX_loansAfter_34 post (nI p) (nI r) (K p) 1 (nI c) fq K F S sn lo em lv Q L := by
      intro m
      unfold wX_loansAfter_34
      exact br_f (by decide) (new' m ef)
    exact br_c (fun k3 => L34 (Or.inl k3)) (fun k3 => br_c (fun k4 => L34 (Or.inr k4)) (fun k4 => L43 k3 k4))
  · have L89' : wX_loansAfter_89 post (nI p) (nI r) (K p) (nI c) fq K F S sn lo em lv Q L := L89 (Or.inl ef) (fun _ => ef)
    have L68 : wX_loansAfter_68 post (nI p) (nI r) (K p) 0 (nI c) fq K F S sn lo em lv Q L := br_t rfl L89'
    have L57 : wX_loansAfter_57 post (nI p) (nI r) (K p) 0 (nI c) fq K F S sn lo em lv Q L := br_c (fun _ => L68) (fun _ => br_c (fun _ => L68) (fun _ => L89'))
    have L43 : wX_loansAfter_43 post (nI p) (nI r) (K p) 0 (nI c) fq K F S sn lo em lv Q L := br_c (fun _ => br_t rfl L57) (fun _ => L57)
    have L34 : wX_loansAfter_34 post (nI p) (nI r) (K p) 0 (nI c) fq K F S sn lo em lv Q L := br_t rfl L43
    exact br_c (fun _ => L34) (fun _ => br_c (fun _ => L34) (fun _ => L43))
theorem qx_heirs {p r : Nat} (hp : p < 24) (hr : r < 4) (V : qz_va K F S) (h : ∀ m, m < 16 → (∀ r', r' < 4 → (bt (nI m) r' = true ↔ qz_hr K F S p r r')) → post (nI m)) : wpX_heirs post (nI c, fq, K, F, S, sn, lo, em, lv, Q, L) (nI p) (nI r) := by
  have e := qz_c24 hp
  have i := qz_i24 hp
  have key : ∀ x : Int32, (∀ l, l < 32 → (bt x l = true ↔ (l < 4 ∧ qz_hr K F S p r l))) → post x := by
    intro x hx
    obtain ⟨m, hm, em⟩ := qz_of4 x (fun j hj h4 z => by have := ((hx j hj).mp z).1; omega)
    rw [em]
    refine h m hm (fun r' hr' => ?_)
    rw [← em, hx r' (by omega)]
    exact ⟨fun z => z.2, fun z => ⟨hr', z⟩⟩
  have self' : (∀ r', r' < 4 → (qz_hr K F S p r r' ↔ r' = r)) → post ((1 : Int32) <<< (nI r &&& 31)) := by
    intro hh
    refine key _ (fun l hl => ?_)
    rw [qz_bshA (by omega)]
    constructor
    · intro z
      exact ⟨by omega, (hh l (by omega)).mpr z⟩
    · rintro ⟨z, w⟩
      exact (hh l z).mp w
  have zero' : (∀ r', r' < 4 → ¬ qz_hr K F S p r r') → post 0 := by
    intro hh
    refine key _ (fun l hl => ?_)
    rw [b_0]
    exact ⟨fun z => (by cases z), fun z => absurd z.2 (hh l z.1)⟩
  have L23 : (K p = 5 ∨ K p = 6) → wX_heirs_23 post (nI p) (nI r) (K p) ((1 : Int32) <<< (nI r &&& 31)) (nI c) fq K F S sn lo em lv Q L := by
    intro k56
    obtain ⟨⟨x, hx, ex⟩, y, hy, ey⟩ := qz_va_b V (Or.inr (Or.inr k56))
    unfold wX_heirs_23
    rw [e]
    refine ⟨i, br_c (fun es => ⟨i, ?_⟩) (fun es => ⟨i, br_c (fun ef => zero' ?_) (fun ef => self' ?_)⟩)⟩
    · rw [ex]
      refine nm_e (br_c (fun k5 => key _ (fun l hl => ?_)) (fun k5 => key _ (fun l hl => ?_)))
      · rw [qz_bshA (by omega)]
        constructor
        · intro z
          refine ⟨by omega, by omega, Or.inl ⟨k56, Or.inl ⟨es, Or.inl ?_⟩⟩⟩
          rw [ex, z]
        · rintro ⟨h4, _, (⟨_, ⟨_, z | ⟨z, _⟩⟩ | ⟨z, _⟩⟩ | ⟨z, _⟩ | ⟨z, _⟩)⟩
          · exact ((qz_ne hx h4).mp (ex.symm.trans z)).symm
          · rw [k5] at z; exact absurd z (by decide)
          · exact absurd es z
          · rw [k5] at z; exact absurd z (by decide)
          · exact absurd k5 z.2.2.1
      · have k6 : K p = 6 := by
          rcases k56 with k | k
          · exact absurd k k5
          · exact k
        rw [b_or, Bool.or_eq_true, qz_bshA (by omega), qz_bshA (by omega)]
        constructor
        · rintro (z | z)
          · exact ⟨by omega, by omega, Or.inl ⟨k56, Or.inl ⟨es, Or.inr ⟨k6, z⟩⟩⟩⟩
          · refine ⟨by omega, by omega, Or.inl ⟨k56, Or.inl ⟨es, Or.inl ?_⟩⟩⟩
            rw [ex, z]
        · rintro ⟨h4, _, (⟨_, ⟨_, z | ⟨_, z⟩⟩ | ⟨z, _⟩⟩ | ⟨z, _⟩ | ⟨z, _⟩)⟩
          · exact Or.inr ((qz_ne hx h4).mp (ex.symm.trans z)).symm
          · exact Or.inl z
          · exact absurd es z
          · rw [k6] at z; exact absurd z (by decide)
          · exact absurd k6 z.2.2.2.1
    · rintro r' _ ⟨_, (⟨_, ⟨z, _⟩ | ⟨_, z, _⟩⟩ | ⟨z, _⟩ | ⟨z, _⟩)⟩
      · exact es z
      · exact z ef
      · rcases k56 with k | k <;> rw [k] at z <;> exact absurd z (by decide)
      · rcases k56 with k | k
        · exact z.2.2.1 k
        · exact z.2.2.2.1 k
    · intro r' hr'
      constructor
      · rintro ⟨_, (⟨_, ⟨z, _⟩ | ⟨_, _, z⟩⟩ | ⟨_, _, z⟩ | ⟨_, z⟩)⟩
        · exact absurd z es
        · exact z
        · exact z
        · exact z
      · intro z
        exact ⟨hr', Or.inl ⟨k56, Or.inr ⟨es, ef, z⟩⟩⟩
  have L92 : (K p = 3 ∨ K p = 4 ∨ K p = 8) → wX_heirs_92 post (nI p) (nI r) ((1 : Int32) <<< (nI r &&& 31)) (nI c) fq K F S sn lo em lv Q L := by
    intro k3
    unfold wX_heirs_92 wX_heirs_97
    rw [e]
    refine br_f (by decide) ⟨i, br_c (fun ef => zero' ?_) (fun ef => self' ?_)⟩
    · rintro r' _ ⟨_, (⟨z, _⟩ | ⟨_, z, _⟩ | ⟨z, _⟩)⟩
      · rcases z with z | z <;> rw [z] at k3 <;> exact absurd k3 (by decide)
      · exact z ef
      · rcases k3 with k | k | k
        · exact z.1 k
        · exact z.2.1 k
        · exact z.2.2.2.2 k
    · intro r' hr'
      constructor
      · rintro ⟨_, (⟨z, _⟩ | ⟨_, _, z⟩ | ⟨_, z⟩)⟩
        · rcases z with z | z <;> rw [z] at k3 <;> exact absurd k3 (by decide)
        · exact z
        · exact z
      · intro z
        exact ⟨hr', Or.inr (Or.inl ⟨k3, ef, z⟩)⟩
  unfold wpX_heirs
  simp only [e]
  refine ⟨i, nm_e (nm_e (br_c (fun k => L23 (Or.inl k)) (fun k5 => br_c (fun k => L23 (Or.inr k)) (fun k6 => br_c (fun k => L92 (Or.inl k)) (fun k3 => br_c (fun k => L92 (Or.inr (Or.inl k))) (fun k4 => br_c (fun k => L92 (Or.inr (Or.inr k))) (fun k8 => br_t rfl (self' ?_))))))))⟩
  intro r' hr'
  constructor
  · rintro ⟨_, (⟨z, _⟩ | ⟨z, _⟩ | ⟨_, z⟩)⟩
    · rcases z with z | z
      · exact absurd z k5
      · exact absurd z k6
    · rcases z with z | z | z
      · exact absurd z k3
      · exact absurd z k4
      · exact absurd z k8
    · exact z
  · intro z
    exact ⟨hr', Or.inr (Or.inr ⟨⟨k3, k4, k5, k6, k8⟩, z⟩)⟩
end
