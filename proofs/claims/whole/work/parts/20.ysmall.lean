/-! ===== Y: the small methods ===== -/
def qz_p0 (c : Nat) (K F : Nat → Int32) (p q : Nat) : Prop := q < c ∧ ((K p = 9 ∧ F p = nI q) ∨ (K p ≠ 9 ∧ K p ≠ 11 ∧ q = p + 1))
def qz_p1 (c : Nat) (K F : Nat → Int32) (p q : Nat) : Prop := q < c ∧ K p = 10 ∧ F p = nI q
theorem qz_nx_y {c : Nat} {K F : Nat → Int32} {p q : Nat} : qz_nx c K F p q ↔ qz_p0 c K F p q ∨ qz_p1 c K F p q := by
  constructor
  · rintro ⟨h, ⟨e, h9, h11⟩ | ⟨h9 | h10, e⟩⟩
    · exact Or.inl ⟨h, Or.inr ⟨h9, h11, e⟩⟩
    · exact Or.inl ⟨h, Or.inl ⟨h9, e⟩⟩
    · exact Or.inr ⟨h, h10, e⟩
  · rintro (⟨h, ⟨h9, e⟩ | ⟨h9, h11, e⟩⟩ | ⟨h, h10, e⟩)
    · exact ⟨h, Or.inr ⟨Or.inl h9, e⟩⟩
    · exact ⟨h, Or.inl ⟨e, h9, h11⟩⟩
    · exact ⟨h, Or.inr ⟨Or.inr h10, e⟩⟩
theorem qz_and3 {a : Nat} (ha : a < 4) : nI a &&& 3 = nI a := (by decide +kernel : ∀ a, a < 4 → nI a &&& 3 = nI a) a ha
theorem qz_and3e (x : Int32) : ∃ a, a < 4 ∧ x &&& 3 = nI a := pk_andE x 2 (by decide)
section
variable {c : Nat} {fm : Int32} {K F S M U D : Nat → Int32} {post : Int32 → Prop}
theorem qy_in (x : Int32) (n : Nat) (hn : n + 1 < 2 ^ 31) (h1 : ∀ a, a ≤ n → x = nI a → post 1) (h0 : (∀ a, a ≤ n → x ≠ nI a) → post 0) : wpY_isIn post (nI c, fm, K, F, S, M, U, D) x 0 (nI n) := qz_rngL x n hn h1 h0
theorem qy_pt (hc : c ≤ 24) (x : Int32) (h1 : ∀ a, a < c → x = nI a → post 1) (h0 : (∀ a, a < c → x ≠ nI a) → post 0) : wpY_isPoint post (nI c, fm, K, F, S, M, U, D) x := qz_rng x c (by omega) h1 h0
theorem qy_inN {n l u : Nat} (hn : n < 2 ^ 31) (hl : l < 2 ^ 31) (hu : u < 2 ^ 31) (h1 : l ≤ n → n ≤ u → post 1) (h0 : ¬ (l ≤ n ∧ n ≤ u) → post 0) : wpY_isIn post (nI c, fm, K, F, S, M, U, D) (nI n) (nI l) (nI u) :=
  pk_lt n l (fun z => h0 (by omega)) (fun z => pk_lt u n (fun w => h0 (by omega)) (fun w => h1 z w))
theorem qy_fits (k x y : Int32) (h1 : qz_ok k x y → post 1) (h0 : ¬ qz_ok k x y → post 0) : wpY_fits post (nI c, fm, K, F, S, M, U, D) k x y := by
  unfold wpY_fits
  refine qy_in k 11 (by omega) (fun n hn e => br_f (by decide) ?_) (fun h => br_t rfl (h0 (fun z => ?_)))
  · subst e
    have A : ∀ (u : Nat), u + 1 < 2 ^ 31 → ((∃ a, a ≤ u ∧ x = nI a) ↔ qz_ok (nI n) x y) → wY_fits_50 post y 0 (nI u) 0 x (nI c) fm K F S M U D := by
      intro u hu hh
      exact qy_in x u hu (fun a ha e => br_f (by decide) (br_t rfl (h1 (hh.mp ⟨a, ha, e⟩)))) (fun z => br_t rfl (h0 (fun w => by
        obtain ⟨a, ha, e⟩ := hh.mpr w
        exact z a ha e)))
    have B : (((∃ a, a ≤ 3 ∧ x = nI a) ∧ ∃ a, a ≤ 3 ∧ y = nI a) ↔ qz_ok (nI n) x y) → wY_fits_50 post y 1 (nI 3) 0 x (nI c) fm K F S M U D := by
      intro hh
      exact qy_in x 3 (by omega) (fun a ha e => br_f (by decide) (br_f (by decide) (qy_in y 3 (by omega) (fun b hb e' => br_f (by decide) (h1 (hh.mp ⟨⟨a, ha, e⟩, b, hb, e'⟩))) (fun z => br_t rfl (h0 (fun w => by
        obtain ⟨_, b, hb, e⟩ := hh.mpr w
        exact z b hb e)))))) (fun z => br_t rfl (h0 (fun w => by
        obtain ⟨⟨a, ha, e⟩, _⟩ := hh.mpr w
        exact z a ha e)))
    have lt4 : ∀ x : Int32, (∃ a, a ≤ 3 ∧ x = nI a) ↔ ∃ a, a < 4 ∧ x = nI a := by
      intro x
      constructor
      · rintro ⟨a, ha, e⟩
        exact ⟨a, by omega, e⟩
      · rintro ⟨a, ha, e⟩
        exact ⟨a, by omega, e⟩
    have C : (n = 9 ∨ n = 10) → wY_fits_44 post y 0 0 x (nI c) fm K F S M U D := fun hh => A 24 (by omega) (qz_okC hh).symm
    refine qy_inN (l := 3) (u := 6) (by omega) (by omega) (by omega) (fun l u => ?_) (fun nlu => ?_)
    · refine pk_eq n 11 (fun e => by omega) (fun _ => pk_eq n 9 (fun e => by omega) (fun _ => pk_eq n 10 (fun e => by omega) (fun _ => B ?_)))
      rw [lt4, lt4]
      exact (qz_okB l u).symm
    · refine pk_eq n 11 (fun e => h1 (by rw [e]; exact qz_okD)) (fun n11 => pk_eq n 9 (fun e => C (Or.inl e)) (fun n9 => pk_eq n 10 (fun e => C (Or.inr e)) (fun n10 => A 3 (by omega) ?_)))
      rw [lt4]
      exact (qz_okA (by omega)).symm
  · obtain ⟨n, hn, e⟩ := qz_ok12 z
    exact h n (by omega) e
theorem qy_58 {z : Int32} {P : Nat → Prop} (hc : c ≤ 24) (hP : ∀ q, P q → q < c) (hz : (z = -1 ∧ ∀ q, ¬ P q) ∨ ∃ a, a < 2 ^ 31 ∧ z = nI a ∧ (a < c → P a) ∧ ∀ q, P q → q = a) (h : ∀ r, qz_op P (-1) r → post r) : wY_next_58 post z (nI c) fm K F S M U D := by
  unfold wY_next_58
  rcases hz with ⟨rfl, no⟩ | ⟨a, ha, rfl, hpa, ua⟩
  · exact br_c (fun _ => h _ (Or.inl ⟨rfl, no⟩)) (fun _ => h _ (Or.inl ⟨rfl, no⟩))
  · exact pk_le c a (fun w => h _ (Or.inl ⟨rfl, fun q hq => by have := ua q hq; have := hP q hq; omega⟩)) (fun w => h _ (Or.inr ⟨a, rfl, hpa w, ua⟩))
theorem qy_next0 {p : Nat} (hp : p < 24) (hc : c ≤ 24) (V : qz_va K F S) (h : ∀ r, qz_op (qz_p0 c K F p) (-1) r → post r) : wpY_next post (nI c, fm, K, F, S, M, U, D) (nI p) 0 := by
  have i := qz_i24 hp
  unfold wpY_next
  simp only [qz_c24 hp]
  refine ⟨i, nm_e (br_t trivial (br_c (fun k11 => ?_) (fun k11 => br_c (fun k9 => ⟨i, ?_⟩) (fun k9 => ?_))))⟩
  · refine qy_58 hc (fun q hq => hq.1) (Or.inl ⟨rfl, ?_⟩) h
    rintro q ⟨_, ⟨z, _⟩ | ⟨_, z, _⟩⟩
    · rw [k11] at z; exact absurd z (by decide)
    · exact z k11
  · obtain ⟨a, ha, ea⟩ := qz_va_g V (Or.inl k9)
    refine qy_58 hc (fun q hq => hq.1) (Or.inr ⟨a, by omega, ea, fun w => ⟨w, Or.inl ⟨k9, ea⟩⟩, ?_⟩) h
    rintro q ⟨hq, ⟨_, z⟩ | ⟨z, _⟩⟩
    · exact ((nI_eq (by omega) (by omega)).mp (ea.symm.trans z)).symm
    · exact absurd k9 z
  · refine qy_58 hc (fun q hq => hq.1) (Or.inr ⟨p + 1, by omega, nI_1 p, fun w => ⟨w, Or.inr ⟨k9, k11, rfl⟩⟩, ?_⟩) h
    rintro q ⟨_, ⟨z, _⟩ | ⟨_, _, z⟩⟩
    · exact absurd z k9
    · exact z
theorem qy_next1 {p : Nat} (hp : p < 24) (hc : c ≤ 24) (V : qz_va K F S) (h : ∀ r, qz_op (qz_p1 c K F p) (-1) r → post r) : wpY_next post (nI c, fm, K, F, S, M, U, D) (nI p) 1 := by
  have i := qz_i24 hp
  unfold wpY_next
  simp only [qz_c24 hp]
  refine ⟨i, nm_e (br_f (by decide) (br_c (fun k10 => ⟨i, ?_⟩) (fun k10 => ?_)))⟩
  · obtain ⟨a, ha, ea⟩ := qz_va_g V (Or.inr k10)
    refine qy_58 hc (fun q hq => hq.1) (Or.inr ⟨a, by omega, ea, fun w => ⟨w, k10, ea⟩, ?_⟩) h
    rintro q ⟨hq, _, z⟩
    exact ((nI_eq (by omega) (by omega)).mp (ea.symm.trans z)).symm
  · refine qy_58 hc (fun q hq => hq.1) (Or.inl ⟨rfl, ?_⟩) h
    rintro q ⟨_, z, _⟩
    exact k10 z
theorem qy_hold {p s : Nat} (hp : p < 24) (hs : s < 16) (V : qz_va K F S) (h : ∀ m, qz_hb K F S p s m → post (nI m)) : wpY_holdBehind post (nI c, fm, K, F, S, M, U, D) (nI p) (nI s) := by
  have i := qz_i24 hp
  have hi4 := qz_hi4 s hs
  have key : ∀ x : Int32, (∀ l, l < 32 → (bt x l = true ↔ (l < 4 ∧ ∃ r, r < 4 ∧ bt (nI s) r = true ∧ qz_hr K F S p r l))) → post x := by
    intro x hx
    obtain ⟨m, hm, em⟩ := qz_of4 x (fun j hj h4 z => by
      obtain ⟨y, _⟩ := (hx j hj).mp z
      exact absurd y (Nat.not_lt.mpr h4))
    rw [em]
    refine h m ⟨hm, fun r' hr' => ?_⟩
    rw [← em, hx r' (by omega)]
    exact ⟨fun z => z.2, fun z => ⟨hr', z⟩⟩
  have same : (∀ r r', r < 4 → r' < 4 → (qz_hr K F S p r r' ↔ r' = r)) → post (nI s) := by
    intro hh
    refine key _ (fun l hl => ?_)
    constructor
    · intro z
      have h4 : l < 4 := by
        apply Classical.byContradiction
        intro w
        exact hi4 l hl (by omega) z
      exact ⟨h4, l, h4, z, (hh l l h4 h4).mpr rfl⟩
    · rintro ⟨h4, r, hr, z, w⟩
      rw [(hh r l hr h4).mp w]
      exact z
  have wo : ∀ a, a < 4 → F p = nI a → (K p = 3 ∨ K p = 4 ∨ K p = 8) → post (nI s &&& (((1 : Int32) <<< (nI a &&& 31)) ^^^ (-1))) := by
    intro a ha ea hk
    refine key _ (fun l hl => ?_)
    rw [qz_clr _ a (by omega) hl]
    constructor
    · rintro ⟨z, w⟩
      have h4 : l < 4 := by
        apply Classical.byContradiction
        intro w
        exact hi4 l hl (by omega) z
      refine ⟨h4, l, h4, z, h4, Or.inr (Or.inl ⟨hk, ?_, rfl⟩)⟩
      rw [ea]
      exact fun y => w ((qz_ne ha h4).mp y).symm
    · rintro ⟨h4, r, hr, z, _, (⟨w, _⟩ | ⟨_, w, w'⟩ | ⟨w, _⟩)⟩
      · rcases w with w | w <;> rw [w] at hk <;> exact absurd hk (by decide)
      · rw [w']
        refine ⟨z, fun y => w ?_⟩
        rw [ea, ← y]
      · rcases hk with k | k | k
        · exact absurd k w.1
        · exact absurd k w.2.1
        · exact absurd k w.2.2.2.2
  have hr56 : ∀ a y r r', a < 4 → y < 4 → r < 4 → r' < 4 → F p = nI a → S p = nI y → (K p = 5 ∨ K p = 6) → (qz_hr K F S p r r' ↔ ((y = r ∧ (a = r' ∨ (K p = 6 ∧ r' = r))) ∨ (y ≠ r ∧ a ≠ r ∧ r' = r))) := by
    intro a y r r' ha hy hr hr' ea ey hk
    unfold qz_hr
    rw [ea, ey, Ne, Ne, qz_ne hy hr, qz_ne ha hr', qz_ne ha hr]
    constructor
    · rintro ⟨_, (⟨_, w⟩ | ⟨w, _⟩ | ⟨w, _⟩)⟩
      · exact w
      · rcases hk with k | k <;> rw [k] at w <;> exact absurd w (by decide)
      · rcases hk with k | k
        · exact absurd k w.2.2.1
        · exact absurd k w.2.2.2.1
    · intro w
      exact ⟨hr', Or.inl ⟨hk, w⟩⟩
  unfold wpY_holdBehind
  simp only [qz_c24 hp]
  refine ⟨i, nm_e ⟨i, ?_⟩⟩
  by_cases k348 : K p = 3 ∨ K p = 4 ∨ K p = 8
  · obtain ⟨a, ha, ea⟩ : ∃ a, a < 4 ∧ F p = nI a := by
      rcases k348 with k | k | k
      · exact (qz_va_b V (Or.inl k)).1
      · exact (qz_va_b V (Or.inr (Or.inl k))).1
      · exact qz_va_a V (Or.inr (Or.inr (Or.inr (Or.inr k))))
    have W := wo a ha ea k348
    have e4 : F p &&& 3 = nI a := by rw [ea]; exact qz_and3 ha
    refine nm_r e4 ⟨i, nm_e (nm_e (br_c (fun _ => W) (fun k3 => br_c (fun _ => W) (fun k4 => br_c (fun _ => W) (fun k8 => ?_)))))⟩
    rcases k348 with k | k | k
    · exact absurd k k3
    · exact absurd k k4
    · exact absurd k k8
  · have k3 : ¬ K p = 3 := fun z => k348 (Or.inl z)
    have k4 : ¬ K p = 4 := fun z => k348 (Or.inr (Or.inl z))
    have k8 : ¬ K p = 8 := fun z => k348 (Or.inr (Or.inr z))
    by_cases k56 : K p = 5 ∨ K p = 6
    · obtain ⟨⟨a, ha, ea⟩, y, hy, ey⟩ := qz_va_b V (Or.inr (Or.inr k56))
      have e4 : F p &&& 3 = nI a := by rw [ea]; exact qz_and3 ha
      have e5 : S p &&& 3 = nI y := by rw [ey]; exact qz_and3 hy
      refine nm_r e4 ⟨i, nm_r e5 (nm_e (br_f k3 (br_f k4 (br_f k8 ?_))))⟩
      have H := fun r r' hr hr' => hr56 a y r r' ha hy hr hr' ea ey k56
      -- the last rows, for the flag f
      have L110 : ∀ f : Int32, (f = 0 ∨ f = 1) → (f = 1 ↔ bt (nI s) y = true) → (K p = 5 → a = y) → wY_holdBehind_110 post (nI s) (K p) (nI a) (nI s &&& (((1 : Int32) <<< (nI a &&& 31)) ^^^ (-1))) f (nI c) fm K F S M U D := by
        intro f f01 ff k5
        unfold wY_holdBehind_110
        refine br_c (fun k6 => br_c (fun f0 => key _ (fun l hl => ?_)) (fun f0 => key _ (fun l hl => ?_))) (fun k6 => same (fun r r' hr hr' => ?_))
        · have nby : ¬ bt (nI s) y = true := fun z => by
            rw [ff.mpr z] at f0
            exact absurd f0 (by decide)
          rw [qz_clr _ a (by omega) hl]
          constructor
          · rintro ⟨z, w⟩
            have h4 : l < 4 := by
              apply Classical.byContradiction
              intro w
              exact hi4 l hl (by omega) z
            refine ⟨h4, l, h4, z, (H l l h4 h4).mpr ?_⟩
            by_cases e : y = l
            · rw [← e] at z; exact absurd z nby
            · exact Or.inr ⟨e, fun x => w x.symm, rfl⟩
          · rintro ⟨h4, r, hr, z, w⟩
            rcases (H r l hr h4).mp w with ⟨e, _⟩ | ⟨_, e, e'⟩
            · rw [← e] at z; exact absurd z nby
            · rw [e']; exact ⟨z, fun x => e x.symm⟩
        · have by' : bt (nI s) y = true := ff.mp (by
            rcases f01 with w | w
            · exact absurd w f0
            · exact w)
          rw [b_or, Bool.or_eq_true, qz_clr _ a (by omega) hl, qz_bshA (by omega)]
          constructor
          · rintro (⟨z, w⟩ | z)
            · have h4 : l < 4 := by
                apply Classical.byContradiction
                intro w
                exact hi4 l hl (by omega) z
              refine ⟨h4, l, h4, z, (H l l h4 h4).mpr ?_⟩
              by_cases e : y = l
              · exact Or.inl ⟨e, Or.inr ⟨k6, rfl⟩⟩
              · exact Or.inr ⟨e, fun x => w x.symm, rfl⟩
            · refine ⟨by omega, y, hy, by', (H y l hy (by omega)).mpr (Or.inl ⟨rfl, Or.inl z.symm⟩)⟩
          · rintro ⟨h4, r, hr, z, w⟩
            rcases (H r l hr h4).mp w with ⟨e, e' | ⟨_, e'⟩⟩ | ⟨_, e, e'⟩
            · exact Or.inr e'.symm
            · by_cases e2 : l = a
              · exact Or.inr e2
              · rw [← e'] at z; exact Or.inl ⟨z, e2⟩
            · rw [e']; exact Or.inl ⟨z, fun x => e x.symm⟩
        · have k5' : K p = 5 := by
            rcases k56 with k | k
            · exact k
            · exact absurd k k6
          rw [H r r' hr hr']
          have := k5 k5'
          constructor
          · rintro (⟨e, e' | ⟨z, _⟩⟩ | ⟨_, _, e⟩)
            · omega
            · exact absurd z k6
            · exact e
          · intro e
            by_cases e2 : y = r
            · exact Or.inl ⟨e2, Or.inl (by omega)⟩
            · exact Or.inr ⟨e2, by omega, e⟩
      have L71 : ∀ f : Int32, (f = 0 ∨ f = 1) → (f = 1 ↔ bt (nI s) y = true) → wY_holdBehind_71 post (nI s) (K p) (nI a) (nI y) (nI s &&& (((1 : Int32) <<< (nI a &&& 31)) ^^^ (-1))) f (nI c) fm K F S M U D := by
        intro f f01 ff
        unfold wY_holdBehind_71
        refine br_c (fun k5 => pk_eq a y (fun e => L110 f f01 ff (fun _ => e)) (fun ne => ?_)) (fun k5 => L110 f f01 ff (fun z => absurd z k5))
        have k6 : ¬ K p = 6 := by rw [k5]; decide
        refine br_c (fun f0 => key _ (fun l hl => ?_)) (fun f0 => key _ (fun l hl => ?_))
        · have nby : ¬ bt (nI s) y = true := fun z => by
            rw [ff.mpr z] at f0
            exact absurd f0 (by decide)
          rw [qz_clr _ y (by omega) hl, qz_clr _ a (by omega) hl]
          constructor
          · rintro ⟨⟨z, w⟩, w'⟩
            have h4 : l < 4 := by
              apply Classical.byContradiction
              intro w
              exact hi4 l hl (by omega) z
            exact ⟨h4, l, h4, z, (H l l h4 h4).mpr (Or.inr ⟨fun x => w' x.symm, fun x => w x.symm, rfl⟩)⟩
          · rintro ⟨h4, r, hr, z, w⟩
            rcases (H r l hr h4).mp w with ⟨e, _⟩ | ⟨e0, e, e'⟩
            · rw [← e] at z; exact absurd z nby
            · rw [e']; exact ⟨⟨z, fun x => e x.symm⟩, fun x => e0 x.symm⟩
        · have by' : bt (nI s) y = true := ff.mp (by
            rcases f01 with w | w
            · exact absurd w f0
            · exact w)
          rw [qz_clr _ y (by omega) hl, b_or, Bool.or_eq_true, qz_clr _ a (by omega) hl, qz_bshA (by omega)]
          constructor
          · rintro ⟨⟨z, w⟩ | z, w'⟩
            · have h4 : l < 4 := by
                apply Classical.byContradiction
                intro w
                exact hi4 l hl (by omega) z
              exact ⟨h4, l, h4, z, (H l l h4 h4).mpr (Or.inr ⟨fun x => w' x.symm, fun x => w x.symm, rfl⟩)⟩
            · exact ⟨by omega, y, hy, by', (H y l hy (by omega)).mpr (Or.inl ⟨rfl, Or.inl z.symm⟩)⟩
          · rintro ⟨h4, r, hr, z, w⟩
            rcases (H r l hr h4).mp w with ⟨e, e' | ⟨e', _⟩⟩ | ⟨e0, e, e'⟩
            · exact ⟨Or.inr e'.symm, by omega⟩
            · exact absurd e' k6
            · rw [e']; exact ⟨Or.inl ⟨z, fun x => e x.symm⟩, fun x => e0 x.symm⟩
      refine br_c (fun z => L71 1 (Or.inr rfl) ?_) (fun z => L71 0 (Or.inl rfl) ?_)
      · exact ⟨fun _ => (qz_b1o _ y (by omega)).mp z, fun _ => rfl⟩
      · exact ⟨fun w => absurd w (by decide), fun w => absurd ((qz_b1o _ y (by omega)).mpr w) z⟩
    · have k5 : ¬ K p = 5 := fun z => k56 (Or.inl z)
      have k6 : ¬ K p = 6 := fun z => k56 (Or.inr z)
      have W : post (nI s) := same (fun r r' hr hr' => ⟨by
        rintro ⟨_, (⟨w, _⟩ | ⟨w, _⟩ | ⟨_, w⟩)⟩
        · exact absurd w k56
        · exact absurd w k348
        · exact w, fun w => ⟨hr', Or.inr (Or.inr ⟨⟨k3, k4, k5, k6, k8⟩, w⟩)⟩⟩)
      exact nm_e ⟨i, nm_e (nm_e (br_f k3 (br_f k4 (br_f k8 (br_c (fun _ => br_f k5 (br_f k6 W)) (fun _ => br_f k5 (br_f k6 W)))))))⟩
end
