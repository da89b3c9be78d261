/-! ===== Y: the queries ===== -/
section
variable {c : Nat} {fm : Int32} {K F S M U D : Nat → Int32}
theorem qy_h45 {post : Int32 → SY → Prop} {J : Int32 → Int32 → Int32 → Int32 → (Nat → Int32) → (Nat → Int32) → (Nat → Int32) → (Nat → Int32) → (Nat → Int32) → (Nat → Int32) → Prop} {p r b : Nat} {x0 : Int32} (hp : p < 24) (hr : r < 4) (hb : b < 24)
    (h : ∀ x, (∀ i, bt x i = true ↔ (bt x0 i = true ∨ (i = b ∧ ∃ s, s < 16 ∧ bt (nI s) r = true ∧ ¬ M (16 * p + s) = 0))) → J x (nI (b + 1)) (nI c) fm K F S M U D) :
    ∀ d s, s + d = 16 → ∀ x, (∀ i, bt x i = true ↔ (bt x0 i = true ∨ (i = b ∧ ∃ s', s' < s ∧ bt (nI s') r = true ∧ ¬ M (16 * p + s') = 0))) → wY_holds_45 post J (nI p) (nI r) (nI b) 1 (nI c) fm K F S M U D (d + 1) x (nI s) := by
  intro d
  induction d with
  | zero =>
    intro s hs x hx
    have : s = 16 := by omega
    subst this
    exact br_t (nI_le (Nat.le_refl 16) (by omega)) (nm_r (nI_1 b) (h x hx))
  | succ d ih =>
    intro s hs x hx
    have skip : ¬ (bt (nI s) r = true ∧ ¬ M (16 * p + s) = 0) → wY_holds_45 post J (nI p) (nI r) (nI b) 1 (nI c) fm K F S M U D (d + 1) x (nI (s + 1)) := by
      intro z
      refine ih (s + 1) (by omega) x (fun i => ?_)
      rw [hx i]
      constructor
      · rintro (w | ⟨w, s', hs', y⟩)
        · exact Or.inl w
        · exact Or.inr ⟨w, s', by omega, y⟩
      · rintro (w | ⟨w, s', hs', y⟩)
        · exact Or.inl w
        · by_cases e : s' = s
          · rw [e] at y; exact absurd y z
          · exact Or.inr ⟨w, s', by omega, y⟩
    refine br_f (nI_ge (b := 16) (by omega) (by omega)) (br_f (by decide) ?_)
    rw [qz_x16, nI_clamp (by omega)]
    refine ⟨vp_in_nI (by omega) (by omega), br_c (fun z => nm_r (nI_1 s) (skip (fun y => y.2 z))) (fun z => br_c (fun y => nm_e (nm_r (nI_1 s) (ih (s + 1) (by omega) _ (fun i => ?_)))) (fun y => nm_r (nI_1 s) (skip (fun w => y ((qz_b1o _ r (by omega)).mpr w.1)))))⟩
    have yb := (qz_b1o _ r (by omega)).mp y
    rw [b_or, Bool.or_eq_true, qz_bshA (by omega), hx i]
    constructor
    · rintro ((w | ⟨w, s', hs', v⟩) | w)
      · exact Or.inl w
      · exact Or.inr ⟨w, s', by omega, v⟩
      · exact Or.inr ⟨w, s, by omega, yb, z⟩
    · rintro (w | ⟨w, _⟩)
      · exact Or.inl (Or.inl w)
      · exact Or.inr w
theorem qy_h25 {post : Int32 → SY → Prop} {p r : Nat} (hc : c ≤ 24) (V : qz_va K F S) (hp : p < 24) (hr : r < 4)
    (h : ∀ x fm' M', (∀ i, bt x i = true ↔ (i < c ∧ qz_ho c K F S i p r)) → post x (nI c, fm', K, F, S, M', U, D)) :
    ∀ d b, b + d = c → ∀ x fm' M', (∀ i, bt x i = true ↔ (i < b ∧ qz_ho c K F S i p r)) → wY_holds_25 post (nI p) (nI r) (d + 1) x (nI b) (nI c) fm' K F S M' U D := by
  intro d
  induction d with
  | zero =>
    intro b hb x fm' M' hx
    have : b = c := by omega
    subst this
    exact br_t (nI_le (Nat.le_refl b) (by omega)) (h x _ _ hx)
  | succ d ih =>
    intro b hb x fm' M' hx
    refine br_f (nI_ge (b := c) (by omega) (by omega)) (qy_follow hc V (by omega) (fun mk re fm2 M2 mt => ⟨17, ?_⟩) (fun no fm2 M2 => ⟨1, ?_⟩))
    · have eqv : (∃ s, s < 16 ∧ bt (nI s) r = true ∧ ¬ M2 (16 * p + s) = 0) ↔ qz_ho c K F S b p r := by
        rw [← qz_met_fo (by omega) re mk hr]
        constructor
        · rintro ⟨s, hs, y, z⟩
          exact ⟨s, hs, y, (mt _ (by omega)).mp z⟩
        · rintro ⟨s, hs, y, z⟩
          exact ⟨s, hs, y, (mt _ (by omega)).mpr z⟩
      refine qy_h45 (x0 := x) hp hr (by omega) (fun y hy => ih (b + 1) (by omega) y _ _ (fun i => ?_)) 16 0 rfl x (fun i => ⟨Or.inl, fun w => ?_⟩)
      · rw [hy i, hx i, eqv]
        constructor
        · rintro (⟨w, v⟩ | ⟨w, v⟩)
          · exact ⟨by omega, v⟩
          · rw [w]; exact ⟨by omega, v⟩
        · rintro ⟨w, v⟩
          by_cases e : i = b
          · rw [e] at v; exact Or.inr ⟨e, v⟩
          · exact Or.inl ⟨by omega, v⟩
      · rcases w with w | ⟨_, s', hs', _⟩
        · exact w
        · omega
    · refine br_f (by decide) (br_t rfl (nm_r (nI_1 b) (ih (b + 1) (by omega) x _ _ (fun i => ?_))))
      rw [hx i]
      constructor
      · rintro ⟨w, v⟩
        exact ⟨by omega, v⟩
      · rintro ⟨w, v⟩
        refine ⟨?_, v⟩
        apply Classical.byContradiction
        intro y
        have e : i = b := by omega
        rw [e] at v
        have f := (qz_ho_f v).2.2.2.2 (by omega)
        exact no ⟨f.2, f.1⟩
theorem qy_f7 {post : Int32 → SY → Prop} {p r : Nat} (hp : p < 24) (hr : r < 4) (h1 : (∃ s, s < 16 ∧ ¬ bt (nI s) r = true ∧ ¬ M (16 * p + s) = 0) → post 1 (nI c, fm, K, F, S, M, U, D)) (h0 : ¬ (∃ s, s < 16 ∧ ¬ bt (nI s) r = true ∧ ¬ M (16 * p + s) = 0) → post 0 (nI c, fm, K, F, S, M, U, D)) :
    ∀ d s, s + d = 16 → (∀ s', s' < s → ¬ (¬ bt (nI s') r = true ∧ ¬ M (16 * p + s') = 0)) → wY_isFree_7 post (nI p) (nI r) (nI c) fm K F S M U D (d + 1) (nI s) := by
  intro d
  induction d with
  | zero =>
    intro s hs hn
    have : s = 16 := by omega
    subst this
    refine br_t (nI_le (Nat.le_refl 16) (by omega)) (h0 ?_)
    rintro ⟨s, hs, z⟩
    exact hn s hs z
  | succ d ih =>
    intro s hs hn
    have skip : ¬ (¬ bt (nI s) r = true ∧ ¬ M (16 * p + s) = 0) → wY_isFree_7 post (nI p) (nI r) (nI c) fm K F S M U D (d + 1) (nI (s + 1)) := by
      intro z
      refine ih (s + 1) (by omega) (fun s' hs' => ?_)
      by_cases e : s' = s
      · rw [e]; exact z
      · exact hn s' (by omega)
    refine br_f (nI_ge (b := 16) (by omega) (by omega)) ?_
    rw [qz_x16, nI_clamp (by omega)]
    exact ⟨vp_in_nI (by omega) (by omega), br_c (fun z => nm_r (nI_1 s) (skip (fun y => y.2 z))) (fun z => br_c (fun y => h1 ⟨s, by omega, (qz_b1z _ r (by omega)).mp y, z⟩) (fun y => nm_r (nI_1 s) (skip (fun w => y ((qz_b1z _ r (by omega)).mpr w.1)))))⟩
theorem qy_isFree {post : Int32 → SY → Prop} {p r : Nat} (hc : c ≤ 24) (V : qz_va K F S) (hp : p < 24) (hr : r < 4) (h1 : qz_ho c K F S 24 p r → ∀ fm' M', post 1 (nI c, fm', K, F, S, M', U, D)) (h0 : ¬ qz_ho c K F S 24 p r → ∀ fm' M', post 0 (nI c, fm', K, F, S, M', U, D)) : wpY_isFree post (nI c, fm, K, F, S, M, U, D) (nI p) (nI r) := by
  unfold wpY_isFree
  refine qy_begin (w := 1) hc V (by omega) (fun fm1 M1 mt => ⟨17, ?_⟩)
  have eqv : (∃ s, s < 16 ∧ ¬ bt (nI s) r = true ∧ ¬ M1 (16 * p + s) = 0) ↔ qz_ho c K F S 24 p r := by
    rw [← qz_met_free V hr]
    constructor
    · rintro ⟨s, hs, y, z⟩
      exact ⟨s, hs, y, (mt _ (by omega)).mp z⟩
    · rintro ⟨s, hs, y, z⟩
      exact ⟨s, hs, y, (mt _ (by omega)).mpr z⟩
  exact qy_f7 hp hr (fun z => h1 (eqv.mp z) _ _) (fun z => h0 (fun y => z (eqv.mpr y)) _ _) 16 0 rfl (fun s' hs' => by omega)
theorem qz_kn (V : qz_va K F S) (p : Nat) : ∃ n, n < 12 ∧ K p = nI n := qz_ok12 (V p)
theorem qz_k04 {p n : Nat} (e : K p = nI n) (hn : n < 12) : (K p = 0 ∨ K p = 1 ∨ K p = 2 ∨ K p = 3 ∨ K p = 4) ↔ n < 5 := by
  rw [e]
  have f : ∀ k, k < 5 → (nI n = nI k ↔ n = k) := fun k hk => nI_eq (by omega) (by omega)
  have f0 := f 0 (by omega)
  have f1 := f 1 (by omega)
  have f2 := f 2 (by omega)
  have f3 := f 3 (by omega)
  have f4 := f 4 (by omega)
  constructor
  · rintro (z | z | z | z | z)
    · have := f0.mp z; omega
    · have := f1.mp z; omega
    · have := f2.mp z; omega
    · have := f3.mp z; omega
    · have := f4.mp z; omega
  · intro z
    have : n = 0 ∨ n = 1 ∨ n = 2 ∨ n = 3 ∨ n = 4 := by omega
    rcases this with z | z | z | z | z
    · exact Or.inl (f0.mpr z)
    · exact Or.inr (Or.inl (f1.mpr z))
    · exact Or.inr (Or.inr (Or.inl (f2.mpr z)))
    · exact Or.inr (Or.inr (Or.inr (Or.inl (f3.mpr z))))
    · exact Or.inr (Or.inr (Or.inr (Or.inr (f4.mpr z))))
theorem qy_owner {post : Int32 → Prop} {p : Nat} (hp : p < 24) (V : qz_va K F S) (h1 : (K p = 0 ∨ K p = 1 ∨ K p = 2 ∨ K p = 3 ∨ K p = 4) → post (qz_ow K F S p)) (h0 : ¬ (K p = 0 ∨ K p = 1 ∨ K p = 2 ∨ K p = 3 ∨ K p = 4) → post (-1)) : wpY_ownerOf post (nI c, fm, K, F, S, M, U, D) (nI p) := by
  have i := qz_i24 hp
  obtain ⟨n, hn, en⟩ := qz_kn V p
  rw [qz_k04 en hn] at h1 h0
  unfold qz_ow at h1
  rw [en] at h1
  unfold wpY_ownerOf
  simp only [qz_c24 hp]
  refine ⟨i, nm_r en (pk_le 3 n (fun z => pk_le 5 n (fun y => h0 (by omega)) (fun y => ⟨i, ?_⟩)) (fun z => ⟨i, ?_⟩))⟩
  · have := h1 (by omega)
    have lt : (2 : Int32) < nI n := nI_lt (a := 2) (b := n) (by omega) (by omega)
    rw [if_pos lt] at this
    exact this
  · have := h1 (by omega)
    have lt : ¬ (2 : Int32) < nI n := nI_nlt (a := 2) (b := n) (by omega) (by omega)
    rw [if_neg lt] at this
    exact this
theorem qy_against {post : Int32 → Prop} {p b : Nat} (hp : p < 24) (hb : b < 24) (V : qz_va K F S) (mk : qz_mk K b) (h1 : qz_ds K F S p b → post 1) (h0 : ¬ qz_ds K F S p b → post 0) : wpY_isAgainst post (nI c, fm, K, F, S, M, U, D) (nI p) (nI b) := by
  have i := qz_i24 hp
  have ib := qz_i24 hb
  have mb : K b = 0 ∨ K b = 1 ∨ K b = 2 ∨ K b = 3 ∨ K b = 4 := by
    rcases mk with k | k
    · exact Or.inr (Or.inr (Or.inr (Or.inl k)))
    · exact Or.inr (Or.inr (Or.inr (Or.inr k)))
  have L34 : ∀ z : Int32, (¬ z = 0 ↔ (K p = 0 ∨ K p = 2 ∨ K p = 4)) → wY_isAgainst_34 post (nI p) (nI b) z (nI c) fm K F S M U D := by
    intro z hz
    unfold wY_isAgainst_34
    rw [qz_c24 hb]
    have noP : ¬ (K p = 0 ∨ K p = 1 ∨ K p = 2 ∨ K p = 3 ∨ K p = 4) → ¬ qz_ds K F S p b := by
      rintro no ⟨(w | w | w) | ⟨w | w, _⟩, _⟩
      · exact no (Or.inl w)
      · exact no (Or.inr (Or.inr (Or.inl w)))
      · exact no (Or.inr (Or.inr (Or.inr (Or.inr w))))
      · exact no (Or.inr (Or.inl w))
      · exact no (Or.inr (Or.inr (Or.inr (Or.inl w))))
    refine qy_owner hp V (fun kp => ?_) (fun kp => br_t (by decide) (h0 (noP kp)))
    obtain ⟨o, ho, eo⟩ := qz_ow_o V kp
    refine br_f (by rw [eo]; exact nI_pos (by omega)) (qy_owner hp V (fun _ => qy_owner hb V (fun _ => br_c (fun e => br_c (fun z0 => ⟨ib, br_c (fun k4 => ?_) (fun k4 => h0 ?_)⟩) (fun z0 => h1 ⟨Or.inl (hz.mp z0), mk, e⟩)) (fun ne => h0 (fun w => ne w.2.2))) (fun no => absurd mb no)) (fun no => absurd kp no))
    · refine h1 ⟨?_, mk, e⟩
      rcases kp with w | w | w | w | w
      · exact Or.inl (Or.inl w)
      · exact Or.inr ⟨Or.inl w, k4⟩
      · exact Or.inl (Or.inr (Or.inl w))
      · exact Or.inr ⟨Or.inr w, k4⟩
      · exact Or.inl (Or.inr (Or.inr w))
    · rintro ⟨w | ⟨_, w⟩, _⟩
      · exact hz.mpr w z0
      · exact k4 w
  unfold wpY_isAgainst
  simp only [qz_c24 hp]
  refine ⟨i, br_c (fun k => L34 1 ⟨fun _ => Or.inl k, fun _ => by decide⟩) (fun k0 => ⟨i, br_c (fun k => L34 1 ⟨fun _ => Or.inr (Or.inl k), fun _ => by decide⟩) (fun k2 => ⟨i, br_c (fun k => L34 1 ⟨fun _ => Or.inr (Or.inr k), fun _ => by decide⟩) (fun k4 => L34 0 ⟨fun z => absurd rfl z, fun z => ?_⟩)⟩)⟩)⟩
  exfalso
  rcases z with z | z | z
  · exact k0 z
  · exact k2 z
  · exact k4 z
theorem qy_c29 {post : Int32 → SY → Prop} {p : Nat} (hc : c ≤ 24) (V : qz_va K F S) (hp : p < 24) (Q : Nat → Prop) (hQ : ∀ s m, s < 16 → qz_hb K F S p s m → ((∃ q, qz_nx c K F p q ∧ ¬ U (16 * q + m) = 0) ↔ Q s)) (h1 : (∃ s, s < 16 ∧ 1 ≤ s ∧ Q s ∧ ¬ M (16 * p + s) = 0) → post 1 (nI c, fm, K, F, S, M, U, D)) (h0 : ¬ (∃ s, s < 16 ∧ 1 ≤ s ∧ Q s ∧ ¬ M (16 * p + s) = 0) → post 0 (nI c, fm, K, F, S, M, U, D)) :
    ∀ d s, s + d = 16 → 1 ≤ s → (∀ s', s' < s → 1 ≤ s' → ¬ (Q s' ∧ ¬ M (16 * p + s') = 0)) → wY_isInConflict_29 post (nI p) (nI c) fm K F S M U D (d + 1) (nI s) := by
  intro d
  induction d with
  | zero =>
    intro s hs h1s hn
    have : s = 16 := by omega
    subst this
    refine br_t (nI_le (Nat.le_refl 16) (by omega)) (h0 ?_)
    rintro ⟨s, hs, h1s, z⟩
    exact hn s hs h1s z
  | succ d ih =>
    intro s hs h1s hn
    have skip : ¬ (Q s ∧ ¬ M (16 * p + s) = 0) → wY_isInConflict_29 post (nI p) (nI c) fm K F S M U D (d + 1) (nI (s + 1)) := by
      intro z
      refine ih (s + 1) (by omega) (by omega) (fun s' hs' h1' => ?_)
      by_cases e : s' = s
      · rw [e]; exact z
      · exact hn s' (by omega) h1'
    refine br_f (nI_ge (b := 16) (by omega) (by omega)) (qy_hold hp (by omega) V (fun m hm => ?_))
    rw [qz_x16, nI_clamp (by omega)]
    have eqv := hQ s m (by omega) hm
    refine ⟨vp_in_nI (by omega) (by omega), br_c (fun z => nm_r (nI_1 s) (skip (fun y => y.2 z))) (fun z => qy_next0 hp hc V (fun r0 hr0 => qy_useful hc hr0 (fun a w => w.1) hm.1 (fun u => br_f (by decide) (h1 ⟨s, by omega, h1s, eqv.mp ?_, z⟩)) (fun nu => br_t rfl (qy_next1 hp hc V (fun r1 hr1 => qy_useful hc hr1 (fun a w => w.1) hm.1 (fun u => br_f (by decide) (h1 ⟨s, by omega, h1s, eqv.mp ?_, z⟩)) (fun nu1 => br_t rfl (nm_r (nI_1 s) (skip (fun w => ?_)))))))))⟩
    · obtain ⟨a, ha, w⟩ := u
      exact ⟨a, qz_nx_y.mpr (Or.inl ha), w⟩
    · obtain ⟨a, ha, w⟩ := u
      exact ⟨a, qz_nx_y.mpr (Or.inr ha), w⟩
    · obtain ⟨q, e, y⟩ := eqv.mpr w.1
      rcases qz_nx_y.mp e with v | v
      · exact nu ⟨q, v, y⟩
      · exact nu1 ⟨q, v, y⟩
theorem qy_conf {post : Int32 → SY → Prop} {b p : Nat} (hc : c ≤ 24) (V : qz_va K F S) (hp : p < c) (hb : b < c) (us : qz_us' c K F S U) (h1 : qz_cf c K F S b p → ∀ fm' M', post 1 (nI c, fm', K, F, S, M', U, D)) (h0 : ¬ qz_cf c K F S b p → ∀ fm' M', post 0 (nI c, fm', K, F, S, M', U, D)) : wpY_isInConflict post (nI c, fm, K, F, S, M, U, D) (nI b) (nI p) := by
  have hp24 : p < 24 := by omega
  have hb24 : b < 24 := by omega
  unfold wpY_isInConflict
  refine qy_makes hb24 (fun mk => br_f (by decide) (qy_against hp24 hb24 V mk (fun ds => br_f (by decide) (qy_follow hc V hb (fun _ re fm1 M1 mt => br_f (by decide) ⟨16, ?_⟩) (fun no fm1 M1 => br_t rfl (h0 ?_ _ _)))) (fun nd => br_t rfl (h0 (fun z => nd z.1) _ _)))) (fun nm => br_t rfl (h0 (fun z => nm z.1.2.1) _ _))
  · have k7 : K p ≠ 7 := by
      intro z
      obtain ⟨(w | w | w) | ⟨w | w, _⟩, _⟩ := ds <;> rw [z] at w <;> exact absurd w (by decide)
    have eqv : (∃ s, s < 16 ∧ 1 ≤ s ∧ (∃ r, r < 4 ∧ bt (nI s) r = true ∧ qz_lv c K F S p r) ∧ ¬ M1 (16 * p + s) = 0) ↔ qz_sp c K F S b p := by
      constructor
      · rintro ⟨s, hs, _, ⟨r, hr, hbit, l⟩, z⟩
        exact ⟨r, hr, (qz_met_fo hb24 re mk hr).mp ⟨s, hs, hbit, (mt _ (by omega)).mp z⟩, l⟩
      · rintro ⟨r, hr, hh, l⟩
        obtain ⟨s, hs, hbit, z⟩ := (qz_met_fo hb24 re mk hr).mpr hh
        refine ⟨s, hs, ?_, ⟨r, hr, hbit, l⟩, (mt _ (by omega)).mpr z⟩
        apply Classical.byContradiction
        intro w
        have s0 : s = 0 := by omega
        rw [s0] at hbit
        exact qz_b00 r hbit
    refine qy_c29 hc V hp24 (fun s => ∃ r, r < 4 ∧ bt (nI s) r = true ∧ qz_lv c K F S p r) (fun s m hs hm => ?_) (fun z => h1 ⟨ds, eqv.mp z⟩ _ _) (fun z => h0 (fun w => z (eqv.mpr w.2)) _ _) 15 1 rfl (by omega) (fun s' hs' h1' => by omega)
    have hm16 := hm.1
    rw [← qz_yu_next hp k7 hm]
    constructor
    · rintro ⟨q, e, z⟩
      exact ⟨q, e, (us _ (by have := e.1; omega)).2.mp z⟩
    · rintro ⟨q, e, z⟩
      exact ⟨q, e, (us _ (by have := e.1; omega)).2.mpr z⟩
  · rintro ⟨_, r, hr, hh, _⟩
    have f := (qz_ho_f hh).2.2.2.2 hb24
    exact no ⟨f.2, f.1⟩
theorem qy_ca8 {post : Int32 → SY → Prop} {p : Nat} (hc : c ≤ 24) (V : qz_va K F S) (hp : p < c) (us : qz_us' c K F S U) (h : ∀ x fm' M', (∀ i, bt x i = true ↔ (i < c ∧ qz_cf c K F S i p)) → post x (nI c, fm', K, F, S, M', U, D)) :
    ∀ d b, b + d = c → ∀ x fm' M', (∀ i, bt x i = true ↔ (i < b ∧ qz_cf c K F S i p)) → wY_conflictsAt_8 post (nI p) (d + 1) x (nI b) (nI c) fm' K F S M' U D := by
  intro d
  induction d with
  | zero =>
    intro b hb x fm' M' hx
    have : b = c := by omega
    subst this
    exact br_t (nI_le (Nat.le_refl b) (by omega)) (h x _ _ hx)
  | succ d ih =>
    intro b hb x fm' M' hx
    refine br_f (nI_ge (b := c) (by omega) (by omega)) (qy_conf hc V hp (by omega) us (fun cf fm2 M2 => br_f (by decide) (nm_e (nm_r (nI_1 b) (ih (b + 1) (by omega) _ _ _ (fun i => ?_))))) (fun cf fm2 M2 => br_t rfl (nm_r (nI_1 b) (ih (b + 1) (by omega) x _ _ (fun i => ?_)))))
    · rw [b_or, Bool.or_eq_true, qz_bshA (by omega), hx i]
      constructor
      · rintro (⟨z, w⟩ | z)
        · exact ⟨by omega, w⟩
        · rw [z]; exact ⟨by omega, cf⟩
      · rintro ⟨z, w⟩
        by_cases e : i = b
        · exact Or.inr e
        · exact Or.inl ⟨by omega, w⟩
    · rw [hx i]
      constructor
      · rintro ⟨z, w⟩
        exact ⟨by omega, w⟩
      · rintro ⟨z, w⟩
        refine ⟨?_, w⟩
        apply Classical.byContradiction
        intro y
        have e : i = b := by omega
        rw [e] at w
        exact cf w
theorem qy_confAt {post : Int32 → SY → Prop} {p : Nat} (hc : c ≤ 24) (V : qz_va K F S) (hp : p < c) (h : ∀ x fm' M' U', (∀ i, bt x i = true ↔ (i < c ∧ qz_cf c K F S i p)) → post x (nI c, fm', K, F, S, M', U', D)) : wpY_conflictsAt post (nI c, fm, K, F, S, M, U, D) (nI p) := by
  unfold wpY_conflictsAt
  refine qy_find hc V (fun fm1 U1 us => ⟨c + 1, qy_ca8 hc V hp us (fun x fm' M' hx => h x _ _ _ hx) c 0 (by omega) 0 _ _ (fun i => ?_)⟩)
  rw [b_0]
  exact ⟨fun z => (by cases z), fun z => by omega⟩
theorem qy_u24 {post : Int32 → SY → Prop} {p o : Nat} (hp : p < 24) (V : qz_va K F S) (hk : K p = 1 ∨ K p = 2 ∨ K p = 3 ∨ K p = 4) (ho : o < 4) (eo : qz_ow K F S p = nI o) (h1 : (∃ s, s < 16 ∧ ¬ bt (nI s) o = true ∧ ¬ M (16 * p + s) = 0) → post 1 (nI c, fm, K, F, S, M, U, D)) (h0 : ¬ (∃ s, s < 16 ∧ ¬ bt (nI s) o = true ∧ ¬ M (16 * p + s) = 0) → post 0 (nI c, fm, K, F, S, M, U, D)) :
    ∀ d s, s + d = 16 → (∀ s', s' < s → ¬ (¬ bt (nI s') o = true ∧ ¬ M (16 * p + s') = 0)) → wY_isUnset_24 post (nI p) (nI c) fm K F S M U D (d + 1) (nI s) := by
  intro d
  induction d with
  | zero =>
    intro s hs hn
    have : s = 16 := by omega
    subst this
    refine br_t (nI_le (Nat.le_refl 16) (by omega)) (h0 ?_)
    rintro ⟨s, hs, z⟩
    exact hn s hs z
  | succ d ih =>
    intro s hs hn
    have skip : ¬ (¬ bt (nI s) o = true ∧ ¬ M (16 * p + s) = 0) → wY_isUnset_24 post (nI p) (nI c) fm K F S M U D (d + 1) (nI (s + 1)) := by
      intro z
      refine ih (s + 1) (by omega) (fun s' hs' => ?_)
      by_cases e : s' = s
      · rw [e]; exact z
      · exact hn s' (by omega)
    refine br_f (nI_ge (b := 16) (by omega) (by omega)) ?_
    rw [qz_x16, nI_clamp (by omega)]
    refine ⟨vp_in_nI (by omega) (by omega), br_c (fun z => nm_r (nI_1 s) (skip (fun y => y.2 z))) (fun z => qy_owner hp V (fun _ => ?_) (fun no => absurd (Or.inr hk) no))⟩
    rw [eo]
    exact br_c (fun y => h1 ⟨s, by omega, (qz_b1z _ o (by omega)).mp y, z⟩) (fun y => nm_r (nI_1 s) (skip (fun w => y ((qz_b1z _ o (by omega)).mpr w.1))))
theorem qy_unset {post : Int32 → SY → Prop} {p : Nat} (hc : c ≤ 24) (V : qz_va K F S) (hp : p < 24) (h1 : qz_ns c K F S p → ∀ fm' M', post 1 (nI c, fm', K, F, S, M', U, D)) (h0 : ¬ qz_ns c K F S p → ∀ fm' M', post 0 (nI c, fm', K, F, S, M', U, D)) : wpY_isUnset post (nI c, fm, K, F, S, M, U, D) (nI p) := by
  obtain ⟨n, hn, en⟩ := qz_kn V p
  have k14 : (K p = 1 ∨ K p = 2 ∨ K p = 3 ∨ K p = 4) ↔ (1 ≤ n ∧ n ≤ 4) := by
    rw [en]
    have f : ∀ k, k < 5 → (nI n = nI k ↔ n = k) := fun k hk => nI_eq (by omega) (by omega)
    have f1 := f 1 (by omega)
    have f2 := f 2 (by omega)
    have f3 := f 3 (by omega)
    have f4 := f 4 (by omega)
    constructor
    · rintro (z | z | z | z)
      · have := f1.mp z; omega
      · have := f2.mp z; omega
      · have := f3.mp z; omega
      · have := f4.mp z; omega
    · intro z
      have : n = 1 ∨ n = 2 ∨ n = 3 ∨ n = 4 := by omega
      rcases this with z | z | z | z
      · exact Or.inl (f1.mpr z)
      · exact Or.inr (Or.inl (f2.mpr z))
      · exact Or.inr (Or.inr (Or.inl (f3.mpr z)))
      · exact Or.inr (Or.inr (Or.inr (f4.mpr z)))
  unfold wpY_isUnset
  simp only [qz_c24 hp]
  refine ⟨qz_i24 hp, ?_⟩
  rw [en]
  refine qy_inN (l := 1) (u := 4) (by omega) (by omega) (by omega) (fun l u => br_f (by decide) ?_) (fun no => br_t rfl (h0 (fun z => no (k14.mp z.1)) _ _))
  have hk := k14.mpr ⟨l, u⟩
  obtain ⟨o, ho, eo⟩ := qz_ow_o V (Or.inr hk)
  refine qy_begin (w := 2) hc V (by omega) (fun fm1 M1 mt => ⟨17, ?_⟩)
  have eqv : (∃ s, s < 16 ∧ ¬ bt (nI s) o = true ∧ ¬ M1 (16 * p + s) = 0) ↔ qz_em c K F o p := by
    rw [← qz_met_em (S := S) ho]
    constructor
    · rintro ⟨s, hs, y, z⟩
      exact ⟨s, hs, y, (mt _ (by omega)).mp z⟩
    · rintro ⟨s, hs, y, z⟩
      exact ⟨s, hs, y, (mt _ (by omega)).mpr z⟩
  refine qy_u24 hp V hk ho eo (fun z => h1 ⟨hk, o, ho, eo, eqv.mp z⟩ _ _) (fun z => h0 (fun y => z (eqv.mpr ?_)) _ _) 16 0 rfl (fun s' hs' => by omega)
  obtain ⟨_, o', ho', eo', w⟩ := y
  have : o = o' := (qz_ne ho ho').mp (eo.symm.trans eo')
  rw [this]
  exact w
theorem qy_idle {post : Int32 → SY → Prop} {p : Nat} (hc : c ≤ 24) (V : qz_va K F S) (hp : p < 24) (h1 : qz_id c K F S p → ∀ fm' M', post 1 (nI c, fm', K, F, S, M', U, D)) (h0 : ¬ qz_id c K F S p → ∀ fm' M', post 0 (nI c, fm', K, F, S, M', U, D)) : wpY_isIdle post (nI c, fm, K, F, S, M, U, D) (nI p) := by
  have i := qz_i24 hp
  unfold wpY_isIdle
  simp only [qz_c24 hp]
  refine ⟨i, br_c (fun k7 => ⟨i, ?_⟩) (fun k7 => h0 (fun z => k7 z.1) _ _)⟩
  obtain ⟨a, ha, ea⟩ := qz_va_a V (Or.inr (Or.inr (Or.inr (Or.inl k7))))
  rw [ea]
  refine qy_isFree hc V hp ha (fun f fm' M' => br_f (by decide) (h1 ⟨k7, a, ha, ea, f⟩ _ _)) (fun f fm' M' => br_t rfl (h0 (fun z => ?_) _ _))
  obtain ⟨_, a', ha', ea', z⟩ := z
  have : a = a' := (qz_ne ha ha').mp (ea.symm.trans ea')
  rw [← this] at z
  exact f z
theorem qy_fault {post : Int32 → SY → Prop} {p : Nat} (hc : c ≤ 24) (V : qz_va K F S) (hp : p < c) (h1 : qz_ft c K F S p → ∀ fm' M' U', post 1 (nI c, fm', K, F, S, M', U', D)) (h0 : ¬ qz_ft c K F S p → ∀ fm' M' U', post 0 (nI c, fm', K, F, S, M', U', D)) : wpY_isFault post (nI c, fm, K, F, S, M, U, D) (nI p) := by
  unfold wpY_isFault
  refine qy_confAt hc V hp (fun x fm1 M1 U1 hx => br_c (fun z => qy_unset hc V (by omega) (fun u fm2 M2 => br_f (by decide) (h1 (Or.inl u) _ _ _)) (fun nu fm2 M2 => br_t rfl (qy_idle hc V (by omega) (fun u fm3 M3 => br_f (by decide) (h1 (Or.inr (Or.inl u)) _ _ _)) (fun ni fm3 M3 => br_t rfl (h0 ?_ _ _ _))))) (fun z => h1 (Or.inr (Or.inr ?_)) _ _ _))
  · rintro (w | w | w)
    · exact nu w
    · exact ni w
    · exact (qz_bz hc hx).mp z w
  · apply Classical.byContradiction
    intro w
    exact z ((qz_bz hc hx).mpr w)
theorem qy_ft4 {post : Int32 → SY → Prop} (hc : c ≤ 24) (V : qz_va K F S) (h : ∀ k fm' M' U', qz_cn (qz_ft c K F S) c k → post (nI k) (nI c, fm', K, F, S, M', U', D)) :
    ∀ d p, p + d = c → ∀ k fm' M' U', qz_cn (qz_ft c K F S) p k → wY_faults_4 post (d + 1) (nI k) (nI p) (nI c) fm' K F S M' U' D := by
  intro d
  induction d with
  | zero =>
    intro p hp k fm' M' U' hk
    have : p = c := by omega
    subst this
    exact br_t (nI_le (Nat.le_refl p) (by omega)) (h k _ _ _ hk)
  | succ d ih =>
    intro p hp k fm' M' U' hk
    exact br_f (nI_ge (b := c) (by omega) (by omega)) (qy_fault hc V (by omega) (fun f fm2 M2 U2 => br_f (by decide) (nm_r (nI_1 k) (nm_r (nI_1 p) (ih (p + 1) (by omega) (k + 1) _ _ _ (Or.inl ⟨f, k, rfl, hk⟩))))) (fun f fm2 M2 U2 => br_t rfl (nm_r (nI_1 p) (ih (p + 1) (by omega) k _ _ _ (Or.inr ⟨f, hk⟩)))))
theorem qy_faults {post : Int32 → SY → Prop} (hc : c ≤ 24) (V : qz_va K F S) (h : ∀ k fm' M' U', qz_cn (qz_ft c K F S) c k → post (nI k) (nI c, fm', K, F, S, M', U', D)) : wpY_faults post (nI c, fm, K, F, S, M, U, D) :=
  ⟨c + 1, qy_ft4 hc V h c 0 (by omega) 0 _ _ _ rfl⟩
theorem qy_ff2 {post : Int32 → SY → Prop} (hc : c ≤ 24) (V : qz_va K F S) (h : ∀ p fm' M' U', p < c → qz_ft c K F S p → (∀ p', p' < p → ¬ qz_ft c K F S p') → post (nI p) (nI c, fm', K, F, S, M', U', D)) (h0 : ∀ fm' M' U', (∀ p, p < c → ¬ qz_ft c K F S p) → post (-3) (nI c, fm', K, F, S, M', U', D)) :
    ∀ d p, p + d = c → ∀ fm' M' U', (∀ p', p' < p → ¬ qz_ft c K F S p') → wY_firstFault_2 post (d + 1) (nI p) (nI c) fm' K F S M' U' D := by
  intro d
  induction d with
  | zero =>
    intro p hp fm' M' U' hn
    have : p = c := by omega
    subst this
    exact br_t (nI_le (Nat.le_refl p) (by omega)) (h0 _ _ _ hn)
  | succ d ih =>
    intro p hp fm' M' U' hn
    refine br_f (nI_ge (b := c) (by omega) (by omega)) (qy_fault hc V (by omega) (fun f fm2 M2 U2 => br_f (by decide) (h p _ _ _ (by omega) f hn)) (fun f fm2 M2 U2 => br_t rfl (nm_r (nI_1 p) (ih (p + 1) (by omega) _ _ _ (fun p' hp' => ?_)))))
    by_cases e : p' = p
    · rw [e]; exact f
    · exact hn p' (by omega)
theorem qy_first {post : Int32 → SY → Prop} (hc : c ≤ 24) (V : qz_va K F S) (h : ∀ p fm' M' U', p < c → qz_ft c K F S p → (∀ p', p' < p → ¬ qz_ft c K F S p') → post (nI p) (nI c, fm', K, F, S, M', U', D)) (h0 : ∀ fm' M' U', (∀ p, p < c → ¬ qz_ft c K F S p) → post (-3) (nI c, fm', K, F, S, M', U', D)) : wpY_firstFault post (nI c, fm, K, F, S, M, U, D) :=
  ⟨c + 1, qy_ff2 hc V h h0 c 0 (by omega) _ _ _ (fun p' hp' => by omega)⟩
theorem qy_s28 {post : Int32 → SY → Prop} (hc : c ≤ 24) (h : ∀ x, (∀ i, bt x i = true ↔ ∃ j, j < 16 * c ∧ j / 16 = i ∧ ¬ M j = 0 ∧ ¬ U j = 0) → post x (nI c, fm, K, F, S, M, U, D)) :
    ∀ d j, j + d = 16 * c → ∀ x, (∀ i, bt x i = true ↔ ∃ j', j' < j ∧ j' / 16 = i ∧ ¬ M j' = 0 ∧ ¬ U j' = 0) → wY_span_28 post (nI c) fm K F S M U D (d + 1) x (nI j) := by
  have e16 : (16 : Int32) * nI c = nI (16 * c) := by
    show nI 16 * nI c = _
    rw [pk_mul]
  intro d
  induction d with
  | zero =>
    intro j hj x hx
    have : j = 16 * c := by omega
    subst this
    exact pk_le (16 * c) (16 * c) (fun _ => h x hx) (fun z => by omega) e16
  | succ d ih =>
    intro j hj x hx
    have iv : vp_in (nI j) 384 := vp_in_nI (by omega) (by omega)
    have ed : nI j / 16 = nI (j / 16) := pk_div (d := 16) (by omega) (by omega) (by omega)
    have skip : ¬ (¬ M j = 0 ∧ ¬ U j = 0) → wY_span_28 post (nI c) fm K F S M U D (d + 1) x (nI (j + 1)) := by
      intro z
      refine ih (j + 1) (by omega) x (fun i => ?_)
      rw [hx i]
      constructor
      · rintro ⟨j', hj', w⟩
        exact ⟨j', by omega, w⟩
      · rintro ⟨j', hj', w⟩
        by_cases e : j' = j
        · rw [e] at w; exact absurd w.2 z
        · exact ⟨j', by omega, w⟩
    refine pk_le (16 * c) j (fun z => by omega) (fun _ => ⟨iv, ?_⟩) e16
    rw [nI_clamp (by omega), ed]
    refine br_c (fun z => nm_r (nI_1 j) (skip (fun w => w.1 z))) (fun z => ⟨iv, br_c (fun y => nm_r (nI_1 j) (skip (fun w => w.2 y))) (fun y => ⟨by decide, nm_e (nm_r (nI_1 j) (ih (j + 1) (by omega) _ (fun i => ?_)))⟩)⟩)
    rw [b_or, Bool.or_eq_true, qz_bshA (by omega), hx i]
    constructor
    · rintro (⟨j', hj', w⟩ | w)
      · exact ⟨j', by omega, w⟩
      · exact ⟨j, by omega, w.symm, z, y⟩
    · rintro ⟨j', hj', w⟩
      by_cases e : j' = j
      · rw [e] at w; exact Or.inr w.1.symm
      · exact Or.inl ⟨j', by omega, w⟩
theorem qy_span {post : Int32 → SY → Prop} {b : Nat} (hc : c ≤ 24) (V : qz_va K F S) (hb : b < c) (h : ∀ x fm' M' U', (∀ i, bt x i = true ↔ (i < c ∧ qz_sp c K F S b i)) → post x (nI c, fm', K, F, S, M', U', D)) :
    wpY_span post (nI c, fm, K, F, S, M, U, D) (nI b) := by
  unfold wpY_span
  refine qy_pt hc (nI b) (fun _ _ _ => br_f (by decide) (qy_follow hc V hb (fun mk re fm1 M1 mt => br_f (by decide) (qy_find hc V (fun fm2 U2 us => ⟨16 * c + 1, qy_s28 hc (fun x hx => h x _ _ _ (fun i => ?_)) (16 * c) 0 (by omega) 0 (fun i => ?_)⟩))) (fun no fm1 M1 => br_t rfl (h 0 _ _ _ (fun i => ?_))))) (fun no => absurd rfl (no b hb))
  · rw [hx i]
    constructor
    · rintro ⟨j, hj, e, z, y⟩
      have hi : i < c := by omega
      have e16 : j = 16 * i + j % 16 := by omega
      have yu := (us j (by omega)).2.mp y
      have ym := (mt j (by omega)).mp z
      rw [e16] at yu ym
      obtain ⟨r, hr, hbit, l⟩ := (qz_yu_lv (Nat.mod_lt _ (by omega))).mp yu
      exact ⟨hi, r, hr, (qz_met_fo (by omega) re mk hr).mp ⟨j % 16, Nat.mod_lt _ (by omega), hbit, ym⟩, l⟩
    · rintro ⟨hi, r, hr, hh, l⟩
      obtain ⟨s, hs, hbit, z⟩ := (qz_met_fo (by omega) re mk hr).mpr hh
      exact ⟨16 * i + s, by omega, by omega, (mt _ (by omega)).mpr z, (us _ (by omega)).2.mpr ((qz_yu_lv hs).mpr ⟨r, hr, hbit, l⟩)⟩
  · rw [b_0]
    refine ⟨fun z => (by cases z), ?_⟩
    rintro ⟨j', hj', _⟩
    omega
  · rw [b_0]
    refine ⟨fun z => (by cases z), ?_⟩
    rintro ⟨_, r, hr, hh, _⟩
    have f := (qz_ho_f hh).2.2.2.2 (by omega)
    exact absurd ⟨f.2, f.1⟩ no
theorem qy_br30 {post : Int32 → SY → Prop} {x : Int32} (h : ∀ k, qz_cn (fun i => bt x i = true) 24 k → post (nI k) (nI c, fm, K, F, S, M, U, D)) :
    ∀ d b, b + d = 24 → ∀ k, qz_cn (fun i => bt x i = true) b k → wY_broken_30 post x (nI c) fm K F S M U D (d + 1) (nI k) (nI b) := by
  intro d
  induction d with
  | zero =>
    intro b hb k hk
    have : b = 24 := by omega
    subst this
    exact br_t (nI_le (Nat.le_refl 24) (by omega)) (h k hk)
  | succ d ih =>
    intro b hb k hk
    refine br_f (nI_ge (b := 24) (by omega) (by omega)) ?_
    rw [qz_b1 x b (by omega)]
    by_cases z : bt x b = true
    · rw [if_pos z]
      exact nm_r (nI_1 k) (nm_r (nI_1 b) (ih (b + 1) (by omega) (k + 1) (Or.inl ⟨z, k, rfl, hk⟩)))
    · rw [if_neg z]
      exact nm_r (Int32.add_zero _) (nm_r (nI_1 b) (ih (b + 1) (by omega) k (Or.inr ⟨z, hk⟩)))
theorem qy_br4 {post : Int32 → SY → Prop} (hc : c ≤ 24) (V : qz_va K F S) (h : ∀ k fm' M' U', qz_cn (fun i => i < c ∧ ∃ p, p < c ∧ qz_cf c K F S i p) 24 k → post (nI k) (nI c, fm', K, F, S, M', U', D)) :
    ∀ d p, p + d = c → ∀ x fm' M' U', (∀ i, bt x i = true ↔ (i < c ∧ ∃ p', p' < p ∧ qz_cf c K F S i p')) → wY_broken_4 post (d + 1) x (nI p) (nI c) fm' K F S M' U' D := by
  intro d
  induction d with
  | zero =>
    intro p hp x fm' M' U' hx
    have : p = c := by omega
    subst this
    refine br_t (nI_le (Nat.le_refl p) (by omega)) ⟨25, qy_br30 (fun k hk => h k _ _ _ ?_) 24 0 (by omega) 0 rfl⟩
    exact qz_cn_x 24 k (fun i _ => hx i) hk
  | succ d ih =>
    intro p hp x fm' M' U' hx
    refine br_f (nI_ge (b := c) (by omega) (by omega)) (qy_confAt hc V (by omega) (fun y fm2 M2 U2 hy => nm_e (nm_r (nI_1 p) (ih (p + 1) (by omega) _ _ _ _ (fun i => ?_)))))
    rw [b_or, Bool.or_eq_true, hx i, hy i]
    constructor
    · rintro (⟨z, p', hp', w⟩ | ⟨z, w⟩)
      · exact ⟨z, p', by omega, w⟩
      · exact ⟨z, p, by omega, w⟩
    · rintro ⟨z, p', hp', w⟩
      by_cases e : p' = p
      · rw [e] at w; exact Or.inr ⟨z, w⟩
      · exact Or.inl ⟨z, p', by omega, w⟩
theorem qy_broken {post : Int32 → SY → Prop} (hc : c ≤ 24) (V : qz_va K F S) (h : ∀ k fm' M' U', qz_cn (fun i => i < c ∧ ∃ p, p < c ∧ qz_cf c K F S i p) 24 k → post (nI k) (nI c, fm', K, F, S, M', U', D)) : wpY_broken post (nI c, fm, K, F, S, M, U, D) := by
  refine ⟨c + 1, qy_br4 hc V h c 0 (by omega) 0 _ _ _ (fun i => ?_)⟩
  rw [b_0]
  exact ⟨fun z => (by cases z), fun ⟨_, p', hp', _⟩ => by omega⟩
end
