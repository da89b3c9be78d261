/-! ===== X: the backward rounds, analyse ===== -/
section
variable {c : Nat} {fq : Int32} {K F S sn lo em lv Q L : Nat → Int32}
theorem qx_lb55 {post : Int32 → Prop} {p : Nat} {y : Int32} (hp : p < 24) (V : qz_va K F S)
    (h : ∀ x, (∀ i, bt x i = true ↔ (i < 4 ∧ ((K p = 7 ∧ F p = nI i) ∨ ∃ r', bt y r' = true ∧ qz_hr K F S p i r'))) → post x) :
    ∀ d r, r + d = 4 → ∀ x, (∀ i, bt x i = true ↔ (i < r ∧ ((K p = 7 ∧ F p = nI i) ∨ ∃ r', bt y r' = true ∧ qz_hr K F S p i r'))) → wX_liveBefore_55 post (nI p) y (nI c) fq K F S sn lo em lv Q L (d + 1) x (nI r) := by
  intro d
  induction d with
  | zero =>
    intro r hr x hx
    have : r = 4 := by omega
    subst this
    exact br_t (nI_le (Nat.le_refl 4) (by omega)) (h x hx)
  | succ d ih =>
    intro r hr x hx
    have hr4 : r < 4 := by omega
    have yes : ((K p = 7 ∧ F p = nI r) ∨ ∃ r', bt y r' = true ∧ qz_hr K F S p r r') → wX_liveBefore_84 post (wX_liveBefore_55 post (nI p) y (nI c) fq K F S sn lo em lv Q L (d + 1)) (nI p) y x (nI r) (nI c) fq K F S sn lo em lv Q L := by
      intro hy
      unfold wX_liveBefore_84
      refine nm_e (nm_r (nI_1 r) (ih (r + 1) (by omega) _ (fun i => ?_)))
      rw [b_or, Bool.or_eq_true, qz_bshA (by omega), hx i]
      constructor
      · rintro (⟨z, w⟩ | z)
        · exact ⟨by omega, w⟩
        · rw [z]; exact ⟨by omega, hy⟩
      · rintro ⟨z, w⟩
        by_cases e : i = r
        · exact Or.inr e
        · exact Or.inl ⟨by omega, w⟩
    refine br_f (nI_ge (b := 4) hr4 (by omega)) (qx_uses hp (fun k7 ef => br_f (by decide) (yes (Or.inl ⟨k7, ef⟩))) (fun nu => br_t rfl (qx_heirs hp hr4 V (fun m hm hh => ?_))))
    refine br_c (fun z => nm_r (nI_1 r) (ih (r + 1) (by omega) x (fun i => ?_))) (fun z => yes (Or.inr ?_))
    · rw [hx i]
      constructor
      · rintro ⟨a, b⟩
        exact ⟨by omega, b⟩
      · rintro ⟨a, b⟩
        refine ⟨?_, b⟩
        apply Classical.byContradiction
        intro w
        have ei : i = r := by omega
        subst ei
        rcases b with b | ⟨r', h1, h2⟩
        · exact nu b
        · have := qz_zero.mp z r' (by have := h2.1; omega)
          rw [b_and, h1, (hh r' h2.1).mpr h2] at this
          exact this rfl
    · apply Classical.byContradiction
      intro w
      apply z
      rw [qz_zero]
      intro j hj hb
      rw [b_and, Bool.and_eq_true] at hb
      by_cases h4 : 4 ≤ j
      · exact qz_hi4 m hm j hj h4 hb.1
      · exact w ⟨j, hb.2, (hh j (by omega)).mp hb.1⟩
theorem qx_lb {post : Int32 → Prop} {p : Nat} (hp : p < 24) (hc : c ≤ 24) (V : qz_va K F S)
    (h : ∀ x, (∀ i, bt x i = true ↔ (i < 4 ∧ qz_lb c K F S lv p i)) → post x) : wpX_liveBefore post (nI c, fq, K, F, S, sn, lo, em, lv, Q, L) (nI p) := by
  have nb : ∀ i, ¬ bt 0 i = true := by intro i; rw [b_0]; simp
  -- what y must be
  have H : ∀ y, (∀ r', bt y r' = true ↔ ∃ q, qz_nx c K F p q ∧ bt (lv q) r' = true) → ∃ n, wX_liveBefore_55 post (nI p) y (nI c) fq K F S sn lo em lv Q L n 0 0 := by
    intro y hy
    refine ⟨5, qx_lb55 hp V (fun x hx => h x (fun i => ?_)) 4 0 rfl 0 (fun i => ⟨fun z => absurd z (nb i), fun z => by omega⟩)⟩
    rw [hx i]
    unfold qz_lb
    constructor
    · rintro ⟨h4, a | ⟨r', a, b⟩⟩
      · exact ⟨h4, Or.inl a⟩
      · obtain ⟨q, e, f⟩ := (hy r').mp a
        exact ⟨h4, Or.inr ⟨q, r', e, b, f⟩⟩
    · rintro ⟨h4, a | ⟨q, r', e, b, f⟩⟩
      · exact ⟨h4, Or.inl a⟩
      · exact ⟨h4, Or.inr ⟨r', (hy r').mpr ⟨q, e, f⟩, b⟩⟩
  unfold wpX_liveBefore
  refine qx_jump hp hc V (fun rj hj => qx_next hp hc (fun rn hn => ?_))
  have H2 : ∀ y, (∀ r', bt y r' = true ↔ ∃ q, qz_xj c K F p q ∧ bt (lv q) r' = true) → wX_liveBefore_32 post (nI p) rn y (nI c) fq K F S sn lo em lv Q L := by
    intro y hy
    rcases hn with ⟨rfl, no⟩ | ⟨q, rfl, hq, uq⟩
    · refine br_t rfl (H y (fun r' => ?_))
      rw [hy r']
      constructor
      · rintro ⟨q, a, b⟩
        exact ⟨q, qz_nx_x.mpr (Or.inl a), b⟩
      · rintro ⟨q, a, b⟩
        rcases qz_nx_x.mp a with w | w
        · exact ⟨q, w, b⟩
        · exact absurd w (no q)
    · have hqc := hq.1
      refine br_f (qz_n3 (by omega)) ⟨qz_i24 (by omega), nm_e (H _ (fun r' => ?_))⟩
      rw [qz_c24 (by omega), b_or, Bool.or_eq_true, hy r']
      constructor
      · rintro (⟨q', a, b⟩ | b)
        · exact ⟨q', qz_nx_x.mpr (Or.inl a), b⟩
        · exact ⟨q, qz_nx_x.mpr (Or.inr hq), b⟩
      · rintro ⟨q', a, b⟩
        rcases qz_nx_x.mp a with w | w
        · exact Or.inl ⟨q', w, b⟩
        · rw [uq q' w] at b; exact Or.inr b
  rcases hj with ⟨rfl, no⟩ | ⟨q, rfl, hq, uq⟩
  · exact br_t rfl (H2 0 (fun r' => ⟨fun z => absurd z (nb r'), fun ⟨q, a, _⟩ => absurd a (no q)⟩))
  · have hqc := hq.1
    refine br_f (qz_n3 (by omega)) ⟨qz_i24 (by omega), nm_e (H2 _ (fun r' => ?_))⟩
    rw [qz_c24 (by omega), b_or, Bool.or_eq_true]
    constructor
    · rintro (z | b)
      · exact absurd z (nb r')
      · exact ⟨q, hq, b⟩
    · rintro ⟨q', a, b⟩
      rw [uq q' a] at b
      exact Or.inr b
def qz_ml (lv : Nat → Int32) : Nat := qz_sm (fun p => qz_pc (lv p)) 24
theorem qz_ml_b (lv : Nat → Int32) : qz_ml lv ≤ 768 := by
  have b := qz_sm_b (f := fun p => qz_pc (lv p)) (B := 32) 24 (fun i _ => qz_pc_le32 _)
  unfold qz_ml
  omega
def qz_GL (lv : Nat → Int32) (g : Int32) (lv' : Nat → Int32) (C : Prop) : Prop := (g = 0 ∧ lv' = lv ∧ C) ∨ (g = 1 ∧ qz_ml lv < qz_ml lv')
theorem qx_live24 {post : SX → Prop} {J : Int32 → Int32 → (Nat → Int32) → (Nat → Int32) → (Nat → Int32) → (Nat → Int32) → (Nat → Int32) → (Nat → Int32) → (Nat → Int32) → (Nat → Int32) → (Nat → Int32) → Prop} {w : Nat} (hc : c ≤ 24) (V : qz_va K F S)
    (h : ∀ g lv', qz_LI c K F S lv' → qz_GL lv g lv' (qz_LC c K F S lv) → J g (nI (w + 1)) K F S sn lo em lv' Q L) :
    ∀ d, d ≤ c → ∀ g lv', qz_LI c K F S lv' → qz_GL lv g lv' (∀ p, d ≤ p → p < c → ∀ r, r < 4 → qz_lb c K F S lv p r → bt (lv p) r = true) → wX_findLive_24 post J (nI w) (nI c) fq (d + 1) g (nI d + (-1)) K F S sn lo em lv' Q L := by
  intro d
  induction d with
  | zero =>
    intro _ g lv' I G
    refine br_t (by decide) (nm_r (nI_1 w) (h _ _ I ?_))
    rcases G with ⟨g0, e1, c1⟩ | G
    · exact Or.inl ⟨g0, e1, fun p hp => c1 p (Nat.zero_le p) hp⟩
    · exact Or.inr G
  | succ d ih =>
    intro hd g lv' I G
    have hd24 : d < 24 := by omega
    rw [pk_m1]
    refine br_f (nI_pos (by omega)) (qx_lb hd24 hc V (fun x hx => ⟨qz_i24 hd24, ?_⟩))
    rw [qz_c24 hd24]
    have up := qz_LI_up hc (p := d) (by omega) I hx
    refine br_c (fun same => nm_e (ih (by omega) g lv' I ?_)) (fun diff => ⟨qz_i24 hd24, nm_e (nm_e (ih (by omega) 1 _ up.1 ?_))⟩)
    · rcases G with ⟨g0, e1, c1⟩ | G
      · subst e1
        refine Or.inl ⟨g0, rfl, fun p hp hpc r hr hl => ?_⟩
        by_cases z : p = d
        · subst z
          rw [← same]
          exact (hx r).mpr ⟨hr, hl⟩
        · exact c1 p (by omega) hpc r hr hl
      · exact Or.inr G
    · have gr : qz_ml lv' < qz_ml (upd lv' d x) := qz_sm_up (f := qz_pc) hd24 (fun i hi => pk_un hi) (by rw [pk_us]; exact up.2 diff)
      rcases G with ⟨_, e1, _⟩ | ⟨_, G⟩
      · subst e1
        exact Or.inr ⟨rfl, gr⟩
      · exact Or.inr ⟨rfl, by omega⟩
theorem qx_live4 {post : SX → Prop} (hc : c ≤ 24) (V : qz_va K F S) (h : ∀ lv', qz_LS c K F S lv' → post (nI c, fq, K, F, S, sn, lo, em, lv', Q, L)) :
    ∀ n w lv', qz_LI c K F S lv' → w ≤ qz_ml lv' → 769 - qz_ml lv' ≤ n → wX_findLive_4 post (nI c) fq (n + 1) 1 (nI w) K F S sn lo em lv' Q L := by
  intro n
  induction n with
  | zero =>
    intro w lv' I hw hn
    have := qz_ml_b lv'
    omega
  | succ n ih =>
    intro w lv' I hw hn
    have hb := qz_ml_b lv'
    refine br_f (by decide) (br_f (nI_ge (b := 10000) (by omega) (by omega)) (nm_r (Int32.sub_eq_add_neg _ _) ⟨c + 1, ?_⟩))
    refine qx_live24 (lv := lv') hc V (fun g lv2 I2 G => ?_) c (Nat.le_refl c) 0 lv' I (Or.inl ⟨rfl, rfl, fun p hp hpc => by omega⟩)
    rcases G with ⟨g0, e1, c1⟩ | ⟨g1, G⟩
    · subst e1
      rw [g0]
      exact br_t rfl (h _ (qz_LS_of hc I2 c1))
    · rw [g1]
      exact ih (w + 1) lv2 I2 (by omega) (by omega)
theorem qx_live {post : SX → Prop} (hc : c ≤ 24) (V : qz_va K F S) (I : qz_LI c K F S lv) (h : ∀ lv', qz_LS c K F S lv' → post (nI c, fq, K, F, S, sn, lo, em, lv', Q, L)) : wpX_findLive post (nI c, fq, K, F, S, sn, lo, em, lv, Q, L) :=
  ⟨770, qx_live4 hc V h 769 0 lv I (Nat.zero_le _) (Nat.sub_le _ _)⟩
/-- after analyse the four findings are the least sets -/
theorem qx_ana {post : SX → Prop} (hc : c ≤ 24) (V : qz_va K F S) (hb : ∀ p, sn p = 0 ∨ sn p = 1)
    (h : ∀ sn' lo' em' lv', qz_FS c K F S sn' em' lo' → qz_LS c K F S lv' → post (nI c, fq, K, F, S, sn', lo', em', lv', Q, L)) : wpX_analyse post (nI c, fq, K, F, S, sn, lo, em, lv, Q, L) := by
  have nb : ∀ i, ¬ bt 0 i = true := by intro i; rw [b_0]; simp
  unfold wpX_analyse
  refine qx_clear (fun sn' lo' em' lv' h1 h2 h3 h4 h5 => ?_)
  have hb' : ∀ p, sn' p = 0 ∨ sn' p = 1 := by
    intro p
    by_cases z : p < 24
    · exact Or.inl (h1 p z)
    · rw [h5 p (by omega)]; exact hb p
  refine pk_le c 0 (fun z => h _ _ _ _ ?_ ?_) (fun z => ?_)
  · have c0 : c = 0 := by omega
    subst c0
    refine ⟨fun p hp => ⟨fun w => absurd (h1 p hp) w, fun w => ?_⟩, fun p o hp ho => ⟨fun w => ?_, fun w => ?_⟩, fun p r l hp hr => ⟨fun w => ?_, fun w => ?_⟩, hb'⟩
    · have := qz_re_lt w; omega
    · rw [h3 p hp] at w; exact absurd w (nb o)
    · have := qz_re_lt (qz_em_re w); omega
    · rw [h2 _ (by omega)] at w; exact absurd w (nb l)
    · have := (qz_ho_f w).1; omega
  · have c0 : c = 0 := by omega
    subst c0
    intro p r hp hr
    refine ⟨fun w => ?_, fun w => ?_⟩
    · rw [h4 p hp] at w; exact absurd w (nb r)
    · have := (qz_lv_f w).1; omega
  · refine qx_begin z h1 h2 h3 hb' (fun sn2 lo2 em2 I => ?_)
    refine qx_fwd hc V I (fun sn3 lo3 em3 FS => ?_)
    refine qx_live hc V ?_ (fun lv4 LS => h _ _ _ _ FS LS)
    exact ⟨fun p i hp w => by rw [h4 p hp] at w; exact absurd w (nb i), fun p i hp w => by rw [h4 p hp] at w; exact absurd w (nb i)⟩
end
