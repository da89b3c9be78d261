/-! ===== X: clearing, the begin, the forward rounds ===== -/
section
variable {c : Nat} {fq : Int32} {K F S sn lo em lv Q L : Nat → Int32}
theorem qx_clear {post : SX → Prop} (h : ∀ sn' lo' em' lv' : Nat → Int32, (∀ p, p < 24 → sn' p = 0) → (∀ i, i < 96 → lo' i = 0) → (∀ p, p < 24 → em' p = 0) → (∀ p, p < 24 → lv' p = 0) → (∀ p, 24 ≤ p → sn' p = sn p) → post (nI c, fq, K, F, S, sn', lo', em', lv', Q, L)) : wpX_clearFindings post (nI c, fq, K, F, S, sn, lo, em, lv, Q, L) := by
  unfold wpX_clearFindings
  refine loop_0 (fun n i (s : (Nat → Int32) × (Nat → Int32) × (Nat → Int32)) => wX_clearFindings_2 post (nI c) fq n (nI i) K F S s.1 lo s.2.1 s.2.2 Q L)
    (fun i s => (∀ p, p < i → s.1 p = 0 ∧ s.2.1 p = 0 ∧ s.2.2 p = 0) ∧ (∀ p, 24 ≤ p → s.1 p = sn p)) 24 (sn, em, lv) ⟨fun p hp => by omega, fun _ _ => rfl⟩ ?_ ?_
  · rintro n ⟨sn', em', lv'⟩ ⟨h1, h2⟩
    refine br_t (nI_le (Nat.le_refl 24) (by omega)) ?_
    refine loop_0 (fun n i (lo' : Nat → Int32) => wX_clearFindings_37 post (nI c) fq n (nI i) K F S sn' lo' em' lv' Q L)
      (fun i lo' => ∀ j, j < i → lo' j = 0) 96 lo (fun j hj => by omega) ?_ ?_
    · intro n lo' h3
      exact br_t (nI_le (Nat.le_refl 96) (by omega)) (h sn' lo' em' lv' (fun p hp => (h1 p hp).1) h3 (fun p hp => (h1 p hp).2.1) (fun p hp => (h1 p hp).2.2) h2)
    · intro n j lo' hj h3 hk
      refine br_f (nI_ge (b := 96) hj (by omega)) ⟨vp_in_nI hj (by omega), nm_e (nm_r (nI_1 j) (hk _ ?_))⟩
      intro k hkk
      rw [nI_clamp (by omega)]
      by_cases z : k = j
      · rw [z, pk_us]
      · rw [pk_un z]; exact h3 k (by omega)
  · rintro n j ⟨sn', em', lv'⟩ hj ⟨h1, h2⟩ hk
    have i := qz_i24 hj
    have e1 : upd sn' (nI j).toNatClampNeg (vp_nar .boolean 0) = upd sn' j 0 := by rw [qz_c24 hj, qz_nb0]
    have e2 : upd em' (nI j).toNatClampNeg 0 = upd em' j 0 := by rw [qz_c24 hj]
    have e3 : upd lv' (nI j).toNatClampNeg 0 = upd lv' j 0 := by rw [qz_c24 hj]
    refine br_f (nI_ge (b := 24) hj (by omega)) ⟨i, nm_r e1 ⟨i, nm_r e2 ⟨i, nm_r e3 (nm_r (nI_1 j) (hk (upd sn' j 0, upd em' j 0, upd lv' j 0) ⟨?_, ?_⟩))⟩⟩⟩
    · intro k hkk
      show upd sn' j 0 k = 0 ∧ upd em' j 0 k = 0 ∧ upd lv' j 0 k = 0
      by_cases z : k = j
      · rw [z, pk_us, pk_us, pk_us]
        exact ⟨rfl, rfl, rfl⟩
      · rw [pk_un z, pk_un z, pk_un z]
        exact h1 k (by omega)
    · intro k hkk
      show upd sn' j 0 k = sn k
      rw [pk_un (by omega)]
      exact h2 k hkk
theorem qx_begin {post : SX → Prop} (hc : 0 < c) (hsn : ∀ p, p < 24 → sn p = 0) (hlo : ∀ i, i < 96 → lo i = 0) (hem : ∀ p, p < 24 → em p = 0) (hb : ∀ p, sn p = 0 ∨ sn p = 1)
    (h : ∀ sn' lo' em' : Nat → Int32, qz_FI c K F S sn' em' lo' → post (nI c, fq, K, F, S, sn', lo', em', lv, Q, L)) : wpX_enterBegin post (nI c, fq, K, F, S, sn, lo, em, lv, Q, L) := by
  unfold wpX_enterBegin
  have nb : ∀ i, ¬ bt 0 i = true := by intro i; rw [b_0]; simp
  refine nm_e (nm_e ?_)
  refine loop_0 (fun n i (lo' : Nat → Int32) => wX_enterBegin_17 post (nI c) fq n (nI i) K F S (upd sn 0 (vp_nar .boolean 1)) lo' (upd em 0 15) lv Q L)
    (fun i lo' => (∀ j, j < i → lo' j = 16777216) ∧ (∀ j, i ≤ j → lo' j = lo j)) 4 lo ⟨fun j hj => by omega, fun _ _ => rfl⟩ ?_ ?_
  · rintro n lo' ⟨h1, h2⟩
    refine br_t (nI_le (Nat.le_refl 4) (by omega)) (h _ _ _ ?_)
    rw [qz_nb1]
    refine ⟨?_, ?_, ?_, ?_, ?_, ?_, ?_⟩
    · intro p hp z
      by_cases e : p = 0
      · rw [e]; exact qz_re0 hc
      · rw [pk_un e] at z
        exact absurd (hsn p hp) z
    · intro p o hp ho z
      by_cases e : p = 0
      · rw [e]; exact qz_R0 (Or.inl ⟨rfl, hc⟩)
      · rw [pk_un e, hem p hp] at z
        exact absurd z (nb o)
    · intro p r l hp hr z
      by_cases e : p = 0
      · rw [e, h1 (0 * 4 + r) (by omega), qz_b24] at z
        rw [e, z]
        exact qz_ho_0 hr hc
      · rw [h2 (p * 4 + r) (by omega), hlo (p * 4 + r) (by omega)] at z
        exact absurd z (nb l)
    · rw [pk_us]; decide
    · intro o ho
      rw [pk_us]
      exact (by decide +kernel : ∀ o, o < 4 → bt 15 o = true) o ho
    · intro r hr
      rw [h1 r hr, qz_b24]
    · intro p
      by_cases e : p = 0
      · rw [e, pk_us]; exact Or.inr rfl
      · rw [pk_un e]; exact hb p
  · rintro n j lo' hj ⟨h1, h2⟩ hk
    refine br_f (nI_ge (b := 4) hj (by omega)) ⟨vp_in_nI (by omega) (by omega), nm_e (nm_r (nI_1 j) (hk _ ⟨?_, ?_⟩))⟩
    · intro k hkk
      rw [nI_clamp (by omega)]
      by_cases z : k = j
      · rw [z, pk_us]
      · rw [pk_un z]; exact h1 k (by omega)
    · intro k hkk
      rw [nI_clamp (by omega), pk_un (by omega)]
      exact h2 k (by omega)
end
/-- the forward sets before and after, with the flag: nothing changed and C holds, or something grew -/
def qz_GX (sn em lo : Nat → Int32) (g : Int32) (sn' em' lo' : Nat → Int32) (C : Prop) : Prop := (g = 0 ∧ sn' = sn ∧ em' = em ∧ lo' = lo ∧ C) ∨ (g = 1 ∧ qz_mu sn em lo < qz_mu sn' em' lo')
theorem qz_GX_01 {sn em lo : Nat → Int32} {g : Int32} {sn' em' lo' : Nat → Int32} {C : Prop} (h : qz_GX sn em lo g sn' em' lo' C) : g = 0 ∨ g = 1 := by
  rcases h with h | h
  · exact Or.inl h.1
  · exact Or.inr h.1
section
variable {c : Nat} {fq : Int32} {K F S sn lo em lv Q L : Nat → Int32}
theorem qx_pass60 {post : Int32 → SX → Prop} {p q : Nat} (hc : c ≤ 24) (V : qz_va K F S) (hp : qz_re c K F p) (e : qz_nx c K F p q)
    (h : ∀ g sn' lo' em', qz_FI c K F S sn' em' lo' → qz_GX sn em lo g sn' em' lo' (qz_cl K F S sn em lo p q) → post g (nI c, fq, K, F, S, sn', lo', em', lv, Q, L)) :
    ∀ d r, r + d = 4 → ∀ g sn' lo' em', qz_FI c K F S sn' em' lo' → qz_GX sn em lo g sn' em' lo' (¬ sn q = 0 ∧ (∀ o, o < 4 → qz_ea K F em p o → bt (em q) o = true) ∧ (∀ r', r' < r → ∀ l, qz_la K F S lo p r' l → bt (lo (q * 4 + r')) l = true)) → wX_passTo_60 post (nI p) (nI q) (nI c) fq (d + 1) g (nI r) K F S sn' lo' em' lv Q L := by
  have hp24 : p < 24 := by have := qz_re_lt hp; omega
  have hq24 : q < 24 := by have := e.1; omega
  intro d
  induction d with
  | zero =>
    intro r hr g sn' lo' em' I G
    have : r = 4 := by omega
    subst this
    exact br_t (nI_le (Nat.le_refl 4) (by omega)) ⟨qz_nw (qz_GX_01 G), h _ _ _ _ I G⟩
  | succ d ih =>
    intro r hr g sn' lo' em' I G
    have hr4 : r < 4 := by omega
    refine br_f (nI_ge (b := 4) hr4 (by omega)) (nm_r (qz_x4 q r) ⟨vp_in_nI (by omega) (by omega), qx_loans hp24 hr4 V (fun x hx => nm_e ⟨vp_in_nI (by omega) (by omega), ?_⟩)⟩)
    rw [nI_clamp (by omega)]
    refine br_c (fun same => nm_r (nI_1 r) (ih (r + 1) (by omega) g sn' lo' em' I ?_)) (fun diff => ⟨vp_in_nI (by omega) (by omega), nm_e (nm_r (nI_1 r) (ih (r + 1) (by omega) 1 sn' _ em' ?_ ?_))⟩)
    · rcases G with ⟨g0, e1, e2, e3, c1, c2, c3⟩ | G
      · subst e1
        subst e2
        subst e3
        refine Or.inl ⟨g0, rfl, rfl, rfl, c1, c2, ?_⟩
        intro r' hr' l hl
        by_cases z : r' = r
        · subst z
          exact qz_or_e same ((hx l).mpr hl)
        · exact c3 r' (by omega) l hl
      · exact Or.inr G
    · exact qz_FI_lo hr4 I (fun l hl => qz_la_ho hc I hr4 hp e ((hx l).mp hl))
    · have gr := qz_mu_lo (sn := sn') (em := em') (lo := lo') (i := q * 4 + r) (x := x) (by omega) diff
      rcases G with ⟨_, e1, e2, e3, _⟩ | ⟨_, G⟩
      · subst e1
        subst e2
        subst e3
        exact Or.inr ⟨rfl, gr⟩
      · exact Or.inr ⟨rfl, by omega⟩
theorem qx_passTo {post : Int32 → SX → Prop} {p q : Nat} (hc : c ≤ 24) (V : qz_va K F S) (I : qz_FI c K F S sn em lo) (hp : qz_re c K F p) (e : qz_nx c K F p q)
    (h : ∀ g sn' lo' em', qz_FI c K F S sn' em' lo' → qz_GX sn em lo g sn' em' lo' (qz_cl K F S sn em lo p q) → post g (nI c, fq, K, F, S, sn', lo', em', lv, Q, L)) : wpX_passTo post (nI c, fq, K, F, S, sn, lo, em, lv, Q, L) (nI p) (nI q) := by
  have hp24 : p < 24 := by have := qz_re_lt hp; omega
  have hq24 : q < 24 := by have := e.1; omega
  have i := qz_i24 hq24
  have cq := qz_c24 hq24
  have I1 := qz_FI_sn I hq24 (qz_re1 hp e)
  have M : ∀ g : Int32, qz_GX sn em lo g (upd sn q 1) em lo (¬ sn q = 0) → wX_passTo_14 post (nI p) (nI q) g (nI c) fq K F S sn lo em lv Q L := by
    intro g G
    unfold wX_passTo_14
    rw [cq, qz_nb1]
    refine ⟨i, nm_e ⟨i, qx_empty hp24 V (fun x hx => nm_e ⟨i, br_c (fun same => ⟨5, ?_⟩) (fun diff => ⟨i, nm_e ⟨5, ?_⟩⟩)⟩)⟩⟩
    · refine qx_pass60 hc V hp e h 4 0 rfl g _ lo em I1 ?_
      rcases G with ⟨g0, e1, _, _, c1⟩ | G
      · exact Or.inl ⟨g0, e1, rfl, rfl, c1, fun o ho hh => qz_or_e same ((hx o ho).mpr hh), fun r' hr' => by omega⟩
      · exact Or.inr G
    · refine qx_pass60 hc V hp e h 4 0 rfl 1 _ lo _ (qz_FI_em I1 (fun o ho hb => qz_ea_em hc I1 ho hp e ((hx o ho).mp hb))) (Or.inr ⟨rfl, ?_⟩)
      have gr := qz_mu_em (sn := upd sn q 1) (lo := lo) hq24 diff
      rcases G with ⟨_, e1, _⟩ | ⟨_, G⟩
      · rw [e1] at gr ⊢
        exact gr
      · omega
  unfold wpX_passTo
  simp only [cq]
  refine ⟨i, br_c (fun z => M 1 (Or.inr ⟨rfl, qz_mu_sn hq24 z⟩)) (fun z => M 0 (Or.inl ⟨rfl, ?_, rfl, rfl, z⟩))⟩
  have s1 : sn q = 1 := by
    rcases I.2.2.2.2.2.2 q with w | w
    · exact absurd w z
    · exact w
  rw [← s1]
  exact qz_uu
theorem qx_passOn {post : Int32 → SX → Prop} {p : Nat} (hc : c ≤ 24) (V : qz_va K F S) (I : qz_FI c K F S sn em lo) (hp : qz_re c K F p)
    (h : ∀ g sn' lo' em', qz_FI c K F S sn' em' lo' → qz_GX sn em lo g sn' em' lo' (∀ q, qz_nx c K F p q → qz_cl K F S sn em lo p q) → post g (nI c, fq, K, F, S, sn', lo', em', lv, Q, L)) : wpX_passOn post (nI c, fq, K, F, S, sn, lo, em, lv, Q, L) (nI p) := by
  have hp24 : p < 24 := by have := qz_re_lt hp; omega
  unfold wpX_passOn
  refine qx_jump hp24 hc V (fun rj hj => qx_next hp24 hc (fun rn hn => ?_))
  -- the second half
  have H2 : ∀ g sn' lo' em', qz_FI c K F S sn' em' lo' → qz_GX sn em lo g sn' em' lo' (∀ q, qz_xj c K F p q → qz_cl K F S sn em lo p q) → wX_passOn_33 post (nI p) rn g (nI c) fq K F S sn' lo' em' lv Q L := by
    intro g sn' lo' em' I' G
    rcases hn with ⟨rfl, none⟩ | ⟨q, rfl, hq, uq⟩
    · refine br_t rfl ⟨qz_nw (qz_GX_01 G), h _ _ _ _ I' ?_⟩
      rcases G with ⟨g0, e1, e2, e3, c1⟩ | G
      · refine Or.inl ⟨g0, e1, e2, e3, fun q hq => ?_⟩
        rcases qz_nx_x.mp hq with w | w
        · exact c1 q w
        · exact absurd w (none q)
      · exact Or.inr G
    · have hqc := hq.1
      refine br_f (qz_n3 (by omega)) (qx_passTo hc V I' hp (qz_nx_x.mpr (Or.inr hq)) (fun g2 sn2 lo2 em2 I2 G2 => ?_))
      rcases G2 with ⟨g0, e1, e2, e3, c2⟩ | ⟨g1, G2⟩
      · subst e1
        subst e2
        subst e3
        refine br_t g0 ⟨qz_nw (qz_GX_01 G), h _ _ _ _ I' ?_⟩
        rcases G with ⟨g0, e1, e2, e3, c1⟩ | G
        · subst e1
          subst e2
          subst e3
          refine Or.inl ⟨g0, rfl, rfl, rfl, fun q' hq' => ?_⟩
          rcases qz_nx_x.mp hq' with w | w
          · exact c1 q' w
          · rw [uq q' w]; exact c2
        · exact Or.inr G
      · refine br_f (by rw [g1]; decide) (h _ _ _ _ I2 (Or.inr ⟨rfl, ?_⟩))
        rcases G with ⟨_, e1, e2, e3, _⟩ | ⟨_, G⟩
        · subst e1
          subst e2
          subst e3
          exact G2
        · omega
  rcases hj with ⟨rfl, none⟩ | ⟨q, rfl, hq, uq⟩
  · exact br_t rfl (H2 0 sn lo em I (Or.inl ⟨rfl, rfl, rfl, rfl, fun q hq => absurd hq (none q)⟩))
  · have hqc := hq.1
    refine br_f (qz_n3 (by omega)) (qx_passTo hc V I hp (qz_nx_x.mpr (Or.inl hq)) (fun g sn' lo' em' I' G => ?_))
    rcases G with ⟨g0, e1, e2, e3, c1⟩ | ⟨g1, G⟩
    · refine br_t g0 (H2 0 sn' lo' em' I' (Or.inl ⟨rfl, e1, e2, e3, fun q' hq' => ?_⟩))
      rw [uq q' hq']
      exact c1
    · exact br_f (by rw [g1]; decide) (H2 1 sn' lo' em' I' (Or.inr ⟨rfl, G⟩))
theorem qx_fwd19 {post : SX → Prop} {J : Int32 → Int32 → Int32 → Int32 → (Nat → Int32) → (Nat → Int32) → (Nat → Int32) → (Nat → Int32) → (Nat → Int32) → (Nat → Int32) → (Nat → Int32) → (Nat → Int32) → (Nat → Int32) → Prop} {w : Nat} (hc : c ≤ 24) (V : qz_va K F S)
    (h : ∀ g sn' lo' em', qz_FI c K F S sn' em' lo' → qz_GX sn em lo g sn' em' lo' (qz_FC c K F S sn em lo) → J g (nI (w + 1)) (nI c) fq K F S sn' lo' em' lv Q L) :
    ∀ d p, p + d = c → ∀ g sn' lo' em', qz_FI c K F S sn' em' lo' → qz_GX sn em lo g sn' em' lo' (∀ p', p' < p → ¬ sn p' = 0 → ∀ q, qz_nx c K F p' q → qz_cl K F S sn em lo p' q) → wX_findForward_19 post J (nI w) (d + 1) g (nI p) (nI c) fq K F S sn' lo' em' lv Q L := by
  intro d
  induction d with
  | zero =>
    intro p hp g sn' lo' em' I G
    have : p = c := by omega
    subst this
    exact br_t (nI_le (Nat.le_refl p) (by omega)) (nm_r (nI_1 w) (h _ _ _ _ I G))
  | succ d ih =>
    intro p hp g sn' lo' em' I G
    have hp24 : p < 24 := by omega
    refine br_f (nI_ge (b := c) (by omega) (by omega)) ⟨qz_i24 hp24, ?_⟩
    rw [qz_c24 hp24]
    refine br_c (fun z => nm_r (nI_1 p) (ih (p + 1) (by omega) g sn' lo' em' I ?_)) (fun z => qx_passOn hc V I (I.1 p hp24 z) (fun g2 sn2 lo2 em2 I2 G2 => ?_))
    · rcases G with ⟨g0, e1, e2, e3, c1⟩ | G
      · refine Or.inl ⟨g0, e1, e2, e3, fun p' hp' hs => ?_⟩
        by_cases w : p' = p
        · rw [w, ← e1] at hs; exact absurd z hs
        · exact c1 p' (by omega) hs
      · exact Or.inr G
    · rcases G2 with ⟨g0, e1, e2, e3, c2⟩ | ⟨g1, G2⟩
      · subst e1
        subst e2
        subst e3
        refine br_t g0 (nm_r (nI_1 p) (ih (p + 1) (by omega) g sn2 lo2 em2 I ?_))
        rcases G with ⟨g0, e1, e2, e3, c1⟩ | G
        · subst e1
          subst e2
          subst e3
          refine Or.inl ⟨g0, rfl, rfl, rfl, fun p' hp' hs => ?_⟩
          by_cases w : p' = p
          · rw [w]; exact c2
          · exact c1 p' (by omega) hs
        · exact Or.inr G
      · refine br_f (by rw [g1]; decide) (nm_r (nI_1 p) (ih (p + 1) (by omega) 1 sn2 lo2 em2 I2 (Or.inr ⟨rfl, ?_⟩)))
        rcases G with ⟨_, e1, e2, e3, _⟩ | ⟨_, G⟩
        · subst e1
          subst e2
          subst e3
          exact G2
        · omega
theorem qx_fwd4 {post : SX → Prop} (hc : c ≤ 24) (V : qz_va K F S)
    (h : ∀ sn' lo' em', qz_FS c K F S sn' em' lo' → post (nI c, fq, K, F, S, sn', lo', em', lv, Q, L)) :
    ∀ n w sn' lo' em', qz_FI c K F S sn' em' lo' → w ≤ qz_mu sn' em' lo' → 3865 - qz_mu sn' em' lo' ≤ n → wX_findForward_4 post (n + 1) 1 (nI w) (nI c) fq K F S sn' lo' em' lv Q L := by
  intro n
  induction n with
  | zero =>
    intro w sn' lo' em' I hw hn
    have := qz_mu_b sn' em' lo'
    omega
  | succ n ih =>
    intro w sn' lo' em' I hw hn
    have hb := qz_mu_b sn' em' lo'
    refine br_f (by decide) (br_f (nI_ge (b := 10000) (by omega) (by omega)) ⟨c + 1, ?_⟩)
    refine qx_fwd19 (sn := sn') (em := em') (lo := lo') hc V (fun g sn2 lo2 em2 I2 G => ?_) c 0 (by omega) 0 sn' lo' em' I (Or.inl ⟨rfl, rfl, rfl, rfl, fun p' hp' => by omega⟩)
    rcases G with ⟨g0, e1, e2, e3, c1⟩ | ⟨g1, G⟩
    · subst e1
      subst e2
      subst e3
      rw [g0]
      exact br_t rfl (h _ _ _ (qz_FS_of hc I2 c1))
    · rw [g1]
      exact ih (w + 1) sn2 lo2 em2 I2 (by omega) (by omega)
theorem qx_fwd {post : SX → Prop} (hc : c ≤ 24) (V : qz_va K F S) (I : qz_FI c K F S sn em lo)
    (h : ∀ sn' lo' em', qz_FS c K F S sn' em' lo' → post (nI c, fq, K, F, S, sn', lo', em', lv, Q, L)) : wpX_findForward post (nI c, fq, K, F, S, sn, lo, em, lv, Q, L) :=
  ⟨3866, qx_fwd4 hc V h 3865 0 sn lo em I (Nat.zero_le _) (Nat.sub_le _ _)⟩
end
