/-! ===== X: the search of shown ===== -/
def qz_lk (fq : Int32) (Q L : Nat → Int32) (m : Nat) (q g : Nat → Nat) : Prop := fq = nI m ∧ (∀ j, j < m → Q j = nI (q j)) ∧ (∀ t, t < 216 → L t = nI (g t))
section
variable {c : Nat} {fq : Int32} {K F S sn lo em lv Q L : Nat → Int32} {b p i d m : Nat} {q g : Nat → Nat}
theorem qz_B_gb (B : qz_BM c K F S b p i d m q g) {t : Nat} (ht : t < 216) : g t ≤ 216 := by
  by_cases z : g t = 0
  · omega
  · obtain ⟨j, hj, hq⟩ := B.2.2.1 t ht (by omega)
    have := (B.2.1 j hj).2.2.2.1
    have hm := B.1
    rw [hq] at this
    omega
theorem qx_enter {post : SX → Prop} {a st : Nat} (hc : c ≤ 24) (B : qz_BM c K F S b p i d m q g) (hi : i < m) (hd : d = g (q i) + 1) (hk : qz_lk fq Q L m q g) (ha : a < c) (hst : st < 9) (hw : qz_xw c K F S b p (d - 1) (a * 9 + st))
    (h : ∀ fq' Q' L' m' q' g', qz_BM c K F S b p i d m' q' g' → qz_Ex m q g m' q' g' → (0 < g' (a * 9 + st) ∧ g' (a * 9 + st) ≤ d) → qz_lk fq' Q' L' m' q' g' → post (nI c, fq', K, F, S, sn, lo, em, lv, Q', L')) : wpX_enter post (nI c, fq, K, F, S, sn, lo, em, lv, Q, L) (nI a) (nI st) (nI d) := by
  have et : nI a * 9 + nI st = nI (a * 9 + st) := by
    show nI a * nI 9 + nI st = _
    rw [pk_mul, nI_add]
  have ht : a * 9 + st < 216 := by omega
  obtain ⟨k1, k2, k3⟩ := hk
  subst k1
  have gb := qz_B_gb B ht
  unfold wpX_enter
  refine nm_r et ⟨vp_in_nI ht (by omega), ?_⟩
  rw [nI_clamp (by omega), k3 _ ht]
  refine pk_eq (g (a * 9 + st)) 0 (fun z => ?_) (fun z => h _ _ _ _ _ _ B (qz_Ex_r m q g) (qz_B_old B ht z) ⟨rfl, k2, k3⟩)
  have room := qz_B_room B ht z
  obtain ⟨B', E⟩ := qz_B_enter B hi hd ht (by omega) hw z
  refine br_f (nI_ge (b := 216) room (by omega)) ⟨vp_in_nI ht (by omega), nm_e ⟨vp_in_nI room (by omega), nm_e (nm_r (nI_1 m) (h _ _ _ _ _ _ B' E ?_ ⟨rfl, ?_, ?_⟩))⟩⟩
  · rw [qz_uNs]
    exact ⟨by omega, Nat.le_refl _⟩
  · intro j hj
    rw [nI_clamp (by omega)]
    by_cases e : j = m
    · rw [e, pk_us, qz_uNs]
    · rw [pk_un e, qz_uNn e]
      exact k2 j (by omega)
  · intro t ht'
    by_cases e : t = a * 9 + st
    · rw [e, pk_us, qz_uNs]
    · rw [pk_un e, qz_uNn e]
      exact k3 t ht'
theorem qx_all10 {post : SX → Prop} {a : Nat} {x : Int32} (hc : c ≤ 24) (ha : a < c) (hw : ∀ st, st < 9 → bt x st = true → qz_xw c K F S b p (d - 1) (a * 9 + st))
    (h : ∀ fq' Q' L' m' q' g', qz_BM c K F S b p i d m' q' g' → qz_Ex m q g m' q' g' → (∀ st, st < 9 → bt x st = true → 0 < g' (a * 9 + st) ∧ g' (a * 9 + st) ≤ d) → qz_lk fq' Q' L' m' q' g' → post (nI c, fq', K, F, S, sn, lo, em, lv, Q', L')) :
    ∀ e st, st + e = 9 → ∀ fq' Q' L' m' q' g', qz_BM c K F S b p i d m' q' g' → i < m' → d = g' (q' i) + 1 → qz_Ex m q g m' q' g' → (∀ st', st' < st → bt x st' = true → 0 < g' (a * 9 + st') ∧ g' (a * 9 + st') ≤ d) → qz_lk fq' Q' L' m' q' g' → wX_enterAll_10 post (nI a) x (nI d) (e + 1) (nI st) (nI c) fq' K F S sn lo em lv Q' L' := by
  intro e
  induction e with
  | zero =>
    intro st hst fq' Q' L' m' q' g' B _ _ E C k
    have : st = 9 := by omega
    subst this
    exact br_t (nI_le (Nat.le_refl 9) (by omega)) (h _ _ _ _ _ _ B E C k)
  | succ e ih =>
    intro st hst fq' Q' L' m' q' g' B hi hd E C k
    have h9 : st < 9 := by omega
    refine br_f (nI_ge (b := 9) h9 (by omega)) (br_c (fun z => nm_r (nI_1 st) (ih (st + 1) (by omega) _ _ _ _ _ _ B hi hd E (fun st' hs hb => ?_) k)) (fun z => ?_))
    · by_cases w : st' = st
      · rw [w] at hb
        exact absurd hb ((qz_b1z x st (by omega)).mp z)
      · exact C st' (by omega) hb
    · have hb : bt x st = true := by
        apply Classical.byContradiction
        intro w
        exact z ((qz_b1z x st (by omega)).mpr w)
      refine qx_enter hc B hi hd k ha h9 (hw st h9 hb) (fun fq2 Q2 L2 m2 q2 g2 B2 E2 C2 k2 => nm_r (nI_1 st) (ih (st + 1) (by omega) _ _ _ _ _ _ B2 (Nat.lt_of_lt_of_le hi E2.1) ?_ (qz_Ex_t E E2) (fun st' hs hb' => ?_) k2))
      · rw [E2.2.1 i hi, E2.2.2 _ (B.2.1 i hi).2.2.1]
        exact hd
      · by_cases w : st' = st
        · rw [w]; exact C2
        · have := C st' (by omega) hb'
          rw [E2.2.2 _ this.1]
          exact this
theorem qx_all {post : SX → Prop} {P : Nat → Prop} {r x : Int32} (hc : c ≤ 24) (hr : qz_op P (-3) r) (hP : ∀ a, P a → a < c) (B : qz_BM c K F S b p i d m q g) (hi : i < m) (hd : d = g (q i) + 1) (k : qz_lk fq Q L m q g) (hw : ∀ a, P a → ∀ st, st < 9 → bt x st = true → qz_xw c K F S b p (d - 1) (a * 9 + st))
    (h : ∀ fq' Q' L' m' q' g', qz_BM c K F S b p i d m' q' g' → qz_Ex m q g m' q' g' → (∀ a, P a → ∀ st, st < 9 → bt x st = true → 0 < g' (a * 9 + st) ∧ g' (a * 9 + st) ≤ d) → qz_lk fq' Q' L' m' q' g' → post (nI c, fq', K, F, S, sn, lo, em, lv, Q', L')) : wpX_enterAll post (nI c, fq, K, F, S, sn, lo, em, lv, Q, L) r x (nI d) := by
  unfold wpX_enterAll
  rcases hr with ⟨rfl, no⟩ | ⟨a, rfl, ha, ua⟩
  · exact br_t rfl (h _ _ _ _ _ _ B (qz_Ex_r m q g) (fun a ha => absurd ha (no a)) k)
  · have hac := hP a ha
    refine br_f (qz_n3 (by omega)) ⟨10, qx_all10 hc hac (hw a ha) (fun fq' Q' L' m' q' g' B' E C k' => h _ _ _ _ _ _ B' E (fun a' ha' => ?_) k') 9 0 rfl _ _ _ _ _ _ B hi hd (qz_Ex_r m q g) (fun st' hs => by omega) k⟩
    rw [ua a' ha']
    exact C
theorem qz_shl5 (x : Int32) {i : Nat} (hi : i < 32) : bt (x <<< ((5 : Int32) &&& 31)) i = true ↔ (5 ≤ i ∧ bt x (i - 5) = true) := by
  rw [show ((5 : Int32)) = nI 5 from rfl, b_shl 5 (by omega) x hi]
  simp
theorem qz_shl1 (x : Int32) {i : Nat} (hi : i < 32) : bt (x <<< ((1 : Int32) &&& 31)) i = true ↔ (1 ≤ i ∧ bt x (i - 1) = true) := by
  rw [show ((1 : Int32)) = nI 1 from rfl, b_shl 1 (by omega) x hi]
  simp
theorem qx_stages {post : Int32 → Prop} {a st : Nat} (V : qz_va K F S) (ha : a < 24) (hst : st < 9) (hb : b < 24) (hp : p < 24) (hm : qz_mk K b) (h : ∀ x, (∀ st', st' < 9 → (bt x st' = true ↔ qz_xs K F S b p a st st')) → post x) : wpX_stagesAfter post (nI c, fq, K, F, S, sn, lo, em, lv, Q, L) (nI a) (nI st) (nI b) (nI p) := by
  unfold wpX_stagesAfter
  refine pk_eq st 0 (fun z => ?_) (fun z => ?_)
  · obtain ⟨y, hy, ey⟩ : ∃ y, y < 4 ∧ F b = nI y := by
      rcases hm with k | k
      · exact (qz_va_b V (Or.inl k)).1
      · exact (qz_va_b V (Or.inr (Or.inl k))).1
    refine pk_eq a b (fun e => ?_) (fun e => h _ (fun st' h9 => ?_))
    · rw [qz_c24 hb, ey]
      have e1 : (1 : Int32) + nI y = nI (1 + y) := by
        show nI 1 + nI y = _
        rw [nI_add]
      rw [e1]
      refine ⟨qz_i24 hb, nm_e (h _ (fun st' h9 => ?_))⟩
      rw [b_or, Bool.or_eq_true, qz_bone st' (by omega), decide_eq_true_iff, qz_bshA (by omega)]
      constructor
      · rintro (w | w)
        · exact Or.inl ⟨z, Or.inl w⟩
        · exact Or.inl ⟨z, Or.inr ⟨e, y, hy, ey, w⟩⟩
      · rintro (⟨_, w | ⟨_, y', hy', ey', w⟩⟩ | ⟨w, _⟩ | ⟨w, _⟩)
        · exact Or.inl w
        · have : y = y' := (qz_ne hy hy').mp (ey.symm.trans ey')
          exact Or.inr (by omega)
        · omega
        · omega
    · have e0 : (1 : Int32) ||| 0 = 1 := by decide
      rw [e0, qz_bone st' (by omega), decide_eq_true_iff]
      constructor
      · intro w
        exact Or.inl ⟨z, Or.inl w⟩
      · rintro (⟨_, w | ⟨w, _⟩⟩ | ⟨w, _⟩ | ⟨w, _⟩)
        · exact w
        · exact absurd w e
        · omega
        · omega
  · refine pk_lt st 5 (fun z5 => ?_) (fun z5 => ?_)
    · refine br_t rfl ?_
      have e1 : nI st - 1 = nI (st - 1) := by
        show nI st - nI 1 = _
        rw [pk_sub (by omega)]
      unfold wX_stagesAfter_56
      rw [e1]
      refine qx_heirs ha (by omega) V (fun m hm' hh => br_t rfl (pk_eq a p (fun e => h _ (fun st' h9 => ?_)) (fun e => h _ (fun st' h9 => ?_))))
      · rw [qz_shl5 _ (by omega)]
        constructor
        · rintro ⟨w, w'⟩
          exact Or.inr (Or.inl ⟨by omega, by omega, st' - 5, (hh (st' - 5) (by omega)).mp w', Or.inl ⟨e, by omega⟩⟩)
        · rintro (⟨w, _⟩ | ⟨_, _, r', w, ⟨_, w'⟩ | ⟨w', _⟩⟩ | ⟨w, _⟩)
          · exact absurd w z
          · have h4 := w.1
            refine ⟨by omega, ?_⟩
            rw [w', Nat.add_sub_cancel_left]
            exact (hh r' h4).mpr w
          · exact absurd e w'
          · omega
      · rw [qz_shl1 _ (by omega)]
        constructor
        · rintro ⟨w, w'⟩
          have h4 : st' - 1 < 4 := by
            apply Classical.byContradiction
            intro y
            exact qz_hi4 m hm' (st' - 1) (by omega) (by omega) w'
          exact Or.inr (Or.inl ⟨by omega, by omega, st' - 1, (hh (st' - 1) h4).mp w', Or.inr ⟨e, by omega⟩⟩)
        · rintro (⟨w, _⟩ | ⟨_, _, r', w, ⟨w', _⟩ | ⟨_, w'⟩⟩ | ⟨w, _⟩)
          · exact absurd w z
          · exact absurd w' e
          · have h4 := w.1
            refine ⟨by omega, ?_⟩
            rw [w', Nat.add_sub_cancel_left]
            exact (hh r' h4).mpr w
          · omega
    · refine br_f (by decide) ?_
      have e1 : nI st - 5 = nI (st - 5) := by
        show nI st - nI 5 = _
        rw [pk_sub (by omega)]
      unfold wX_stagesAfter_56
      rw [e1]
      refine qx_heirs ha (by omega) V (fun m hm' hh => br_f (by decide) (h _ (fun st' h9 => ?_)))
      rw [qz_shl5 _ (by omega)]
      constructor
      · rintro ⟨w, w'⟩
        exact Or.inr (Or.inr ⟨by omega, st' - 5, (hh (st' - 5) (by omega)).mp w', by omega⟩)
      · rintro (⟨w, _⟩ | ⟨_, w, _⟩ | ⟨_, r', w, w'⟩)
        · omega
        · omega
        · have h4 := w.1
          refine ⟨by omega, ?_⟩
          rw [w', Nat.add_sub_cancel_left]
          exact (hh r' h4).mpr w
theorem qx_sp77 {post : Int32 → SX → Prop} {J : Int32 → Int32 → Int32 → (Nat → Int32) → (Nat → Int32) → (Nat → Int32) → (Nat → Int32) → (Nat → Int32) → (Nat → Int32) → (Nat → Int32) → (Nat → Int32) → (Nat → Int32) → Prop} (hc : c ≤ 24) (V : qz_va K F S) (hb : b < 24) (hp : p < 24) (hm : qz_mk K b) (B : qz_BI c K F S b p i m q g) (hi : i < m) (k : qz_lk fq Q L m q g) (hg : ¬ qz_xg K F (q i))
    (h : ∀ fq' Q' L' m' q' g', qz_BI c K F S b p (i + 1) m' q' g' → qz_lk fq' Q' L' m' q' g' → J (nI (i + 1)) (nI c) fq' K F S sn lo em lv Q' L') : wX_shortestPath_77 post J (nI b) (nI p) (nI i) (nI (q i)) (nI (q i / 9)) (nI (q i % 9)) (nI c) fq K F S sn lo em lv Q L := by
  have BM := qz_B_at B hi
  obtain ⟨t1, t2, t3, t4, t5, t6⟩ := BM.2.1 i hi
  have ha : q i / 9 < 24 := by omega
  have step : ∀ (a st : Nat), qz_nx c K F (q i / 9) a → st < 9 → qz_xs K F S b p (q i / 9) (q i % 9) st → qz_xe c K F S b p (q i) (a * 9 + st) := by
    intro a st e h9 hs
    have e1 : (a * 9 + st) / 9 = a := by omega
    have e2 : (a * 9 + st) % 9 = st := by omega
    unfold qz_xe
    rw [e1, e2]
    exact ⟨e, hs⟩
  have walk : ∀ t, qz_xe c K F S b p (q i) t → qz_xw c K F S b p (g (q i) + 1 - 1) t := by
    intro t e
    have e3 : g (q i) + 1 - 1 = (g (q i) - 1) + 1 := by omega
    rw [e3]
    exact ⟨q i, t6, e⟩
  unfold wX_shortestPath_77
  refine qx_stages V ha (Nat.mod_lt _ (by omega)) hb hp hm (fun x hx => ⟨vp_in_nI t1 (by omega), ?_⟩)
  rw [nI_clamp (by omega), k.2.2 _ t1]
  refine nm_r (nI_1 _) (qx_jump ha hc V (fun rj hj => qx_next ha hc (fun rn hn => ?_)))
  refine qx_all hc hj (fun a z => z.1) BM hi rfl k (fun a z st h9 hbit => walk _ (step a st (qz_nx_x.mpr (Or.inl z)) h9 ((hx st h9).mp hbit))) (fun fq1 Q1 L1 m1 q1 g1 B1 E1 C1 k1 => ?_)
  have hi1 : i < m1 := Nat.lt_of_lt_of_le hi E1.1
  have eg1 : g1 (q1 i) = g (q i) := by rw [E1.2.1 i hi, E1.2.2 _ t3]
  have eq1 : q1 i = q i := E1.2.1 i hi
  refine qx_all hc hn (fun a z => z.1) B1 hi1 (by rw [eg1]) k1 (fun a z st h9 hbit => walk _ (step a st (qz_nx_x.mpr (Or.inr z)) h9 ((hx st h9).mp hbit))) (fun fq2 Q2 L2 m2 q2 g2 B2 E2 C2 k2 => ?_)
  have hi2 : i < m2 := Nat.lt_of_lt_of_le hi1 E2.1
  have t3' : 0 < g1 (q1 i) := by omega
  have eq2 : q2 i = q i := (E2.2.1 i hi1).trans eq1
  have eg2 : g2 (q2 i) = g (q i) := by rw [E2.2.1 i hi1, E2.2.2 _ t3', eg1]
  refine nm_r (nI_1 i) (h _ _ _ _ _ _ (qz_B_next B2 hi2 (by rw [eg2]) (by rw [eq2]; exact hg) (fun t e => ?_)) k2)
  rw [eq2] at e
  have h9 : t % 9 < 9 := Nat.mod_lt _ (by omega)
  have et : t / 9 * 9 + t % 9 = t := by omega
  have hbit := (hx (t % 9) h9).mpr e.2
  rcases qz_nx_x.mp e.1 with z | z
  · have := C1 (t / 9) z (t % 9) h9 hbit
    rw [et] at this
    rw [E2.2.2 t this.1]
    exact this
  · have := C2 (t / 9) z (t % 9) h9 hbit
    rw [et] at this
    exact this
theorem qx_sp13 {post : Int32 → SX → Prop} (hc : c ≤ 24) (V : qz_va K F S) (hb : b < 24) (hp : p < 24) (hm : qz_mk K b)
    (hS : ∀ d fq' Q' L', 0 < d → d ≤ 216 → qz_go c K F S b p (d - 1) → (∀ n, qz_go c K F S b p n → d ≤ n + 1) → post (nI d) (nI c, fq', K, F, S, sn, lo, em, lv, Q', L'))
    (hN : ∀ fq' Q' L', (∀ n, ¬ qz_go c K F S b p n) → post (-3) (nI c, fq', K, F, S, sn, lo, em, lv, Q', L')) :
    ∀ e i, i + e = 216 → ∀ fq' Q' L' m q g, qz_BI c K F S b p i m q g → qz_lk fq' Q' L' m q g → wX_shortestPath_13 post (nI b) (nI p) (e + 1) (nI i) (nI c) fq' K F S sn lo em lv Q' L' := by
  intro e
  induction e with
  | zero =>
    intro i hi fq' Q' L' m q g B k
    have : i = 216 := by omega
    subst this
    obtain ⟨d, BM, hd⟩ := B
    exact br_t (nI_le (Nat.le_refl 216) (by omega)) (hN _ _ _ (qz_B_none hc ⟨d, BM, hd⟩ (by have := BM.1; omega)))
  | succ e ih =>
    intro i hi fq' Q' L' m q g B k
    have hm216 : m ≤ 216 := by
      obtain ⟨d, BM, hd⟩ := B
      exact BM.1
    obtain ⟨k1, k2, k3⟩ := k
    subst k1
    refine br_f (nI_ge (b := 216) (by omega) (by omega)) (pk_le m i (fun z => hN _ _ _ (qz_B_none hc B (by omega))) (fun z => ⟨vp_in_nI (by omega) (by omega), ?_⟩))
    rw [nI_clamp (by omega), k2 i z]
    have BM := qz_B_at B z
    obtain ⟨t1, t2, t3, t4, t5, t6⟩ := BM.2.1 i z
    have ed : nI (q i) / 9 = nI (q i / 9) := pk_div (d := 9) (by omega) (by omega) (by omega)
    have er : nI (q i) - nI (q i) / 9 * 9 = nI (q i % 9) := pk_rem (d := 9) (by omega) (by omega) (by omega)
    refine nm_e ⟨by decide, nm_r ed ⟨by decide, nm_r er ?_⟩⟩
    have go77 : ¬ qz_xg K F (q i) → wX_shortestPath_77 post (wX_shortestPath_13 post (nI b) (nI p) (e + 1)) (nI b) (nI p) (nI i) (nI (q i)) (nI (q i / 9)) (nI (q i % 9)) (nI c) (nI m) K F S sn lo em lv Q' L' := fun hg =>
      qx_sp77 hc V hb hp hm B z ⟨rfl, k2, k3⟩ hg (fun fq2 Q2 L2 m2 q2 g2 B2 k2' => ih (i + 1) (by omega) _ _ _ _ _ _ B2 k2')
    refine pk_lt (q i % 9) 5 (fun w => go77 (fun y => by have := y.1; omega)) (fun w => ?_)
    have e5 : nI (q i % 9) - 5 = nI (q i % 9 - 5) := by
      show nI (q i % 9) - nI 5 = _
      rw [pk_sub (by omega)]
    rw [e5]
    refine qx_uses (by omega) (fun k7 ef => br_f (by decide) ⟨vp_in_nI t1 (by omega), ?_⟩) (fun nu => br_t rfl (go77 (fun y => nu ⟨y.2.1, y.2.2⟩)))
    rw [nI_clamp (by omega), k3 _ t1]
    have G := qz_B_goal hc B z ⟨w, k7, ef⟩
    exact hS _ _ _ _ G.2.1 G.2.2.1 G.1 G.2.2.2
theorem qx_clrs {post : SX → Prop} (h : ∀ L' : Nat → Int32, (∀ t, t < 216 → L' t = 0) → post (nI c, 0, K, F, S, sn, lo, em, lv, Q, L')) : wpX_clearSearch post (nI c, fq, K, F, S, sn, lo, em, lv, Q, L) := by
  unfold wpX_clearSearch
  refine loop_0 (fun n i (L' : Nat → Int32) => wX_clearSearch_7 post (nI c) 0 n (nI i) K F S sn lo em lv Q L') (fun i L' => ∀ t, t < i → L' t = 0) 216 L (fun t ht => by omega) ?_ ?_
  · intro n L' hL
    exact br_t (nI_le (Nat.le_refl 216) (by omega)) (h L' hL)
  · intro n j L' hj hL hk
    refine br_f (nI_ge (b := 216) hj (by omega)) ⟨vp_in_nI hj (by omega), nm_e (nm_r (nI_1 j) (hk _ ?_))⟩
    intro t ht
    rw [nI_clamp (by omega)]
    by_cases z : t = j
    · rw [z, pk_us]
    · rw [pk_un z]; exact hL t (by omega)
theorem qx_short {post : Int32 → SX → Prop} (hc : c ≤ 24) (V : qz_va K F S) (hb : b < c) (hp : p < c) (hm : qz_mk K b)
    (hS : ∀ d fq' Q' L', 0 < d → d ≤ 216 → qz_go c K F S b p (d - 1) → (∀ n, qz_go c K F S b p n → d ≤ n + 1) → post (nI d) (nI c, fq', K, F, S, sn, lo, em, lv, Q', L'))
    (hN : ∀ fq' Q' L', (∀ n, ¬ qz_go c K F S b p n) → post (-3) (nI c, fq', K, F, S, sn, lo, em, lv, Q', L')) : wpX_shortestPath post (nI c, fq, K, F, S, sn, lo, em, lv, Q, L) (nI b) (nI p) := by
  unfold wpX_shortestPath
  refine qx_clrs (fun L' hL => ?_)
  unfold wpX_enter
  have e0 : (0 : Int32) * 9 + 0 = nI 0 := by decide
  refine nm_r e0 ⟨vp_in_nI (by omega) (by omega), ?_⟩
  rw [nI_clamp (by omega), hL 0 (by omega)]
  refine br_t rfl (br_f (by decide) ⟨vp_in_nI (by omega) (by omega), nm_e ⟨vp_in_iff.mpr (by decide), nm_e (nm_r (show (0 : Int32) + 1 = nI 1 by decide) ⟨217, ?_⟩)⟩⟩)
  refine qx_sp13 hc V (by omega) (by omega) hm hS hN 216 0 (by omega) _ _ _ 1 _ _ (qz_B_0 (by omega) (fun _ => 0)) ⟨rfl, ?_, ?_⟩
  · intro j hj
    have : j = 0 := by omega
    subst this
    have c0 : (0 : Int32).toNatClampNeg = 0 := by decide
    rw [c0, pk_us, qz_uNs]
  · intro t ht
    by_cases z : t = 0
    · rw [z, pk_us, qz_uNs]; rfl
    · rw [pk_un z, qz_uNn z]; exact hL t ht
end
