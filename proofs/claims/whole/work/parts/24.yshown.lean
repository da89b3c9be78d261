/-! ===== Y: the lengths of shown ===== -/
def qz_fl (D : Nat → Int32) (f : Nat → Nat) : Prop := ∀ n, n < 1152 → D n = nI (f n)
def qz_DG (f0 : Nat → Nat) (g : Int32) (f : Nat → Nat) (C : Prop) : Prop := (g = 0 ∧ f = f0 ∧ C) ∨ (g = 1 ∧ qz_sm f 1152 < qz_sm f0 1152)
theorem qz_DG_m {f0 f : Nat → Nat} {g : Int32} {C C' : Prop} (h : qz_DG f0 g f C) (hC : f = f0 → C → C') : qz_DG f0 g f C' := by
  rcases h with ⟨a, b, d⟩ | h
  · exact Or.inl ⟨a, b, hC b d⟩
  · exact Or.inr h
def qz_fq (K F S : Nat → Int32) (b p i q j : Nat) : Prop :=
  (i < 384 ∧ (j = 16 * q ∨ (i % 384 / 16 = b ∧ ∃ x, x < 4 ∧ F b = nI x ∧ j = 384 + 16 * q + 2 ^ x)))
  ∨ (384 ≤ i ∧ ∃ m, qz_hb K F S (i % 384 / 16) (i % 16) m ∧ m ≠ 0 ∧ (j = 384 * (i / 384) + 16 * q + m ∨ (i / 384 = 1 ∧ i % 384 / 16 = p ∧ j = 768 + 16 * q + m)))
section
variable {c : Nat} {fm : Int32} {K F S M U D : Nat → Int32} {b p : Nat}
theorem qy_come {post : SY → Prop} {P : Nat → Prop} {C : Prop} {r : Int32} {h m st : Nat} {f0 f : Nat → Nat} (hc : c ≤ 24) (hr : qz_op P (-1) r) (hP : ∀ a, P a → a < c) (hh : h ≤ 2) (hm : m < 16) (h1 : 1 ≤ st) (hst : st ≤ 100000) (k : qz_fl D f) (I : qz_DI c K F S b p f) (G : qz_DG f0 fm f C) (hw : ∀ a, P a → qz_fw c K F S b p (st - 1) (384 * h + 16 * a + m))
    (hp : ∀ fm' D' f', qz_fl D' f' → qz_DI c K F S b p f' → qz_DG f0 fm' f' (C ∧ ∀ a, P a → f0 (384 * h + 16 * a + m) ≤ st) → post (nI c, fm', K, F, S, M, U, D')) : wpY_come post (nI c, fm, K, F, S, M, U, D) (nI h) r (nI m) (nI st) := by
  unfold wpY_come
  rcases hr with ⟨rfl, no⟩ | ⟨a, rfl, ha, ua⟩
  · exact nm_e (br_t (by decide) (hp _ _ _ k I (qz_DG_m G (fun _ hC => ⟨hC, fun a ha => absurd ha (no a)⟩))))
  · have hac := hP a ha
    have ix : 384 * h + 16 * a + m < 1152 := by omega
    have ei : (384 : Int32) * nI h + 16 * nI a + nI m = nI (384 * h + 16 * a + m) := by
      show nI 384 * nI h + nI 16 * nI a + nI m = _
      rw [pk_mul, pk_mul, nI_add, nI_add]
    have fb := (I.2 _ ix).2.1
    refine nm_r ei (br_f (nI_pos (by omega)) ⟨vp_in_nI ix (by omega), ?_⟩)
    rw [nI_clamp (by omega), k _ ix]
    refine pk_le (f (384 * h + 16 * a + m)) st (fun z => hp _ _ _ k I (qz_DG_m G (fun e hC => ⟨hC, fun a' ha' => ?_⟩))) (fun z => ⟨vp_in_nI ix (by omega), nm_e ?_⟩)
    · rw [ua a' ha', ← e]
      exact z
    · obtain ⟨I', sm⟩ := qz_DI_up I h1 z ix (hw a ha)
      refine hp _ _ _ ?_ I' (Or.inr ⟨rfl, ?_⟩)
      · intro n hn
        by_cases e : n = 384 * h + 16 * a + m
        · rw [e, pk_us, qz_uNs]
        · rw [pk_un e, qz_uNn e]; exact k n hn
      · rcases G with ⟨_, e, _⟩ | ⟨_, G⟩
        · rw [e] at sm ⊢
          exact sm
        · omega
/-- the rows of goOn behind next, for one of the two next points -/
theorem qy_go1 {post : SY → Prop} {J : Int32 → Int32 → Int32 → (Nat → Int32) → (Nat → Int32) → (Nat → Int32) → (Nat → Int32) → (Nat → Int32) → (Nat → Int32) → Prop} {P : Nat → Prop} {C : Prop} {r : Int32} {i y m st : Nat} {f0 f : Nat → Nat} (hc : c ≤ 24) (V : qz_va K F S) (hb : b < 24) (hp24 : p < 24) (mk : qz_mk K b) (hi : i < 1152) (hr : qz_op P (-1) r) (hP : ∀ a, P a → qz_nx c K F (i % 384 / 16) a) (hm : (i < 384 ∧ m = 0) ∨ (384 ≤ i ∧ qz_hb K F S (i % 384 / 16) (i % 16) m)) (h1 : 1 ≤ st) (hst : st ≤ 100000) (k : qz_fl D f) (I : qz_DI c K F S b p f) (G : qz_DG f0 fm f C) (hw : ∀ j, qz_fe c K F S b p i j → qz_fw c K F S b p (st - 1) j)
    (h : ∀ fm' D' f', qz_fl D' f' → qz_DI c K F S b p f' → qz_DG f0 fm' f' (C ∧ ∀ q, P q → ∀ j, qz_fq K F S b p i q j → f0 j ≤ st) → J (nI (y + 1)) (nI c) fm' K F S M U D') :
    ((nI (i / 384) = 0 → wY_goOn_81 post J (nI b) (nI p) (nI (i / 384)) (nI (i % 384 / 16)) (nI st) (nI m) (nI y) r (nI c) fm K F S M U D) ∧ (¬ nI (i / 384) = 0 → ((nI m = 0 → wY_goOn_93 post J (nI b) (nI p) (nI (i / 384)) (nI (i % 384 / 16)) (nI st) (nI m) (nI y) r (nI c) fm K F S M U D) ∧ (¬ nI m = 0 → wY_goOn_81 post J (nI b) (nI p) (nI (i / 384)) (nI (i % 384 / 16)) (nI st) (nI m) (nI y) r (nI c) fm K F S M U D)))) := by
  have hPc : ∀ a, P a → a < c := fun a ha => (hP a ha).1
  have hfe : ∀ q j, P q → qz_fq K F S b p i q j → qz_fe c K F S b p i j := fun q j hq hj => ⟨q, hP q hq, hj⟩
  obtain ⟨x, hx, ex⟩ : ∃ x, x < 4 ∧ F b = nI x := by
    rcases mk with z | z
    · exact (qz_va_b V (Or.inl z)).1
    · exact (qz_va_b V (Or.inr (Or.inl z))).1
  rcases hm with ⟨hlt, m0⟩ | ⟨hge, hm⟩
  · -- phase 0
    subst m0
    have p0 : i / 384 = 0 := by omega
    rw [p0]
    refine br_t rfl ?_
    refine qy_come (h := 0) (m := 0) hc hr hPc (by omega) (by omega) h1 hst k I G (fun a ha => hw _ (hfe a _ ha (Or.inl ⟨hlt, Or.inl (by omega)⟩))) (fun fm1 D1 f1 k1 I1 G1 => ?_)
    unfold wY_goOn_93
    refine br_t rfl (pk_eq (i % 384 / 16) b (fun eb => ⟨qz_i24 hb, ?_⟩) (fun nb => br_f (by decide) (nm_r (nI_1 y) (h _ _ _ k1 I1 (qz_DG_m G1 (fun _ hC => ⟨hC.1, fun q hq j hj => ?_⟩))))))
    · rw [qz_c24 hb, ex, (qz_pow4 x hx).1]
      refine qy_come (h := 1) (m := 2 ^ x) hc hr hPc (by omega) (qz_pow_lt hx) h1 hst k1 I1 G1 (fun a ha => hw _ (hfe a _ ha (Or.inl ⟨hlt, Or.inr ⟨eb, x, hx, ex, by omega⟩⟩))) (fun fm2 D2 f2 k2 I2 G2 => br_f (by decide) (nm_r (nI_1 y) (h _ _ _ k2 I2 (qz_DG_m G2 (fun _ hC => ⟨hC.1.1, fun q hq j hj => ?_⟩)))))
      rcases hj with ⟨_, e | ⟨_, x', hx', ex', e⟩⟩ | ⟨z, _⟩
      · have := hC.1.2 q hq
        rw [e]
        have e0 : 384 * 0 + 16 * q + 0 = 16 * q := by omega
        rw [e0] at this
        exact this
      · have exx : x = x' := (qz_ne hx hx').mp (ex.symm.trans ex')
        have := hC.2 q hq
        rw [e, ← exx]
        have e0 : 384 * 1 + 16 * q + 2 ^ x = 384 + 16 * q + 2 ^ x := by omega
        rw [e0] at this
        exact this
      · exact absurd hlt (Nat.not_lt.mpr z)
    · rcases hj with ⟨_, e | ⟨z, _⟩⟩ | ⟨z, _⟩
      · have := hC.2 q hq
        rw [e]
        have e0 : 384 * 0 + 16 * q + 0 = 16 * q := by omega
        rw [e0] at this
        exact this
      · exact absurd z nb
      · exact absurd hlt (Nat.not_lt.mpr z)
  · have hm16 := hm.1
    have ph : i / 384 = 1 ∨ i / 384 = 2 := by omega
    have ph0 : ¬ nI (i / 384) = 0 := nI_ne0 (by omega) (by omega)
    refine br_f ph0 (pk_eq m 0 (fun m0 => ?_) (fun m0 => ?_))
    · -- nothing goes on
      have fin : J (nI (y + 1)) (nI c) fm K F S M U D := h _ _ _ k I (qz_DG_m G (fun _ hC => ⟨hC, fun q hq j hj => by
        rcases hj with ⟨z, _⟩ | ⟨_, m', hm', ne, _⟩
        · exact absurd z (Nat.not_lt.mpr hge)
        · exact absurd ((qz_hb_u hm' hm).trans m0) ne⟩))
      refine br_f ph0 ?_
      unfold wY_goOn_121
      exact br_c (fun _ => br_c (fun _ => br_t (by rw [m0]; rfl) (nm_r (nI_1 y) fin)) (fun _ => nm_r (nI_1 y) fin)) (fun _ => nm_r (nI_1 y) fin)
    · have nm0 : ¬ nI m = 0 := nI_ne0 (by omega) (by omega)
      refine qy_come (h := i / 384) (m := m) hc hr hPc (by omega) hm16 h1 hst k I G (fun a ha => hw _ (hfe a _ ha (Or.inr ⟨hge, m, hm, m0, Or.inl rfl⟩))) (fun fm1 D1 f1 k1 I1 G1 => br_f ph0 ?_)
      have fin : ¬ (i / 384 = 1 ∧ i % 384 / 16 = p) → J (nI (y + 1)) (nI c) fm1 K F S M U D1 := fun no => h _ _ _ k1 I1 (qz_DG_m G1 (fun _ hC => ⟨hC.1, fun q hq j hj => by
        rcases hj with ⟨z, _⟩ | ⟨_, m', hm', ne, e | ⟨z, z', _⟩⟩
        · exact absurd z (Nat.not_lt.mpr hge)
        · rw [e, qz_hb_u hm' hm]; exact hC.2 q hq
        · exact absurd ⟨z, z'⟩ no⟩))
      unfold wY_goOn_121
      refine pk_eq (i / 384) 1 (fun e1 => pk_eq (i % 384 / 16) p (fun ep => br_f nm0 ?_) (fun np => nm_r (nI_1 y) (fin (fun z => np z.2)))) (fun n1 => nm_r (nI_1 y) (fin (fun z => n1 z.1)))
      refine qy_come (h := 2) (m := m) hc hr hPc (by omega) hm16 h1 hst k1 I1 G1 (fun a ha => hw _ (hfe a _ ha (Or.inr ⟨hge, m, hm, m0, Or.inr ⟨e1, ep, by omega⟩⟩))) (fun fm2 D2 f2 k2 I2 G2 => nm_r (nI_1 y) (h _ _ _ k2 I2 (qz_DG_m G2 (fun _ hC => ⟨hC.1.1, fun q hq j hj => ?_⟩))))
      rcases hj with ⟨z, _⟩ | ⟨_, m', hm', ne, e | ⟨_, _, e⟩⟩
      · exact absurd z (Nat.not_lt.mpr hge)
      · rw [e, qz_hb_u hm' hm]; exact hC.1.2 q hq
      · have := hC.2 q hq
        rw [e, qz_hb_u hm' hm]
        have e0 : 384 * 2 + 16 * q + m = 768 + 16 * q + m := by omega
        rw [e0] at this
        exact this
theorem qy_goOn {post : SY → Prop} {C : Prop} {i : Nat} {f0 f : Nat → Nat} (hc : c ≤ 24) (V : qz_va K F S) (hb : b < 24) (hp24 : p < 24) (mk : qz_mk K b) (hi : i < 1152) (hfi : f i < 100000) (hat : i % 384 / 16 < 24) (k : qz_fl D f) (I : qz_DI c K F S b p f) (G : qz_DG f0 fm f C)
    (h : ∀ fm' D' f', qz_fl D' f' → qz_DI c K F S b p f' → qz_DG f0 fm' f' (C ∧ ∀ j, qz_fe c K F S b p i j → f0 j ≤ f0 i + 1) → post (nI c, fm', K, F, S, M, U, D')) : wpY_goOn post (nI c, fm, K, F, S, M, U, D) (nI i) (nI b) (nI p) := by
  have e1 : nI i / 384 = nI (i / 384) := pk_div (d := 384) (by omega) (by omega) (by omega)
  have e2 : (nI i - nI i / 384 * 384) / 16 = nI (i % 384 / 16) := by
    have : nI i - nI i / 384 * 384 = nI (i % 384) := pk_rem (d := 384) (by omega) (by omega) (by omega)
    rw [this]
    exact pk_div (d := 16) (by omega) (by omega) (by omega)
  have e3 : nI i - nI i / 16 * 16 = nI (i % 16) := pk_rem (d := 16) (by omega) (by omega) (by omega)
  have G' : qz_DG f0 fm f (C ∧ f i = f0 i) := qz_DG_m G (fun e hC => ⟨hC, by rw [e]⟩)
  have fi1 := (I.2 i hi).1
  have fiw := (I.2 i hi).2.2 hfi
  have hw : ∀ j, qz_fe c K F S b p i j → qz_fw c K F S b p (f i + 1 - 1) j := by
    intro j e
    have e0 : f i + 1 - 1 = (f i - 1) + 1 := by omega
    rw [e0]
    exact ⟨i, fiw, e⟩
  have body : ∀ m, ((i < 384 ∧ m = 0) ∨ (384 ≤ i ∧ qz_hb K F S (i % 384 / 16) (i % 16) m)) → ∃ n, wY_goOn_55 post (nI b) (nI p) (nI (i / 384)) (nI (i % 384 / 16)) (nI (f i + 1)) (nI m) n 0 (nI c) fm K F S M U D := by
    intro m hm
    refine ⟨3, br_f (by decide) (qy_next0 hat hc V (fun r0 h0 => ?_))⟩
    refine qy_go1 (y := 0) hc V hb hp24 mk hi h0 (fun a ha => qz_nx_y.mpr (Or.inl ha)) hm (by omega) (by omega) k I G' hw (fun fm1 D1 f1 k1 I1 G1 => ?_)
    refine br_f (by decide) (qy_next1 hat hc V (fun r1 h1 => ?_))
    refine qy_go1 (y := 1) hc V hb hp24 mk hi h1 (fun a ha => qz_nx_y.mpr (Or.inr ha)) hm (by omega) (by omega) k1 I1 G1 hw (fun fm2 D2 f2 k2 I2 G2 => ?_)
    refine br_t (by decide) (h _ _ _ k2 I2 (qz_DG_m G2 (fun _ hC => ⟨hC.1.1.1, fun j e => ?_⟩)))
    obtain ⟨q, e, ej⟩ := e
    have ei := hC.1.1.2
    rw [← ei]
    rcases qz_nx_y.mp e with w | w
    · exact hC.1.2 q w j ej
    · exact hC.2 q w j ej
  unfold wpY_goOn
  refine ⟨by decide, nm_r e1 ⟨by decide, by decide, nm_r e2 ⟨by decide, nm_r e3 ⟨vp_in_nI hi (by omega), ?_⟩⟩⟩⟩
  rw [nI_clamp (by omega), k i hi]
  refine nm_r (nI_1 (f i)) (pk_eq (i / 384) 0 (fun z => body 0 (Or.inl ⟨by omega, rfl⟩)) (fun z => qy_hold hat (Nat.mod_lt _ (by omega)) V (fun m hm => body m (Or.inr ⟨by omega, hm⟩))))
theorem qy_s88 {post : Int32 → SY → Prop} {J : Int32 → Int32 → (Nat → Int32) → (Nat → Int32) → (Nat → Int32) → (Nat → Int32) → (Nat → Int32) → (Nat → Int32) → Prop} {f0 : Nat → Nat} (hc : c ≤ 24) (V : qz_va K F S) (hb : b < 24) (hp24 : p < 24) (mk : qz_mk K b)
    (h : ∀ fm' D' f', qz_fl D' f' → qz_DI c K F S b p f' → qz_DG f0 fm' f' (qz_DC c K F S b p f0) → J (nI c) fm' K F S M U D') :
    ∀ d i, i + d = 1152 → ∀ fm' D' f', qz_fl D' f' → qz_DI c K F S b p f' → qz_DG f0 fm' f' (∀ i', i' < i → f0 i' < 100000 → ∀ j, qz_fe c K F S b p i' j → f0 j ≤ f0 i' + 1) → wY_shown_88 post J (nI b) (nI p) (d + 1) (nI i) (nI c) fm' K F S M U D' := by
  intro d
  induction d with
  | zero =>
    intro i hi fm' D' f' k I G
    have : i = 1152 := by omega
    subst this
    exact br_t (nI_le (Nat.le_refl 1152) (by omega)) (h _ _ _ k I G)
  | succ d ih =>
    intro i hi fm' D' f' k I G
    have hi' : i < 1152 := by omega
    have fb := (I.2 i hi').2.1
    refine br_f (nI_ge (b := 1152) hi' (by omega)) ⟨vp_in_nI hi' (by omega), ?_⟩
    rw [nI_clamp (by omega), k i hi']
    refine pk_le 100000 (f' i) (fun z => nm_r (nI_1 i) (ih (i + 1) (by omega) _ _ _ k I (qz_DG_m G (fun e hC i' hi2 hf j ej => ?_)))) (fun z => qy_goOn hc V hb hp24 mk hi' z (by omega) k I G (fun fm2 D2 f2 k2 I2 G2 => nm_r (nI_1 i) (ih (i + 1) (by omega) _ _ _ k2 I2 (qz_DG_m G2 (fun _ hC i' hi2 hf j ej => ?_)))))
    · by_cases w : i' = i
      · rw [w, ← e] at hf; omega
      · exact hC i' (by omega) hf j ej
    · by_cases w : i' = i
      · rw [w] at ej ⊢; exact hC.2 j ej
      · exact hC.1 i' (by omega) hf j ej
theorem qy_s130 {post : Int32 → SY → Prop} {f : Nat → Nat} (hc : c ≤ 24) (V : qz_va K F S) (k : qz_fl D f) (hf : ∀ n, n < 1152 → f n ≤ 100000)
    (h : ∀ l, qz_DL K F f (768 + 16 * c) l → post (if l = 100000 then -3 else nI l) (nI c, fm, K, F, S, M, U, D)) :
    ∀ d e, e + d = 768 + 16 * c → 768 ≤ e → ∀ l, qz_DL K F f e l → wY_shown_130 post (nI c) fm K F S M U D (d + 1) (nI l) (nI e) := by
  have e16 : (768 : Int32) + 16 * nI c = nI (768 + 16 * c) := by
    show nI 768 + nI 16 * nI c = _
    rw [pk_mul, nI_add]
  intro d
  induction d with
  | zero =>
    intro e he _ l hl
    have : e = 768 + 16 * c := by omega
    subst this
    have hh := h l hl
    have lb := hl.1
    refine pk_le (768 + 16 * c) (768 + 16 * c) (fun _ => pk_eq l 100000 (fun z => ?_) (fun z => ?_)) (fun z => by omega) e16
    · rw [if_pos z] at hh; exact hh
    · rw [if_neg z] at hh; exact hh
  | succ d ih =>
    intro e he h7 l hl
    have he' : e < 1152 := by omega
    have lb := hl.1
    have fb := hf e he'
    have iv : vp_in (nI e) 1152 := vp_in_nI he' (by omega)
    have e2 : (nI e - nI e / 384 * 384) / 16 = nI (e % 384 / 16) := by
      have : nI e - nI e / 384 * 384 = nI (e % 384) := pk_rem (d := 384) (by omega) (by omega) (by omega)
      rw [this]
      exact pk_div (d := 16) (by omega) (by omega) (by omega)
    have e3 : nI e - nI e / 16 * 16 = nI (e % 16) := pk_rem (d := 16) (by omega) (by omega) (by omega)
    have skip : (l ≤ f e ∨ ¬ qz_fg K F e) → wY_shown_182 post (wY_shown_130 post (nI c) fm K F S M U D (d + 1)) (nI l) (nI e) (nI c) fm K F S M U D := by
      intro z
      refine br_t rfl (nm_r (nI_1 e) (ih (e + 1) (by omega) (by omega) l ⟨hl.1, hl.2.1, fun n hn hn2 hg => ?_⟩))
      by_cases w : n = e
      · rcases z with z | z
        · rw [w]; exact z
        · rw [w] at hg; exact absurd hg z
      · exact hl.2.2 n hn (by omega) hg
    refine pk_le (768 + 16 * c) e (fun z => by omega) (fun _ => ⟨iv, ?_⟩) e16
    rw [nI_clamp (by omega), k e he']
    refine pk_le l (f e) (fun z => skip (Or.inl z)) (fun z => ⟨by decide, by decide, by decide, ?_⟩)
    rw [e2, e3]
    refine qy_uses (by omega) V (fun u => br_f (by decide) (br_f (by decide) ⟨iv, ?_⟩)) (fun nu => br_t rfl (skip (Or.inr (fun g => nu g.2))))
    rw [nI_clamp (by omega), k e he']
    refine nm_e (nm_r (nI_1 e) (ih (e + 1) (by omega) (by omega) (f e) ⟨by omega, Or.inr ⟨e, he', ⟨h7, u⟩, rfl⟩, fun n hn hn2 hg => ?_⟩))
    by_cases w : n = e
    · rw [w]; exact Nat.le_refl _
    · have := hl.2.2 n hn (by omega) hg
      omega
theorem qy_s74 {post : Int32 → SY → Prop} (hc : c ≤ 24) (V : qz_va K F S) (hb : b < 24) (hp24 : p < 24) (mk : qz_mk K b)
    (h : ∀ l f fm' D', qz_DI c K F S b p f → qz_DC c K F S b p f → qz_DL K F f (768 + 16 * c) l → post (if l = 100000 then -3 else nI l) (nI c, fm', K, F, S, M, U, D')) :
    ∀ n D' f, qz_fl D' f → qz_DI c K F S b p f → qz_sm f 1152 ≤ n → wY_shown_74 post (nI b) (nI p) (n + 2) (nI c) 1 K F S M U D' := by
  intro n
  induction n with
  | zero =>
    intro D' f k I hn
    refine br_f (by decide) ⟨1153, ?_⟩
    refine qy_s88 (f0 := f) hc V hb hp24 mk (fun fm2 D2 f2 k2 I2 G => ?_) 1152 0 (by omega) 0 D' f k I (Or.inl ⟨rfl, rfl, fun i' hi' => by omega⟩)
    rcases G with ⟨g0, e1, c1⟩ | ⟨g1, G⟩
    · subst e1
      rw [g0]
      exact br_t rfl ⟨16 * c + 1, qy_s130 hc V k2 (fun n hn => (I2.2 n hn).2.1) (fun l hl => h l f2 _ _ I2 c1 hl) (16 * c) 768 (by omega) (by omega) 100000 ⟨by omega, Or.inl rfl, fun n hn hn2 => by omega⟩⟩
    · omega
  | succ n ih =>
    intro D' f k I hn
    refine br_f (by decide) ⟨1153, ?_⟩
    refine qy_s88 (f0 := f) hc V hb hp24 mk (fun fm2 D2 f2 k2 I2 G => ?_) 1152 0 (by omega) 0 D' f k I (Or.inl ⟨rfl, rfl, fun i' hi' => by omega⟩)
    rcases G with ⟨g0, e1, c1⟩ | ⟨g1, G⟩
    · subst e1
      rw [g0]
      exact br_t rfl ⟨16 * c + 1, qy_s130 hc V k2 (fun n hn => (I2.2 n hn).2.1) (fun l hl => h l f2 _ _ I2 c1 hl) (16 * c) 768 (by omega) (by omega) 100000 ⟨by omega, Or.inl rfl, fun n hn hn2 => by omega⟩⟩
    · rw [g1]
      exact ih D2 f2 k2 I2 (by omega)
theorem qy_s40 {post : Int32 → SY → Prop} (hc : c ≤ 24) (V : qz_va K F S) (hb : b < 24) (hp24 : p < 24) (mk : qz_mk K b)
    (h : ∀ l f fm' D', qz_DI c K F S b p f → qz_DC c K F S b p f → qz_DL K F f (768 + 16 * c) l → post (if l = 100000 then -3 else nI l) (nI c, fm', K, F, S, M, U, D')) : ∃ n, wY_shown_40 post (nI b) (nI p) (nI c) fm n 0 K F S M U D := by
  refine loop_0 (fun n i (D' : Nat → Int32) => wY_shown_40 post (nI b) (nI p) (nI c) fm n (nI i) K F S M U D') (fun i D' => ∀ j, j < i → D' j = nI (if j = 0 then 1 else 100000)) 1152 D (fun j hj => by omega) ?_ ?_
  · intro n D' hD
    refine br_t (nI_le (Nat.le_refl 1152) (by omega)) ⟨_, qy_s74 hc V hb hp24 mk h _ D' (fun j => if j = 0 then 1 else 100000) hD ⟨?_, ?_⟩ (Nat.le_refl _)⟩
    · show (if 0 = 0 then 1 else 100000) ≤ 1
      rw [if_pos rfl]
      exact Nat.le_refl _
    · intro j hj
      dsimp only
      by_cases z : j = 0
      · subst z
        rw [if_pos rfl]
        exact ⟨by omega, by omega, fun _ => rfl⟩
      · rw [if_neg z]
        exact ⟨by omega, by omega, fun w => by omega⟩
  · intro n j D' hj hD hk
    have iv : vp_in (nI j) 1152 := vp_in_nI hj (by omega)
    refine br_f (nI_ge (b := 1152) hj (by omega)) ?_
    rw [nI_clamp (by omega)]
    refine pk_eq j 0 (fun z => ⟨iv, nm_e (nm_r (nI_1 j) (hk _ (fun t ht => ?_)))⟩) (fun z => ⟨iv, nm_e (nm_r (nI_1 j) (hk _ (fun t ht => ?_)))⟩)
    · by_cases w : t = j
      · rw [w, pk_us, if_pos z]; rfl
      · rw [pk_un w]; exact hD t (by omega)
    · by_cases w : t = j
      · rw [w, pk_us, if_neg z]; rfl
      · rw [pk_un w]; exact hD t (by omega)
end
