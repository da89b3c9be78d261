/-! ===== Y: findUseful ===== -/
def qz_us' (c : Nat) (K F S U : Nat → Int32) : Prop := ∀ j, j < 384 → (U j = 0 ∨ U j = 1) ∧ (¬ U j = 0 ↔ qz_yu c K F S j)
section
variable {c : Nat} {fm : Int32} {K F S M U D : Nat → Int32}
theorem qy_uses {post : Int32 → Prop} {p s : Nat} (hp : p < 24) (V : qz_va K F S) (h1 : qz_uz K F p s → post 1) (h0 : ¬ qz_uz K F p s → post 0) : wpY_uses post (nI c, fm, K, F, S, M, U, D) (nI p) (nI s) := by
  have i := qz_i24 hp
  unfold wpY_uses
  simp only [qz_c24 hp]
  refine ⟨i, br_c (fun k7 => ⟨i, ?_⟩) (fun k7 => h0 (fun z => k7 z.1))⟩
  obtain ⟨a, ha, ea⟩ := qz_va_a V (Or.inr (Or.inr (Or.inr (Or.inl k7))))
  rw [ea]
  refine br_c (fun z => h1 ⟨k7, a, ha, ea, (qz_b1o _ a (by omega)).mp z⟩) (fun z => h0 ?_)
  rintro ⟨_, a', ha', ea', y⟩
  have : a = a' := (qz_ne ha ha').mp (ea.symm.trans ea')
  rw [← this] at y
  exact z ((qz_b1o _ a (by omega)).mpr y)
theorem qy_useful {post : Int32 → Prop} {P : Nat → Prop} {r : Int32} {m : Nat} (hc : c ≤ 24) (hr : qz_op P (-1) r) (hP : ∀ a, P a → a < c) (hm : m < 16)
    (h1 : (∃ a, P a ∧ ¬ U (16 * a + m) = 0) → post 1) (h0 : ¬ (∃ a, P a ∧ ¬ U (16 * a + m) = 0) → post 0) : wpY_isUseful post (nI c, fm, K, F, S, M, U, D) r (nI m) := by
  unfold wpY_isUseful
  rcases hr with ⟨rfl, no⟩ | ⟨a, rfl, ha, ua⟩
  · exact br_t (by decide) (h0 (fun ⟨a, ha, _⟩ => no a ha))
  · have hac := hP a ha
    refine br_f (nI_pos (by omega)) ?_
    rw [qz_x16, nI_clamp (by omega)]
    refine ⟨vp_in_nI (by omega) (by omega), br_c (fun z => h0 ?_) (fun z => h1 ⟨a, ha, z⟩)⟩
    rintro ⟨a', ha', y⟩
    rw [ua a' ha'] at y
    exact y z
theorem qy_u161 {post : SY → Prop} {J57 : Int32 → (Nat → Int32) → (Nat → Int32) → (Nat → Int32) → (Nat → Int32) → (Nat → Int32) → (Nat → Int32) → Prop} {J71 : Int32 → Int32 → (Nat → Int32) → (Nat → Int32) → (Nat → Int32) → (Nat → Int32) → (Nat → Int32) → (Nat → Int32) → Prop} {j : Nat} {l z : Int32} (hj : j < 384) (hU : U j = 0 ∨ U j = 1) (hz : z = 0 ∨ z = 1)
    (A : ¬ l = 0 → U j = 0 → J71 (nI (j + 1)) z K F S M (upd U j 1) D) (B : (l = 0 ∨ ¬ U j = 0) → J71 (nI (j + 1)) z K F S M U D) : wY_findUseful_161 post J57 J71 (nI j) l z (nI c) fm K F S M U D := by
  have iv : vp_in (nI j) 384 := vp_in_nI hj (by omega)
  unfold wY_findUseful_161
  rw [nI_clamp (by omega), qz_nb0, qz_nb1]
  refine ⟨qz_nw hz, qz_fw' hz, iv, br_c (fun u0 => br_c (fun l0 => ⟨iv, nm_r (show upd U j 0 = U by rw [← u0]; exact qz_uu) (nm_r (nI_1 j) (B (Or.inl l0)))⟩) (fun l0 => ⟨iv, nm_e (nm_r (nI_1 j) (A l0 u0))⟩)) (fun u0 => ⟨iv, nm_r ?_ (nm_r (nI_1 j) (B (Or.inr u0)))⟩)⟩
  have u1 : U j = 1 := by
    rcases hU with w | w
    · exact absurd w u0
    · exact w
  rw [← u1]
  exact qz_uu
theorem qy_u134 {post : SY → Prop} {J57 : Int32 → (Nat → Int32) → (Nat → Int32) → (Nat → Int32) → (Nat → Int32) → (Nat → Int32) → (Nat → Int32) → Prop} {J71 : Int32 → Int32 → (Nat → Int32) → (Nat → Int32) → (Nat → Int32) → (Nat → Int32) → (Nat → Int32) → (Nat → Int32) → Prop} {j : Nat} {l : Int32} (hj : j < 384) (hU : U j = 0 ∨ U j = 1) (hfm : fm = 0 ∨ fm = 1)
    (A : ¬ l = 0 → U j = 0 → J71 (nI (j + 1)) 1 K F S M (upd U j 1) D) (B : (l = 0 ∨ ¬ U j = 0) → J71 (nI (j + 1)) fm K F S M U D) : wY_findUseful_134 post J57 J71 (nI j) l (nI c) fm K F S M U D := by
  have iv : vp_in (nI j) 384 := vp_in_nI hj (by omega)
  unfold wY_findUseful_134
  rw [nI_clamp (by omega)]
  refine br_c (fun f0 => br_c (fun l0 => ?_) (fun l0 => ⟨iv, br_c (fun u0 => ?_) (fun u0 => ?_)⟩)) (fun f0 => ?_)
  · exact qy_u161 hj hU (Or.inl rfl) (fun w => absurd l0 w) (fun w => by have := B w; rw [f0] at this; exact this)
  · exact qy_u161 hj hU (Or.inr rfl) A (fun w => by
      rcases w with w | w
      · exact absurd w l0
      · exact absurd u0 w)
  · exact qy_u161 hj hU (Or.inl rfl) (fun _ w => absurd w u0) (fun w => by have := B w; rw [f0] at this; exact this)
  · have f1 : fm = 1 := by
      rcases hfm with w | w
      · exact absurd w f0
      · exact w
    exact qy_u161 hj hU (Or.inr rfl) A (fun w => by have := B w; rw [f1] at this; exact this)
def qz_UI (c : Nat) (K F S U : Nat → Int32) : Prop := (∀ j, j < 384 → U j = 0 ∨ U j = 1) ∧ (∀ j, j < 384 → ¬ U j = 0 → qz_yu c K F S j) ∧ (∀ j, j < 16 * c → qz_uz K F (j / 16) (j % 16) → ¬ U j = 0)
def qz_ul (c : Nat) (K F S U : Nat → Int32) (j : Nat) : Prop := ∃ q m, qz_nx c K F (j / 16) q ∧ qz_hb K F S (j / 16) (j % 16) m ∧ ¬ U (16 * q + m) = 0
theorem qy_u71 {post : SY → Prop} {J57 : Int32 → (Nat → Int32) → (Nat → Int32) → (Nat → Int32) → (Nat → Int32) → (Nat → Int32) → (Nat → Int32) → Prop} {U0 : Nat → Int32} (hc : c ≤ 24) (V : qz_va K F S)
    (h : ∀ fm' U', qz_UI c K F S U' → qz_GC U0 fm' U' (∀ j, j < 16 * c → qz_ul c K F S U0 j → ¬ U0 j = 0) → J57 fm' K F S M U' D) :
    ∀ d j, j + d = 16 * c → ∀ fm' U', qz_UI c K F S U' → qz_GC U0 fm' U' (∀ j', j' < j → qz_ul c K F S U0 j' → ¬ U0 j' = 0) → wY_findUseful_71 post J57 (nI c) (d + 1) (nI j) fm' K F S M U' D := by
  have e16 : (16 : Int32) * nI c = nI (16 * c) := by
    show nI 16 * nI c = _
    rw [pk_mul]
  intro d
  induction d with
  | zero =>
    intro j hj fm' U' I G
    have : j = 16 * c := by omega
    subst this
    exact pk_le (16 * c) (16 * c) (fun _ => h _ _ I G) (fun z => by omega) e16
  | succ d ih =>
    intro j hj fm' U' I G
    have hj384 : j < 384 := by omega
    have hp : j / 16 < 24 := by omega
    have ed : nI j / 16 = nI (j / 16) := pk_div (d := 16) (by omega) (by omega) (by omega)
    have er : nI j - nI j / 16 * 16 = nI (j % 16) := pk_rem (d := 16) (by omega) (by omega) (by omega)
    have f01 : fm' = 0 ∨ fm' = 1 := by
      rcases G with G | G
      · exact Or.inl G.1
      · exact Or.inr G.1
    refine pk_le (16 * c) j (fun z => by omega) (fun _ => ?_) e16
    rw [er, ed]
    refine ⟨by decide, by decide, qy_hold hp (Nat.mod_lt _ (by omega)) V (fun m hm => ⟨by decide, qy_next0 hp hc V (fun r0 h0 => ?_)⟩)⟩
    have M134 : ∀ l : Int32, (¬ l = 0 ↔ qz_ul c K F S U' j) → wY_findUseful_134 post J57 (wY_findUseful_71 post J57 (nI c) (d + 1)) (nI j) l (nI c) fm' K F S M U' D := by
      intro l hl
      refine qy_u134 hj384 (I.1 j hj384) f01 (fun l0 u0 => ?_) (fun l0 => ?_)
      · refine ih (j + 1) (by omega) 1 _ ?_ (qz_GC_up G hj384 u0)
        obtain ⟨q, m', e, hb, z⟩ := hl.mp l0
        have hm' := hb.1
        have hq := e.1
        refine ⟨fun k hk => ?_, fun k hk y => ?_, fun k hk y => ?_⟩
        · by_cases w : k = j
          · rw [w, pk_us]; exact Or.inr rfl
          · rw [pk_un w]; exact I.1 k hk
        · by_cases w : k = j
          · rw [w]
            exact qz_R1 (I.2.1 (16 * q + m') (by omega) z) ⟨by omega, q, m', e, hb, rfl⟩
          · rw [pk_un w] at y; exact I.2.1 k hk y
        · by_cases w : k = j
          · rw [w, pk_us]; decide
          · rw [pk_un w]; exact I.2.2 k hk y
      · refine ih (j + 1) (by omega) fm' U' I (qz_GC_m G (fun e hC j' hj' y => ?_))
        by_cases w : j' = j
        · rw [w] at y ⊢
          rw [← e] at y ⊢
          rcases l0 with l0 | l0
          · exact absurd l0 (hl.mpr y)
          · exact l0
        · exact hC j' (by omega) y
    refine qy_useful hc h0 (fun a z => z.1) hm.1 (fun u => br_f (by decide) (M134 1 ⟨fun _ => ?_, fun _ => by decide⟩)) (fun nu => br_t rfl ⟨by decide, qy_next1 hp hc V (fun r1 h1 => qy_useful hc h1 (fun a z => z.1) hm.1 (fun u => br_f (by decide) (M134 1 ⟨fun _ => ?_, fun _ => by decide⟩)) (fun nu1 => br_t rfl (M134 0 ⟨fun z => absurd rfl z, fun z => ?_⟩)))⟩)
    · obtain ⟨a, ha, z⟩ := u
      exact ⟨a, m, qz_nx_y.mpr (Or.inl ha), hm, z⟩
    · obtain ⟨a, ha, z⟩ := u
      exact ⟨a, m, qz_nx_y.mpr (Or.inr ha), hm, z⟩
    · exfalso
      obtain ⟨q, m', e, hb, y⟩ := z
      rw [qz_hb_u hb hm] at y
      rcases qz_nx_y.mp e with w | w
      · exact nu ⟨q, w, y⟩
      · exact nu1 ⟨q, w, y⟩
theorem qy_u57 {post : SY → Prop} (hc : c ≤ 24) (V : qz_va K F S) (h : ∀ fm' U', qz_us' c K F S U' → post (nI c, fm', K, F, S, M, U', D)) :
    ∀ n U', qz_UI c K F S U' → 385 - qz_ct U' ≤ n → wY_findUseful_57 post (nI c) (n + 1) 1 K F S M U' D := by
  intro n
  induction n with
  | zero =>
    intro U' I hn
    have := qz_ct_b U'
    omega
  | succ n ih =>
    intro U' I hn
    have hb := qz_ct_b U'
    refine br_f (by decide) ⟨16 * c + 1, ?_⟩
    refine qy_u71 (U0 := U') hc V (fun fm2 U2 I2 G => ?_) (16 * c) 0 (by omega) 0 U' I (Or.inl ⟨rfl, rfl, fun j' hj' => by omega⟩)
    rcases G with ⟨g0, e1, c1⟩ | ⟨g1, G⟩
    · subst e1
      rw [g0]
      refine br_t rfl (h _ _ (fun j hj => ⟨I2.1 j hj, I2.2.1 j hj, fun z => ?_⟩))
      refine (qz_Ri (P := fun j => j < 16 * c ∧ ¬ U2 j = 0) (fun t ht => ⟨ht.1, I2.2.2 t ht.1 ht.2⟩) (fun s t _ hs e => ⟨e.1, c1 t e.1 ?_⟩) z).2
      obtain ⟨_, q, m, e, hm, es⟩ := e
      refine ⟨q, m, e, hm, ?_⟩
      rw [← es]
      exact hs.2
    · rw [g1]
      exact ih U2 I2 (by omega)
theorem qy_find {post : SY → Prop} (hc : c ≤ 24) (V : qz_va K F S) (h : ∀ fm' U', qz_us' c K F S U' → post (nI c, fm', K, F, S, M, U', D)) : wpY_findUseful post (nI c, fm, K, F, S, M, U, D) := by
  have e16 : (16 : Int32) * nI c = nI (16 * c) := by
    show nI 16 * nI c = _
    rw [pk_mul]
  unfold wpY_findUseful
  refine loop_0 (fun n i (U' : Nat → Int32) => wY_findUseful_2 post (nI c) fm n (nI i) K F S M U' D) (fun i U' => ∀ j, j < i → (U' j = 0 ∨ U' j = 1) ∧ (¬ U' j = 0 ↔ (j < 16 * c ∧ qz_uz K F (j / 16) (j % 16)))) 384 U (fun j hj => by omega) ?_ ?_
  · intro n U' hU
    refine br_t (nI_le (Nat.le_refl 384) (by omega)) ⟨386, qy_u57 hc V h 385 U' ⟨fun j hj => (hU j hj).1, fun j hj z => qz_R0 ((hU j hj).2.mp z), fun j hj z => (hU j (by omega)).2.mpr ⟨hj, z⟩⟩ (Nat.sub_le _ _)⟩
  · intro n j U' hj hU hk
    have iv : vp_in (nI j) 384 := vp_in_nI hj (by omega)
    have ed : nI j / 16 = nI (j / 16) := pk_div (d := 16) (by omega) (by omega) (by omega)
    have er : nI j - nI j / 16 * 16 = nI (j % 16) := pk_rem (d := 16) (by omega) (by omega) (by omega)
    have st : ∀ v : Int32, (v = 0 ∨ v = 1) → (¬ v = 0 ↔ (j < 16 * c ∧ qz_uz K F (j / 16) (j % 16))) → wY_findUseful_2 post (nI c) fm n (nI (j + 1)) K F S M (upd U' j v) D := by
      intro v hv hv2
      refine hk _ (fun k hkk => ?_)
      by_cases w : k = j
      · rw [w, pk_us]; exact ⟨hv, hv2⟩
      · rw [pk_un w]; exact hU k (by omega)
    refine br_f (nI_ge (b := 384) hj (by omega)) ?_
    rw [nI_clamp (by omega), qz_nb0, qz_nb1, er, ed]
    refine pk_le (16 * c) j (fun z => ⟨iv, nm_e (nm_r (nI_1 j) (st 0 (Or.inl rfl) ⟨fun w => absurd rfl w, fun w => ?_⟩))⟩) (fun z => ⟨by decide, by decide, qy_uses (by omega) V (fun u => br_f (by decide) ⟨iv, nm_e (nm_r (nI_1 j) (st 1 (Or.inr rfl) ⟨fun _ => ⟨z, u⟩, fun _ => by decide⟩))⟩) (fun u => br_t rfl ⟨iv, nm_e (nm_r (nI_1 j) (st 0 (Or.inl rfl) ⟨fun w => absurd rfl w, fun w => absurd w.2 u⟩))⟩)⟩) e16
    have := w.1
    omega
end
