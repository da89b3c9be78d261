/-! ===== X: the queries, each against the least sets ===== -/
section
variable (c : Nat) (K F S : Nat → Int32)
def qz_ow (p : Nat) : Int32 := if 2 < K p then S p else F p
def qz_ds (p b : Nat) : Prop := ((K p = 0 ∨ K p = 2 ∨ K p = 4) ∨ ((K p = 1 ∨ K p = 3) ∧ K b = 4)) ∧ qz_mk K b ∧ qz_ow K F S p = qz_ow K F S b
def qz_sp (b p : Nat) : Prop := ∃ r, r < 4 ∧ qz_ho c K F S b p r ∧ qz_lv c K F S p r
def qz_cf (b p : Nat) : Prop := qz_ds K F S p b ∧ qz_sp c K F S b p
def qz_ns (p : Nat) : Prop := (K p = 1 ∨ K p = 2 ∨ K p = 3 ∨ K p = 4) ∧ ∃ o, o < 4 ∧ qz_ow K F S p = nI o ∧ qz_em c K F o p
def qz_id (p : Nat) : Prop := K p = 7 ∧ ∃ r, r < 4 ∧ F p = nI r ∧ qz_ho c K F S 24 p r
def qz_ft (p : Nat) : Prop := qz_ns c K F S p ∨ qz_id c K F S p ∨ ∃ b, b < c ∧ qz_cf c K F S b p
end
/-- k of the places below n are P -/
def qz_cn (P : Nat → Prop) : Nat → Nat → Prop
  | 0 => fun k => k = 0
  | n + 1 => fun k => (P n ∧ ∃ j, k = j + 1 ∧ qz_cn P n j) ∨ (¬ P n ∧ qz_cn P n k)
theorem qz_cn_u {P : Nat → Prop} : ∀ n k k', qz_cn P n k → qz_cn P n k' → k = k' := by
  intro n
  induction n with
  | zero =>
    intro k k' h h'
    have h1 : k = 0 := h
    have h2 : k' = 0 := h'
    omega
  | succ n ih =>
    intro k k' h h'
    rcases h with ⟨p, j, e, h⟩ | ⟨p, h⟩
    · rcases h' with ⟨_, j', e', h'⟩ | ⟨p', _⟩
      · have := ih j j' h h'
        omega
      · exact absurd p p'
    · rcases h' with ⟨p', _⟩ | ⟨_, h'⟩
      · exact absurd p' p
      · exact ih k k' h h'
theorem qz_cn_le {P : Nat → Prop} : ∀ n k, qz_cn P n k → k ≤ n := by
  intro n
  induction n with
  | zero =>
    intro k h
    have h1 : k = 0 := h
    omega
  | succ n ih =>
    intro k h
    rcases h with ⟨p, j, e, h⟩ | ⟨p, h⟩
    · have := ih j h
      omega
    · have := ih k h
      omega
theorem qz_cn_x {P P' : Nat → Prop} : ∀ n k, (∀ i, i < n → (P i ↔ P' i)) → qz_cn P n k → qz_cn P' n k := by
  intro n
  induction n with
  | zero => intro k _ h; exact h
  | succ n ih =>
    intro k hp h
    have hn := hp n (by omega)
    rcases h with ⟨p, j, e, h⟩ | ⟨p, h⟩
    · exact Or.inl ⟨hn.mp p, j, e, ih j (fun i hi => hp i (by omega)) h⟩
    · exact Or.inr ⟨fun z => p (hn.mpr z), ih k (fun i hi => hp i (by omega)) h⟩
theorem qz_cn_m {P : Nat → Prop} {n k : Nat} : ∀ d, (∀ i, n ≤ i → ¬ P i) → qz_cn P n k → qz_cn P (n + d) k := by
  intro d
  induction d with
  | zero => intro _ h; exact h
  | succ d ih =>
    intro hp h
    exact Or.inr ⟨hp (n + d) (by omega), ih hp h⟩
theorem qz_a24 (x : Int32) : x &&& 16777216 = 0 ↔ ¬ bt x 24 = true := by
  rw [qz_zero]
  constructor
  · intro h z
    have := h 24 (by omega)
    rw [b_and, z, (qz_b24 24).mpr rfl] at this
    exact this rfl
  · intro h i _ z
    rw [b_and, Bool.and_eq_true, qz_b24] at z
    rw [z.2] at z
    exact h z.1
theorem qz_n24 (x : Int32) (i : Nat) (hi : i < 32) : bt (x &&& (-16777217)) i = true ↔ (bt x i = true ∧ i ≠ 24) := by
  rw [b_and, Bool.and_eq_true]
  have := (by decide +kernel : ∀ i, i < 32 → (bt (-16777217) i = true ↔ i ≠ 24)) i hi
  rw [this]
section
variable {c : Nat} {fq : Int32} {K F S sn lo em lv Q L : Nat → Int32} {post : Int32 → Prop}
theorem qx_free {p r : Nat} (hp : p < 24) (hr : r < 4) (FS : qz_FS c K F S sn em lo) (h1 : qz_ho c K F S 24 p r → post 1) (h0 : ¬ qz_ho c K F S 24 p r → post 0) : wpX_mayBeFree post (nI c, fq, K, F, S, sn, lo, em, lv, Q, L) (nI p) (nI r) := by
  unfold wpX_mayBeFree
  have f := FS.2.2.1 p r 24 hp hr
  rw [qz_x4]
  simp only [nI_clamp (show p * 4 + r < 2 ^ 31 by omega)]
  refine ⟨vp_in_nI (by omega) (by omega), br_c (fun z => h0 (fun w => ?_)) (fun z => h1 ?_)⟩
  · exact (qz_a24 _).mp z (f.mpr w)
  · apply Classical.byContradiction
    intro w
    exact z ((qz_a24 _).mpr (fun y => w (f.mp y)))
theorem qx_isLive {p r : Nat} (hp : p < 24) (hr : r < 4) (LS : qz_LS c K F S lv) (h1 : qz_lv c K F S p r → post 1) (h0 : ¬ qz_lv c K F S p r → post 0) : wpX_isLive post (nI c, fq, K, F, S, sn, lo, em, lv, Q, L) (nI p) (nI r) := by
  unfold wpX_isLive
  have f := LS p r hp hr
  simp only [qz_c24 hp]
  refine ⟨qz_i24 hp, br_c (fun z => h0 (fun w => ?_)) (fun z => h1 ?_)⟩
  · exact (qz_b1z _ r (by omega)).mp z (f.mpr w)
  · apply Classical.byContradiction
    intro w
    exact z ((qz_b1z _ r (by omega)).mpr (fun y => w (f.mp y)))
theorem qx_writes {p : Nat} (hp : p < 24) (h1 : (K p = 0 ∨ K p = 2 ∨ K p = 4) → post 1) (h0 : ¬ (K p = 0 ∨ K p = 2 ∨ K p = 4) → post 0) : wpX_writesOwner post (nI c, fq, K, F, S, sn, lo, em, lv, Q, L) (nI p) := by
  unfold wpX_writesOwner
  have i := qz_i24 hp
  simp only [qz_c24 hp]
  exact ⟨i, br_c (fun z => h1 (Or.inl z)) (fun a => ⟨i, br_c (fun z => h1 (Or.inr (Or.inl z))) (fun b => ⟨i, br_c (fun z => h1 (Or.inr (Or.inr z))) (fun d => h0 (fun z => by
    rcases z with z | z | z
    · exact a z
    · exact b z
    · exact d z))⟩)⟩)⟩
theorem qx_reads {p : Nat} (hp : p < 24) (h1 : (K p = 1 ∨ K p = 3) → post 1) (h0 : ¬ (K p = 1 ∨ K p = 3) → post 0) : wpX_readsOwner post (nI c, fq, K, F, S, sn, lo, em, lv, Q, L) (nI p) := by
  unfold wpX_readsOwner
  have i := qz_i24 hp
  simp only [qz_c24 hp]
  exact ⟨i, br_c (fun z => h1 (Or.inl z)) (fun a => ⟨i, br_c (fun z => h1 (Or.inr z)) (fun b => h0 (fun z => by
    rcases z with z | z
    · exact a z
    · exact b z))⟩)⟩
theorem qx_makes {p : Nat} (hp : p < 24) (h1 : qz_mk K p → post 1) (h0 : ¬ qz_mk K p → post 0) : wpX_makesLoan post (nI c, fq, K, F, S, sn, lo, em, lv, Q, L) (nI p) := by
  unfold wpX_makesLoan
  have i := qz_i24 hp
  simp only [qz_c24 hp]
  exact ⟨i, br_c (fun z => h1 (Or.inl z)) (fun a => ⟨i, br_c (fun z => h1 (Or.inr z)) (fun b => h0 (fun z => by
    rcases z with z | z
    · exact a z
    · exact b z))⟩)⟩
theorem qx_owner {p : Nat} (hp : p < 24) (h : post (qz_ow K F S p)) : wpX_ownerAt post (nI c, fq, K, F, S, sn, lo, em, lv, Q, L) (nI p) := by
  unfold wpX_ownerAt
  have i := qz_i24 hp
  simp only [qz_c24 hp]
  unfold qz_ow at h
  refine ⟨i, br_c (fun z => ⟨i, ?_⟩) (fun z => ⟨i, ?_⟩)⟩
  · rw [if_pos z] at h; exact h
  · rw [if_neg z] at h; exact h
theorem qx_disturbs {p b : Nat} (hp : p < 24) (hb : b < 24) (h1 : qz_ds K F S p b → post 1) (h0 : ¬ qz_ds K F S p b → post 0) : wpX_disturbs post (nI c, fq, K, F, S, sn, lo, em, lv, Q, L) (nI p) (nI b) := by
  have i := qz_i24 hb
  have no : ¬ ((K p = 0 ∨ K p = 2 ∨ K p = 4) ∨ ((K p = 1 ∨ K p = 3) ∧ K b = 4)) → wX_disturbs_30 post (nI p) (nI b) (nI c) fq K F S sn lo em lv Q L := by
    intro z
    exact br_t rfl (h0 (fun w => z w.1))
  have yes : ((K p = 0 ∨ K p = 2 ∨ K p = 4) ∨ ((K p = 1 ∨ K p = 3) ∧ K b = 4)) → wX_disturbs_26 post (nI p) (nI b) (nI c) fq K F S sn lo em lv Q L := by
    intro z
    refine br_f (by decide) (qx_makes hb (fun m => br_f (by decide) (qx_owner hp (qx_owner hb (br_c (fun e => h1 ⟨z, m, e⟩) (fun e => h0 (fun w => e w.2.2)))))) (fun m => br_t rfl (h0 (fun w => m w.2.1))))
  unfold wpX_disturbs
  refine qx_writes hp (fun w => br_f (by decide) (yes (Or.inl w))) (fun nw => br_t rfl (qx_reads hp (fun r => br_f (by decide) ?_) (fun nr => br_t rfl (no ?_))))
  · rw [qz_c24 hb]
    refine ⟨i, br_c (fun k4 => yes (Or.inr ⟨r, k4⟩)) (fun k4 => no ?_)⟩
    rintro (z | z)
    · exact nw z
    · exact k4 z.2
  · rintro (z | z)
    · exact nw z
    · exact nr z.1
theorem qx_sp2 {b p : Nat} (hp : p < 24) (hb : b < 24) (FS : qz_FS c K F S sn em lo) (LS : qz_LS c K F S lv) (h1 : qz_sp c K F S b p → post 1) (h0 : ¬ qz_sp c K F S b p → post 0) :
    ∀ d r, r + d = 4 → (∀ r', r' < r → ¬ (qz_ho c K F S b p r' ∧ qz_lv c K F S p r')) → wX_isInSpan_2 post (nI b) (nI p) (nI c) fq K F S sn lo em lv Q L (d + 1) (nI r) := by
  intro d
  induction d with
  | zero =>
    intro r hr hn
    have : r = 4 := by omega
    subst this
    refine br_t (nI_le (Nat.le_refl 4) (by omega)) (h0 ?_)
    rintro ⟨r, hr, hh⟩
    exact hn r hr hh
  | succ d ih =>
    intro r hr hn
    have hr4 : r < 4 := by omega
    have f := FS.2.2.1 p r b hp hr4
    have next : ¬ (qz_ho c K F S b p r ∧ qz_lv c K F S p r) → wX_isInSpan_2 post (nI b) (nI p) (nI c) fq K F S sn lo em lv Q L (d + 1) (nI (r + 1)) := by
      intro z
      refine ih (r + 1) (by omega) (fun r' hr' => ?_)
      by_cases e : r' = r
      · rw [e]; exact z
      · exact hn r' (by omega)
    refine br_f (nI_ge (b := 4) hr4 (by omega)) ?_
    rw [qz_x4, nI_clamp (by omega)]
    refine ⟨vp_in_nI (by omega) (by omega), br_c (fun z => ?_) (fun z => ?_)⟩
    · exact br_t rfl (nm_r (nI_1 r) (next (fun w => (qz_b1z _ b (by omega)).mp z (f.mpr w.1))))
    · have hb1 : qz_ho c K F S b p r := by
        apply Classical.byContradiction
        intro w
        exact z ((qz_b1z _ b (by omega)).mpr (fun y => w (f.mp y)))
      exact br_f (by decide) (qx_isLive hp hr4 LS (fun l => br_f (by decide) (h1 ⟨r, hr4, hb1, l⟩)) (fun l => br_t rfl (nm_r (nI_1 r) (next (fun w => l w.2)))))
theorem qx_span1 {b p : Nat} (hp : p < 24) (hb : b < 24) (FS : qz_FS c K F S sn em lo) (LS : qz_LS c K F S lv) (h1 : qz_sp c K F S b p → post 1) (h0 : ¬ qz_sp c K F S b p → post 0) : wpX_isInSpan post (nI c, fq, K, F, S, sn, lo, em, lv, Q, L) (nI b) (nI p) :=
  ⟨5, qx_sp2 hp hb FS LS h1 h0 4 0 rfl (fun r' hr' => by omega)⟩
theorem qx_conf {b p : Nat} (hp : p < 24) (hb : b < 24) (FS : qz_FS c K F S sn em lo) (LS : qz_LS c K F S lv) (h1 : qz_cf c K F S b p → post 1) (h0 : ¬ qz_cf c K F S b p → post 0) : wpX_isInConflict post (nI c, fq, K, F, S, sn, lo, em, lv, Q, L) (nI b) (nI p) := by
  unfold wpX_isInConflict
  exact qx_disturbs hp hb (fun d => br_f (by decide) (qx_span1 hp hb FS LS (fun s => br_f (by decide) (h1 ⟨d, s⟩)) (fun s => br_t rfl (h0 (fun z => s z.2))))) (fun d => br_t rfl (h0 (fun z => d z.1)))
theorem qx_cs4 {p : Nat} (hc : c ≤ 24) (hp : p < 24) (FS : qz_FS c K F S sn em lo) (LS : qz_LS c K F S lv) (h : ∀ x, (∀ i, bt x i = true ↔ (i < c ∧ qz_cf c K F S i p)) → post x) :
    ∀ d b, b + d = c → ∀ x, (∀ i, bt x i = true ↔ (i < b ∧ qz_cf c K F S i p)) → wX_conflictSet_4 post (nI p) (nI c) fq K F S sn lo em lv Q L (d + 1) x (nI b) := by
  intro d
  induction d with
  | zero =>
    intro b hb x hx
    have : b = c := by omega
    subst this
    exact br_t (nI_le (Nat.le_refl b) (by omega)) (h x hx)
  | succ d ih =>
    intro b hb x hx
    refine br_f (nI_ge (b := c) (by omega) (by omega)) (qx_conf hp (by omega) FS LS (fun cf => br_f (by decide) (nm_e (nm_r (nI_1 b) (ih (b + 1) (by omega) _ (fun i => ?_))))) (fun cf => br_t rfl (nm_r (nI_1 b) (ih (b + 1) (by omega) x (fun i => ?_)))))
    · rw [b_or, Bool.or_eq_true, qz_bshA (by omega), hx i]
      constructor
      · rintro (⟨z, w⟩ | z)
        · exact ⟨by omega, w⟩
        · rw [z]; exact ⟨by omega, cf⟩
      · rintro ⟨z, w⟩
        by_cases e : i = b
        · exact Or.inr e
        · exact Or.inl ⟨by omega, w⟩
    · rw [hx i]
      constructor
      · rintro ⟨z, w⟩
        exact ⟨by omega, w⟩
      · rintro ⟨z, w⟩
        refine ⟨?_, w⟩
        apply Classical.byContradiction
        intro y
        have e : i = b := by omega
        rw [e] at w
        exact cf w
theorem qx_cset {p : Nat} (hc : c ≤ 24) (hp : p < 24) (FS : qz_FS c K F S sn em lo) (LS : qz_LS c K F S lv) (h : ∀ x, (∀ i, bt x i = true ↔ (i < c ∧ qz_cf c K F S i p)) → post x) : wpX_conflictSet post (nI c, fq, K, F, S, sn, lo, em, lv, Q, L) (nI p) := by
  refine ⟨c + 1, qx_cs4 hc hp FS LS h c 0 (by omega) 0 (fun i => ?_)⟩
  rw [b_0]
  exact ⟨fun z => (by cases z), fun z => by omega⟩
theorem qz_ow_o (V : qz_va K F S) {p : Nat} (h : K p = 0 ∨ K p = 1 ∨ K p = 2 ∨ K p = 3 ∨ K p = 4) : ∃ o, o < 4 ∧ qz_ow K F S p = nI o := by
  unfold qz_ow
  rcases h with h | h | h | h | h
  · obtain ⟨a, ha, e⟩ := qz_va_a V (Or.inl h)
    rw [h, if_neg (by decide)]
    exact ⟨a, ha, e⟩
  · obtain ⟨a, ha, e⟩ := qz_va_a V (Or.inr (Or.inl h))
    rw [h, if_neg (by decide)]
    exact ⟨a, ha, e⟩
  · obtain ⟨a, ha, e⟩ := qz_va_a V (Or.inr (Or.inr (Or.inl h)))
    rw [h, if_neg (by decide)]
    exact ⟨a, ha, e⟩
  · obtain ⟨_, a, ha, e⟩ := qz_va_b V (Or.inl h)
    rw [h, if_pos (by decide)]
    exact ⟨a, ha, e⟩
  · obtain ⟨_, a, ha, e⟩ := qz_va_b V (Or.inr (Or.inl h))
    rw [h, if_pos (by decide)]
    exact ⟨a, ha, e⟩
theorem qx_unset {p : Nat} (hp : p < 24) (V : qz_va K F S) (FS : qz_FS c K F S sn em lo) (h1 : qz_ns c K F S p → post 1) (h0 : ¬ qz_ns c K F S p → post 0) : wpX_isUnset post (nI c, fq, K, F, S, sn, lo, em, lv, Q, L) (nI p) := by
  have i := qz_i24 hp
  have yes : (K p = 1 ∨ K p = 2 ∨ K p = 3 ∨ K p = 4) → wX_isUnset_28 post (nI p) (nI c) fq K F S sn lo em lv Q L := by
    intro hk
    obtain ⟨o, ho, eo⟩ := qz_ow_o V (Or.inr hk)
    have f := FS.2.1 p o hp ho
    unfold wX_isUnset_28 wX_isUnset_33
    rw [qz_c24 hp]
    refine br_f (by decide) ⟨i, qx_owner hp ?_⟩
    rw [eo]
    refine br_c (fun z => h0 (fun w => ?_)) (fun z => h1 ⟨hk, o, ho, eo, ?_⟩)
    · obtain ⟨_, o', ho', eo', w⟩ := w
      have : o = o' := (qz_ne ho ho').mp (eo.symm.trans eo')
      rw [← this] at w
      exact (qz_b1z _ o (by omega)).mp z (f.mpr w)
    · apply Classical.byContradiction
      intro w
      exact z ((qz_b1z _ o (by omega)).mpr (fun y => w (f.mp y)))
  unfold wpX_isUnset
  refine qx_reads hp (fun r => br_f (by decide) (yes ?_)) (fun nr => br_t rfl ?_)
  · rcases r with r | r
    · exact Or.inl r
    · exact Or.inr (Or.inr (Or.inl r))
  · rw [qz_c24 hp]
    refine ⟨i, br_c (fun k4 => yes (Or.inr (Or.inr (Or.inr k4)))) (fun k4 => ⟨i, br_c (fun k2 => yes (Or.inr (Or.inl k2))) (fun k2 => br_t rfl (h0 ?_))⟩)⟩
    rintro ⟨z | z | z | z, _⟩
    · exact nr (Or.inl z)
    · exact k2 z
    · exact nr (Or.inr z)
    · exact k4 z
theorem qx_idle {p : Nat} (hp : p < 24) (V : qz_va K F S) (FS : qz_FS c K F S sn em lo) (h1 : qz_id c K F S p → post 1) (h0 : ¬ qz_id c K F S p → post 0) : wpX_isIdle post (nI c, fq, K, F, S, sn, lo, em, lv, Q, L) (nI p) := by
  have i := qz_i24 hp
  unfold wpX_isIdle
  simp only [qz_c24 hp]
  refine ⟨i, br_c (fun k7 => ⟨i, ?_⟩) (fun k7 => h0 (fun z => k7 z.1))⟩
  obtain ⟨a, ha, ea⟩ := qz_va_a V (Or.inr (Or.inr (Or.inr (Or.inl k7))))
  rw [ea]
  refine qx_free hp ha FS (fun f => br_f (by decide) (h1 ⟨k7, a, ha, ea, f⟩)) (fun f => br_t rfl (h0 (fun z => ?_)))
  obtain ⟨_, a', ha', ea', z⟩ := z
  have : a = a' := (qz_ne ha ha').mp (ea.symm.trans ea')
  rw [← this] at z
  exact f z
theorem qz_bz {x : Int32} {P : Nat → Prop} {c : Nat} (hc : c ≤ 24) (hx : ∀ i, bt x i = true ↔ (i < c ∧ P i)) : x = 0 ↔ ¬ ∃ b, b < c ∧ P b := by
  rw [qz_zero]
  constructor
  · rintro h ⟨b, hb, z⟩
    exact h b (by omega) ((hx b).mpr ⟨hb, z⟩)
  · intro h i _ z
    exact h ⟨i, (hx i).mp z⟩
theorem qx_faulty {p : Nat} (hc : c ≤ 24) (hp : p < 24) (V : qz_va K F S) (FS : qz_FS c K F S sn em lo) (LS : qz_LS c K F S lv) (h1 : qz_ft c K F S p → post 1) (h0 : ¬ qz_ft c K F S p → post 0) : wpX_isFaulty post (nI c, fq, K, F, S, sn, lo, em, lv, Q, L) (nI p) := by
  unfold wpX_isFaulty
  refine qx_unset hp V FS (fun u => br_f (by decide) (h1 (Or.inl u))) (fun nu => br_t rfl (qx_idle hp V FS (fun u => br_f (by decide) (h1 (Or.inr (Or.inl u)))) (fun ni => br_t rfl (qx_cset hc hp FS LS (fun x hx => br_c (fun z => h0 ?_) (fun z => h1 (Or.inr (Or.inr ?_))))))))
  · rintro (w | w | w)
    · exact nu w
    · exact ni w
    · exact (qz_bz hc hx).mp z w
  · apply Classical.byContradiction
    intro w
    exact z ((qz_bz hc hx).mpr w)
theorem qx_ft4 (hc : c ≤ 24) (V : qz_va K F S) (FS : qz_FS c K F S sn em lo) (LS : qz_LS c K F S lv) (h : ∀ k, qz_cn (qz_ft c K F S) c k → post (nI k)) :
    ∀ d p, p + d = c → ∀ k, qz_cn (qz_ft c K F S) p k → wX_faults_4 post (nI c) fq K F S sn lo em lv Q L (d + 1) (nI k) (nI p) := by
  intro d
  induction d with
  | zero =>
    intro p hp k hk
    have : p = c := by omega
    subst this
    exact br_t (nI_le (Nat.le_refl p) (by omega)) (h k hk)
  | succ d ih =>
    intro p hp k hk
    exact br_f (nI_ge (b := c) (by omega) (by omega)) (qx_faulty hc (by omega) V FS LS (fun f => br_f (by decide) (nm_r (nI_1 k) (nm_r (nI_1 p) (ih (p + 1) (by omega) (k + 1) (Or.inl ⟨f, k, rfl, hk⟩))))) (fun f => br_t rfl (nm_r (nI_1 p) (ih (p + 1) (by omega) k (Or.inr ⟨f, hk⟩)))))
theorem qx_faults (hc : c ≤ 24) (V : qz_va K F S) (FS : qz_FS c K F S sn em lo) (LS : qz_LS c K F S lv) (h : ∀ k, qz_cn (qz_ft c K F S) c k → post (nI k)) : wpX_faults post (nI c, fq, K, F, S, sn, lo, em, lv, Q, L) :=
  ⟨c + 1, qx_ft4 hc V FS LS h c 0 (by omega) 0 rfl⟩
theorem qx_ff2 (hc : c ≤ 24) (V : qz_va K F S) (FS : qz_FS c K F S sn em lo) (LS : qz_LS c K F S lv) (h : ∀ p, p < c → qz_ft c K F S p → (∀ p', p' < p → ¬ qz_ft c K F S p') → post (nI p)) (h0 : (∀ p, p < c → ¬ qz_ft c K F S p) → post (-3)) :
    ∀ d p, p + d = c → (∀ p', p' < p → ¬ qz_ft c K F S p') → wX_firstFault_2 post (nI c) fq K F S sn lo em lv Q L (d + 1) (nI p) := by
  intro d
  induction d with
  | zero =>
    intro p hp hn
    have : p = c := by omega
    subst this
    exact br_t (nI_le (Nat.le_refl p) (by omega)) (h0 hn)
  | succ d ih =>
    intro p hp hn
    refine br_f (nI_ge (b := c) (by omega) (by omega)) (qx_faulty hc (by omega) V FS LS (fun f => br_f (by decide) (h p (by omega) f hn)) (fun f => br_t rfl (nm_r (nI_1 p) (ih (p + 1) (by omega) (fun p' hp' => ?_)))))
    by_cases e : p' = p
    · rw [e]; exact f
    · exact hn p' (by omega)
theorem qx_first (hc : c ≤ 24) (V : qz_va K F S) (FS : qz_FS c K F S sn em lo) (LS : qz_LS c K F S lv) (h : ∀ p, p < c → qz_ft c K F S p → (∀ p', p' < p → ¬ qz_ft c K F S p') → post (nI p)) (h0 : (∀ p, p < c → ¬ qz_ft c K F S p) → post (-3)) : wpX_firstFault post (nI c, fq, K, F, S, sn, lo, em, lv, Q, L) :=
  ⟨c + 1, qx_ff2 hc V FS LS h h0 c 0 (by omega) (fun p' hp' => by omega)⟩
theorem qx_sp14 {b : Nat} (hc : c ≤ 24) (hb : b < 24) (FS : qz_FS c K F S sn em lo) (LS : qz_LS c K F S lv) (h : ∀ x, (∀ i, bt x i = true ↔ (i < c ∧ qz_sp c K F S b i)) → post x) :
    ∀ d p, p + d = c → ∀ x, (∀ i, bt x i = true ↔ (i < p ∧ qz_sp c K F S b i)) → wX_span_14 post (nI b) (nI c) fq K F S sn lo em lv Q L (d + 1) x (nI p) := by
  intro d
  induction d with
  | zero =>
    intro p hp x hx
    have : p = c := by omega
    subst this
    exact br_t (nI_le (Nat.le_refl p) (by omega)) (h x hx)
  | succ d ih =>
    intro p hp x hx
    refine br_f (nI_ge (b := c) (by omega) (by omega)) (qx_span1 (by omega) hb FS LS (fun cf => br_f (by decide) (nm_e (nm_r (nI_1 p) (ih (p + 1) (by omega) _ (fun i => ?_))))) (fun cf => br_t rfl (nm_r (nI_1 p) (ih (p + 1) (by omega) x (fun i => ?_)))))
    · rw [b_or, Bool.or_eq_true, qz_bshA (by omega), hx i]
      constructor
      · rintro (⟨z, w⟩ | z)
        · exact ⟨by omega, w⟩
        · rw [z]; exact ⟨by omega, cf⟩
      · rintro ⟨z, w⟩
        by_cases e : i = p
        · exact Or.inr e
        · exact Or.inl ⟨by omega, w⟩
    · rw [hx i]
      constructor
      · rintro ⟨z, w⟩
        exact ⟨by omega, w⟩
      · rintro ⟨z, w⟩
        refine ⟨?_, w⟩
        apply Classical.byContradiction
        intro y
        have e : i = p := by omega
        rw [e] at w
        exact cf w
theorem qx_br30 {x : Int32} (hc : c ≤ 24) (h : ∀ k, qz_cn (fun i => bt x i = true) c k → post (nI k)) :
    ∀ d b, b + d = c → ∀ k, qz_cn (fun i => bt x i = true) b k → wX_broken_30 post x (nI c) fq K F S sn lo em lv Q L (d + 1) (nI k) (nI b) := by
  intro d
  induction d with
  | zero =>
    intro b hb k hk
    have : b = c := by omega
    subst this
    exact br_t (nI_le (Nat.le_refl b) (by omega)) (h k hk)
  | succ d ih =>
    intro b hb k hk
    refine br_f (nI_ge (b := c) (by omega) (by omega)) ?_
    rw [qz_b1 x b (by omega)]
    by_cases z : bt x b = true
    · rw [if_pos z]
      exact nm_r (nI_1 k) (nm_r (nI_1 b) (ih (b + 1) (by omega) (k + 1) (Or.inl ⟨z, k, rfl, hk⟩)))
    · rw [if_neg z]
      exact nm_r (Int32.add_zero _) (nm_r (nI_1 b) (ih (b + 1) (by omega) k (Or.inr ⟨z, hk⟩)))
theorem qx_br4 (hc : c ≤ 24) (FS : qz_FS c K F S sn em lo) (LS : qz_LS c K F S lv) (h : ∀ k, qz_cn (fun i => i < c ∧ ∃ p, p < c ∧ qz_cf c K F S i p) c k → post (nI k)) :
    ∀ d p, p + d = c → ∀ x, (∀ i, bt x i = true ↔ (i < c ∧ ∃ p', p' < p ∧ qz_cf c K F S i p')) → wX_broken_4 post (nI c) fq K F S sn lo em lv Q L (d + 1) x (nI p) := by
  intro d
  induction d with
  | zero =>
    intro p hp x hx
    have : p = c := by omega
    subst this
    refine br_t (nI_le (Nat.le_refl p) (by omega)) ⟨p + 1, qx_br30 hc (fun k hk => h k ?_) p 0 (by omega) 0 rfl⟩
    exact qz_cn_x p k (fun i _ => hx i) hk
  | succ d ih =>
    intro p hp x hx
    refine br_f (nI_ge (b := c) (by omega) (by omega)) (qx_cset hc (by omega) FS LS (fun y hy => nm_e (nm_r (nI_1 p) (ih (p + 1) (by omega) _ (fun i => ?_)))))
    rw [b_or, Bool.or_eq_true, hx i, hy i]
    constructor
    · rintro (⟨z, p', hp', w⟩ | ⟨z, w⟩)
      · exact ⟨z, p', by omega, w⟩
      · exact ⟨z, p, by omega, w⟩
    · rintro ⟨z, p', hp', w⟩
      by_cases e : p' = p
      · rw [e] at w; exact Or.inr ⟨z, w⟩
      · exact Or.inl ⟨z, p', by omega, w⟩
theorem qx_broken (hc : c ≤ 24) (FS : qz_FS c K F S sn em lo) (LS : qz_LS c K F S lv) (h : ∀ k, qz_cn (fun i => i < c ∧ ∃ p, p < c ∧ qz_cf c K F S i p) c k → post (nI k)) : wpX_broken post (nI c, fq, K, F, S, sn, lo, em, lv, Q, L) := by
  refine ⟨c + 1, qx_br4 hc FS LS h c 0 (by omega) 0 (fun i => ?_)⟩
  rw [b_0]
  exact ⟨fun z => (by cases z), fun ⟨_, p', hp', _⟩ => by omega⟩
end
