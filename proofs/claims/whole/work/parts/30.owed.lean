/-! ===== the relation and what is owed ===== -/
def i_Rel (_ : Nat) (u : SX) (v : SY) : Prop := ∃ (c : Nat) (fq fm : Int32) (K F S sn lo em lv Q L M U D : Nat → Int32), u = (nI c, fq, K, F, S, sn, lo, em, lv, Q, L) ∧ v = (nI c, fm, K, F, S, M, U, D) ∧ c ≤ 24 ∧ qz_va K F S ∧ qz_FS c K F S sn em lo ∧ qz_LS c K F S lv
theorem qz_rel {k c : Nat} {fq fm : Int32} {K F S sn lo em lv Q L M U D : Nat → Int32} (hc : c ≤ 24) (V : qz_va K F S) (FS : qz_FS c K F S sn em lo) (LS : qz_LS c K F S lv) : i_Rel k (nI c, fq, K, F, S, sn, lo, em, lv, Q, L) (nI c, fm, K, F, S, M, U, D) := ⟨c, fq, fm, K, F, S, sn, lo, em, lv, Q, L, M, U, D, rfl, rfl, hc, V, FS, LS⟩
theorem i_up {k : Nat} {u : SX} {v : SY} (h : i_Rel k u v) : i_Rel (k + 5) u v := by
  exact h
theorem i_vc0 : wpX_init (fun u => wpY_init (fun v => i_Rel 0 u v)) := by
  have V : qz_va (fun _ => 0) (fun _ => 0) (fun _ => 0) := fun p => (qz_okA (n := 0) (by omega)).mpr ⟨0, by omega, rfl⟩
  exact qz_rel (k := 0) (c := 0) (by omega) V qz_FS_0 qz_LS_0
section
variable {c : Nat} {fq : Int32} {K F S sn lo em lv Q L : Nat → Int32}
theorem qx_write {post : SX → Prop} {p : Nat} (hp : p < 24) (k x y : Int32) (h : post (nI c, fq, (upd K p k), (upd F p x), (upd S p y), sn, lo, em, lv, Q, L)) : wpX_write post (nI c, fq, K, F, S, sn, lo, em, lv, Q, L) (nI p) k x y := by
  have i := qz_i24 hp
  unfold wpX_write
  simp only [qz_c24 hp]
  exact ⟨i, nm_e ⟨i, nm_e ⟨i, nm_e h⟩⟩⟩
theorem qz_va_up (V : qz_va K F S) {k x y : Int32} (h : qz_ok k x y) (p : Nat) : qz_va (upd K p k) (upd F p x) (upd S p y) := by
  intro j
  by_cases e : j = p
  · rw [e, pk_us, pk_us, pk_us]; exact h
  · rw [pk_un e, pk_un e, pk_un e]; exact V j
end
theorem i_vc_point {k : Nat} {u : SX} {v : SY} (I : i_Rel k u v) (hk : k + 5 ≤ 2560) (v1 : Int32) (v2 : Int32) (v3 : Int32) : wpX_point (fun r u' => wpY_point (fun r' v' => r' = r ∧ i_Rel (k + 5) u' v') v v1 v2 v3) u v1 v2 v3 := by
  obtain ⟨c, fq, fm, K, F, S, sn, lo, em, lv, Q, L, M, U, D, rfl, rfl, hc, V, FS, LS⟩ := I
  unfold wpX_point
  refine qx_act v1 v2 v3 (fun ok => br_f (by decide) (pk_lt c 24 (fun lt => nm_r (nI_1 c) (qx_write lt v1 v2 v3 (qx_ana (c := c + 1) (by omega) (qz_va_up V ok c) FS.2.2.2 (fun sn' lo' em' lv' FS' LS' => ?_)))) (fun ge => ?_))) (fun nok => br_t rfl ?_)
  · unfold wpY_point
    have i := qz_i24 lt
    refine qy_fits v1 v2 v3 (fun _ => br_f (by decide) (pk_eq c 24 (fun z => by omega) (fun z => ?_))) (fun nok => absurd ok nok)
    rw [qz_c24 lt]
    exact ⟨i, nm_e ⟨i, nm_e ⟨i, nm_e (nm_r (nI_1 c) ⟨nI_pred c, qz_rel (by omega) (qz_va_up V ok c) FS' LS'⟩)⟩⟩⟩
  · unfold wpY_point
    exact qy_fits v1 v2 v3 (fun _ => br_f (by decide) (pk_eq c 24 (fun z => ⟨rfl, qz_rel hc V FS LS⟩) (fun z => by omega))) (fun nok => absurd ok nok)
  · unfold wpY_point
    exact qy_fits v1 v2 v3 (fun ok => absurd ok nok) (fun _ => br_t rfl ⟨rfl, qz_rel hc V FS LS⟩)
theorem i_vc_change {k : Nat} {u : SX} {v : SY} (I : i_Rel k u v) (hk : k + 5 ≤ 2560) (v1 : Int32) (v2 : Int32) (v3 : Int32) (v4 : Int32) : wpX_change (fun r u' => wpY_change (fun r' v' => r' = r ∧ i_Rel (k + 5) u' v') v v1 v2 v3 v4) u v1 v2 v3 v4 := by
  obtain ⟨c, fq, fm, K, F, S, sn, lo, em, lv, Q, L, M, U, D, rfl, rfl, hc, V, FS, LS⟩ := I
  have R : i_Rel (k + 5) (nI c, fq, K, F, S, sn, lo, em, lv, Q, L) (nI c, fm, K, F, S, M, U, D) := qz_rel hc V FS LS
  unfold wpX_change
  refine qx_pt hc v1 (fun p hp e => br_f (by decide) (qx_act v2 v3 v4 (fun ok => br_f (by decide) ?_) (fun nok => br_t rfl ?_))) (fun no => br_t rfl ?_)
  · subst e
    have hp24 : p < 24 := by omega
    have i := qz_i24 hp24
    rw [qz_c24 hp24]
    refine ⟨i, nm_e (qx_write hp24 v2 v3 v4 (qx_ana hc (qz_va_up V ok p) FS.2.2.2 (fun sn' lo' em' lv' FS' LS' => ?_)))⟩
    unfold wpY_change
    refine qy_pt hc (nI p) (fun _ _ _ => br_f (by decide) (qy_fits v2 v3 v4 (fun _ => br_f (by decide) ?_) (fun nok => absurd ok nok))) (fun no => absurd rfl (no p hp))
    rw [qz_c24 hp24]
    exact ⟨i, nm_e ⟨i, nm_e ⟨i, nm_e ⟨i, nm_e ⟨rfl, qz_rel hc (qz_va_up V ok p) FS' LS'⟩⟩⟩⟩⟩
  · unfold wpY_change
    exact qy_pt hc v1 (fun _ _ _ => br_f (by decide) (qy_fits v2 v3 v4 (fun ok => absurd ok nok) (fun _ => br_t rfl ⟨rfl, R⟩))) (fun no => absurd e (no p hp))
  · unfold wpY_change
    exact qy_pt hc v1 (fun p hp e => absurd e (no p hp)) (fun _ => br_t rfl ⟨rfl, R⟩)
theorem i_vc_drop {k : Nat} {u : SX} {v : SY} (I : i_Rel k u v) (hk : k + 5 ≤ 2560) : wpX_drop (fun r u' => wpY_drop (fun r' v' => r' = r ∧ i_Rel (k + 5) u' v') v) u := by
  obtain ⟨c, fq, fm, K, F, S, sn, lo, em, lv, Q, L, M, U, D, rfl, rfl, hc, V, FS, LS⟩ := I
  unfold wpX_drop
  have e1 : 0 < c → nI c - 1 = nI (c - 1) := by
    intro h
    show nI c - nI 1 = _
    rw [pk_sub (by omega)]
  refine pk_lt 0 c (fun z => nm_r (e1 z) (qx_ana (c := c - 1) (by omega) V FS.2.2.2 (fun sn' lo' em' lv' FS' LS' => ?_))) (fun z => ?_)
  · unfold wpY_drop
    exact pk_eq c 0 (fun w => by omega) (fun w => nm_r (e1 z) ⟨rfl, qz_rel (by omega) V FS' LS'⟩)
  · unfold wpY_drop
    exact pk_eq c 0 (fun w => ⟨rfl, qz_rel hc V FS LS⟩) (fun w => by omega)
theorem i_vc_points {k : Nat} {u : SX} {v : SY} (I : i_Rel k u v) (hk : k + 5 ≤ 2560) : wpX_points (fun r => wpY_points (fun r' => r' = r ∧ i_Rel (k + 5) u v) v) u := by
  obtain ⟨c, fq, fm, K, F, S, sn, lo, em, lv, Q, L, M, U, D, rfl, rfl, hc, V, FS, LS⟩ := I
  exact ⟨rfl, qz_rel hc V FS LS⟩
theorem i_vc_reached {k : Nat} {u : SX} {v : SY} (I : i_Rel k u v) (hk : k + 5 ≤ 2560) (v1 : Int32) : wpX_reached (fun r => wpY_reached (fun r' v' => r' = r ∧ i_Rel (k + 5) u v') v v1) u v1 := by
  obtain ⟨c, fq, fm, K, F, S, sn, lo, em, lv, Q, L, M, U, D, rfl, rfl, hc, V, FS, LS⟩ := I
  unfold wpX_reached
  refine qx_pt hc v1 (fun p hp e => br_f (by decide) ?_) (fun no => br_t rfl ?_)
  · subst e
    have hp24 : p < 24 := by omega
    have f := FS.1 p hp24
    rw [qz_c24 hp24]
    refine ⟨qz_i24 hp24, br_c (fun z => qy_reached hc V _ (fun p' hp' e re => ?_) (fun _ fm' M' => ⟨rfl, qz_rel hc V FS LS⟩)) (fun z => qy_reached hc V _ (fun p' hp' e re fm' M' => ⟨rfl, qz_rel hc V FS LS⟩) (fun no => ?_))⟩
    · have : p = p' := (nI_eq (by omega) (by omega)).mp e
      rw [← this] at re
      exact absurd z (f.mpr re)
    · exact absurd (f.mp z) (no p hp rfl)
  · exact qy_reached hc V _ (fun p hp e _ => absurd e (no p hp)) (fun _ fm' M' => ⟨rfl, qz_rel hc V FS LS⟩)
theorem i_vc_holds {k : Nat} {u : SX} {v : SY} (I : i_Rel k u v) (hk : k + 5 ≤ 2560) (v1 : Int32) (v2 : Int32) : wpX_holds (fun r => wpY_holds (fun r' v' => r' = r ∧ i_Rel (k + 5) u v') v v1 v2) u v1 v2 := by
  obtain ⟨c, fq, fm, K, F, S, sn, lo, em, lv, Q, L, M, U, D, rfl, rfl, hc, V, FS, LS⟩ := I
  have R : i_Rel (k + 5) (nI c, fq, K, F, S, sn, lo, em, lv, Q, L) (nI c, fm, K, F, S, M, U, D) := qz_rel hc V FS LS
  unfold wpX_holds
  refine qx_pt hc v1 (fun p hp e => br_f (by decide) (qx_ref v2 (fun r hr e' => br_f (by decide) ?_) (fun no => br_t rfl ?_))) (fun no => br_t rfl ?_)
  · subst e
    subst e'
    have hp24 : p < 24 := by omega
    rw [qz_x4, nI_clamp (by omega)]
    refine ⟨vp_in_nI (by omega) (by omega), ?_⟩
    unfold wpY_holds
    refine qy_pt hc (nI p) (fun _ _ _ => br_f (by decide) (qy_in (nI r) 3 (by omega) (fun _ _ _ => br_f (by decide) ⟨c + 1, qy_h25 hc V hp24 hr (fun x fm' M' hx => ⟨?_, qz_rel hc V FS LS⟩) c 0 (by omega) 0 _ _ (fun i => ?_)⟩) (fun no => absurd rfl (no r (by omega))))) (fun no => absurd rfl (no p hp))
    · rw [b_0]
      exact ⟨fun z => (by cases z), fun z => by omega⟩
    · apply qz_ext
      intro i hi
      rw [hx i, qz_n24 _ i hi, FS.2.2.1 p r i hp24 hr]
      constructor
      · rintro ⟨z, w⟩
        exact ⟨w, by omega⟩
      · rintro ⟨w, z⟩
        have f := qz_ho_f w
        have h24 := f.2.2.2.1
        exact ⟨qz_re_lt (f.2.2.2.2 (by omega)).1, w⟩
  · unfold wpY_holds
    exact qy_pt hc v1 (fun _ _ _ => br_f (by decide) (qy_in v2 3 (by omega) (fun a ha e => absurd e (no a (by omega))) (fun _ => br_t rfl ⟨rfl, R⟩))) (fun no => absurd e (no p hp))
  · unfold wpY_holds
    exact qy_pt hc v1 (fun p hp e => absurd e (no p hp)) (fun _ => br_t rfl ⟨rfl, R⟩)
theorem i_vc_free {k : Nat} {u : SX} {v : SY} (I : i_Rel k u v) (hk : k + 5 ≤ 2560) (v1 : Int32) (v2 : Int32) : wpX_free (fun r => wpY_free (fun r' v' => r' = r ∧ i_Rel (k + 5) u v') v v1 v2) u v1 v2 := by
  obtain ⟨c, fq, fm, K, F, S, sn, lo, em, lv, Q, L, M, U, D, rfl, rfl, hc, V, FS, LS⟩ := I
  have R : i_Rel (k + 5) (nI c, fq, K, F, S, sn, lo, em, lv, Q, L) (nI c, fm, K, F, S, M, U, D) := qz_rel hc V FS LS
  unfold wpX_free
  refine qx_pt hc v1 (fun p hp e => br_f (by decide) (qx_ref v2 (fun r hr e' => br_f (by decide) ?_) (fun no => br_t rfl ?_))) (fun no => br_t rfl ?_)
  · subst e
    subst e'
    have hp24 : p < 24 := by omega
    refine qx_free hp24 hr FS (fun f => br_f (by decide) ?_) (fun nf => br_t rfl ?_)
    · unfold wpY_free
      exact qy_pt hc (nI p) (fun _ _ _ => br_f (by decide) (qy_in (nI r) 3 (by omega) (fun _ _ _ => br_f (by decide) (qy_isFree hc V hp24 hr (fun _ fm' M' => br_f (by decide) ⟨rfl, qz_rel hc V FS LS⟩) (fun nf => absurd f nf))) (fun no => absurd rfl (no r (by omega))))) (fun no => absurd rfl (no p hp))
    · unfold wpY_free
      exact qy_pt hc (nI p) (fun _ _ _ => br_f (by decide) (qy_in (nI r) 3 (by omega) (fun _ _ _ => br_f (by decide) (qy_isFree hc V hp24 hr (fun f => absurd f nf) (fun _ fm' M' => br_t rfl ⟨rfl, qz_rel hc V FS LS⟩))) (fun no => absurd rfl (no r (by omega))))) (fun no => absurd rfl (no p hp))
  · unfold wpY_free
    exact qy_pt hc v1 (fun _ _ _ => br_f (by decide) (qy_in v2 3 (by omega) (fun a ha e => absurd e (no a (by omega))) (fun _ => br_t rfl ⟨rfl, R⟩))) (fun no => absurd e (no p hp))
  · unfold wpY_free
    exact qy_pt hc v1 (fun p hp e => absurd e (no p hp)) (fun _ => br_t rfl ⟨rfl, R⟩)
section
variable {c : Nat} {fm : Int32} {K F S M U D : Nat → Int32}
theorem qy_wanted {post : Int32 → SY → Prop} {p r : Nat} (hc : c ≤ 24) (V : qz_va K F S) (hp : p < c) (hr : r < 4)
    (h1 : qz_re c K F p → qz_lv c K F S p r → ∀ fm' M' U', post 1 (nI c, fm', K, F, S, M', U', D))
    (h0 : ¬ (qz_re c K F p ∧ qz_lv c K F S p r) → ∀ fm' M' U', post 0 (nI c, fm', K, F, S, M', U', D)) : wpY_wanted post (nI c, fm, K, F, S, M, U, D) (nI p) (nI r) := by
  have hx := qz_pow_lt hr
  have ei : (16 : Int32) * nI p + ((1 : Int32) <<< (nI r &&& 31)) = nI (16 * p + 2 ^ r) := by
    rw [(qz_pow4 r hr).1, qz_x16]
  unfold wpY_wanted
  refine qy_pt hc (nI p) (fun _ _ _ => br_f (by decide) (qy_in (nI r) 3 (by omega) (fun _ _ _ => br_f (by decide) (qy_reached hc V (nI p) (fun p' hp' e re fm1 M1 => br_f (by decide) (qy_find hc V (fun fm2 U2 us => ?_))) (fun no fm1 M1 => br_t rfl (h0 (fun z => no p hp rfl z.1) _ _ _)))) (fun no => absurd rfl (no r (by omega))))) (fun no => absurd rfl (no p hp))
  have ep : p = p' := (nI_eq (by omega) (by omega)).mp e
  rw [← ep] at re
  rw [ei, nI_clamp (by omega)]
  have uj := us (16 * p + 2 ^ r) (by omega)
  have eqv : qz_yu c K F S (16 * p + 2 ^ r) ↔ qz_lv c K F S p r := by
    rw [qz_yu_lv hx]
    constructor
    · rintro ⟨r', hr', z, w⟩
      rw [((qz_pow4 r hr).2.2 r' hr').mp z] at w
      exact w
    · intro w
      exact ⟨r, hr, ((qz_pow4 r hr).2.2 r hr).mpr rfl, w⟩
  refine ⟨vp_in_nI (by omega) (by omega), qz_nw uj.1, ?_⟩
  rcases uj.1 with z | z
  · rw [z]
    exact h0 (fun w => (uj.2.mpr (eqv.mpr w.2)) z) _ _ _
  · rw [z]
    exact h1 re (eqv.mp (uj.2.mp (by rw [z]; decide))) _ _ _
end
theorem i_vc_wanted {k : Nat} {u : SX} {v : SY} (I : i_Rel k u v) (hk : k + 5 ≤ 2560) (v1 : Int32) (v2 : Int32) : wpX_wanted (fun r => wpY_wanted (fun r' v' => r' = r ∧ i_Rel (k + 5) u v') v v1 v2) u v1 v2 := by
  obtain ⟨c, fq, fm, K, F, S, sn, lo, em, lv, Q, L, M, U, D, rfl, rfl, hc, V, FS, LS⟩ := I
  have R : i_Rel (k + 5) (nI c, fq, K, F, S, sn, lo, em, lv, Q, L) (nI c, fm, K, F, S, M, U, D) := qz_rel hc V FS LS
  unfold wpX_wanted
  refine qx_pt hc v1 (fun p hp e => br_f (by decide) (qx_ref v2 (fun r hr e' => br_f (by decide) ?_) (fun no => br_t rfl ?_))) (fun no => br_t rfl ?_)
  · subst e
    subst e'
    have hp24 : p < 24 := by omega
    have f := FS.1 p hp24
    rw [qz_c24 hp24]
    refine ⟨qz_i24 hp24, br_c (fun z => qy_wanted hc V hp hr (fun re => absurd z (f.mpr re)) (fun _ fm' M' U' => ⟨rfl, qz_rel hc V FS LS⟩)) (fun z => qx_isLive hp24 hr LS (fun l => br_f (by decide) (qy_wanted hc V hp hr (fun _ _ fm' M' U' => ⟨rfl, qz_rel hc V FS LS⟩) (fun no => absurd ⟨f.mp z, l⟩ no))) (fun nl => br_t rfl (qy_wanted hc V hp hr (fun _ l => absurd l nl) (fun _ fm' M' U' => ⟨rfl, qz_rel hc V FS LS⟩))))⟩
  · unfold wpY_wanted
    exact qy_pt hc v1 (fun _ _ _ => br_f (by decide) (qy_in v2 3 (by omega) (fun a ha e => absurd e (no a (by omega))) (fun _ => br_t rfl ⟨rfl, R⟩))) (fun no => absurd e (no p hp))
  · unfold wpY_wanted
    exact qy_pt hc v1 (fun p hp e => absurd e (no p hp)) (fun _ => br_t rfl ⟨rfl, R⟩)
theorem i_vc_conflicts {k : Nat} {u : SX} {v : SY} (I : i_Rel k u v) (hk : k + 5 ≤ 2560) (v1 : Int32) : wpX_conflicts (fun r => wpY_conflicts (fun r' v' => r' = r ∧ i_Rel (k + 5) u v') v v1) u v1 := by
  obtain ⟨c, fq, fm, K, F, S, sn, lo, em, lv, Q, L, M, U, D, rfl, rfl, hc, V, FS, LS⟩ := I
  have R : i_Rel (k + 5) (nI c, fq, K, F, S, sn, lo, em, lv, Q, L) (nI c, fm, K, F, S, M, U, D) := qz_rel hc V FS LS
  unfold wpX_conflicts
  refine qx_pt hc v1 (fun p hp e => br_f (by decide) ?_) (fun no => br_t rfl ?_)
  · subst e
    refine qx_cset hc (by omega) FS LS (fun x hx => ?_)
    unfold wpY_conflicts
    refine qy_pt hc (nI p) (fun _ _ _ => br_f (by decide) (qy_confAt hc V hp (fun y fm' M' U' hy => ⟨?_, qz_rel hc V FS LS⟩))) (fun no => absurd rfl (no p hp))
    apply qz_ext
    intro i _
    rw [hx i, hy i]
  · unfold wpY_conflicts
    exact qy_pt hc v1 (fun p hp e => absurd e (no p hp)) (fun _ => br_t rfl ⟨rfl, R⟩)
theorem i_vc_unset {k : Nat} {u : SX} {v : SY} (I : i_Rel k u v) (hk : k + 5 ≤ 2560) (v1 : Int32) : wpX_unset (fun r => wpY_unset (fun r' v' => r' = r ∧ i_Rel (k + 5) u v') v v1) u v1 := by
  obtain ⟨c, fq, fm, K, F, S, sn, lo, em, lv, Q, L, M, U, D, rfl, rfl, hc, V, FS, LS⟩ := I
  have R : i_Rel (k + 5) (nI c, fq, K, F, S, sn, lo, em, lv, Q, L) (nI c, fm, K, F, S, M, U, D) := qz_rel hc V FS LS
  unfold wpX_unset
  refine qx_pt hc v1 (fun p hp e => br_f (by decide) ?_) (fun no => br_t rfl ?_)
  · subst e
    have hp24 : p < 24 := by omega
    refine qx_unset hp24 V FS (fun z => br_f (by decide) ?_) (fun z => br_t rfl ?_)
    · unfold wpY_unset
      exact qy_pt hc (nI p) (fun _ _ _ => br_f (by decide) (qy_unset hc V hp24 (fun _ fm' M' => br_f (by decide) ⟨rfl, qz_rel hc V FS LS⟩) (fun w => absurd z w))) (fun no => absurd rfl (no p hp))
    · unfold wpY_unset
      exact qy_pt hc (nI p) (fun _ _ _ => br_f (by decide) (qy_unset hc V hp24 (fun w => absurd w z) (fun _ fm' M' => br_t rfl ⟨rfl, qz_rel hc V FS LS⟩))) (fun no => absurd rfl (no p hp))
  · unfold wpY_unset
    exact qy_pt hc v1 (fun p hp e => absurd e (no p hp)) (fun _ => br_t rfl ⟨rfl, R⟩)
theorem i_vc_idle {k : Nat} {u : SX} {v : SY} (I : i_Rel k u v) (hk : k + 5 ≤ 2560) (v1 : Int32) : wpX_idle (fun r => wpY_idle (fun r' v' => r' = r ∧ i_Rel (k + 5) u v') v v1) u v1 := by
  obtain ⟨c, fq, fm, K, F, S, sn, lo, em, lv, Q, L, M, U, D, rfl, rfl, hc, V, FS, LS⟩ := I
  have R : i_Rel (k + 5) (nI c, fq, K, F, S, sn, lo, em, lv, Q, L) (nI c, fm, K, F, S, M, U, D) := qz_rel hc V FS LS
  unfold wpX_idle
  refine qx_pt hc v1 (fun p hp e => br_f (by decide) ?_) (fun no => br_t rfl ?_)
  · subst e
    have hp24 : p < 24 := by omega
    refine qx_idle hp24 V FS (fun z => br_f (by decide) ?_) (fun z => br_t rfl ?_)
    · unfold wpY_idle
      exact qy_pt hc (nI p) (fun _ _ _ => br_f (by decide) (qy_idle hc V hp24 (fun _ fm' M' => br_f (by decide) ⟨rfl, qz_rel hc V FS LS⟩) (fun w => absurd z w))) (fun no => absurd rfl (no p hp))
    · unfold wpY_idle
      exact qy_pt hc (nI p) (fun _ _ _ => br_f (by decide) (qy_idle hc V hp24 (fun w => absurd w z) (fun _ fm' M' => br_t rfl ⟨rfl, qz_rel hc V FS LS⟩))) (fun no => absurd rfl (no p hp))
  · unfold wpY_idle
    exact qy_pt hc v1 (fun p hp e => absurd e (no p hp)) (fun _ => br_t rfl ⟨rfl, R⟩)
theorem i_vc_faults {k : Nat} {u : SX} {v : SY} (I : i_Rel k u v) (hk : k + 5 ≤ 2560) : wpX_faults (fun r => wpY_faults (fun r' v' => r' = r ∧ i_Rel (k + 5) u v') v) u := by
  obtain ⟨c, fq, fm, K, F, S, sn, lo, em, lv, Q, L, M, U, D, rfl, rfl, hc, V, FS, LS⟩ := I
  exact qx_faults hc V FS LS (fun a ha => qy_faults hc V (fun b fm' M' U' hb => ⟨by rw [qz_cn_u c b a hb ha], qz_rel hc V FS LS⟩))
theorem i_vc_firstFault {k : Nat} {u : SX} {v : SY} (I : i_Rel k u v) (hk : k + 5 ≤ 2560) : wpX_firstFault (fun r => wpY_firstFault (fun r' v' => r' = r ∧ i_Rel (k + 5) u v') v) u := by
  obtain ⟨c, fq, fm, K, F, S, sn, lo, em, lv, Q, L, M, U, D, rfl, rfl, hc, V, FS, LS⟩ := I
  refine qx_first hc V FS LS (fun p hp f hn => qy_first hc V (fun p' fm' M' U' hp' f' hn' => ⟨?_, qz_rel hc V FS LS⟩) (fun fm' M' U' no => absurd f (no p hp))) (fun no => qy_first hc V (fun p' fm' M' U' hp' f' hn' => absurd f' (no p' hp')) (fun fm' M' U' _ => ⟨rfl, qz_rel hc V FS LS⟩))
  have : p' = p := by
    apply Classical.byContradiction
    intro ne
    rcases Nat.lt_or_gt_of_ne ne with z | z
    · exact hn p' z f'
    · exact hn' p z f
  rw [this]
theorem i_vc_span {k : Nat} {u : SX} {v : SY} (I : i_Rel k u v) (hk : k + 5 ≤ 2560) (v1 : Int32) : wpX_span (fun r => wpY_span (fun r' v' => r' = r ∧ i_Rel (k + 5) u v') v v1) u v1 := by
  obtain ⟨c, fq, fm, K, F, S, sn, lo, em, lv, Q, L, M, U, D, rfl, rfl, hc, V, FS, LS⟩ := I
  have R : i_Rel (k + 5) (nI c, fq, K, F, S, sn, lo, em, lv, Q, L) (nI c, fm, K, F, S, M, U, D) := qz_rel hc V FS LS
  unfold wpX_span
  refine qx_pt hc v1 (fun b hb e => br_f (by decide) ?_) (fun no => br_t rfl ?_)
  · subst e
    refine ⟨c + 1, qx_sp14 hc (by omega) FS LS (fun x hx => ?_) c 0 (by omega) 0 (fun i => ?_)⟩
    · refine qy_span hc V hb (fun y fm' M' U' hy => ⟨?_, qz_rel hc V FS LS⟩)
      apply qz_ext
      intro i _
      rw [hx i, hy i]
    · rw [b_0]
      exact ⟨fun z => (by cases z), fun z => by omega⟩
  · unfold wpY_span
    exact qy_pt hc v1 (fun p hp e => absurd e (no p hp)) (fun _ => br_t rfl ⟨rfl, R⟩)
theorem i_vc_broken {k : Nat} {u : SX} {v : SY} (I : i_Rel k u v) (hk : k + 5 ≤ 2560) : wpX_broken (fun r => wpY_broken (fun r' v' => r' = r ∧ i_Rel (k + 5) u v') v) u := by
  obtain ⟨c, fq, fm, K, F, S, sn, lo, em, lv, Q, L, M, U, D, rfl, rfl, hc, V, FS, LS⟩ := I
  refine qx_broken hc FS LS (fun a ha => qy_broken hc V (fun b fm' M' U' hb => ⟨?_, qz_rel hc V FS LS⟩))
  have up := qz_cn_m (24 - c) (fun i hi z => by have := z.1; omega) ha
  have e24 : c + (24 - c) = 24 := by omega
  rw [e24] at up
  rw [qz_cn_u 24 b a hb up]
theorem i_vc_shown {k : Nat} {u : SX} {v : SY} (I : i_Rel k u v) (hk : k + 5 ≤ 2560) (v1 : Int32) (v2 : Int32) : wpX_shown (fun r u' => wpY_shown (fun r' v' => r' = r ∧ i_Rel (k + 5) u' v') v v1 v2) u v1 v2 := by
  obtain ⟨c, fq, fm, K, F, S, sn, lo, em, lv, Q, L, M, U, D, rfl, rfl, hc, V, FS, LS⟩ := I
  have R : i_Rel (k + 5) (nI c, fq, K, F, S, sn, lo, em, lv, Q, L) (nI c, fm, K, F, S, M, U, D) := qz_rel hc V FS LS
  unfold wpX_shown
  refine qx_pt hc v1 (fun b hb e => br_f (by decide) (qx_pt hc v2 (fun p hp e' => br_f (by decide) ?_) (fun no => br_t rfl ?_))) (fun no => br_t rfl ?_)
  · subst e
    subst e'
    have hb24 : b < 24 := by omega
    have hp24 : p < 24 := by omega
    have k7 : qz_ds K F S p b → K p ≠ 7 := by
      intro ds z
      obtain ⟨(w | w | w) | ⟨w | w, _⟩, _⟩ := ds <;> rw [z] at w <;> exact absurd w (by decide)
    refine qx_conf hp24 hb24 FS LS (fun cf => br_f (by decide) ?_) (fun ncf => br_t rfl ?_)
    · obtain ⟨ds, sp⟩ := cf
      have mk := ds.2.1
      have ex := (qz_go_iff hb24 (by omega) mk (k7 ds)).mpr sp
      refine qx_short hc V hb hp mk (fun d fq' Q' L' h0 h216 hg hl => ?_) (fun fq' Q' L' no => ?_)
      · unfold wpY_shown
        refine qy_pt hc (nI b) (fun _ _ _ => br_f (by decide) (qy_pt hc (nI p) (fun _ _ _ => br_f (by decide) (qy_makes hb24 (fun _ => br_f (by decide) (qy_against hp24 hb24 V mk (fun _ => br_f (by decide) (qy_s40 hc V hb24 hp24 mk (fun l f fm' D' DI DC DL => ⟨?_, qz_rel hc V FS LS⟩))) (fun nd => absurd ds nd))) (fun nm => absurd mk nm))) (fun no => absurd rfl (no p hp)))) (fun no => absurd rfl (no b hb))
        have el := qz_D_some hc DI DC h0 h216 hg hl DL
        rw [el, if_neg (by omega)]
      · obtain ⟨n, hn⟩ := ex
        exact absurd hn (no n)
    · unfold wpY_shown
      refine qy_pt hc (nI b) (fun _ _ _ => br_f (by decide) (qy_pt hc (nI p) (fun _ _ _ => br_f (by decide) (qy_makes hb24 (fun mk => br_f (by decide) (qy_against hp24 hb24 V mk (fun ds => br_f (by decide) (qy_s40 hc V hb24 hp24 mk (fun l f fm' D' DI DC DL => ⟨?_, qz_rel hc V FS LS⟩))) (fun nd => br_t rfl ⟨rfl, R⟩))) (fun nm => br_t rfl ⟨rfl, R⟩))) (fun no => absurd rfl (no p hp)))) (fun no => absurd rfl (no b hb))
      have no : ∀ n, ¬ qz_go c K F S b p n := fun n hn => ncf ⟨ds, (qz_go_iff hb24 (by omega) mk (k7 ds)).mp ⟨n, hn⟩⟩
      rw [qz_D_none hc DI no DL, if_pos rfl]
  · unfold wpY_shown
    exact qy_pt hc v1 (fun _ _ _ => br_f (by decide) (qy_pt hc v2 (fun p hp e => absurd e (no p hp)) (fun _ => br_t rfl ⟨rfl, R⟩))) (fun no => absurd e (no b hb))
  · unfold wpY_shown
    exact qy_pt hc v1 (fun p hp e => absurd e (no p hp)) (fun _ => br_t rfl ⟨rfl, R⟩)
