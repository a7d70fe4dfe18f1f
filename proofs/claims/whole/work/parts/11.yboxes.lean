/-! the reference: boxes against boxes and points -/
theorem gm_mt_e {l h l' h' : Nat → Int} {i : Nat} (h1 : l i ≤ h' i) (h2 : l' i ≤ h i) : gm_mt l h l' h' (i + 1) = gm_mt l h l' h' i := by
  show (gm_mt l h l' h' i && !(decide (h' i < l i) || decide (h i < l' i))) = _
  rw [decide_eq_false (by omega), decide_eq_false (by omega)]
  exact Bool.and_true _
def gm_fl (b : Bool) : Int32 := if b = true then 1 else 0
/-- the reference's least so far -/
def gm_yl (f : Nat → Int) : Nat → Int
  | 0 => -2
  | i + 1 => gm_mn f i
section
variable {C E S D K A B : Nat → Int32} {n : Nat} {T f1 f2 f3 f4 : Int32} {post : Int32 → Prop}
theorem yw_within (hC : gm_pk C) (hE : gm_pk E) {b ax : Nat} (hb : b < 14) (hax : ax < 3) {x : Int32} (h1 : gm_spn C E b ax x.toInt = true → post 1) (h0 : gm_spn C E b ax x.toInt = false → post 0) : wpY_within post (nI n, f1, f2, f3, f4, C, E, S, D, A, B) (nI b) (nI ax) x := by
  have p3 := gm_lo_b hC b ax
  have p4 := gm_hi_b hC hE b ax
  unfold wpY_within
  dsimp only
  refine yw_low hC hb hax (zb_lt x.toInt (gm_lo C b ax) (fun q => h0 ?_) (fun q => yw_high hC hE hb hax (zb_lt (gm_hi C E b ax) x.toInt (fun q' => h0 ?_) (fun q' => h1 ?_) rfl (zI_of x) (by omega) (zI_rng x))) (zI_of x) rfl (zI_rng x) (by omega))
  · exact decide_eq_false (by omega)
  · exact decide_eq_false (by omega)
  · exact decide_eq_true ⟨q, q'⟩
theorem yw_arn6 (hC : gm_pk C) (hE : gm_pk E) (hn : n ≤ 14) {x y z : Int32} (h : post (nI (gm_ct (gm_arn C E x.toInt y.toInt z.toInt) n))) : ∀ d i : Nat, i + d = n →
    wY_around_6 post x y z (nI n) f1 f2 f3 f4 C E S D A B (d + 1) (nI (gm_ct (gm_arn C E x.toInt y.toInt z.toInt) i)) (nI i)
  | 0, i, hi => by
    have q : i = n := by omega
    subst q
    exact br_t (nI_le (Nat.le_refl i) (by omega)) h
  | d + 1, i, hi => by
    have ih := yw_arn6 hC hE hn h d (i + 1) (by omega)
    refine br_f (nI_ge (a := i) (b := n) (by omega) (by omega)) (br_f (nI_ge (a := i) (b := 14) (by omega) (by omega)) (yw_within (ax := 0) hC hE (by omega) (by omega) (fun q => br_f (by decide) (yw_within (ax := 1) hC hE (by omega) (by omega) (fun q' => br_f (by decide) (yw_within (ax := 2) hC hE (by omega) (by omega) (fun q'' => br_f (by decide) (nm_r (nI_1 _) (nm_r (nI_1 i) ?_))) (fun q'' => br_t rfl (nm_r (nI_1 i) ?_)))) (fun q' => br_t rfl (nm_r (nI_1 i) ?_)))) (fun q => br_t rfl (nm_r (nI_1 i) ?_))))
    · rw [gm_ct_t (by unfold gm_arn; rw [q, q', q'']; rfl)] at ih
      exact ih
    · rw [gm_ct_f (by unfold gm_arn; rw [q, q', q'']; rfl)] at ih
      exact ih
    · rw [gm_ct_f (by unfold gm_arn; rw [q, q']; rfl)] at ih
      exact ih
    · rw [gm_ct_f (by unfold gm_arn; rw [q]; rfl)] at ih
      exact ih
theorem yw_mt48 (hC : gm_pk C) (hE : gm_pk E) {b f : Nat} (hb : b < 14) {c e : Int32} (hc : 0 ≤ c.toInt ∧ c.toInt ≤ 32767) (he : 0 ≤ e.toInt ∧ e.toInt ≤ 32767) {J : Int32 → Int32 → Prop} (h1 : gm_m C E b c.toInt e.toInt = true → J (nI (f + 1)) (nI (b + 1))) (h0 : gm_m C E b c.toInt e.toInt = false → J (nI f) (nI (b + 1))) : ∀ d i : Nat, i + d = 3 →
    wY_meeting_48 post J c e (nI f) (nI b) (nI n) f1 f2 f3 f4 C E S D A B (d + 1) (gm_fl (gm_mt (gm_lo C b) (gm_hi C E b) (gm_P c.toInt) (fun i => gm_P c.toInt i + gm_P e.toInt i) i)) (nI i)
  | 0, i, hi => by
    have q : i = 3 := by omega
    subst q
    refine br_t (nI_le (a := 3) (b := 3) (by omega) (by omega)) ?_
    unfold gm_m at h1 h0
    cases qq : gm_mt (gm_lo C b) (gm_hi C E b) (gm_P c.toInt) (fun i => gm_P c.toInt i + gm_P e.toInt i) 3 with
    | true => exact br_f (by decide) (nm_r (nI_1 f) (nm_r (nI_1 b) (h1 qq)))
    | false => exact br_t rfl (nm_r (nI_1 b) (h0 qq))
  | d + 1, i, hi => by
    have p1 := gm_P_b hc i
    have p2 := gm_P_b he i
    have p3 := gm_lo_b hC b i
    have p4 := gm_hi_b hC hE b i
    have ih := yw_mt48 hC hE hb hc he h1 h0 d (i + 1) (by omega)
    refine br_f (nI_ge (a := i) (b := 3) (by omega) (by omega)) (yw_part hc (by omega) (yw_part he (by omega) (nm_r (zI_add _ _) (yw_low hC hb (by omega) (zb_lt (gm_P c.toInt i + gm_P e.toInt i) (gm_lo C b i) (fun q => nm_r (nI_1 i) ?_) (fun q => yw_high hC hE hb (by omega) (zb_le (gm_P c.toInt i) (gm_hi C E b i) (fun q' => nm_r (nI_1 i) ?_) (fun q' => nm_r (nI_1 i) ?_) rfl rfl (by omega) (by omega))) rfl rfl (by omega) (by omega))))))
    · rw [gm_mt_f (i := i) (Or.inl q) (i + 1) (by omega)] at ih
      exact ih
    · rw [gm_mt_e q q'] at ih
      exact ih
    · rw [gm_mt_f (i := i) (Or.inr q') (i + 1) (by omega)] at ih
      exact ih
theorem yw_mt26 (hC : gm_pk C) (hE : gm_pk E) (hn : n ≤ 14) {c e : Int32} (hc : 0 ≤ c.toInt ∧ c.toInt ≤ 32767) (he : 0 ≤ e.toInt ∧ e.toInt ≤ 32767) (h : post (nI (gm_ct (fun b => gm_m C E b c.toInt e.toInt) n))) : ∀ d i : Nat, i + d = n →
    wY_meeting_26 post c e (nI n) f1 f2 f3 f4 C E S D A B (d + 1) (nI (gm_ct (fun b => gm_m C E b c.toInt e.toInt) i)) (nI i)
  | 0, i, hi => by
    have q : i = n := by omega
    subst q
    exact br_t (nI_le (Nat.le_refl i) (by omega)) h
  | d + 1, i, hi => by
    have ih := yw_mt26 hC hE hn hc he h d (i + 1) (by omega)
    refine br_f (nI_ge (a := i) (b := n) (by omega) (by omega)) (br_f (nI_ge (a := i) (b := 14) (by omega) (by omega)) ⟨4, yw_mt48 hC hE (by omega) hc he (fun q => ?_) (fun q => ?_) 3 0 rfl⟩)
    · rw [gm_ct_t (p := fun b => gm_m C E b c.toInt e.toInt) q] at ih
      exact ih
    · rw [gm_ct_f (p := fun b => gm_m C E b c.toInt e.toInt) q] at ih
      exact ih
theorem yw_mtg (hC : gm_pk C) (hE : gm_pk E) (hn : n ≤ 14) {c e : Int32} (hc : 0 ≤ c.toInt ∧ c.toInt ≤ 32767) (he : 0 ≤ e.toInt ∧ e.toInt ≤ 32767) (h : post (nI (gm_ct (fun b => gm_m C E b c.toInt e.toInt) n))) : wpY_meeting post (nI n, f1, f2, f3, f4, C, E, S, D, A, B) c e := by
  unfold wpY_meeting
  dsimp only
  refine yw_trip (fun _ _ => br_t rfl (yw_trip (fun _ _ => br_t rfl ⟨n + 1, ?_⟩) (fun q => ?_))) (fun q => ?_)
  · exact yw_mt26 hC hE hn hc he h n 0 (by omega)
  · omega
  · omega
theorem yw_tch4 (hC : gm_pk C) (hE : gm_pk E) (hn : n ≤ 14) (h : post (nI (gm_su (fun b => gm_ct (gm_later C E b) n) n))) : ∀ d i : Nat, i + d = n →
    wY_touching_4 post (nI n) f1 f2 f3 f4 C E S D A B (d + 1) (nI (gm_su (fun b => gm_ct (fun o => gm_M C E o b) n - 1) i)) (nI i)
  | 0, i, hi => by
    have q : i = n := by omega
    subst q
    refine br_t (nI_le (Nat.le_refl i) (by omega)) ⟨by decide, ?_⟩
    have e : gm_su (fun b => gm_ct (fun o => gm_M C E o b) i - 1) i = 2 * gm_su (fun b => gm_ct (gm_later C E b) i) i := gm_half (gm_M_r hC hE) (gm_M_s C E) i
    have bd : gm_su (fun b => gm_ct (gm_later C E b) i) i ≤ i * 14 := gm_su_le i (fun j _ => Nat.le_trans (gm_ct_le _ i) hn)
    rw [e]
    refine zv_ (P := post) ?_ h
    have k := pk_div (a := 2 * gm_su (fun b => gm_ct (gm_later C E b) i) i) (d := 2) (by omega) (by omega) (by omega)
    rw [Nat.mul_div_cancel_left _ (by omega)] at k
    exact k
  | d + 1, i, hi => by
    have ih := yw_tch4 hC hE hn h d (i + 1) (by omega)
    have hv : vp_in (nI i) 14 := vp_in_nI (by omega) (by omega)
    refine br_f (nI_ge (a := i) (b := n) (by omega) (by omega)) (br_f (nI_ge (a := i) (b := 14) (by omega) (by omega)) ⟨hv, hv, ?_⟩)
    rw [nI_clamp (by omega)]
    refine yw_mtg hC hE hn (hC i) (hE i) (nm_r ?_ (nm_r (nI_1 i) ih))
    have c1 : 1 ≤ gm_ct (fun o => gm_M C E o i) n := by
      rcases Nat.eq_zero_or_pos (gm_ct (fun o => gm_M C E o i) n) with z | z
      · have := (gm_ct_0 n).mp z i (by omega)
        rw [gm_M_r hC hE i] at this
        cases this
      · exact z
    show nI (gm_su (fun b => gm_ct (fun o => gm_M C E o b) n - 1) i) + (nI (gm_ct (fun o => gm_M C E o i) n) - nI 1) = nI (gm_su (fun b => gm_ct (fun o => gm_M C E o b) n - 1) i + (gm_ct (fun o => gm_M C E o i) n - 1))
    rw [pk_sub c1, nI_add]
theorem yw_touching (hC : gm_pk C) (hE : gm_pk E) (hn : n ≤ 14) (h : post (nI (gm_su (fun b => gm_ct (gm_later C E b) n) n))) : wpY_touching post (nI n, f1, f2, f3, f4, C, E, S, D, A, B) :=
  ⟨n + 1, yw_tch4 hC hE hn h n 0 (by omega)⟩
theorem yw_gap (hC : gm_pk C) (hE : gm_pk E) {b ax : Nat} (hb : b < 14) (hax : ax < 3) {v : Int} (hv : -100 ≤ v ∧ v ≤ 100) (h : post (zI_ (gm_gap (gm_lo C b ax) (gm_hi C E b ax) v * gm_gap (gm_lo C b ax) (gm_hi C E b ax) v))) : wpY_gap post (nI n, f1, f2, f3, f4, C, E, S, D, A, B) (nI b) (nI ax) (zI_ v) := by
  have p3 := gm_lo_b hC b ax
  have p4 := gm_hi_b hC hE b ax
  unfold gm_gap at h
  unfold wpY_gap
  dsimp only
  refine yw_low hC hb hax (zb_le (gm_lo C b ax) v (fun q => ?_) (fun q => yw_low hC hb hax (nm_r (zI_sub _ _) ?_)) rfl rfl (by omega) (by omega))
  · unfold wY_gap_23
    refine yw_high hC hE hb hax (zb_le v (gm_hi C E b ax) (fun q' => ?_) (fun q' => yw_high hC hE hb hax (nm_r (zI_sub _ _) ?_)) rfl rfl (by omega) (by omega))
    · rw [if_neg (by omega), if_neg (by omega)] at h
      rw [zI_0, zI_mul]
      exact h
    · rw [if_neg (by omega), if_pos q'] at h
      rw [zI_mul]
      exact h
  · unfold wY_gap_23
    refine yw_high hC hE hb hax (zb_le v (gm_hi C E b ax) (fun q' => ?_) (fun q' => absurd q' (by omega)) rfl rfl (by omega) (by omega))
    rw [if_pos q] at h
    rw [zI_mul]
    exact h
theorem yw_nr39 (hC : gm_pk C) (hE : gm_pk E) (hn : n ≤ 14) {x y z : Int} (hx : -100 ≤ x ∧ x ≤ 100) (hy : -100 ≤ y ∧ y ≤ 100) (hz : -100 ≤ z ∧ z ≤ 100) (h : post (zI_ (gm_yl (gm_sq C E x y z) n))) : ∀ d i : Nat, i + d = n →
    wY_nearest_39 post (zI_ x) (zI_ y) (zI_ z) (nI n) f1 f2 f3 f4 C E S D A B (d + 1) (zI_ (gm_yl (gm_sq C E x y z) i)) (nI i)
  | 0, i, hi => by
    have q : i = n := by omega
    subst q
    exact br_t (nI_le (Nat.le_refl i) (by omega)) h
  | d + 1, i, hi => by
    have ih := yw_nr39 hC hE hn hx hy hz h d (i + 1) (by omega)
    have b1 := gm_sq_b hC hE hx hy hz i
    have e : zI_ (gm_gap (gm_lo C i 0) (gm_hi C E i 0) x * gm_gap (gm_lo C i 0) (gm_hi C E i 0) x) + zI_ (gm_gap (gm_lo C i 1) (gm_hi C E i 1) y * gm_gap (gm_lo C i 1) (gm_hi C E i 1) y) + zI_ (gm_gap (gm_lo C i 2) (gm_hi C E i 2) z * gm_gap (gm_lo C i 2) (gm_hi C E i 2) z) = zI_ (gm_sq C E x y z i) := by
      rw [zI_add, zI_add]
      rfl
    refine br_f (nI_ge (a := i) (b := n) (by omega) (by omega)) (br_f (nI_ge (a := i) (b := 14) (by omega) (by omega)) (yw_gap (ax := 0) hC hE (by omega) (by omega) hx (yw_gap (ax := 1) hC hE (by omega) (by omega) hy (yw_gap (ax := 2) hC hE (by omega) (by omega) hz (nm_r e ?_)))))
    cases i with
    | zero => exact zb_lt (-2) 0 (fun _ => nm_r (nI_1 0) ih) (fun q => absurd q (by omega)) rfl zI_0 (by omega) (by omega)
    | succ i =>
      have b2 := gm_mn_b (gm_sq_b hC hE hx hy hz) i
      have e2 : gm_yl (gm_sq C E x y z) (i + 1 + 1) = if gm_sq C E x y z (i + 1) < gm_mn (gm_sq C E x y z) i then gm_sq C E x y z (i + 1) else gm_mn (gm_sq C E x y z) i := rfl
      rw [e2] at ih
      refine zb_lt (gm_mn (gm_sq C E x y z) i) 0 (fun q => absurd q (by omega)) (fun _ => zb_le (gm_mn (gm_sq C E x y z) i) (gm_sq C E x y z (i + 1)) (fun q => nm_r (nI_1 _) ?_) (fun q => nm_r (nI_1 _) ?_) rfl rfl (by omega) (by omega)) rfl zI_0 (by omega) (by omega)
      · rw [if_neg (by omega)] at ih
        exact ih
      · rw [if_pos q] at ih
        exact ih
end
