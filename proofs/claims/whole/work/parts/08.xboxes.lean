/-! the component: boxes against boxes and points -/
/-- box b against the packed c, e -/
def gm_m (C E : Nat → Int32) (b : Nat) (c e : Int) : Bool := gm_mt (gm_lo C b) (gm_hi C E b) (gm_P c) (fun i => gm_P c i + gm_P e i) 3
section
variable {C E S D K : Nat → Int32} {n : Nat} {T : Int32} {post : Int32 → Prop}
theorem xw_partV {x : Int32} (hx : 0 ≤ x.toInt ∧ x.toInt ≤ 32767) {ax : Nat} (hax : ax < 3) (h : post (zI_ (gm_P x.toInt ax))) : wpX_part post x (nI ax) := by
  have := xw_part (post := post) hx hax h
  rw [← zI_of] at this
  exact this
theorem xw_meets3 (hC : gm_pk C) (hE : gm_pk E) {b : Nat} (hb : b < 14) {c e : Int32} (hc : 0 ≤ c.toInt ∧ c.toInt ≤ 32767) (he : 0 ≤ e.toInt ∧ e.toInt ≤ 32767) (h1 : gm_m C E b c.toInt e.toInt = true → post 1) (h0 : gm_m C E b c.toInt e.toInt = false → post 0) : ∀ d i : Nat, i + d = 3 → gm_mt (gm_lo C b) (gm_hi C E b) (gm_P c.toInt) (fun i => gm_P c.toInt i + gm_P e.toInt i) i = true →
    wX_meets_3 post (nI b) c e (nI n) T C E S D K (d + 1) (nI i)
  | 0, i, hi, hm => by
    have q : i = 3 := by omega
    subst q
    exact br_t (nI_le (a := 3) (b := 3) (by omega) (by omega)) (h1 hm)
  | d + 1, i, hi, hm => by
    have p1 := gm_P_b hc i
    have p2 := gm_P_b he i
    have p3 := gm_lo_b hC b i
    have p4 := gm_hi_b hC hE b i
    refine br_f (nI_ge (a := i) (b := 3) (by omega) (by omega)) (xw_partV hc (by omega) (xw_partV he (by omega) (nm_r (zI_add _ _) (xw_low hC hb (by omega) (zb_lt (gm_P c.toInt i + gm_P e.toInt i) (gm_lo C b i) (fun q => h0 ?_) (fun q => xw_high hC hE hb (by omega) (zb_le (gm_P c.toInt i) (gm_hi C E b i) (fun q' => nm_r (nI_1 i) ?_) (fun q' => h0 ?_) rfl rfl (by omega) (by omega))) rfl rfl (by omega) (by omega))))))
    · exact gm_mt_f (Or.inl q) 3 (by omega)
    · exact xw_meets3 hC hE hb hc he h1 h0 d (i + 1) (by omega) (gm_mt_t hm q q')
    · exact gm_mt_f (Or.inr q') 3 (by omega)
theorem xw_meets (hC : gm_pk C) (hE : gm_pk E) {b : Nat} (hb : b < 14) {c e : Int32} (hc : 0 ≤ c.toInt ∧ c.toInt ≤ 32767) (he : 0 ≤ e.toInt ∧ e.toInt ≤ 32767) (h1 : gm_m C E b c.toInt e.toInt = true → post 1) (h0 : gm_m C E b c.toInt e.toInt = false → post 0) : wpX_meets post (nI n, T, C, E, S, D, K) (nI b) c e :=
  ⟨4, xw_meets3 hC hE hb hc he h1 h0 3 0 rfl rfl⟩
theorem xw_mtg24 (hC : gm_pk C) (hE : gm_pk E) (hn : n ≤ 14) {c e : Int32} (hc : 0 ≤ c.toInt ∧ c.toInt ≤ 32767) (he : 0 ≤ e.toInt ∧ e.toInt ≤ 32767) (h : post (nI (gm_ct (fun b => gm_m C E b c.toInt e.toInt) n))) : ∀ d i : Nat, i + d = n →
    wX_meeting_24 post c e (nI n) T C E S D K (d + 1) (nI (gm_ct (fun b => gm_m C E b c.toInt e.toInt) i)) (nI i)
  | 0, i, hi => by
    have q : i = n := by omega
    subst q
    exact br_t (nI_le (Nat.le_refl i) (by omega)) h
  | d + 1, i, hi => by
    have ih := xw_mtg24 hC hE hn hc he h d (i + 1) (by omega)
    refine br_f (nI_ge (a := i) (b := n) (by omega) (by omega)) (xw_meets hC hE (by omega) hc he (fun q => br_f (by decide) (nm_r (nI_1 _) (nm_r (nI_1 i) ?_))) (fun q => br_t rfl (nm_r (nI_1 i) ?_)))
    · rw [gm_ct_t (p := fun b => gm_m C E b c.toInt e.toInt) q] at ih
      exact ih
    · rw [gm_ct_f (p := fun b => gm_m C E b c.toInt e.toInt) q] at ih
      exact ih
/-- boxes b and o have a point in common -/
def gm_M (C E : Nat → Int32) (b o : Nat) : Bool := gm_m C E b (C o).toInt (E o).toInt
theorem gm_M_s (C E : Nat → Int32) (b o : Nat) : gm_M C E b o = gm_M C E o b := gm_mt_s _ _ _ _ 3
theorem gm_M_r (hC : gm_pk C) (hE : gm_pk E) (b : Nat) : gm_M C E b b = true := gm_mt_r 3 (fun i _ => (gm_hi_b hC hE b i).1)
def gm_later (C E : Nat → Int32) (b o : Nat) : Bool := decide (b < o) && gm_M C E b o
theorem xw_tch16 (hC : gm_pk C) (hE : gm_pk E) (hn : n ≤ 14) {b f : Nat} (hb : b < n) {J : Int32 → Int32 → Prop} (h : J (nI (f + gm_ct (gm_later C E b) n)) (nI (b + 1))) : ∀ d i : Nat, i + d = n → b < i →
    wX_touching_16 post J (nI b) (nI n) T C E S D K (d + 1) (nI (f + gm_ct (gm_later C E b) i)) (nI i)
  | 0, i, hi, hbi => by
    have q : i = n := by omega
    subst q
    exact br_t (nI_le (Nat.le_refl i) (by omega)) (nm_r (nI_1 b) h)
  | d + 1, i, hi, hbi => by
    have ih := xw_tch16 hC hE hn hb h d (i + 1) (by omega) (by omega)
    have hv : vp_in (nI i) 14 := vp_in_nI (by omega) (by omega)
    refine br_f (nI_ge (a := i) (b := n) (by omega) (by omega)) ⟨hv, hv, ?_⟩
    rw [nI_clamp (by omega)]
    refine xw_meets hC hE (by omega) (hC i) (hE i) (fun q => br_f (by decide) (nm_r (nI_1 _) (nm_r (nI_1 i) ?_))) (fun q => br_t rfl (nm_r (nI_1 i) ?_))
    · rw [gm_ct_t (p := gm_later C E b) (by unfold gm_later; rw [decide_eq_true hbi]; exact q)] at ih
      exact ih
    · rw [gm_ct_f (p := gm_later C E b) (by unfold gm_later; rw [decide_eq_true hbi]; exact q)] at ih
      exact ih
theorem xw_tch4 (hC : gm_pk C) (hE : gm_pk E) (hn : n ≤ 14) (h : post (nI (gm_su (fun b => gm_ct (gm_later C E b) n) n))) : ∀ d i : Nat, i + d = n →
    wX_touching_4 post (nI n) T C E S D K (d + 1) (nI (gm_su (fun b => gm_ct (gm_later C E b) n) i)) (nI i)
  | 0, i, hi => by
    have q : i = n := by omega
    subst q
    exact br_t (nI_le (Nat.le_refl i) (by omega)) h
  | d + 1, i, hi => by
    have ih := xw_tch4 hC hE hn h d (i + 1) (by omega)
    refine br_f (nI_ge (a := i) (b := n) (by omega) (by omega)) (nm_r (nI_1 i) ⟨n - (i + 1) + 1, ?_⟩)
    have := xw_tch16 (post := post) (T := T) (S := S) (D := D) (K := K) hC hE hn (b := i) (f := gm_su (fun b => gm_ct (gm_later C E b) n) i) (by omega) ih (n - (i + 1)) (i + 1) (by omega) (by omega)
    have z : gm_ct (gm_later C E i) (i + 1) = 0 := (gm_ct_0 (i + 1)).mpr (fun j hj => by
      unfold gm_later
      rw [decide_eq_false (by omega)]
      rfl)
    rw [z, Nat.add_zero] at this
    exact this
theorem xw_touching (hC : gm_pk C) (hE : gm_pk E) (hn : n ≤ 14) (h : post (nI (gm_su (fun b => gm_ct (gm_later C E b) n) n))) : wpX_touching post (nI n, T, C, E, S, D, K) :=
  ⟨n + 1, xw_tch4 hC hE hn h n 0 (by omega)⟩
theorem xw_spans (hC : gm_pk C) (hE : gm_pk E) {b ax : Nat} (hb : b < 14) (hax : ax < 3) {x : Int32} (h1 : gm_spn C E b ax x.toInt = true → post 1) (h0 : gm_spn C E b ax x.toInt = false → post 0) : wpX_spans post (nI n, T, C, E, S, D, K) (nI b) (nI ax) x := by
  have p3 := gm_lo_b hC b ax
  have p4 := gm_hi_b hC hE b ax
  unfold wpX_spans
  dsimp only
  refine xw_low hC hb hax (xw_high hC hE hb hax (xw_within x.toInt _ _ (zI_of x) rfl rfl (zI_rng x) (by omega) (by omega) (fun q q' => ⟨rfl, h1 ?_⟩) (fun q => ⟨rfl, h0 ?_⟩)))
  · exact decide_eq_true ⟨q, q'⟩
  · exact decide_eq_false (by omega)
theorem xw_arn6 (hC : gm_pk C) (hE : gm_pk E) (hn : n ≤ 14) {x y z : Int32} (h : post (nI (gm_ct (gm_arn C E x.toInt y.toInt z.toInt) n))) : ∀ d i : Nat, i + d = n →
    wX_around_6 post x y z (nI n) T C E S D K (d + 1) (nI (gm_ct (gm_arn C E x.toInt y.toInt z.toInt) i)) (nI i)
  | 0, i, hi => by
    have q : i = n := by omega
    subst q
    exact br_t (nI_le (Nat.le_refl i) (by omega)) h
  | d + 1, i, hi => by
    have ih := xw_arn6 hC hE hn h d (i + 1) (by omega)
    refine br_f (nI_ge (a := i) (b := n) (by omega) (by omega)) (xw_spans (ax := 0) hC hE (by omega) (by omega) (fun q => br_f (by decide) (xw_spans (ax := 1) hC hE (by omega) (by omega) (fun q' => br_f (by decide) (xw_spans (ax := 2) hC hE (by omega) (by omega) (fun q'' => br_f (by decide) (nm_r (nI_1 _) (nm_r (nI_1 i) ?_))) (fun q'' => br_t rfl (nm_r (nI_1 i) ?_)))) (fun q' => br_t rfl (nm_r (nI_1 i) ?_)))) (fun q => br_t rfl (nm_r (nI_1 i) ?_)))
    · rw [gm_ct_t (by unfold gm_arn; rw [q, q', q'']; rfl)] at ih
      exact ih
    · rw [gm_ct_f (by unfold gm_arn; rw [q, q', q'']; rfl)] at ih
      exact ih
    · rw [gm_ct_f (by unfold gm_arn; rw [q, q']; rfl)] at ih
      exact ih
    · rw [gm_ct_f (by unfold gm_arn; rw [q]; rfl)] at ih
      exact ih
theorem xw_gap (hC : gm_pk C) (hE : gm_pk E) {b ax : Nat} (hb : b < 14) (hax : ax < 3) {v : Int} (hv : -100 ≤ v ∧ v ≤ 100) (h : post (zI_ (gm_gap (gm_lo C b ax) (gm_hi C E b ax) v))) : wpX_gap post (nI n, T, C, E, S, D, K) (nI b) (nI ax) (zI_ v) := by
  have p3 := gm_lo_b hC b ax
  have p4 := gm_hi_b hC hE b ax
  unfold gm_gap at h
  unfold wpX_gap
  dsimp only
  refine xw_low hC hb hax (xw_high hC hE hb hax (zb_le (gm_lo C b ax) v (fun q => zb_le v (gm_hi C E b ax) (fun q' => ?_) (fun q' => ?_) rfl rfl (by omega) (by omega)) (fun q => ?_) rfl rfl (by omega) (by omega)))
  · rw [if_neg (by omega), if_neg (by omega)] at h
    exact zv_ (P := post) zI_0 h
  · rw [if_neg (by omega), if_pos q'] at h
    exact zv_ (P := post) (zI_sub _ _) h
  · rw [if_pos q] at h
    exact zv_ (P := post) (zI_sub _ _) h
theorem xw_sq (hC : gm_pk C) (hE : gm_pk E) {b : Nat} (hb : b < 14) {x y z : Int} (hx : -100 ≤ x ∧ x ≤ 100) (hy : -100 ≤ y ∧ y ≤ 100) (hz : -100 ≤ z ∧ z ≤ 100) (h : post (zI_ (gm_sq C E x y z b))) : wpX_squareOfDistance post (nI n, T, C, E, S, D, K) (nI b) (zI_ x) (zI_ y) (zI_ z) := by
  unfold wpX_squareOfDistance
  dsimp only
  refine xw_gap (ax := 0) hC hE hb (by omega) hx (xw_gap (ax := 1) hC hE hb (by omega) hy (xw_gap (ax := 2) hC hE hb (by omega) hz ?_))
  rw [zI_mul, zI_mul, zI_mul, zI_add, zI_add]
  exact h
theorem xw_nr36 (hC : gm_pk C) (hE : gm_pk E) (hn : n ≤ 14) {x y z : Int} (hx : -100 ≤ x ∧ x ≤ 100) (hy : -100 ≤ y ∧ y ≤ 100) (hz : -100 ≤ z ∧ z ≤ 100) (h : post (zI_ (gm_mn (gm_sq C E x y z) (n - 1)))) : ∀ d i : Nat, (i + 1) + d = n →
    wX_nearest_36 post (zI_ x) (zI_ y) (zI_ z) (nI n) T C E S D K (d + 1) (zI_ (gm_mn (gm_sq C E x y z) i)) (nI (i + 1))
  | 0, i, hi => by
    have q : n = i + 1 := by omega
    subst q
    exact br_t (nI_le (Nat.le_refl (i + 1)) (by omega)) h
  | d + 1, i, hi => by
    have ih := xw_nr36 hC hE hn hx hy hz h d (i + 1) (by omega)
    have b1 := gm_sq_b hC hE hx hy hz (i + 1)
    have b2 := gm_mn_b (gm_sq_b hC hE hx hy hz) i
    have e : gm_mn (gm_sq C E x y z) (i + 1) = if gm_sq C E x y z (i + 1) < gm_mn (gm_sq C E x y z) i then gm_sq C E x y z (i + 1) else gm_mn (gm_sq C E x y z) i := rfl
    rw [e] at ih
    refine br_f (nI_ge (a := i + 1) (b := n) (by omega) (by omega)) (xw_sq hC hE (by omega) hx hy hz (zb_le (gm_mn (gm_sq C E x y z) i) (gm_sq C E x y z (i + 1)) (fun q => nm_r (nI_1 _) ?_) (fun q => nm_r (nI_1 _) ?_) rfl rfl (by omega) (by omega)))
    · rw [if_neg (by omega)] at ih
      exact ih
    · rw [if_pos q] at ih
      exact ih
end
