/-! the component's small methods -/
section
variable {C E S D K : Nat → Int32} {n : Nat} {T : Int32} {post : Int32 → Prop}
theorem xw_within {x y z : Int32} (a b c : Int) (hx : x = zI_ a) (hy : y = zI_ b) (hz : z = zI_ c) (ra : -2147483648 ≤ a ∧ a < 2147483648) (rb : -2147483648 ≤ b ∧ b < 2147483648) (rc : -2147483648 ≤ c ∧ c < 2147483648)
    (h1 : b ≤ a → a ≤ c → post 1) (h0 : (a < b ∨ c < a) → post 0) : wpX_isWithin post x y z :=
  zb_lt a b (fun h => h0 (Or.inl h)) (fun h => zb_lt c a (fun h' => h0 (Or.inr h')) (fun h' => h1 h h') hz hx rc ra) hx hy ra rb
theorem xw_packed {x : Int32} (h1 : 0 ≤ x.toInt → x.toInt ≤ 32767 → post 1) (h0 : (x.toInt < 0 ∨ 32767 < x.toInt) → post 0) : wpX_isPacked post x :=
  xw_within (post := fun r => narrow .boolean (.int r) = .int r ∧ post r) x.toInt 0 32767 (zI_of x) (by decide) (by decide) (zI_rng x) (by omega) (by omega) (fun a b => ⟨rfl, h1 a b⟩) (fun a => ⟨rfl, h0 a⟩)
theorem xw_good_t {j : Nat} (hj : j < n) (hn : n ≤ 14) (h : post 1) : wpX_isGood post (nI n, T, C, E, S, D, K) (nI j) :=
  br_f (nI_pos (by omega)) (br_f (nI_ge hj (by omega)) h)
theorem xw_good_f {x : Int32} (hx : x < 0 ∨ nI n ≤ x) (h : post 0) : wpX_isGood post (nI n, T, C, E, S, D, K) x := by
  by_cases h0 : x < 0
  · exact br_t h0 h
  · exact br_f h0 (br_t (hx.resolve_left h0) h)
theorem xw_part {t : Int} (ht : 0 ≤ t ∧ t ≤ 32767) {ax : Nat} (hax : ax < 3) (h : post (zI_ (gm_P t ax))) : wpX_part post (zI_ t) (nI ax) := by
  obtain ⟨m, rfl⟩ := Int.eq_ofNat_of_zero_le ht.1
  show post ((zI_ (m : Int) >>> ((5 * (2 - nI ax)) &&& 31)) &&& 31)
  refine zv_ (P := post) ?_ h
  rw [← zI_n]
  have hm : m ≤ 32767 := by omega
  rcases (by omega : ax = 0 ∨ ax = 1 ∨ ax = 2) with rfl | rfl | rfl
  · rw [pk_shrN (by omega) _ 10 (by decide), pk_andN (by omega) 5 (by decide), zI_n]
    congr 1
    show ((m / 2 ^ 10 % 2 ^ 5 : Nat) : Int) = (m : Int) / 1024
    omega
  · rw [pk_shrN (by omega) _ 5 (by decide), pk_andN (by omega) 5 (by decide), zI_n]
    congr 1
  · rw [pk_shrN (by omega) _ 0 (by decide), pk_andN (by omega) 5 (by decide), zI_n]
    congr 1
    show ((m / 2 ^ 0 % 2 ^ 5 : Nat) : Int) = (m : Int) % 32
    omega
theorem xw_partA {A : Nat → Int32} (hA : gm_pk A) (b : Nat) {ax : Nat} (hax : ax < 3) (h : post (zI_ (gm_P (A b).toInt ax))) : wpX_part post (A b) (nI ax) := by
  have := xw_part (post := post) (hA b) hax h
  rw [← zI_of] at this
  exact this
theorem xw_low (hC : gm_pk C) {b ax : Nat} (hb : b < 14) (hax : ax < 3) (h : post (zI_ (gm_lo C b ax))) : wpX_low post (nI n, T, C, E, S, D, K) (nI b) (nI ax) := by
  refine And.intro (vp_in_nI hb (by omega)) ?_
  rw [nI_clamp (by omega)]
  exact xw_partA hC b hax h
theorem xw_high (hC : gm_pk C) (hE : gm_pk E) {b ax : Nat} (hb : b < 14) (hax : ax < 3) (h : post (zI_ (gm_hi C E b ax))) : wpX_high post (nI n, T, C, E, S, D, K) (nI b) (nI ax) := by
  refine And.intro (vp_in_nI hb (by omega)) ?_
  rw [nI_clamp (by omega)]
  refine xw_partA hC b hax (And.intro (vp_in_nI hb (by omega)) (xw_partA hE b hax ?_))
  rw [zI_add]
  exact h
theorem xw_sEnt (hr : gm_ray S D K T) {ax : Nat} (hax : ax < 3) {lo hi : Int} (hl : 0 ≤ lo ∧ lo ≤ 31) (hh : lo ≤ hi ∧ hi ≤ 62) (h : post (zI_ (gm_ent (S ax).toInt (D ax).toInt (K ax).toInt lo hi))) : wpX_slabEntry post (nI n, T, C, E, S, D, K) (nI ax) (zI_ lo) (zI_ hi) := by
  have hv : vp_in (nI ax) 3 := vp_in_nI hax (by omega)
  have hs := hr.1 ax hax
  have hd := hr.2.1 ax hax
  refine And.intro hv ?_
  rw [nI_clamp (by omega)]
  unfold gm_ent at h
  refine zb_le (D ax).toInt 0 (fun h1 => ⟨hv, ?_⟩) (fun h1 => ⟨hv, hv, ?_⟩) (zI_of _) zI_0
  · rw [if_neg (by omega)] at h
    refine zb_le 0 (D ax).toInt (fun h2 => ⟨hv, ?_⟩) (fun h2 => ⟨hv, hv, ?_⟩) zI_0 (zI_of _)
    · rw [if_neg (by omega)] at h
      refine xw_within (S ax).toInt lo hi (zI_of _) rfl rfl (by omega) (by omega) (by omega) (fun a b => br_f (by decide) ?_) (fun a => br_t rfl ?_)
      · rw [if_pos ⟨a, b⟩] at h
        exact zv_ (P := post) zI_0 h
      · rw [if_neg (by omega)] at h
        exact zv_ (P := post) zI_M h
    · rw [if_pos h2] at h
      refine zv_ (P := post) ?_ h
      rw [← zI_mul, ← zI_sub, ← zI_of, ← zI_of]
  · rw [if_pos h1] at h
    refine zv_ (P := post) ?_ h
    rw [← zI_mul, ← zI_sub, ← zI_of, ← zI_of]
theorem xw_sExt (hr : gm_ray S D K T) {ax : Nat} (hax : ax < 3) {lo hi : Int} (h : post (zI_ (gm_ext (S ax).toInt (D ax).toInt (K ax).toInt lo hi))) : wpX_slabExit post (nI n, T, C, E, S, D, K) (nI ax) (zI_ lo) (zI_ hi) := by
  have hv : vp_in (nI ax) 3 := vp_in_nI hax (by omega)
  have hs := hr.1 ax hax
  have hd := hr.2.1 ax hax
  refine And.intro hv ?_
  rw [nI_clamp (by omega)]
  unfold gm_ext at h
  refine zb_le (D ax).toInt 0 (fun h1 => ⟨hv, ?_⟩) (fun h1 => ⟨hv, hv, ?_⟩) (zI_of _) zI_0
  · rw [if_neg (by omega)] at h
    refine zb_le 0 (D ax).toInt (fun h2 => ?_) (fun h2 => ⟨hv, hv, ?_⟩) zI_0 (zI_of _)
    · rw [if_neg (by omega)] at h
      exact zv_ (P := post) zI_M h
    · rw [if_pos h2] at h
      refine zv_ (P := post) ?_ h
      rw [← zI_mul, ← zI_sub, ← zI_of, ← zI_of]
  · rw [if_pos h1] at h
    refine zv_ (P := post) ?_ h
    rw [← zI_mul, ← zI_sub, ← zI_of, ← zI_of]
theorem xw_ent8 (hr : gm_ray S D K T) (hC : gm_pk C) (hE : gm_pk E) {b : Nat} (hb : b < 14) (h : post (zI_ (gm_t S D K C E b))) : ∀ d i : Nat, i + d = 3 →
    wX_entryTicks_8 post (nI b) (nI n) T C E S D K (d + 1) (zI_ (gm_la (gm_E S D K C E b) i)) (zI_ (gm_ea (gm_X S D K C E b) i)) (nI i)
  | 0, i, hi => by
    have e : i = 3 := by omega
    subst e
    have h1 := gm_la_b (e := gm_E S D K C E b) 3 (fun i hi => by have := gm_E_b hr hC hE b hi; omega)
    have h2 := gm_ea_b (l := gm_X S D K C E b) 3 (fun i hi => (gm_X_b hr hC hE b hi).1)
    unfold gm_t at h
    refine br_t (nI_le (a := 3) (b := 3) (by omega) (by omega)) (zb_lt _ _ (fun c => ?_) (fun c => ?_) rfl rfl (by omega) (by omega))
    · rw [if_neg (by omega)] at h
      exact zv_ (P := post) zI_M h
    · rw [if_pos c] at h
      exact h
  | d + 1, i, hi => by
    have h1 := gm_la_b (e := gm_E S D K C E b) i (fun j hj => by have := gm_E_b hr hC hE b (ax := j) (by omega); omega)
    have h2 := gm_ea_b (l := gm_X S D K C E b) i (fun j hj => (gm_X_b hr hC hE b (ax := j) (by omega)).1)
    have ih := xw_ent8 hr hC hE hb h d (i + 1) (by omega)
    have he := gm_E_b hr hC hE b (ax := i) (by omega)
    have hx := gm_X_b hr hC hE b (ax := i) (by omega)
    refine br_f (nI_ge (a := i) (b := 3) (by omega) (by omega)) (xw_low hC hb (by omega) (xw_high hC hE hb (by omega) (xw_sEnt hr (by omega) (gm_lo_b hC b i) (gm_hi_b hC hE b i) (xw_sExt hr (by omega) ?_))))
    have e1 : gm_la (gm_E S D K C E b) (i + 1) = if gm_la (gm_E S D K C E b) i < gm_E S D K C E b i then gm_E S D K C E b i else gm_la (gm_E S D K C E b) i := rfl
    have e2 : gm_ea (gm_X S D K C E b) (i + 1) = if gm_X S D K C E b i < gm_ea (gm_X S D K C E b) i then gm_X S D K C E b i else gm_ea (gm_X S D K C E b) i := rfl
    rw [e1, e2] at ih
    refine zb_le (gm_E S D K C E b i) _ (fun c => ?_) (fun c => ?_) rfl rfl (by omega) (by omega)
    · rw [if_neg (by omega)] at ih
      refine zb_le _ (gm_X S D K C E b i) (fun c' => nm_r (nI_1 i) ?_) (fun c' => nm_r (nI_1 i) ?_) rfl rfl (by omega) (by omega)
      · rw [if_neg (by omega)] at ih
        exact ih
      · rw [if_pos c'] at ih
        exact ih
    · rw [if_pos c] at ih
      refine zb_le _ (gm_X S D K C E b i) (fun c' => nm_r (nI_1 i) ?_) (fun c' => nm_r (nI_1 i) ?_) rfl rfl (by omega) (by omega)
      · rw [if_neg (by omega)] at ih
        exact ih
      · rw [if_pos c'] at ih
        exact ih
theorem xw_ent (hr : gm_ray S D K T) (hC : gm_pk C) (hE : gm_pk E) {b : Nat} (hb : b < 14) (h : post (zI_ (gm_t S D K C E b))) : wpX_entryTicks post (nI n, T, C, E, S, D, K) (nI b) := by
  refine ⟨4, ?_⟩
  rw [zI_M, zI_0]
  exact xw_ent8 hr hC hE hb h 3 0 rfl
theorem xw_ext5 (hr : gm_ray S D K T) (hC : gm_pk C) (hE : gm_pk E) {b : Nat} (hb : b < 14) (h : post (zI_ (gm_x S D K C E b))) : ∀ d i : Nat, i + d = 3 →
    wX_exitTicks_5 post (nI b) (nI n) T C E S D K (d + 1) (zI_ (gm_ea (gm_X S D K C E b) i)) (nI i)
  | 0, i, hi => by
    have e : i = 3 := by omega
    subst e
    exact br_t (nI_le (a := 3) (b := 3) (by omega) (by omega)) h
  | d + 1, i, hi => by
    have h2 := gm_ea_b (l := gm_X S D K C E b) i (fun j hj => (gm_X_b hr hC hE b (ax := j) (by omega)).1)
    have ih := xw_ext5 hr hC hE hb h d (i + 1) (by omega)
    have hx := gm_X_b hr hC hE b (ax := i) (by omega)
    refine br_f (nI_ge (a := i) (b := 3) (by omega) (by omega)) (xw_low hC hb (by omega) (xw_high hC hE hb (by omega) (xw_sExt hr (by omega) ?_)))
    have e2 : gm_ea (gm_X S D K C E b) (i + 1) = if gm_X S D K C E b i < gm_ea (gm_X S D K C E b) i then gm_X S D K C E b i else gm_ea (gm_X S D K C E b) i := rfl
    rw [e2] at ih
    refine zb_le _ (gm_X S D K C E b i) (fun c' => nm_r (nI_1 i) ?_) (fun c' => nm_r (nI_1 i) ?_) rfl rfl (by omega) (by omega)
    · rw [if_neg (by omega)] at ih
      exact ih
    · rw [if_pos c'] at ih
      exact ih
theorem xw_ext (hr : gm_ray S D K T) (hC : gm_pk C) (hE : gm_pk E) {b : Nat} (hb : b < 14) (h : post (zI_ (gm_x S D K C E b))) : wpX_exitTicks post (nI n, T, C, E, S, D, K) (nI b) := by
  refine ⟨4, ?_⟩
  rw [zI_M]
  exact xw_ext5 hr hC hE hb h 3 0 rfl
end
