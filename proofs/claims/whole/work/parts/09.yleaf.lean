/-! the reference's small methods; what a ray does to one box -/
section
variable {C E S D K A B : Nat → Int32} {n : Nat} {T f1 f2 f3 f4 : Int32}
theorem yw_bad_f {post : Int32 → Prop} {j : Nat} (hj : j < n) (hn : n ≤ 14) (h : post 0) : wpY_bad post (nI n, f1, f2, f3, f4, C, E, S, D, A, B) (nI j) :=
  br_f (nI_pos (by omega)) (br_f (nI_ge hj (by omega)) (br_t (nI_le (a := j) (b := 13) (by omega) (by omega)) h))
theorem yw_bad_t {post : Int32 → Prop} {x : Int32} (hx : x < 0 ∨ nI n ≤ x) (h : post 1) : wpY_bad post (nI n, f1, f2, f3, f4, C, E, S, D, A, B) x := by
  by_cases h0 : x < 0
  · exact br_t h0 h
  · exact br_f h0 (br_t (hx.resolve_left h0) h)
theorem yw_trip {post : Int32 → Prop} {x : Int32} (h0 : 0 ≤ x.toInt → x.toInt ≤ 32767 → post 0) (h1 : (x.toInt < 0 ∨ 32767 < x.toInt) → post 1) : wpY_badTriple post (nI n, f1, f2, f3, f4, C, E, S, D, A, B) x :=
  zb_lt x.toInt 0 (fun h => h1 (Or.inl h)) (fun h => zb_le x.toInt 32767 (fun h' => h0 h h') (fun h' => h1 (Or.inr h')) (zI_of x) (by decide) (zI_rng x) (by omega)) (zI_of x) zI_0 (zI_rng x) (by omega)
theorem yw_far {post : Int32 → Prop} {x M : Int32} (m : Int) (hM : M = zI_ m) (m0 : 0 ≤ m ∧ m ≤ 1000) (h0 : -m ≤ x.toInt → x.toInt ≤ m → post 0) (h1 : (x.toInt < -m ∨ m < x.toInt) → post 1) : wpY_far post (nI n, f1, f2, f3, f4, C, E, S, D, A, B) x M :=
  zb_lt x.toInt (-m) (fun h => h1 (Or.inl h)) (fun h => zb_le x.toInt m (fun h' => h0 h h') (fun h' => h1 (Or.inr h')) (zI_of x) hM (zI_rng x) (by omega)) (zI_of x) (by rw [hM, zI_neg]) (zI_rng x) (by omega)
theorem yw_part {post : Int32 → Prop} {x : Int32} (hx : 0 ≤ x.toInt ∧ x.toInt ≤ 32767) {ax : Nat} (hax : ax < 3) (h : post (zI_ (gm_P x.toInt ax))) : wpY_part post (nI n, f1, f2, f3, f4, C, E, S, D, A, B) x (nI ax) := by
  have e1 : x / 1024 = zI_ (x.toInt / 1024) := by
    have := zI_div (a := x.toInt) (b := 1024) (by omega) (by omega)
    rw [← zI_of] at this
    exact this
  have e2 : x / 32 = zI_ (x.toInt / 32) := by
    have := zI_div (a := x.toInt) (b := 32) (by omega) (by omega)
    rw [← zI_of] at this
    exact this
  have e3 : x - x / 32 * 32 = zI_ (x.toInt % 32) := by
    have := zI_rem (a := x.toInt) (b := 32) (by omega) (by omega)
    rw [← zI_of] at this
    exact this
  have e4 : (x / 32) - (x / 32) / 32 * 32 = zI_ (x.toInt / 32 % 32) := by
    rw [e2]
    exact zI_rem (a := x.toInt / 32) (b := 32) (by omega) (by omega)
  rcases (by omega : ax = 0 ∨ ax = 1 ∨ ax = 2) with rfl | rfl | rfl
  · exact br_t (by decide) ⟨by decide, zv_ (P := post) e1 h⟩
  · exact br_f (by decide) (br_t (by decide) ⟨by decide, by decide, zv_ (P := post) e4 h⟩)
  · exact br_f (by decide) (br_f (by decide) ⟨by decide, zv_ (P := post) e3 h⟩)
theorem yw_low {post : Int32 → Prop} (hC : gm_pk C) {b ax : Nat} (hb : b < 14) (hax : ax < 3) (h : post (zI_ (gm_lo C b ax))) : wpY_low post (nI n, f1, f2, f3, f4, C, E, S, D, A, B) (nI b) (nI ax) := by
  refine And.intro (vp_in_nI hb (by omega)) ?_
  rw [nI_clamp (by omega)]
  exact yw_part (hC b) hax h
theorem yw_high {post : Int32 → Prop} (hC : gm_pk C) (hE : gm_pk E) {b ax : Nat} (hb : b < 14) (hax : ax < 3) (h : post (zI_ (gm_hi C E b ax))) : wpY_high post (nI n, f1, f2, f3, f4, C, E, S, D, A, B) (nI b) (nI ax) := by
  refine And.intro (vp_in_nI hb (by omega)) ?_
  rw [nI_clamp (by omega)]
  refine yw_part (hC b) hax (And.intro (vp_in_nI hb (by omega)) (yw_part (hE b) hax ?_))
  rw [zI_add]
  exact h
theorem gm_Jo_r {l : Nat → Int} {t ot ob : Int} {i : Nat} (h : gm_Jo D l t i ot ob) : 1 ≤ ob ∧ ob ≤ 20 ∧ -162 ≤ ot ∧ ot ≤ 1000000 := by
  obtain ⟨a, b, c⟩ := h
  rcases c with ⟨c1, _⟩ | ⟨c1, c2, _⟩
  · omega
  · omega
theorem gm_Ji_r {e : Nat → Int} {t it ib : Int} {i : Nat} (h : gm_Ji e t i it ib) : 0 ≤ it ∧ it ≤ 162 ∧ 1 ≤ ib ∧ ib ≤ 20 := ⟨h.1, h.2.1, h.2.2.1, h.2.2.2.1⟩
theorem yw_m133 {post : Int32 → SY → Prop} {J : Int32 → Int32 → Int32 → Int32 → Int32 → Prop} {x1 g : Int32} {e l : Nat → Int} {t : Int} {i : Nat} {it ib ot ob ls k d : Int}
    (hJ : ∀ it ib ot ob, gm_Ji e t (i + 1) it ib → gm_Jo D l t (i + 1) ot ob → J (nI (i + 1)) (zI_ it) (zI_ ib) (zI_ ot) (zI_ ob))
    (hi : gm_Ji e t (i + 1) it ib) (ho : gm_Jo D l t i ot ob) (hT : t = k * d) (T0 : 0 < t) (hd : 1 ≤ d ∧ d ≤ 20) (hk : 1 ≤ k ∧ k ≤ 400) (hn : -162 ≤ ls ∧ ls ≤ 162) (en : l i = ls * k) :
    wY_meets_133 post J x1 (nI i) (zI_ d) (zI_ ls) g (zI_ it) (zI_ ib) (zI_ ot) (zI_ ob) C E S D A B := by
  have ro := gm_Jo_r ho
  have b1 := gm_mb (a := ot) (k := d) 1000000 20 (by omega) (by omega) (by omega) (by omega) (by omega)
  have b2 := gm_mb (a := ls) (k := ob) 162 20 (by omega) (by omega) (by omega) (by omega) (by omega)
  refine zb_le d 0 (fun c => absurd c (by omega)) (fun c => zb_le (ot * d) (ls * ob) (fun c2 => nm_r (nI_1 i) ?_) (fun c2 => nm_r (nI_1 i) ?_) (zI_mul _ _) (zI_mul _ _) (by omega) (by omega)) rfl zI_0 (by omega) (by omega)
  · exact hJ _ _ _ _ hi (gm_Jo_f ho hT T0 hd hk hn en c2)
  · exact hJ _ _ _ _ hi (gm_Jo_t ho hT T0 hd hk hn en c2)
theorem yw_m102 {post : Int32 → SY → Prop} {J : Int32 → Int32 → Int32 → Int32 → Int32 → Prop} {x1 g : Int32} {e l : Nat → Int} {t : Int} {i : Nat} {it ib ot ob nr ls k d : Int}
    (hJ : ∀ it ib ot ob, gm_Ji e t (i + 1) it ib → gm_Jo D l t (i + 1) ot ob → J (nI (i + 1)) (zI_ it) (zI_ ib) (zI_ ot) (zI_ ob))
    (hi : gm_Ji e t i it ib) (ho : gm_Jo D l t i ot ob) (hT : t = k * d) (T0 : 0 < t) (hd : 1 ≤ d ∧ d ≤ 20) (hk : 1 ≤ k ∧ k ≤ 400) (hm : -162 ≤ nr ∧ nr ≤ 162) (hn : -162 ≤ ls ∧ ls ≤ 162) (em : e i = nr * k) (en : l i = ls * k) :
    wY_meets_102 post J x1 (nI i) (zI_ d) (zI_ nr) (zI_ ls) g (zI_ it) (zI_ ib) (zI_ ot) (zI_ ob) C E S D A B := by
  have ri := gm_Ji_r hi
  have b1 := gm_mb (a := nr) (k := ib) 162 20 (by omega) (by omega) (by omega) (by omega) (by omega)
  have b2 := gm_mb (a := it) (k := d) 162 20 (by omega) (by omega) (by omega) (by omega) (by omega)
  refine zb_le d 0 (fun c => absurd c (by omega)) (fun c => zb_le (nr * ib) (it * d) (fun c2 => ?_) (fun c2 => ?_) (zI_mul _ _) (zI_mul _ _) (by omega) (by omega)) rfl zI_0 (by omega) (by omega)
  · exact yw_m133 hJ (gm_Ji_f hi hT T0 hd em c2) ho hT T0 hd hk hn en
  · exact yw_m133 hJ (gm_Ji_t hi hT T0 hd hk (by omega) em c2) ho hT T0 hd hk hn en
theorem yw_m23 {post : Int32 → SY → Prop} (hr : gm_ray S D K T) (hC : gm_pk C) (hE : gm_pk E) {b : Nat} (hb : b < 14)
    (h1 : ∀ it ib ot ob, gm_ok (gm_t S D K C E b) (gm_x S D K C E b) T.toInt it ib ot ob → post 1 (nI n, zI_ it, zI_ ib, zI_ ot, zI_ ob, C, E, S, D, A, B))
    (h0 : ∀ g1 g2 g3 g4, gm_t S D K C E b = 1000000 → post 0 (nI n, g1, g2, g3, g4, C, E, S, D, A, B)) : ∀ (d i : Nat) (it ib ot ob : Int), i + d = 3 → gm_Ji (gm_E S D K C E b) T.toInt i it ib → gm_Jo D (gm_X S D K C E b) T.toInt i ot ob →
    wY_meets_23 post (nI b) (nI n) C E S D A B (d + 1) (nI i) (zI_ it) (zI_ ib) (zI_ ot) (zI_ ob)
  | 0, i, it, ib, ot, ob, hi, ji, jo => by
    have q : i = 3 := by omega
    subst q
    have ri := gm_Ji_r ji
    have ro := gm_Jo_r jo
    have b1 := gm_mb (a := ot) (k := ib) 1000000 20 (by omega) (by omega) (by omega) (by omega) (by omega)
    have b2 := gm_mb (a := it) (k := ob) 162 20 (by omega) (by omega) (by omega) (by omega) (by omega)
    have fin := gm_end (by have := hr.2.2.2.2.1; omega) hr.2.2.1 ji jo
    refine br_t (nI_le (a := 3) (b := 3) (by omega) (by omega)) (zb_lt (ot * ib) (it * ob) (fun c => h0 _ _ _ _ ?_) (fun c => h1 _ _ _ _ ?_) (zI_mul _ _) (zI_mul _ _) (by omega) (by omega))
    · have := fin.2 c
      unfold gm_t
      rw [if_neg (by omega)]
    · have := fin.1 c
      unfold gm_t gm_x
      rw [if_pos this.1]
      exact this.2
  | d + 1, i, it, ib, ot, ob, hi, ji, jo => by
    have hv : vp_in (nI i) 3 := vp_in_nI (by omega) (by omega)
    have hs := hr.1 i (by omega)
    have hd := hr.2.1 i (by omega)
    have hk := hr.2.2.2.1 i (by omega)
    have hT := hr.2.2.2.2
    have hl := gm_lo_b hC b i
    have hh := gm_hi_b hC hE b i
    have ih := fun it ib ot ob => yw_m23 hr hC hE hb h1 h0 d (i + 1) it ib ot ob (by omega)
    have cl : (nI i).toNatClampNeg = i := nI_clamp (by omega)
    have e1 : D (nI i).toNatClampNeg = zI_ (D i).toInt := by rw [cl]; exact zI_of _
    have e2 : zI_ (gm_lo C b i) - S (nI i).toNatClampNeg = zI_ (gm_lo C b i - (S i).toInt) := by rw [cl, ← zI_sub, ← zI_of]
    have e3 : zI_ (gm_hi C E b i) - S (nI i).toNatClampNeg = zI_ (gm_hi C E b i - (S i).toInt) := by rw [cl, ← zI_sub, ← zI_of]
    refine br_f (nI_ge (a := i) (b := 3) (by omega) (by omega)) ⟨hv, nm_r e1 (yw_low hC hb (by omega) ⟨hv, nm_r e2 (yw_high hC hE hb (by omega) ⟨hv, nm_r e3 ?_⟩)⟩)⟩
    refine zb_eq (D i).toInt 0 (fun c => zb_lt 0 (gm_lo C b i - (S i).toInt) (fun c2 => h0 _ _ _ _ ?_) (fun c2 => zb_le 0 (gm_hi C E b i - (S i).toInt) (fun c3 => ?_) (fun c3 => h0 _ _ _ _ ?_) zI_0 rfl (by omega) (by omega)) zI_0 rfl (by omega) (by omega)) (fun c => ?_) rfl zI_0 (by omega) (by omega)
    · refine gm_t_never hr hC hE (i := i) (by omega) ?_
      unfold gm_E gm_ent
      rw [if_neg (by omega), if_neg (by omega), if_neg (by omega)]
    · have z1 : gm_E S D K C E b i = 0 := by
        unfold gm_E gm_ent
        rw [if_neg (by omega), if_neg (by omega), if_pos (by omega)]
      have z2 : gm_X S D K C E b i = 1000000 := by
        unfold gm_X gm_ext
        rw [if_neg (by omega), if_neg (by omega)]
      refine zb_le 0 (D i).toInt (fun _ => zb_le (D i).toInt 0 (fun _ => zb_le (D i).toInt 0 (fun _ => nm_r (nI_1 i) ?_) (fun q => absurd q (by omega)) rfl zI_0 (by omega) (by omega)) (fun q => absurd q (by omega)) rfl zI_0 (by omega) (by omega)) (fun q => absurd q (by omega)) zI_0 rfl (by omega) (by omega)
      exact ih _ _ _ _ (gm_Ji_z ji z1) (gm_Jo_z jo z2 c)
    · refine gm_t_never hr hC hE (i := i) (by omega) ?_
      unfold gm_E gm_ent
      rw [if_neg (by omega), if_neg (by omega), if_neg (by omega)]
    · refine zb_le 0 (D i).toInt (fun c2 => ?_) (fun c2 => ?_) zI_0 rfl (by omega) (by omega)
      · refine yw_m102 (k := (K i).toInt) ih ji jo ?_ (by omega) (by omega) hk.2 (by omega) (by omega) ?_ ?_
        · have := hk.1
          unfold gm_sp at this
          rw [if_neg c, if_neg (by omega)] at this
          exact this
        · unfold gm_E gm_ent
          rw [if_pos (by omega)]
        · unfold gm_X gm_ext
          rw [if_pos (by omega)]
      · refine nm_r (zI_neg _) (nm_r (zI_neg _) (nm_r (zI_neg _) ?_))
        refine yw_m102 (k := (K i).toInt) ih ji jo ?_ (by omega) (by omega) hk.2 (by omega) (by omega) ?_ ?_
        · have := hk.1
          unfold gm_sp at this
          rw [if_neg c, if_pos (by omega)] at this
          exact this
        · unfold gm_E gm_ent
          rw [if_neg (by omega), if_pos (by omega)]
          congr 1
          omega
        · unfold gm_X gm_ext
          rw [if_neg (by omega), if_pos (by omega)]
          congr 1
          omega
theorem yw_meets {post : Int32 → SY → Prop} (hr : gm_ray S D K T) (hC : gm_pk C) (hE : gm_pk E) {b : Nat} (hb : b < 14)
    (h1 : ∀ it ib ot ob, gm_ok (gm_t S D K C E b) (gm_x S D K C E b) T.toInt it ib ot ob → post 1 (nI n, zI_ it, zI_ ib, zI_ ot, zI_ ob, C, E, S, D, A, B))
    (h0 : ∀ g1 g2 g3 g4, gm_t S D K C E b = 1000000 → post 0 (nI n, g1, g2, g3, g4, C, E, S, D, A, B)) : wpY_meets post (nI n, f1, f2, f3, f4, C, E, S, D, A, B) (nI b) := by
  refine ⟨4, ?_⟩
  rw [zI_M, zI_1, zI_0]
  exact yw_m23 hr hC hE hb h1 h0 3 0 0 1 1000000 1 rfl (gm_Ji_0 _ _) (gm_Jo_0 _ _ _)
end
