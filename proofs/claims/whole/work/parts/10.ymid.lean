/-! the reference's searches and counts -/
/-- what shoot has laid for the boxes below m -/
def gm_sh (t : Nat → Int) (T : Int) (n m : Nat) (A B : Nat → Int32) : Prop := ∀ b, b < m →
  (gm_hq t n b = true → ∃ it ib : Int, A b = zI_ it ∧ B b = zI_ ib ∧ 0 ≤ it ∧ it ≤ 162 ∧ 1 ≤ ib ∧ ib ≤ 20 ∧ it * T = t b * ib) ∧ (gm_hq t n b = false → B b = 0)
theorem gm_sh_f {t : Nat → Int} {T : Int} {n m : Nat} {A B : Nat → Int32} (h : gm_sh t T n m A B) (q : gm_hq t n m = false) (x : Int32) : gm_sh t T n (m + 1) (upd A m x) (upd B m 0) := by
  intro b hb
  by_cases e : b = m
  · subst e
    exact ⟨fun q' => (by rw [q] at q'; cases q'), fun _ => pk_us⟩
  · rw [pk_un e, pk_un e]
    exact h b (by omega)
theorem gm_sh_t {t : Nat → Int} {T : Int} {n m : Nat} {A B : Nat → Int32} (h : gm_sh t T n m A B) (q : gm_hq t n m = true) {it ib : Int} (r : 0 ≤ it ∧ it ≤ 162 ∧ 1 ≤ ib ∧ ib ≤ 20 ∧ it * T = t m * ib) : gm_sh t T n (m + 1) (upd A m (zI_ it)) (upd B m (zI_ ib)) := by
  intro b hb
  by_cases e : b = m
  · subst e
    exact ⟨fun _ => ⟨it, ib, pk_us, pk_us, r⟩, fun q' => by rw [q] at q'; cases q'⟩
  · rw [pk_un e, pk_un e]
    exact h b (by omega)
theorem gm_hq_b {t : Nat → Int} {n b : Nat} (h : gm_hq t n b = true) : b < n ∧ t b < 1000000 := by
  rcases Bool.and_eq_true_iff.mp h with ⟨h1, h2⟩
  exact ⟨of_decide_eq_true h1, of_decide_eq_true h2⟩
section
variable {C E S D K A B : Nat → Int32} {n : Nat} {T f1 f2 f3 f4 : Int32}
theorem yw_s47f {post : SY → Prop} {J : Int32 → Int32 → Int32 → Int32 → Int32 → Int32 → (Nat → Int32) → (Nat → Int32) → (Nat → Int32) → (Nat → Int32) → (Nat → Int32) → (Nat → Int32) → Prop} {i : Nat} (hi : i < 14) {x : Int32}
    (h : J (nI (i + 1)) (nI n) f1 f2 f3 f4 C E S D (upd A i x) (upd B i 0)) : wY_shoot_47 post J (nI i) 0 x (nI i) (nI n) f1 f2 f3 f4 C E S D A B := by
  have hv : vp_in (nI i) 14 := vp_in_nI hi (by omega)
  have cl : (nI i).toNatClampNeg = i := nI_clamp (by omega)
  refine And.intro hv (nm_r (congrArg (fun j => upd A j x) cl) (br_t rfl ⟨hv, nm_r (congrArg (fun j => upd B j 0) cl) (nm_r (nI_1 i) h)⟩))
theorem yw_s47t {post : SY → Prop} {J : Int32 → Int32 → Int32 → Int32 → Int32 → Int32 → (Nat → Int32) → (Nat → Int32) → (Nat → Int32) → (Nat → Int32) → (Nat → Int32) → (Nat → Int32) → Prop} {i : Nat} (hi : i < 14) {x : Int32}
    (h : J (nI (i + 1)) (nI n) f1 f2 f3 f4 C E S D (upd A i x) (upd B i f2)) : wY_shoot_47 post J (nI i) 1 x (nI i) (nI n) f1 f2 f3 f4 C E S D A B := by
  have hv : vp_in (nI i) 14 := vp_in_nI hi (by omega)
  have cl : (nI i).toNatClampNeg = i := nI_clamp (by omega)
  refine And.intro hv (nm_r (congrArg (fun j => upd A j x) cl) (br_f (by decide) ⟨hv, nm_r (congrArg (fun j => upd B j f2) cl) (nm_r (nI_1 i) h)⟩))
theorem yw_sh2 {post : SY → Prop} (hr : gm_ray S D K T) (hC : gm_pk C) (hE : gm_pk E) (hn : n ≤ 14) (h : ∀ g1 g2 g3 g4 A B, gm_sh (gm_t S D K C E) T.toInt n 14 A B → post (nI n, g1, g2, g3, g4, C, E, S, D, A, B)) :
    ∀ (d i : Nat) (g1 g2 g3 g4 : Int32) (A B : Nat → Int32), i + d = 14 → gm_sh (gm_t S D K C E) T.toInt n i A B → wY_shoot_2 post (d + 1) (nI i) (nI n) g1 g2 g3 g4 C E S D A B
  | 0, i, g1, g2, g3, g4, A, B, hi, hs => by
    have q : i = 14 := by omega
    subst q
    exact br_t (nI_le (a := 14) (b := 14) (by omega) (by omega)) (h _ _ _ _ _ _ hs)
  | d + 1, i, g1, g2, g3, g4, A, B, hi, hs => by
    have ih := fun g1 g2 g3 g4 A B => yw_sh2 hr hC hE hn h d (i + 1) g1 g2 g3 g4 A B (by omega)
    have ht := gm_t_b hr hC hE i
    refine br_f (nI_ge (a := i) (b := 14) (by omega) (by omega)) (pk_le n i (fun c => ?_) (fun c => ?_))
    · refine br_t rfl (yw_s47f (by omega) (ih _ _ _ _ _ _ (gm_sh_f hs ?_ _)))
      unfold gm_hq
      rw [decide_eq_false (by omega)]
      rfl
    · refine yw_meets hr hC hE (by omega) (fun it ib ot ob ok => ?_) (fun g1 g2 g3 g4 z => ?_)
      · obtain ⟨o1, o2, o3, o4, o5, o6, o7, o8, o9, _⟩ := ok
        refine br_f (by decide) (br_f (by decide) (yw_s47t (by omega) (ih _ _ _ _ _ _ (gm_sh_t hs ?_ ⟨o5, o6, o7, o8, o9⟩))))
        unfold gm_hq
        rw [decide_eq_true c, decide_eq_true (by omega)]
        rfl
      · refine br_t rfl (br_t rfl (yw_s47f (by omega) (ih _ _ _ _ _ _ (gm_sh_f hs ?_ _))))
        unfold gm_hq
        rw [decide_eq_false (by omega : ¬ gm_t S D K C E i < 1000000), Bool.and_false]
theorem yw_shoot {post : SY → Prop} (hr : gm_ray S D K T) (hC : gm_pk C) (hE : gm_pk E) (hn : n ≤ 14) (h : ∀ g1 g2 g3 g4 A B, gm_sh (gm_t S D K C E) T.toInt n 14 A B → post (nI n, g1, g2, g3, g4, C, E, S, D, A, B)) :
    wpY_shoot post (nI n, f1, f2, f3, f4, C, E, S, D, A, B) :=
  ⟨15, yw_sh2 hr hC hE hn h 14 0 f1 f2 f3 f4 A B rfl (fun b hb => by omega)⟩
theorem yw_before {post : Int32 → Prop} {t : Nat → Int} {tt : Int} (T0 : 0 < tt) (hs : gm_sh t tt n 14 A B) {c b : Nat} (hc : c < 14) (hb : b < 14) (qc : gm_hq t n c = true) (qb : gm_hq t n b = true)
    (h1 : gm_ah t b c = true → post 1) (h0 : gm_ah t b c = false → post 0) : wpY_before post (nI n, f1, f2, f3, f4, C, E, S, D, A, B) (nI c) (nI b) := by
  obtain ⟨ic, jc, a1, a2, a3, a4, a5, a6, a7⟩ := (hs c hc).1 qc
  obtain ⟨ib, jb, b1, b2, b3, b4, b5, b6, b7⟩ := (hs b hb).1 qb
  have vc : vp_in (nI c) 14 := vp_in_nI hc (by omega)
  have vb : vp_in (nI b) 14 := vp_in_nI hb (by omega)
  have r1 := gm_mb (a := ic) (k := jb) 162 20 (by omega) (by omega) (by omega) (by omega) (by omega)
  have r2 := gm_mb (a := ib) (k := jc) 162 20 (by omega) (by omega) (by omega) (by omega) (by omega)
  have e1 : A (nI c).toNatClampNeg * B (nI b).toNatClampNeg = zI_ (ic * jb) := by
    rw [nI_clamp (by omega), nI_clamp (by omega), a1, b2, zI_mul]
  have e2 : A (nI b).toNatClampNeg * B (nI c).toNatClampNeg = zI_ (ib * jc) := by
    rw [nI_clamp (by omega), nI_clamp (by omega), b1, a2, zI_mul]
  have k1 := gm_fr (a := ic) (b := jc) (p := ib) (q := jb) (by omega) (by omega) T0 a7 b7
  have k2 := gm_feq (a := ic) (b := jc) (p := ib) (q := jb) (by omega) (by omega) T0 a7 b7
  refine And.intro vc ⟨vb, nm_r e1 ⟨vb, vc, nm_r e2 (zb_lt (ic * jb) (ib * jc) (fun c1 => h1 ?_) (fun c1 => zb_eq (ic * jb) (ib * jc) (fun c2 => pk_le b c (fun c3 => h0 ?_) (fun c3 => h1 ?_)) (fun c2 => h0 ?_) rfl rfl (by omega) (by omega)) rfl rfl (by omega) (by omega))⟩⟩
  · unfold gm_ah
    rw [decide_eq_true (k1.mp c1)]
    rfl
  · unfold gm_ah
    have := k2.mp c2
    rw [decide_eq_false (by omega), decide_eq_false (by omega : ¬ c < b), Bool.and_false]
    rfl
  · unfold gm_ah
    rw [decide_eq_true (k2.mp c2), decide_eq_true c3, Bool.and_true, Bool.or_true]
  · unfold gm_ah
    rw [decide_eq_false (fun q => by have := k1.mpr q; omega), decide_eq_false (fun q => c2 (k2.mpr q))]
    rfl
theorem yw_B {t : Nat → Int} {tt : Int} (hs : gm_sh t tt n 14 A B) {i : Nat} (hi : i < 14) {P Q : Prop} (h0 : gm_hq t n i = false → P) (h1 : gm_hq t n i = true → Q) : (B (nI i).toNatClampNeg ≤ 0 → P) ∧ (¬ B (nI i).toNatClampNeg ≤ 0 → Q) := by
  rw [nI_clamp (by omega)]
  by_cases q : gm_hq t n i = true
  · obtain ⟨it, ib, b1, b2, b3, b4, b5, b6, b7⟩ := (hs i hi).1 q
    rw [b2]
    exact zb_le ib 0 (fun c => absurd c (by omega)) (fun _ => h1 q) rfl zI_0 (by omega) (by omega)
  · have q' : gm_hq t n i = false := Bool.eq_false_iff.mpr q
    rw [(hs i hi).2 q']
    exact br_t (by decide) (h0 q')
theorem yw_ah4 {post : Int32 → Prop} {t : Nat → Int} {tt : Int} (T0 : 0 < tt) (hs : gm_sh t tt n 14 A B) {b : Nat} (hb : b < 14) (qb : gm_hq t n b = true) (h : post (nI (gm_ct (fun c => gm_hq t n c && gm_ah t b c) 14))) : ∀ d i : Nat, i + d = 14 →
    wY_ahead_4 post (nI b) (nI n) f1 f2 f3 f4 C E S D A B (d + 1) (nI (gm_ct (fun c => gm_hq t n c && gm_ah t b c) i)) (nI i)
  | 0, i, hi => by
    have q : i = 14 := by omega
    subst q
    exact br_t (nI_le (a := 14) (b := 14) (by omega) (by omega)) h
  | d + 1, i, hi => by
    have ih := yw_ah4 T0 hs hb qb h d (i + 1) (by omega)
    refine br_f (nI_ge (a := i) (b := 14) (by omega) (by omega)) ⟨vp_in_nI (by omega) (by omega), yw_B hs (by omega) (fun q => nm_r (nI_1 i) ?_) (fun q => yw_before T0 hs (by omega) hb q qb (fun q' => br_f (by decide) (nm_r (nI_1 _) (nm_r (nI_1 i) ?_))) (fun q' => br_t rfl (nm_r (nI_1 i) ?_)))⟩
    · rw [gm_ct_f (p := fun c => gm_hq t n c && gm_ah t b c) (by show (gm_hq t n i && gm_ah t b i) = false; rw [q]; rfl)] at ih
      exact ih
    · rw [gm_ct_t (p := fun c => gm_hq t n c && gm_ah t b c) (by show (gm_hq t n i && gm_ah t b i) = true; rw [q, q']; rfl)] at ih
      exact ih
    · rw [gm_ct_f (p := fun c => gm_hq t n c && gm_ah t b c) (by show (gm_hq t n i && gm_ah t b i) = false; rw [q, q']; rfl)] at ih
      exact ih
theorem yw_ahead {post : Int32 → Prop} {t : Nat → Int} {tt : Int} (T0 : 0 < tt) (hn : n ≤ 14) (hs : gm_sh t tt n 14 A B) {b : Nat} (hb : b < 14) (qb : gm_hq t n b = true) (h : post (nI (gm_ct (gm_ah t b) n))) : wpY_ahead post (nI n, f1, f2, f3, f4, C, E, S, D, A, B) (nI b) := by
  rw [← gm_ah_n hn (gm_hq_b qb).2] at h
  exact ⟨15, yw_ah4 T0 hs hb qb h 14 0 rfl⟩
theorem yw_ch6 {post : Int32 → SY → Prop} {t : Nat → Int} {tt : Int} {v : Int32} (T0 : 0 < tt) (hn : n ≤ 14) (hs : gm_sh t tt n 14 A B) (h : ∀ r, gm_F (fun b => decide (b < n) && gm_pi t n v b) 14 r → post r (nI n, f1, f2, f3, f4, C, E, S, D, A, B)) : ∀ d i : Nat, i + d = 14 → (∀ j, j < i → (decide (j < n) && gm_pi t n v j) = false) →
    wY_chosen_6 post v (nI n) f1 f2 f3 f4 C E S D A B (d + 1) (nI i)
  | 0, i, hi, hp => by
    have q : i = 14 := by omega
    subst q
    exact br_t (nI_le (a := 14) (b := 14) (by omega) (by omega)) (h _ (Or.inr ⟨hp, rfl⟩))
  | d + 1, i, hi, hp => by
    have ih := fun q => yw_ch6 T0 hn hs h d (i + 1) (by omega) (lt_s (p := fun j => (decide (j < n) && gm_pi t n v j) = false) hp q)
    refine br_f (nI_ge (a := i) (b := 14) (by omega) (by omega)) ⟨vp_in_nI (by omega) (by omega), yw_B hs (by omega) (fun q => nm_r (nI_1 i) (ih ?_)) (fun q => yw_ahead T0 hn hs (by omega) q (br_c (fun c2 => h _ (Or.inl ⟨i, by omega, ?_, hp, rfl⟩)) (fun c2 => nm_r (nI_1 i) (ih ?_))))⟩
    · unfold gm_hq at q
      unfold gm_pi
      rw [← Bool.and_assoc, q]
      rfl
    · have := gm_hq_b q
      show (decide (i < n) && gm_pi t n v i) = true
      unfold gm_pi
      rw [decide_eq_true this.1, decide_eq_true this.2, decide_eq_true c2]
      rfl
    · unfold gm_pi
      rw [decide_eq_false c2, Bool.and_false, Bool.and_false]
theorem yw_chosen {post : Int32 → SY → Prop} {v : Int32} (hr : gm_ray S D K T) (hC : gm_pk C) (hE : gm_pk E) (hn : n ≤ 14)
    (h : ∀ r g1 g2 g3 g4 A B, gm_sh (gm_t S D K C E) T.toInt n 14 A B → gm_F (fun b => decide (b < n) && gm_pi (gm_t S D K C E) n v b) 14 r → post r (nI n, g1, g2, g3, g4, C, E, S, D, A, B)) : wpY_chosen post (nI n, f1, f2, f3, f4, C, E, S, D, A, B) v := by
  unfold wpY_chosen
  dsimp only
  refine yw_shoot hr hC hE hn (fun g1 g2 g3 g4 A B hs => ⟨15, ?_⟩)
  exact yw_ch6 (by have := hr.2.2.2.2.1; omega) hn hs (fun r hF => h r g1 g2 g3 g4 A B hs hF) 14 0 rfl (fun j hj => by omega)
theorem yw_ht8 {post : Int32 → SY → Prop} {t : Nat → Int} {tt : Int} (hs : gm_sh t tt n 14 A B) (h : post (nI (gm_ct (fun c => gm_hq t n c && true) 14)) (nI n, f1, f2, f3, f4, C, E, S, D, A, B)) : ∀ d i : Nat, i + d = 14 →
    wY_hits_8 post (nI n) f1 f2 f3 f4 C E S D A B (d + 1) (nI (gm_ct (fun c => gm_hq t n c && true) i)) (nI i)
  | 0, i, hi => by
    have q : i = 14 := by omega
    subst q
    exact br_t (nI_le (a := 14) (b := 14) (by omega) (by omega)) h
  | d + 1, i, hi => by
    have ih := yw_ht8 hs h d (i + 1) (by omega)
    refine br_f (nI_ge (a := i) (b := 14) (by omega) (by omega)) ⟨vp_in_nI (by omega) (by omega), yw_B hs (by omega) (fun q => nm_r (nI_1 i) ?_) (fun q => nm_r (nI_1 _) (nm_r (nI_1 i) ?_))⟩
    · rw [gm_ct_f (p := fun c => gm_hq t n c && true) (by show (gm_hq t n i && true) = false; rw [q]; rfl)] at ih
      exact ih
    · rw [gm_ct_t (p := fun c => gm_hq t n c && true) (by show (gm_hq t n i && true) = true; rw [q]; rfl)] at ih
      exact ih
theorem yw_hits {post : Int32 → SY → Prop} (hr : gm_ray S D K T) (hC : gm_pk C) (hE : gm_pk E) (hn : n ≤ 14)
    (h : ∀ g1 g2 g3 g4 A B, post (nI (gm_ct (fun c => decide (gm_t S D K C E c < 1000000) && true) n)) (nI n, g1, g2, g3, g4, C, E, S, D, A, B)) : wpY_hits post (nI n, f1, f2, f3, f4, C, E, S, D, A, B) := by
  unfold wpY_hits
  dsimp only
  refine yw_shoot hr hC hE hn (fun g1 g2 g3 g4 A B hs => ⟨15, ?_⟩)
  have h' := h g1 g2 g3 g4 A B
  rw [← gm_hits_n hn (fun _ => true)] at h'
  exact yw_ht8 hs h' 14 0 rfl
theorem yw_hb36 {post : Int32 → SY → Prop} {t : Nat → Int} {tt p q : Int} (hp : 0 ≤ p ∧ p ≤ 1000) (hq : 1 ≤ q ∧ q ≤ 100) (T0 : 0 < tt) (hs : gm_sh t tt n 14 A B) (h : post (nI (gm_ct (fun c => gm_hq t n c && decide (t c * q ≤ p * tt)) 14)) (nI n, f1, f2, f3, f4, C, E, S, D, A, B)) : ∀ d i : Nat, i + d = 14 →
    wY_hitsBefore_36 post (zI_ p) (zI_ q) (nI n) f1 f2 f3 f4 C E S D A B (d + 1) (nI (gm_ct (fun c => gm_hq t n c && decide (t c * q ≤ p * tt)) i)) (nI i)
  | 0, i, hi => by
    have e : i = 14 := by omega
    subst e
    exact br_t (nI_le (a := 14) (b := 14) (by omega) (by omega)) h
  | d + 1, i, hi => by
    have ih := yw_hb36 hp hq T0 hs h d (i + 1) (by omega)
    have hv : vp_in (nI i) 14 := vp_in_nI (by omega) (by omega)
    refine br_f (nI_ge (a := i) (b := 14) (by omega) (by omega)) ⟨hv, yw_B hs (by omega) (fun c => nm_r (nI_1 i) ?_) (fun c => ⟨hv, hv, ?_⟩)⟩
    · rw [gm_ct_f (p := fun c => gm_hq t n c && decide (t c * q ≤ p * tt)) (by show (gm_hq t n i && _) = false; rw [c]; rfl)] at ih
      exact ih
    · obtain ⟨it, ib, b1, b2, b3, b4, b5, b6, b7⟩ := (hs i (by omega)).1 c
      have r1 := gm_mb (a := p) (k := ib) 1000 20 (by omega) (by omega) (by omega) (by omega) (by omega)
      have r2 := gm_mb (a := it) (k := q) 162 100 (by omega) (by omega) (by omega) (by omega) (by omega)
      have k := gm_fq (a := it) (b := ib) (p := p) (q := q) (by omega) T0 b7
      rw [nI_clamp (by omega), b1, b2]
      refine zb_lt (p * ib) (it * q) (fun c2 => nm_r (nI_1 i) ?_) (fun c2 => nm_r (nI_1 _) (nm_r (nI_1 i) ?_)) (zI_mul _ _) (zI_mul _ _) (by omega) (by omega)
      · rw [gm_ct_f (p := fun c => gm_hq t n c && decide (t c * q ≤ p * tt)) (by show (gm_hq t n i && decide (t i * q ≤ p * tt)) = false; rw [decide_eq_false (fun z => by have := k.mpr z; omega), Bool.and_false])] at ih
        exact ih
      · rw [gm_ct_t (p := fun c => gm_hq t n c && decide (t c * q ≤ p * tt)) (by show (gm_hq t n i && decide (t i * q ≤ p * tt)) = true; rw [c, decide_eq_true (k.mp c2)]; rfl)] at ih
        exact ih
theorem yw_cm17 {post : Int32 → Prop} {a y : Nat} (hy : 1 ≤ y ∧ y ≤ 20) (ha : a ≤ 162) (h : post (nI (Nat.gcd a y))) : ∀ d k g : Nat, k + d = y + 1 → 2 ≤ k → 1 ≤ g → g < k → g ∣ a → g ∣ y → (∀ j, 1 ≤ j → j < k → j ∣ a → j ∣ y → j ≤ g) →
    wY_common_17 post (nI y) (nI a) (nI n) f1 f2 f3 f4 C E S D A B (d + 1) (nI g) (nI k)
  | 0, k, g, hk, k2, g1, gk, ga, gy, hj => by
    have q : k = y + 1 := by omega
    subst q
    have e : g = Nat.gcd a y := gm_gcd (by omega) g1 ga gy (fun j j1 j2 j3 j4 => hj j j1 (by omega) j3 j4)
    rw [← e] at h
    exact br_t (nI_lt (by omega) (by omega)) h
  | d + 1, k, g, hk, k2, g1, gk, ga, gy, hj => by
    have hz : ¬ nI k = 0 := nI_ne0 (by omega) (by omega)
    have stp : ¬ (k ∣ a ∧ k ∣ y) → ∀ j, 1 ≤ j → j < k + 1 → j ∣ a → j ∣ y → j ≤ g := by
      intro c j j1 j2 j3 j4
      by_cases e : j = k
      · subst e; exact absurd ⟨j3, j4⟩ c
      · exact hj j j1 (by omega) j3 j4
    refine br_f (nI_nlt (by omega) (by omega)) ⟨hz, ?_⟩
    rw [pk_rem (by omega) (by omega) (by omega), pk_rem (by omega) (by omega) (by omega)]
    refine pk_eq (a % k) 0 (fun c => ⟨hz, pk_eq (y % k) 0 (fun c2 => nm_r (nI_1 k) ?_) (fun c2 => nm_r (nI_1 k) ?_) rfl rfl ?_ ?_⟩) (fun c => nm_r (nI_1 k) ?_) rfl rfl ?_ ?_
    · exact yw_cm17 hy ha h d (k + 1) k (by omega) (by omega) (by omega) (by omega) (Nat.dvd_of_mod_eq_zero c) (Nat.dvd_of_mod_eq_zero c2) (fun j _ j2 _ _ => by omega)
    · exact yw_cm17 hy ha h d (k + 1) g (by omega) (by omega) g1 (by omega) ga gy (stp (fun q => c2 (Nat.mod_eq_zero_of_dvd q.2)))
    · have := Nat.mod_lt y (show 0 < k by omega); omega
    · omega
    · exact yw_cm17 hy ha h d (k + 1) g (by omega) (by omega) g1 (by omega) ga gy (stp (fun q => c (Nat.mod_eq_zero_of_dvd q.1)))
    · have := Nat.mod_lt a (show 0 < k by omega); omega
    · omega
theorem yw_common {post : Int32 → Prop} {a y : Nat} (hy : 1 ≤ y ∧ y ≤ 20) (ha : a ≤ 162) (h : post (nI (Nat.gcd a y))) : wpY_common post (nI n, f1, f2, f3, f4, C, E, S, D, A, B) (nI a) (nI y) :=
  br_t (nI_pos' (by omega)) ⟨(y - 1) + 1, yw_cm17 hy ha h (y - 1) 2 1 (by omega) (by omega) (by omega) (by omega) (Nat.one_dvd a) (Nat.one_dvd y) (fun j _ j2 _ _ => by omega)⟩
end
