/-! the order of the hits: who is ahead, and the first -/
def gm_ah (t : Nat → Int) (b o : Nat) : Bool := decide (t o < t b) || (decide (t o = t b) && decide (o < b))
/-- the i-th of the order -/
def gm_pi (t : Nat → Int) (n : Nat) (i : Int32) (b : Nat) : Bool := decide (t b < 1000000) && decide (nI (gm_ct (gm_ah t b) n) = i)
def gm_hq (t : Nat → Int) (n b : Nat) : Bool := decide (b < n) && decide (t b < 1000000)
theorem gm_ah_n {t : Nat → Int} {n b : Nat} (hn : n ≤ 14) (hb : t b < 1000000) : gm_ct (fun c => gm_hq t n c && gm_ah t b c) 14 = gm_ct (gm_ah t b) n := by
  rw [gm_ct_x (p := fun c => gm_hq t n c && gm_ah t b c) (n := n) 14 hn (fun i h1 _ => by
    show (gm_hq t n i && gm_ah t b i) = false
    unfold gm_hq
    rw [decide_eq_false (by omega)]
    rfl)]
  refine gm_ct_c n (fun i hi => ?_)
  show (gm_hq t n i && gm_ah t b i) = gm_ah t b i
  by_cases h : t i < 1000000
  · unfold gm_hq
    rw [decide_eq_true hi, decide_eq_true h]
    rfl
  · have : gm_ah t b i = false := by
      unfold gm_ah
      rw [decide_eq_false (by omega), decide_eq_false (by omega)]
      rfl
    rw [this, Bool.and_false]
theorem gm_hits_n {t : Nat → Int} {n : Nat} (hn : n ≤ 14) (q : Nat → Bool) : gm_ct (fun c => gm_hq t n c && q c) 14 = gm_ct (fun c => decide (t c < 1000000) && q c) n := by
  rw [gm_ct_x (p := fun c => gm_hq t n c && q c) (n := n) 14 hn (fun i h1 _ => by
    show (gm_hq t n i && q i) = false
    unfold gm_hq
    rw [decide_eq_false (by omega)]
    rfl)]
  refine gm_ct_c n (fun i hi => ?_)
  show (gm_hq t n i && q i) = (decide (t i < 1000000) && q i)
  unfold gm_hq
  rw [decide_eq_true hi]
  rfl
/-- the search for the least has found the first of the order -/
def gm_best (t : Nat → Int) (i : Nat) (r : Int32) (e : Int) : Prop :=
  (r = -1 ∧ e = 1000000 ∧ ∀ j, j < i → 1000000 ≤ t j) ∨ (∃ b, b < i ∧ r = nI b ∧ e = t b ∧ t b < 1000000 ∧ (∀ j, j < i → t b ≤ t j) ∧ ∀ j, j < b → t b < t j)
theorem gm_best_0 (t : Nat → Int) : gm_best t 0 (-1) 1000000 := Or.inl ⟨rfl, rfl, fun j h => by omega⟩
theorem gm_best_t {t : Nat → Int} {i : Nat} {r : Int32} {e : Int} (h : gm_best t i r e) (hi : t i ≤ 1000000) (c : t i < e) : gm_best t (i + 1) (nI i) (t i) := by
  rcases h with ⟨_, he, h⟩ | ⟨b, hb, _, he, h1, h2, h3⟩
  · refine Or.inr ⟨i, by omega, rfl, rfl, by omega, fun j hj => ?_, fun j hj => ?_⟩
    · by_cases q : j = i
      · rw [q]; omega
      · have := h j (by omega)
        omega
    · have := h j (by omega)
      omega
  · refine Or.inr ⟨i, by omega, rfl, rfl, by omega, fun j hj => ?_, fun j hj => ?_⟩
    · by_cases q : j = i
      · rw [q]; omega
      · have := h2 j (by omega)
        omega
    · have := h2 j (by omega)
      omega
theorem gm_best_f {t : Nat → Int} {i : Nat} {r : Int32} {e : Int} (h : gm_best t i r e) (c : e ≤ t i) : gm_best t (i + 1) r e := by
  rcases h with ⟨hr, he, h⟩ | ⟨b, hb, hr, he, h1, h2, h3⟩
  · refine Or.inl ⟨hr, he, fun j hj => ?_⟩
    by_cases q : j = i
    · rw [q]; omega
    · exact h j (by omega)
  · refine Or.inr ⟨b, by omega, hr, he, h1, fun j hj => ?_, h3⟩
    by_cases q : j = i
    · rw [q]; omega
    · exact h2 j (by omega)
theorem gm_best_F {t : Nat → Int} {n : Nat} (hn : n ≤ 14) {r : Int32} {e : Int} (h : gm_best t n r e) : gm_F (gm_pi t n 0) n r := by
  rcases h with ⟨hr, he, h⟩ | ⟨b, hb, hr, he, h1, h2, h3⟩
  · refine Or.inr ⟨fun j hj => ?_, hr⟩
    have := h j hj
    unfold gm_pi
    rw [decide_eq_false (by omega)]
    rfl
  · refine Or.inl ⟨b, hb, ?_, fun j hj => ?_, hr⟩
    · have z : gm_ct (gm_ah t b) n = 0 := (gm_ct_0 n).mpr (fun j hj => by
        have g2 := h2 j hj
        unfold gm_ah
        by_cases q : j < b
        · have g3 := h3 j q
          rw [decide_eq_false (by omega), decide_eq_false (by omega)]
          rfl
        · rw [decide_eq_false (by omega), decide_eq_false q, Bool.and_false]
          rfl)
      unfold gm_pi
      rw [z, decide_eq_true h1, nI_0, decide_eq_true rfl]
      rfl
    · have g3 := h3 j hj
      unfold gm_pi
      have nz : ¬ nI (gm_ct (gm_ah t j) n) = 0 := by
        have hl := gm_ct_le (gm_ah t j) n
        refine nI_ne0 ?_ (by omega)
        rcases Nat.eq_zero_or_pos (gm_ct (gm_ah t j) n) with z | z
        · have := (gm_ct_0 n).mp z b hb
          unfold gm_ah at this
          rw [decide_eq_true g3] at this
          cases this
        · exact z
      rw [decide_eq_false nz, Bool.and_false]
/-- one answer of both searches -/
theorem gm_F_one {t : Nat → Int} {n : Nat} (hn : n ≤ 14) {i r r' : Int32} (h : gm_F (gm_pi t n i) n r) (h' : gm_F (fun b => decide (b < n) && gm_pi t n i b) 14 r') : r' = r := by
  refine gm_F_u (p := gm_pi t n i) (q := fun b => decide (b < n) && gm_pi t n i b) ?_ ?_ ?_ h h'
  · intro j h1 _
    show _ = (decide (j < n) && gm_pi t n i j)
    rw [decide_eq_true h1]
    rfl
  · intro j h1 _
    omega
  · intro j _ h1
    rcases Bool.and_eq_true_iff.mp h1 with ⟨h2, _⟩
    exact of_decide_eq_true h2
theorem gm_best_b {t : Nat → Int} (ht : ∀ b, 0 ≤ t b ∧ t b ≤ 1000000) {i : Nat} {r : Int32} {e : Int} (h : gm_best t i r e) : 0 ≤ e ∧ e ≤ 1000000 := by
  rcases h with ⟨_, he, _⟩ | ⟨b, _, _, he, _⟩
  · omega
  · have := ht b
    omega
theorem gm_ct_t {p : Nat → Bool} {i : Nat} (h : p i = true) : gm_ct p (i + 1) = gm_ct p i + 1 := if_pos h
theorem gm_ct_f {p : Nat → Bool} {i : Nat} (h : p i = false) : gm_ct p (i + 1) = gm_ct p i := if_neg (by rw [h]; decide)
theorem gm_mt_f {l h l' h' : Nat → Int} {i : Nat} (hb : h' i < l i ∨ h i < l' i) : ∀ m : Nat, i < m → gm_mt l h l' h' m = false
  | 0, hi => by omega
  | m + 1, hi => by
    unfold gm_mt
    by_cases e : i = m
    · subst e
      rcases hb with c | c
      · rw [decide_eq_true c]; simp
      · rw [decide_eq_true c]; simp
    · rw [gm_mt_f hb m (by omega)]
      rfl
theorem gm_mt_t {l h l' h' : Nat → Int} {i : Nat} (hm : gm_mt l h l' h' i = true) (h1 : l i ≤ h' i) (h2 : l' i ≤ h i) : gm_mt l h l' h' (i + 1) = true := by
  unfold gm_mt
  rw [hm, decide_eq_false (by omega), decide_eq_false (by omega)]
  rfl
def gm_spn (C E : Nat → Int32) (b ax : Nat) (v : Int) : Bool := decide (gm_lo C b ax ≤ v ∧ v ≤ gm_hi C E b ax)
def gm_arn (C E : Nat → Int32) (x y z : Int) (b : Nat) : Bool := gm_spn C E b 0 x && (gm_spn C E b 1 y && gm_spn C E b 2 z)
def gm_sq (C E : Nat → Int32) (x y z : Int) (b : Nat) : Int :=
  gm_gap (gm_lo C b 0) (gm_hi C E b 0) x * gm_gap (gm_lo C b 0) (gm_hi C E b 0) x + gm_gap (gm_lo C b 1) (gm_hi C E b 1) y * gm_gap (gm_lo C b 1) (gm_hi C E b 1) y + gm_gap (gm_lo C b 2) (gm_hi C E b 2) z * gm_gap (gm_lo C b 2) (gm_hi C E b 2) z
theorem gm_gap_b {lo hi v : Int} (hl : 0 ≤ lo ∧ lo ≤ 31) (hh : lo ≤ hi ∧ hi ≤ 62) (hv : -100 ≤ v ∧ v ≤ 100) : 0 ≤ gm_gap lo hi v ∧ gm_gap lo hi v ≤ 162 := by
  unfold gm_gap
  split
  · omega
  · split <;> omega
theorem gm_gap_s {lo hi v : Int} (hl : 0 ≤ lo ∧ lo ≤ 31) (hh : lo ≤ hi ∧ hi ≤ 62) (hv : -100 ≤ v ∧ v ≤ 100) : 0 ≤ gm_gap lo hi v * gm_gap lo hi v ∧ gm_gap lo hi v * gm_gap lo hi v ≤ 26244 := by
  have h := gm_gap_b hl hh hv
  have h1 := gm_mb (a := gm_gap lo hi v) (k := gm_gap lo hi v) 162 162 (by omega) (by omega) (by omega) (by omega) (by omega)
  have h2 := Int.mul_nonneg h.1 h.1
  omega
theorem gm_sq_b {C E : Nat → Int32} (hC : gm_pk C) (hE : gm_pk E) {x y z : Int} (hx : -100 ≤ x ∧ x ≤ 100) (hy : -100 ≤ y ∧ y ≤ 100) (hz : -100 ≤ z ∧ z ≤ 100) (b : Nat) : 0 ≤ gm_sq C E x y z b ∧ gm_sq C E x y z b ≤ 78732 := by
  have h0 := gm_gap_s (gm_lo_b hC b 0) (gm_hi_b hC hE b 0) hx
  have h1 := gm_gap_s (gm_lo_b hC b 1) (gm_hi_b hC hE b 1) hy
  have h2 := gm_gap_s (gm_lo_b hC b 2) (gm_hi_b hC hE b 2) hz
  unfold gm_sq
  omega
