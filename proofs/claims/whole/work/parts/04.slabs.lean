/-! the reference's fractions against the ticks, axis by axis -/
theorem gm_la_0 (e : Nat → Int) : ∀ m, 0 ≤ gm_la e m
  | 0 => by unfold gm_la; omega
  | m + 1 => by
    have ih := gm_la_0 e m
    unfold gm_la
    split <;> omega
theorem gm_ea_M (l : Nat → Int) : ∀ m, gm_ea l m ≤ 1000000
  | 0 => by unfold gm_ea; omega
  | m + 1 => by
    have ih := gm_ea_M l m
    unfold gm_ea
    split <;> omega
def gm_Ji (e : Nat → Int) (T : Int) (i : Nat) (it ib : Int) : Prop := 0 ≤ it ∧ it ≤ 162 ∧ 1 ≤ ib ∧ ib ≤ 20 ∧ it * T = gm_la e i * ib ∧ gm_la e i ≤ 64800
def gm_Jo (D : Nat → Int32) (l : Nat → Int) (T : Int) (i : Nat) (ot ob : Int) : Prop := 1 ≤ ob ∧ ob ≤ 20 ∧
  ((ot = 1000000 ∧ ob = 1 ∧ gm_ea l i = 1000000 ∧ ∀ ax, ax < i → (D ax).toInt = 0) ∨ (-162 ≤ ot ∧ ot ≤ 162 ∧ ot * T = gm_ea l i * ob ∧ gm_ea l i ≤ 64800))
theorem gm_Ji_0 (e : Nat → Int) (T : Int) : gm_Ji e T 0 0 1 := by
  refine ⟨by omega, by omega, by omega, by omega, ?_, by unfold gm_la; omega⟩
  unfold gm_la
  omega
theorem gm_Jo_0 (D : Nat → Int32) (l : Nat → Int) (T : Int) : gm_Jo D l T 0 1000000 1 :=
  ⟨by omega, by omega, Or.inl ⟨rfl, rfl, rfl, fun ax h => by omega⟩⟩
theorem gm_Ji_z {e : Nat → Int} {T : Int} {i : Nat} {it ib : Int} (h : gm_Ji e T i it ib) (z : e i = 0) : gm_Ji e T (i + 1) it ib := by
  have h0 := gm_la_0 e i
  have h1 : gm_la e (i + 1) = gm_la e i := if_neg (by omega)
  unfold gm_Ji at h ⊢
  rw [h1]
  exact h
theorem gm_Jo_z {D : Nat → Int32} {l : Nat → Int} {T : Int} {i : Nat} {ot ob : Int} (h : gm_Jo D l T i ot ob) (z : l i = 1000000) (d0 : (D i).toInt = 0) : gm_Jo D l T (i + 1) ot ob := by
  have h0 := gm_ea_M l i
  have h1 : gm_ea l (i + 1) = gm_ea l i := if_neg (by omega)
  obtain ⟨a, b, c⟩ := h
  unfold gm_Jo
  rw [h1]
  refine ⟨a, b, ?_⟩
  rcases c with ⟨c1, c2, c3, c4⟩ | c
  · refine Or.inl ⟨c1, c2, c3, fun ax hx => ?_⟩
    by_cases e : ax = i
    · rw [e]; exact d0
    · exact c4 ax (by omega)
  · exact Or.inr c
theorem gm_mk {n k d T : Int} (hT : T = k * d) : n * T = n * k * d := by rw [hT, Int.mul_assoc]
theorem gm_Ji_t {e : Nat → Int} {T : Int} {i : Nat} {it ib n k d : Int} (h : gm_Ji e T i it ib) (hT : T = k * d) (T0 : 0 < T) (hd : 1 ≤ d ∧ d ≤ 20) (hk : 1 ≤ k ∧ k ≤ 400) (hn : n ≤ 162) (en : e i = n * k) (c : it * d < n * ib) : gm_Ji e T (i + 1) n d := by
  obtain ⟨a1, a2, a3, a4, a5, a6⟩ := h
  have q := (gm_fr (a := it) (b := ib) (p := n) (q := d) (by omega) (by omega) T0 a5 (gm_mk hT)).mp c
  have h1 : gm_la e (i + 1) = n * k := by
    show (if gm_la e i < e i then e i else gm_la e i) = _
    rw [en, if_pos q]
  have h0 := gm_la_0 e i
  have n0 : 0 < n := by
    rcases Int.lt_or_le 0 n with h | h
    · exact h
    · have := Int.mul_le_mul_of_nonneg_right h (show 0 ≤ k by omega)
      rw [Int.zero_mul] at this
      omega
  have hb := gm_mb (a := n) (k := k) 162 400 (by omega) (by omega) (by omega) (by omega) (by omega)
  unfold gm_Ji
  rw [h1]
  exact ⟨by omega, by omega, by omega, by omega, gm_mk hT, by omega⟩
theorem gm_Ji_f {e : Nat → Int} {T : Int} {i : Nat} {it ib n k d : Int} (h : gm_Ji e T i it ib) (hT : T = k * d) (T0 : 0 < T) (hd : 1 ≤ d ∧ d ≤ 20) (en : e i = n * k) (c : n * ib ≤ it * d) : gm_Ji e T (i + 1) it ib := by
  obtain ⟨a1, a2, a3, a4, a5, a6⟩ := h
  have q := gm_fr (a := it) (b := ib) (p := n) (q := d) (by omega) (by omega) T0 a5 (gm_mk hT)
  have h1 : gm_la e (i + 1) = gm_la e i := by
    show (if gm_la e i < e i then e i else gm_la e i) = _
    rw [en, if_neg (by omega)]
  unfold gm_Ji
  rw [h1]
  exact ⟨a1, a2, a3, a4, a5, a6⟩
theorem gm_Jo_t {D : Nat → Int32} {l : Nat → Int} {T : Int} {i : Nat} {ot ob n k d : Int} (h : gm_Jo D l T i ot ob) (hT : T = k * d) (T0 : 0 < T) (hd : 1 ≤ d ∧ d ≤ 20) (hk : 1 ≤ k ∧ k ≤ 400) (hn : -162 ≤ n ∧ n ≤ 162) (en : l i = n * k) (c : n * ob < ot * d) : gm_Jo D l T (i + 1) n d := by
  obtain ⟨a, b, c1⟩ := h
  have hb := gm_mb (a := n) (k := k) 162 400 (by omega) (by omega) (by omega) (by omega) (by omega)
  have h1 : gm_ea l (i + 1) = n * k := by
    show (if l i < gm_ea l i then l i else gm_ea l i) = _
    rw [en]
    refine if_pos ?_
    rcases c1 with ⟨c1, c2, c3, c4⟩ | ⟨c1, c2, c3, c4⟩
    · omega
    · exact (gm_fr (a := n) (b := d) (p := ot) (q := ob) (by omega) (by omega) T0 (gm_mk hT) c3).mp c
  unfold gm_Jo
  rw [h1]
  exact ⟨by omega, by omega, Or.inr ⟨by omega, by omega, gm_mk hT, by omega⟩⟩
theorem gm_Jo_f {D : Nat → Int32} {l : Nat → Int} {T : Int} {i : Nat} {ot ob n k d : Int} (h : gm_Jo D l T i ot ob) (hT : T = k * d) (T0 : 0 < T) (hd : 1 ≤ d ∧ d ≤ 20) (hk : 1 ≤ k ∧ k ≤ 400) (hn : -162 ≤ n ∧ n ≤ 162) (en : l i = n * k) (c : ot * d ≤ n * ob) : gm_Jo D l T (i + 1) ot ob := by
  obtain ⟨a, b, c1⟩ := h
  rcases c1 with ⟨c1, c2, c3, c4⟩ | ⟨c1, c2, c3, c4⟩
  · subst c1 c2
    omega
  · have q := gm_fr (a := n) (b := d) (p := ot) (q := ob) (by omega) (by omega) T0 (gm_mk hT) c3
    have h1 : gm_ea l (i + 1) = gm_ea l i := by
      show (if l i < gm_ea l i then l i else gm_ea l i) = _
      rw [en, if_neg (by omega)]
    unfold gm_Jo
    rw [h1]
    exact ⟨a, b, Or.inr ⟨c1, c2, c3, c4⟩⟩
/-- what the reference holds of a box that is hit at tick t and left at tick x -/
def gm_ok (t x T it ib ot ob : Int) : Prop := 0 ≤ t ∧ t ≤ 64800 ∧ 0 ≤ x ∧ x ≤ 64800 ∧ 0 ≤ it ∧ it ≤ 162 ∧ 1 ≤ ib ∧ ib ≤ 20 ∧ it * T = t * ib ∧ 0 ≤ ot ∧ ot ≤ 162 ∧ 1 ≤ ob ∧ ob ≤ 20 ∧ ot * T = x * ob
theorem gm_end {D : Nat → Int32} {e l : Nat → Int} {T it ib ot ob : Int} (T0 : 0 < T) (hD : ∃ ax, ax < 3 ∧ (D ax).toInt ≠ 0) (h : gm_Ji e T 3 it ib) (h' : gm_Jo D l T 3 ot ob) :
    (it * ob ≤ ot * ib → gm_la e 3 ≤ gm_ea l 3 ∧ gm_ok (gm_la e 3) (gm_ea l 3) T it ib ot ob) ∧ (ot * ib < it * ob → gm_ea l 3 < gm_la e 3) := by
  obtain ⟨a1, a2, a3, a4, a5, a6⟩ := h
  obtain ⟨b1, b2, b3⟩ := h'
  rcases b3 with ⟨_, _, _, c4⟩ | ⟨c1, c2, c3, c4⟩
  · obtain ⟨ax, hx, hn⟩ := hD
    exact absurd (c4 ax hx) hn
  · have q := gm_fle (a := it) (b := ib) (p := ot) (q := ob) (by omega) (by omega) T0 a5 c3
    have h0 := gm_la_0 e 3
    constructor
    · intro c
      have hle := q.mp c
      have o0 : 0 ≤ ot := by
        rcases Int.lt_or_le ot 0 with g | g
        · have h1 : ot * T < 0 := Int.mul_neg_of_neg_of_pos g T0
          have h2 : 0 ≤ gm_ea l 3 * ob := Int.mul_nonneg (by omega) (by omega)
          omega
        · exact g
      exact ⟨hle, by omega, by omega, by omega, by omega, a1, a2, a3, a4, a5, o0, c2, b1, b2, c3⟩
    · intro c
      omega
section
variable {S D K C E : Nat → Int32} {T : Int32}
theorem gm_E_b (hr : gm_ray S D K T) (hC : gm_pk C) (hE : gm_pk E) (b : Nat) {ax : Nat} (h : ax < 3) : -64800 ≤ gm_E S D K C E b ax ∧ (gm_E S D K C E b ax ≤ 64800 ∨ gm_E S D K C E b ax = 1000000) :=
  gm_ent_b (hr.1 ax h) (hr.2.2.2.1 ax h).2 (gm_lo_b hC b ax) (gm_hi_b hC hE b ax)
theorem gm_X_b (hr : gm_ray S D K T) (hC : gm_pk C) (hE : gm_pk E) (b : Nat) {ax : Nat} (h : ax < 3) : -64800 ≤ gm_X S D K C E b ax ∧ (gm_X S D K C E b ax ≤ 64800 ∨ gm_X S D K C E b ax = 1000000) :=
  gm_ext_b (hr.1 ax h) (hr.2.2.2.1 ax h).2 (gm_lo_b hC b ax) (gm_hi_b hC hE b ax)
theorem gm_t_b (hr : gm_ray S D K T) (hC : gm_pk C) (hE : gm_pk E) (b : Nat) : 0 ≤ gm_t S D K C E b ∧ gm_t S D K C E b ≤ 1000000 := by
  have h1 := gm_la_b (e := gm_E S D K C E b) 3 (fun i hi => by have := gm_E_b hr hC hE b hi; omega)
  unfold gm_t
  split <;> omega
theorem gm_x_b (hr : gm_ray S D K T) (hC : gm_pk C) (hE : gm_pk E) (b : Nat) : -64800 ≤ gm_x S D K C E b ∧ gm_x S D K C E b ≤ 1000000 :=
  gm_ea_b 3 (fun i hi => (gm_X_b hr hC hE b hi).1)
theorem gm_t_never (hr : gm_ray S D K T) (hC : gm_pk C) (hE : gm_pk E) {b i : Nat} (hi : i < 3) (z : gm_E S D K C E b i = 1000000) : gm_t S D K C E b = 1000000 := by
  have h1 := gm_la_b (e := gm_E S D K C E b) 3 (fun i hi => by have := gm_E_b hr hC hE b hi; omega)
  have h2 := gm_la_ge (e := gm_E S D K C E b) 3 hi
  unfold gm_t
  split <;> omega
end
