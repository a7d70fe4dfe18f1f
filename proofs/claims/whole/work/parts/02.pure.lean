/-! the pure picture: parts of packed triples, slabs, ticks; fractions against ticks; greatest common divisors; counts and first places -/
def gm_P (t : Int) (ax : Nat) : Int := if ax = 0 then t / 1024 else if ax = 1 then t / 32 % 32 else t % 32
theorem gm_P_b {t : Int} (h : 0 ≤ t ∧ t ≤ 32767) (ax : Nat) : 0 ≤ gm_P t ax ∧ gm_P t ax ≤ 31 := by
  unfold gm_P
  split
  · omega
  · split <;> omega
def gm_pk (C : Nat → Int32) : Prop := ∀ j, 0 ≤ (C j).toInt ∧ (C j).toInt ≤ 32767
def gm_lo (C : Nat → Int32) (b ax : Nat) : Int := gm_P (C b).toInt ax
def gm_hi (C E : Nat → Int32) (b ax : Nat) : Int := gm_P (C b).toInt ax + gm_P (E b).toInt ax
theorem gm_lo_b {C : Nat → Int32} (h : gm_pk C) (b ax : Nat) : 0 ≤ gm_lo C b ax ∧ gm_lo C b ax ≤ 31 := gm_P_b (h b) ax
theorem gm_hi_b {C E : Nat → Int32} (h : gm_pk C) (h' : gm_pk E) (b ax : Nat) : gm_lo C b ax ≤ gm_hi C E b ax ∧ gm_hi C E b ax ≤ 62 := by
  have h1 := gm_P_b (h b) ax
  have h2 := gm_P_b (h' b) ax
  unfold gm_hi gm_lo
  omega
theorem gm_pk0 : gm_pk (fun _ => 0) := fun _ => (by decide : 0 ≤ (0 : Int32).toInt ∧ (0 : Int32).toInt ≤ 32767)
theorem gm_pku {C : Nat → Int32} (h : gm_pk C) (k : Nat) {x : Int32} (hx : 0 ≤ x.toInt ∧ x.toInt ≤ 32767) : gm_pk (upd C k x) := by
  intro j
  unfold upd
  split
  · exact hx
  · exact h j
def gm_ent (s d k lo hi : Int) : Int := if 0 < d then (lo - s) * k else if d < 0 then (s - hi) * k else if lo ≤ s ∧ s ≤ hi then 0 else 1000000
def gm_ext (s d k lo hi : Int) : Int := if 0 < d then (hi - s) * k else if d < 0 then (s - lo) * k else 1000000
def gm_la (e : Nat → Int) : Nat → Int
  | 0 => 0
  | i + 1 => if gm_la e i < e i then e i else gm_la e i
def gm_ea (l : Nat → Int) : Nat → Int
  | 0 => 1000000
  | i + 1 => if l i < gm_ea l i then l i else gm_ea l i
def gm_E (S D K C E : Nat → Int32) (b ax : Nat) : Int := gm_ent (S ax).toInt (D ax).toInt (K ax).toInt (gm_lo C b ax) (gm_hi C E b ax)
def gm_X (S D K C E : Nat → Int32) (b ax : Nat) : Int := gm_ext (S ax).toInt (D ax).toInt (K ax).toInt (gm_lo C b ax) (gm_hi C E b ax)
/-- the entry's tick, or 1000000; the exit's -/
def gm_t (S D K C E : Nat → Int32) (b : Nat) : Int := if gm_la (gm_E S D K C E b) 3 ≤ gm_ea (gm_X S D K C E b) 3 then gm_la (gm_E S D K C E b) 3 else 1000000
def gm_x (S D K C E : Nat → Int32) (b : Nat) : Int := gm_ea (gm_X S D K C E b) 3
def gm_sp (d : Int) : Int := if d = 0 then 1 else if d < 0 then -d else d
def gm_ray (S D K : Nat → Int32) (T : Int32) : Prop :=
  (∀ ax, ax < 3 → -100 ≤ (S ax).toInt ∧ (S ax).toInt ≤ 100) ∧ (∀ ax, ax < 3 → -20 ≤ (D ax).toInt ∧ (D ax).toInt ≤ 20) ∧
  (∃ ax, ax < 3 ∧ (D ax).toInt ≠ 0) ∧ (∀ ax, ax < 3 → T.toInt = (K ax).toInt * gm_sp (D ax).toInt ∧ 1 ≤ (K ax).toInt ∧ (K ax).toInt ≤ 400) ∧ 1 ≤ T.toInt ∧ T.toInt ≤ 8000
theorem gm_mb {a k : Int} (A B : Int) (h1 : -A ≤ a) (h2 : a ≤ A) (k0 : 0 ≤ k) (kB : k ≤ B) (A0 : 0 ≤ A) : -(A * B) ≤ a * k ∧ a * k ≤ A * B := by
  have e1 : a * k ≤ A * k := Int.mul_le_mul_of_nonneg_right h2 k0
  have e2 : -A * k ≤ a * k := Int.mul_le_mul_of_nonneg_right h1 k0
  have e3 : A * k ≤ A * B := Int.mul_le_mul_of_nonneg_left kB A0
  have e4 : -A * k = -(A * k) := Int.neg_mul A k
  omega
/-- the slabs' ticks are small, but for 1000000 -/
theorem gm_ent_b {s d k lo hi : Int} (hs : -100 ≤ s ∧ s ≤ 100) (hk : 1 ≤ k ∧ k ≤ 400) (hl : 0 ≤ lo ∧ lo ≤ 31) (hh : lo ≤ hi ∧ hi ≤ 62) :
    -64800 ≤ gm_ent s d k lo hi ∧ (gm_ent s d k lo hi ≤ 64800 ∨ gm_ent s d k lo hi = 1000000) := by
  have h1 := gm_mb (a := lo - s) (k := k) 162 400 (by omega) (by omega) (by omega) (by omega) (by omega)
  have h2 := gm_mb (a := s - hi) (k := k) 162 400 (by omega) (by omega) (by omega) (by omega) (by omega)
  unfold gm_ent
  split
  · omega
  · split
    · omega
    · split <;> omega
theorem gm_ext_b {s d k lo hi : Int} (hs : -100 ≤ s ∧ s ≤ 100) (hk : 1 ≤ k ∧ k ≤ 400) (hl : 0 ≤ lo ∧ lo ≤ 31) (hh : lo ≤ hi ∧ hi ≤ 62) :
    -64800 ≤ gm_ext s d k lo hi ∧ (gm_ext s d k lo hi ≤ 64800 ∨ gm_ext s d k lo hi = 1000000) := by
  have h1 := gm_mb (a := hi - s) (k := k) 162 400 (by omega) (by omega) (by omega) (by omega) (by omega)
  have h2 := gm_mb (a := s - lo) (k := k) 162 400 (by omega) (by omega) (by omega) (by omega) (by omega)
  unfold gm_ext
  split
  · omega
  · split <;> omega
theorem gm_la_b {e : Nat → Int} : ∀ m : Nat, (∀ i, i < m → e i ≤ 1000000) → 0 ≤ gm_la e m ∧ gm_la e m ≤ 1000000
  | 0, _ => by unfold gm_la; omega
  | m + 1, h => by
    have ih := gm_la_b (e := e) m (fun i hi => h i (by omega))
    have h1 := h m (by omega)
    unfold gm_la
    split <;> omega
theorem gm_la_ge {e : Nat → Int} {i : Nat} : ∀ m : Nat, i < m → e i ≤ gm_la e m
  | 0, h => by omega
  | m + 1, h => by
    have ih := fun h' => gm_la_ge (e := e) (i := i) m h'
    unfold gm_la
    by_cases hi : i = m
    · subst hi; split <;> omega
    · have := ih (by omega)
      split <;> omega
theorem gm_ea_b {l : Nat → Int} : ∀ m : Nat, (∀ i, i < m → -64800 ≤ l i) → -64800 ≤ gm_ea l m ∧ gm_ea l m ≤ 1000000
  | 0, _ => by unfold gm_ea; omega
  | m + 1, h => by
    have ih := gm_ea_b (l := l) m (fun i hi => h i (by omega))
    have h1 := h m (by omega)
    unfold gm_ea
    split <;> omega
/-- a fraction a / b = x / T against another, p / q = y / T -/
theorem gm_fr {a b p q x y T : Int} (hb : 0 < b) (hq : 0 < q) (hT : 0 < T) (h1 : a * T = x * b) (h2 : p * T = y * q) : a * q < p * b ↔ x < y := by
  have hbq : 0 < b * q := Int.mul_pos hb hq
  have e1 : a * q * T = x * (b * q) := by
    rw [Int.mul_right_comm, h1, Int.mul_assoc]
  have e2 : p * b * T = y * (b * q) := by
    rw [Int.mul_right_comm, h2, Int.mul_right_comm, Int.mul_assoc]
  rw [← Int.mul_lt_mul_right hT, e1, e2, Int.mul_lt_mul_right hbq]
theorem gm_fle {a b p q x y T : Int} (hb : 0 < b) (hq : 0 < q) (hT : 0 < T) (h1 : a * T = x * b) (h2 : p * T = y * q) : a * q ≤ p * b ↔ x ≤ y := by
  have h := gm_fr hq hb hT h2 h1
  omega
theorem gm_feq {a b p q x y T : Int} (hb : 0 < b) (hq : 0 < q) (hT : 0 < T) (h1 : a * T = x * b) (h2 : p * T = y * q) : a * q = p * b ↔ x = y := by
  have h := gm_fr hq hb hT h2 h1
  have h' := gm_fr hb hq hT h1 h2
  omega
theorem gm_fq {a b p q x T : Int} (hb : 0 < b) (hT : 0 < T) (h1 : a * T = x * b) : a * q ≤ p * b ↔ x * q ≤ p * T := by
  have e1 : a * q * T = x * q * b := by
    rw [Int.mul_right_comm, h1, Int.mul_right_comm]
  have e2 : p * b * T = p * T * b := Int.mul_right_comm _ _ _
  rw [← Int.mul_le_mul_right hT, e1, e2, Int.mul_le_mul_right hb]
/-- lowest terms are one -/
theorem gm_low {t T a b : Nat} (hT : 0 < T) (hb : 0 < b) (h : a * T = t * b) : t / Nat.gcd t T = a / Nat.gcd a b ∧ T / Nat.gcd t T = b / Nat.gcd a b := by
  have e : Nat.gcd a b * T = Nat.gcd t T * b := by
    rw [← Nat.gcd_mul_right a T b, ← Nat.gcd_mul_right t b T, h, Nat.mul_comm b T]
  have hg : 0 < Nat.gcd t T := Nat.gcd_pos_of_pos_right t hT
  have hk : 0 < Nat.gcd a b := Nat.gcd_pos_of_pos_right a hb
  obtain ⟨t', ht⟩ := Nat.gcd_dvd_left t T
  obtain ⟨T', hT'⟩ := Nat.gcd_dvd_right t T
  obtain ⟨a', ha⟩ := Nat.gcd_dvd_left a b
  obtain ⟨b', hb'⟩ := Nat.gcd_dvd_right a b
  generalize Nat.gcd t T = g at *
  generalize Nat.gcd a b = k at *
  subst ht hT' ha hb'
  have e1 : T' = b' := by
    have : (g * k) * T' = (g * k) * b' := by
      rw [Nat.mul_assoc, Nat.mul_assoc, Nat.mul_left_comm]; exact e
    exact Nat.eq_of_mul_eq_mul_left (Nat.mul_pos hg hk) this
  subst e1
  have hT0 : 0 < T' := Nat.pos_of_mul_pos_left hT
  have e2 : a' = t' := by
    have : (g * k * T') * a' = (g * k * T') * t' := by
      calc (g * k * T') * a' = k * a' * (g * T') := by ac_rfl
        _ = g * t' * (k * T') := h
        _ = (g * k * T') * t' := by ac_rfl
    exact Nat.eq_of_mul_eq_mul_left (Nat.mul_pos (Nat.mul_pos hg hk) hT0) this
  subst e2
  rw [Nat.mul_div_cancel_left _ hg, Nat.mul_div_cancel_left _ hk, Nat.mul_div_cancel_left _ hg, Nat.mul_div_cancel_left _ hk]
  exact ⟨rfl, rfl⟩
/-- the greatest of the common divisors is the gcd -/
theorem gm_gcd {x y g : Nat} (hy : 0 < y) (g1 : 1 ≤ g) (h1 : g ∣ x) (h2 : g ∣ y) (h3 : ∀ k, 1 ≤ k → k ≤ y → k ∣ x → k ∣ y → k ≤ g) : g = Nat.gcd x y := by
  have hg : 0 < Nat.gcd x y := Nat.gcd_pos_of_pos_right x hy
  have a := h3 (Nat.gcd x y) hg (Nat.le_of_dvd hy (Nat.gcd_dvd_right x y)) (Nat.gcd_dvd_left x y) (Nat.gcd_dvd_right x y)
  have b := Nat.le_of_dvd hg (Nat.dvd_gcd h1 h2)
  omega
/-- how many i < m have p -/
def gm_ct (p : Nat → Bool) : Nat → Nat
  | 0 => 0
  | i + 1 => if p i = true then gm_ct p i + 1 else gm_ct p i
theorem gm_ct_le (p : Nat → Bool) : ∀ m, gm_ct p m ≤ m
  | 0 => Nat.le_refl _
  | m + 1 => by
    have := gm_ct_le p m
    unfold gm_ct
    split <;> omega
theorem gm_ct_c {p q : Nat → Bool} : ∀ m : Nat, (∀ i, i < m → p i = q i) → gm_ct p m = gm_ct q m
  | 0, _ => rfl
  | m + 1, h => by
    unfold gm_ct
    rw [h m (by omega), gm_ct_c m (fun i hi => h i (by omega))]
theorem gm_ct_x {p : Nat → Bool} {n : Nat} : ∀ m : Nat, n ≤ m → (∀ i, n ≤ i → i < m → p i = false) → gm_ct p m = gm_ct p n
  | 0, h, _ => by have : n = 0 := by omega
                  subst this; rfl
  | m + 1, h, hp => by
    by_cases e : n = m + 1
    · subst e; rfl
    · have ih := gm_ct_x (p := p) (n := n) m (by omega) (fun i h1 h2 => hp i h1 (by omega))
      show (if p m = true then gm_ct p m + 1 else gm_ct p m) = _
      rw [hp m (by omega) (by omega), ih]
      rfl
theorem gm_ct_0 {p : Nat → Bool} : ∀ m : Nat, gm_ct p m = 0 ↔ ∀ i, i < m → p i = false
  | 0 => ⟨fun _ i hi => by omega, fun _ => rfl⟩
  | m + 1 => by
    have ih := gm_ct_0 (p := p) m
    show (if p m = true then gm_ct p m + 1 else gm_ct p m) = 0 ↔ _
    constructor
    · intro h i hi
      by_cases c : p m = true
      · rw [if_pos c] at h; omega
      · rw [if_neg c] at h
        by_cases e : i = m
        · subst e; exact Bool.eq_false_iff.mpr c
        · exact ih.mp h i (by omega)
    · intro h
      rw [if_neg (by rw [h m (by omega)]; decide)]
      exact ih.mpr (fun i hi => h i (by omega))
/-- r is the first i < m that has p, or -1 -/
def gm_F (p : Nat → Bool) (m : Nat) (r : Int32) : Prop := (∃ b, b < m ∧ p b = true ∧ (∀ j, j < b → p j = false) ∧ r = nI b) ∨ ((∀ j, j < m → p j = false) ∧ r = -1)
theorem gm_F_u {p q : Nat → Bool} {m n : Nat} {r r' : Int32} (hc : ∀ i, i < m → i < n → p i = q i) (hp : ∀ i, i < m → p i = true → i < n) (hq : ∀ i, i < n → q i = true → i < m) (h : gm_F p m r) (h' : gm_F q n r') : r' = r := by
  rcases h with ⟨b, hb, pb, mb, rfl⟩ | ⟨h, rfl⟩ <;> rcases h' with ⟨b', hb', pb', mb', rfl⟩ | ⟨h', rfl⟩
  · have h1 := hp b hb pb
    have h2 := hq b' hb' pb'
    rcases Nat.lt_trichotomy b b' with l | e | g
    · have := mb' b l
      rw [← hc b hb h1, pb] at this
      cases this
    · rw [e]
    · have := mb b' g
      rw [hc b' h2 hb', pb'] at this
      cases this
  · have h1 := hp b hb pb
    have := h' b h1
    rw [← hc b hb h1, pb] at this
    cases this
  · have h2 := hq b' hb' pb'
    have := h b' h2
    rw [hc b' h2 hb', pb'] at this
    cases this
  · rfl
