section
/-! ints as Int32: zI_ a is the Int32 of a; a ring map; within the range order and equality are those of Int -/
def zI_ (a : Int) : Int32 := Int32.ofInt a
theorem zI_add (a b : Int) : zI_ a + zI_ b = zI_ (a + b) := (Int32.ofInt_add a b).symm
theorem zI_sub (a b : Int) : zI_ a - zI_ b = zI_ (a - b) := (Int32.ofInt_sub a b).symm
theorem zI_mul (a b : Int) : zI_ a * zI_ b = zI_ (a * b) := (Int32.ofInt_mul a b).symm
theorem zI_neg (a : Int) : -zI_ a = zI_ (-a) := (Int32.ofInt_neg a).symm
theorem zI_t {a : Int} (h : -2147483648 ≤ a) (h' : a < 2147483648) : (zI_ a).toInt = a := Int32.toInt_ofInt_of_le h h'
theorem zI_of (x : Int32) : x = zI_ x.toInt := (Int32.ofInt_toInt x).symm
theorem zI_n (n : Nat) : nI n = zI_ (n : Int) := (Int32.ofInt_eq_ofNat).symm
theorem zI_le {a b : Int} (ha : -2147483648 ≤ a ∧ a < 2147483648) (hb : -2147483648 ≤ b ∧ b < 2147483648) : zI_ a ≤ zI_ b ↔ a ≤ b := by
  rw [Int32.le_iff_toInt_le, zI_t ha.1 ha.2, zI_t hb.1 hb.2]
theorem zI_lt {a b : Int} (ha : -2147483648 ≤ a ∧ a < 2147483648) (hb : -2147483648 ≤ b ∧ b < 2147483648) : zI_ a < zI_ b ↔ a < b := by
  rw [Int32.lt_iff_toInt_lt, zI_t ha.1 ha.2, zI_t hb.1 hb.2]
theorem zI_eq {a b : Int} (ha : -2147483648 ≤ a ∧ a < 2147483648) (hb : -2147483648 ≤ b ∧ b < 2147483648) : zI_ a = zI_ b ↔ a = b := by
  rw [← Int32.toInt_inj, zI_t ha.1 ha.2, zI_t hb.1 hb.2]
theorem zI_div {a b : Int} (ha : 0 ≤ a ∧ a < 2147483648) (hb : 0 < b ∧ b < 2147483648) : zI_ a / zI_ b = zI_ (a / b) := by
  have h1 : a / b ≤ a := Int.ediv_le_self b ha.1
  have h2 : 0 ≤ a / b := Int.ediv_nonneg ha.1 (by omega)
  apply Int32.toInt_inj.mp
  rw [lg_idiv_nonneg (by rw [zI_t (by omega) ha.2]; exact ha.1) (by rw [zI_t (by omega) hb.2]; exact hb.1), zI_t (by omega) ha.2, zI_t (by omega) hb.2, zI_t (by omega) (by omega)]
theorem zI_rem {a b : Int} (ha : 0 ≤ a ∧ a < 2147483648) (hb : 0 < b ∧ b < 2147483648) : zI_ a - zI_ a / zI_ b * zI_ b = zI_ (a % b) := by
  rw [zI_div ha hb, zI_mul, zI_sub]
  congr 1
  rw [Int.emod_def, Int.mul_comm]
theorem zI_rng (x : Int32) : -2147483648 ≤ x.toInt ∧ x.toInt < 2147483648 := ⟨Int32.le_toInt x, Int32.toInt_lt x⟩
/-- a branch by ints -/
theorem zb_le {x y : Int32} {A B : Prop} (a b : Int) (f : a ≤ b → A) (g : b < a → B) (hx : x = zI_ a := by rfl) (hy : y = zI_ b := by rfl) (ha : -2147483648 ≤ a ∧ a < 2147483648 := by omega) (hb : -2147483648 ≤ b ∧ b < 2147483648 := by omega) : (x ≤ y → A) ∧ (¬ x ≤ y → B) := by
  subst hx hy
  rw [zI_le ha hb]
  exact ⟨f, fun z => g (by omega)⟩
theorem zb_lt {x y : Int32} {A B : Prop} (a b : Int) (f : a < b → A) (g : b ≤ a → B) (hx : x = zI_ a := by rfl) (hy : y = zI_ b := by rfl) (ha : -2147483648 ≤ a ∧ a < 2147483648 := by omega) (hb : -2147483648 ≤ b ∧ b < 2147483648 := by omega) : (x < y → A) ∧ (¬ x < y → B) := by
  subst hx hy
  rw [zI_lt ha hb]
  exact ⟨f, fun z => g (by omega)⟩
theorem zb_eq {x y : Int32} {A B : Prop} (a b : Int) (f : a = b → A) (g : a ≠ b → B) (hx : x = zI_ a := by rfl) (hy : y = zI_ b := by rfl) (ha : -2147483648 ≤ a ∧ a < 2147483648 := by omega) (hb : -2147483648 ≤ b ∧ b < 2147483648 := by omega) : (x = y → A) ∧ (¬ x = y → B) := by
  subst hx hy
  rw [zI_eq ha hb]
  exact ⟨f, g⟩
theorem pk_us {f : Nat → Int32} {k : Nat} {x : Int32} : upd f k x k = x := if_pos rfl
theorem pk_un {f : Nat → Int32} {k j : Nat} {x : Int32} (h : j ≠ k) : upd f k x j = f j := if_neg h
theorem pk_tn {n : Nat} (h : n < 2 ^ 32) : (nI n).toBitVec.toNat = n := Nat.mod_eq_of_lt h
theorem pk_and (x : Int32) {m : Int32} (k : Nat) (hm : m.toBitVec.toNat = 2 ^ k - 1) : x &&& m = nI (x.toBitVec.toNat % 2 ^ k) := by
  apply Int32.toBitVec_inj.mp
  apply BitVec.eq_of_toNat_eq
  rw [Int32.toBitVec_and, BitVec.toNat_and, hm, Nat.and_two_pow_sub_one_eq_mod]
  show _ = (BitVec.ofNat 32 _).toNat
  rw [BitVec.toNat_ofNat]
  exact (Nat.mod_eq_of_lt (Nat.lt_of_le_of_lt (Nat.mod_le _ _) x.toBitVec.isLt)).symm
theorem pk_andN {n : Nat} (h : n < 2 ^ 32) {m : Int32} (k : Nat) (hm : m.toBitVec.toNat = 2 ^ k - 1) : nI n &&& m = nI (n % 2 ^ k) := by
  rw [pk_and _ k hm, pk_tn h]
theorem pk_shr (a s : Int32) (k : Nat) (hs : (s.toBitVec.smod 32).toNat = k) : (a >>> s).toInt = a.toInt >>> k := by
  show (a.toBitVec.sshiftRight (s.toBitVec.smod 32).toNat).toInt = _
  rw [hs, BitVec.toInt_sshiftRight]
  rfl
theorem pk_shrN {n : Nat} (h : n < 2 ^ 31) (s : Int32) (k : Nat) (hs : (s.toBitVec.smod 32).toNat = k) : nI n >>> s = nI (n / 2 ^ k) := by
  apply Int32.toInt_inj.mp
  have h2 : n / 2 ^ k ≤ n := Nat.div_le_self _ _
  rw [pk_shr _ _ k hs, nI_toInt h, nI_toInt (by omega), Int.shiftRight_eq_div_pow]
  rfl
theorem pk_loop {σ : Type} (W : Nat → Nat → σ → Prop) (I : Nat → σ → Prop) (e i0 : Nat) (s : σ) (hi : i0 ≤ e) (h0 : I i0 s) (hx : ∀ n s, I e s → W (n + 1) e s)
    (hs : ∀ n i s, i < e → I i s → (∀ s', I (i + 1) s' → W n (i + 1) s') → W (n + 1) i s) : ∃ n, W n i0 s :=
  ⟨e + 1, loop_i W I e hx hs (e + 1) i0 s hi (by omega) h0⟩
theorem pk_ix (x : Int32) {n : Nat} (hn : n < 2 ^ 31) : x < 0 ∨ nI n ≤ x ∨ ∃ j : Nat, j < n ∧ x = nI j := by
  by_cases h : x < 0
  · exact Or.inl h
  · obtain ⟨j, hj, rfl⟩ := nI_of h
    by_cases h2 : j < n
    · exact Or.inr (Or.inr ⟨j, h2, rfl⟩)
    · exact Or.inr (Or.inl (nI_le (by omega) hj))
theorem pk_le {x y : Int32} {A B : Prop} (a b : Nat) (f : a ≤ b → A) (g : b < a → B) (hx : x = nI a := by rfl) (hy : y = nI b := by rfl) (ha : a < 2 ^ 31 := by omega) (hb : b < 2 ^ 31 := by omega) : (x ≤ y → A) ∧ (¬ x ≤ y → B) := by
  subst hx hy
  rw [nI_leI ha hb]
  exact ⟨f, fun z => g (by omega)⟩
theorem pk_lt {x y : Int32} {A B : Prop} (a b : Nat) (f : a < b → A) (g : b ≤ a → B) (hx : x = nI a := by rfl) (hy : y = nI b := by rfl) (ha : a < 2 ^ 31 := by omega) (hb : b < 2 ^ 31 := by omega) : (x < y → A) ∧ (¬ x < y → B) := by
  subst hx hy
  rw [nI_ltI ha hb]
  exact ⟨f, fun z => g (by omega)⟩
theorem pk_eq {x y : Int32} {A B : Prop} (a b : Nat) (f : a = b → A) (g : a ≠ b → B) (hx : x = nI a := by rfl) (hy : y = nI b := by rfl) (ha : a < 2 ^ 31 := by omega) (hb : b < 2 ^ 31 := by omega) : (x = y → A) ∧ (¬ x = y → B) := by
  subst hx hy
  rw [nI_eq ha hb]
  exact ⟨f, g⟩
theorem zI_0 : (0 : Int32) = zI_ 0 := by decide
theorem zI_1 : (1 : Int32) = zI_ 1 := by decide
theorem zI_M : (1000000 : Int32) = zI_ 1000000 := by decide
theorem zv_ {α : Sort _} {P : α → Prop} {a b : α} (e : a = b) (h : P b) : P a := by subst e; exact h
theorem pk_sub {a b : Nat} (h : b ≤ a) : nI a - nI b = nI (a - b) := by
  obtain ⟨c, rfl⟩ : ∃ c, a = c + b := ⟨a - b, by omega⟩
  rw [← nI_add, Int32.add_sub_cancel, Nat.add_sub_cancel]
theorem pk_m1 (n : Nat) : nI (n + 1) + (-1) = nI n := by
  rw [← nI_1, Int32.add_assoc, show (1 : Int32) + (-1) = 0 from rfl, Int32.add_zero]
theorem pk_mul (a b : Nat) : nI a * nI b = nI (a * b) := (Int32.ofNat_mul a b).symm
theorem pk_div {a d : Nat} (ha : a < 2 ^ 31) (h0 : 0 < d) (hd : d < 2 ^ 31) : nI a / nI d = nI (a / d) := by
  apply Int32.toInt_inj.mp
  rw [lg_idiv_nonneg (by rw [nI_toInt ha]; omega) (by rw [nI_toInt hd]; omega), nI_toInt ha, nI_toInt hd, nI_toInt (Nat.lt_of_le_of_lt (Nat.div_le_self a d) ha)]
  first | rfl | exact (Int.natCast_ediv _ _).symm
theorem pk_rem {a d : Nat} (ha : a < 2 ^ 31) (h0 : 0 < d) (hd : d < 2 ^ 31) : nI a - nI a / nI d * nI d = nI (a % d) := by
  rw [pk_div ha h0 hd, pk_mul, pk_sub (Nat.div_mul_le_self a d)]
  exact congrArg nI (by have := Nat.div_add_mod' a d; omega)
end
section
/-! the pure picture: parts of packed triples, slabs, ticks; fractions against ticks; greatest common divisors; counts and first places -/
def gm_P (t : Int) (ax : Nat) : Int := if ax = 0 then t / 1024 else if ax = 1 then t / 32 % 32 else t % 32
theorem gm_P_b {t : Int} (h : 0 ≤ t ∧ t ≤ 32767) (ax : Nat) : 0 ≤ gm_P t ax ∧ gm_P t ax ≤ 31 := by
  unfold gm_P
  split
  · omega
  · split <;> omega
def gm_pk (C : Nat → Int32) : Prop := ∀ j, 0 ≤ (C j).toInt ∧ (C j).toInt ≤ 32767
def gm_lo (C : Nat → Int32) (b ax : Nat) : Int := gm_P (C b).toInt ax
def gm_hi (C E : Nat → Int32) (b ax : Nat) : Int := gm_P (C b).toInt ax + gm_P (E b).toInt ax
theorem gm_lo_b {C : Nat → Int32} (h : gm_pk C) (b ax : Nat) : 0 ≤ gm_lo C b ax ∧ gm_lo C b ax ≤ 31 := gm_P_b (h b) ax
theorem gm_hi_b {C E : Nat → Int32} (h : gm_pk C) (h' : gm_pk E) (b ax : Nat) : gm_lo C b ax ≤ gm_hi C E b ax ∧ gm_hi C E b ax ≤ 62 := by
  have h1 := gm_P_b (h b) ax
  have h2 := gm_P_b (h' b) ax
  unfold gm_hi gm_lo
  omega
theorem gm_pk0 : gm_pk (fun _ => 0) := fun _ => (by decide : 0 ≤ (0 : Int32).toInt ∧ (0 : Int32).toInt ≤ 32767)
theorem gm_pku {C : Nat → Int32} (h : gm_pk C) (k : Nat) {x : Int32} (hx : 0 ≤ x.toInt ∧ x.toInt ≤ 32767) : gm_pk (upd C k x) := by
  intro j
  unfold upd
  split
  · exact hx
  · exact h j
def gm_ent (s d k lo hi : Int) : Int := if 0 < d then (lo - s) * k else if d < 0 then (s - hi) * k else if lo ≤ s ∧ s ≤ hi then 0 else 1000000
def gm_ext (s d k lo hi : Int) : Int := if 0 < d then (hi - s) * k else if d < 0 then (s - lo) * k else 1000000
def gm_la (e : Nat → Int) : Nat → Int
  | 0 => 0
  | i + 1 => if gm_la e i < e i then e i else gm_la e i
def gm_ea (l : Nat → Int) : Nat → Int
  | 0 => 1000000
  | i + 1 => if l i < gm_ea l i then l i else gm_ea l i
def gm_E (S D K C E : Nat → Int32) (b ax : Nat) : Int := gm_ent (S ax).toInt (D ax).toInt (K ax).toInt (gm_lo C b ax) (gm_hi C E b ax)
def gm_X (S D K C E : Nat → Int32) (b ax : Nat) : Int := gm_ext (S ax).toInt (D ax).toInt (K ax).toInt (gm_lo C b ax) (gm_hi C E b ax)
/-- the entry's tick, or 1000000; the exit's -/
def gm_t (S D K C E : Nat → Int32) (b : Nat) : Int := if gm_la (gm_E S D K C E b) 3 ≤ gm_ea (gm_X S D K C E b) 3 then gm_la (gm_E S D K C E b) 3 else 1000000
def gm_x (S D K C E : Nat → Int32) (b : Nat) : Int := gm_ea (gm_X S D K C E b) 3
def gm_sp (d : Int) : Int := if d = 0 then 1 else if d < 0 then -d else d
def gm_ray (S D K : Nat → Int32) (T : Int32) : Prop :=
  (∀ ax, ax < 3 → -100 ≤ (S ax).toInt ∧ (S ax).toInt ≤ 100) ∧ (∀ ax, ax < 3 → -20 ≤ (D ax).toInt ∧ (D ax).toInt ≤ 20) ∧
  (∃ ax, ax < 3 ∧ (D ax).toInt ≠ 0) ∧ (∀ ax, ax < 3 → T.toInt = (K ax).toInt * gm_sp (D ax).toInt ∧ 1 ≤ (K ax).toInt ∧ (K ax).toInt ≤ 400) ∧ 1 ≤ T.toInt ∧ T.toInt ≤ 8000
theorem gm_mb {a k : Int} (A B : Int) (h1 : -A ≤ a) (h2 : a ≤ A) (k0 : 0 ≤ k) (kB : k ≤ B) (A0 : 0 ≤ A) : -(A * B) ≤ a * k ∧ a * k ≤ A * B := by
  have e1 : a * k ≤ A * k := Int.mul_le_mul_of_nonneg_right h2 k0
  have e2 : -A * k ≤ a * k := Int.mul_le_mul_of_nonneg_right h1 k0
  have e3 : A * k ≤ A * B := Int.mul_le_mul_of_nonneg_left kB A0
  have e4 : -A * k = -(A * k) := Int.neg_mul A k
  omega
/-- the slabs' ticks are small, but for 1000000 -/
theorem gm_ent_b {s d k lo hi : Int} (hs : -100 ≤ s ∧ s ≤ 100) (hk : 1 ≤ k ∧ k ≤ 400) (hl : 0 ≤ lo ∧ lo ≤ 31) (hh : lo ≤ hi ∧ hi ≤ 62) :
    -64800 ≤ gm_ent s d k lo hi ∧ (gm_ent s d k lo hi ≤ 64800 ∨ gm_ent s d k lo hi = 1000000) := by
  have h1 := gm_mb (a := lo - s) (k := k) 162 400 (by omega) (by omega) (by omega) (by omega) (by omega)
  have h2 := gm_mb (a := s - hi) (k := k) 162 400 (by omega) (by omega) (by omega) (by omega) (by omega)
  unfold gm_ent
  split
  · omega
  · split
    · omega
    · split <;> omega
theorem gm_ext_b {s d k lo hi : Int} (hs : -100 ≤ s ∧ s ≤ 100) (hk : 1 ≤ k ∧ k ≤ 400) (hl : 0 ≤ lo ∧ lo ≤ 31) (hh : lo ≤ hi ∧ hi ≤ 62) :
    -64800 ≤ gm_ext s d k lo hi ∧ (gm_ext s d k lo hi ≤ 64800 ∨ gm_ext s d k lo hi = 1000000) := by
  have h1 := gm_mb (a := hi - s) (k := k) 162 400 (by omega) (by omega) (by omega) (by omega) (by omega)
  have h2 := gm_mb (a := s - lo) (k := k) 162 400 (by omega) (by omega) (by omega) (by omega) (by omega)
  unfold gm_ext
  split
  · omega
  · split <;> omega
theorem gm_la_b {e : Nat → Int} : ∀ m : Nat, (∀ i, i < m → e i ≤ 1000000) → 0 ≤ gm_la e m ∧ gm_la e m ≤ 1000000
  | 0, _ => by unfold gm_la; omega
  | m + 1, h => by
    have ih := gm_la_b (e := e) m (fun i hi => h i (by omega))
    have h1 := h m (by omega)
    unfold gm_la
    split <;> omega
theorem gm_la_ge {e : Nat → Int} {i : Nat} : ∀ m : Nat, i < m → e i ≤ gm_la e m
  | 0, h => by omega
  | m + 1, h => by
    have ih := fun h' => gm_la_ge (e := e) (i := i) m h'
    unfold gm_la
    by_cases hi : i = m
    · subst hi; split <;> omega
    · have := ih (by omega)
      split <;> omega
theorem gm_ea_b {l : Nat → Int} : ∀ m : Nat, (∀ i, i < m → -64800 ≤ l i) → -64800 ≤ gm_ea l m ∧ gm_ea l m ≤ 1000000
  | 0, _ => by unfold gm_ea; omega
  | m + 1, h => by
    have ih := gm_ea_b (l := l) m (fun i hi => h i (by omega))
    have h1 := h m (by omega)
    unfold gm_ea
    split <;> omega
/-- a fraction a / b = x / T against another, p / q = y / T -/
theorem gm_fr {a b p q x y T : Int} (hb : 0 < b) (hq : 0 < q) (hT : 0 < T) (h1 : a * T = x * b) (h2 : p * T = y * q) : a * q < p * b ↔ x < y := by
  have hbq : 0 < b * q := Int.mul_pos hb hq
  have e1 : a * q * T = x * (b * q) := by
    rw [Int.mul_right_comm, h1, Int.mul_assoc]
  have e2 : p * b * T = y * (b * q) := by
    rw [Int.mul_right_comm, h2, Int.mul_right_comm, Int.mul_assoc]
  rw [← Int.mul_lt_mul_right hT, e1, e2, Int.mul_lt_mul_right hbq]
theorem gm_fle {a b p q x y T : Int} (hb : 0 < b) (hq : 0 < q) (hT : 0 < T) (h1 : a * T = x * b) (h2 : p * T = y * q) : a * q ≤ p * b ↔ x ≤ y := by
  have h := gm_fr hq hb hT h2 h1
  omega
theorem gm_feq {a b p q x y T : Int} (hb : 0 < b) (hq : 0 < q) (hT : 0 < T) (h1 : a * T = x * b) (h2 : p * T = y * q) : a * q = p * b ↔ x = y := by
  have h := gm_fr hq hb hT h2 h1
  have h' := gm_fr hb hq hT h1 h2
  omega
theorem gm_fq {a b p q x T : Int} (hb : 0 < b) (hT : 0 < T) (h1 : a * T = x * b) : a * q ≤ p * b ↔ x * q ≤ p * T := by
  have e1 : a * q * T = x * q * b := by
    rw [Int.mul_right_comm, h1, Int.mul_right_comm]
  have e2 : p * b * T = p * T * b := Int.mul_right_comm _ _ _
  rw [← Int.mul_le_mul_right hT, e1, e2, Int.mul_le_mul_right hb]
/-- lowest terms are one -/
theorem gm_low {t T a b : Nat} (hT : 0 < T) (hb : 0 < b) (h : a * T = t * b) : t / Nat.gcd t T = a / Nat.gcd a b ∧ T / Nat.gcd t T = b / Nat.gcd a b := by
  have e : Nat.gcd a b * T = Nat.gcd t T * b := by
    rw [← Nat.gcd_mul_right a T b, ← Nat.gcd_mul_right t b T, h, Nat.mul_comm b T]
  have hg : 0 < Nat.gcd t T := Nat.gcd_pos_of_pos_right t hT
  have hk : 0 < Nat.gcd a b := Nat.gcd_pos_of_pos_right a hb
  obtain ⟨t', ht⟩ := Nat.gcd_dvd_left t T
  obtain ⟨T', hT'⟩ := Nat.gcd_dvd_right t T
  obtain ⟨a', ha⟩ := Nat.gcd_dvd_left a b
  obtain ⟨b', hb'⟩ := Nat.gcd_dvd_right a b
  generalize Nat.gcd t T = g at *
  generalize Nat.gcd a b = k at *
  subst ht hT' ha hb'
  have e1 : T' = b' := by
    have : (g * k) * T' = (g * k) * b' := by
      rw [Nat.mul_assoc, Nat.mul_assoc, Nat.mul_left_comm]; exact e
    exact Nat.eq_of_mul_eq_mul_left (Nat.mul_pos hg hk) this
  subst e1
  have hT0 : 0 < T' := Nat.pos_of_mul_pos_left hT
  have e2 : a' = t' := by
    have : (g * k * T') * a' = (g * k * T') * t' := by
      calc (g * k * T') * a' = k * a' * (g * T') := by ac_rfl
        _ = g * t' * (k * T') := h
        _ = (g * k * T') * t' := by ac_rfl
    exact Nat.eq_of_mul_eq_mul_left (Nat.mul_pos (Nat.mul_pos hg hk) hT0) this
  subst e2
  rw [Nat.mul_div_cancel_left _ hg, Nat.mul_div_cancel_left _ hk, Nat.mul_div_cancel_left _ hg, Nat.mul_div_cancel_left _ hk]
  exact ⟨rfl, rfl⟩
/-- the greatest of the common divisors is the gcd -/
theorem gm_gcd {x y g : Nat} (hy : 0 < y) (g1 : 1 ≤ g) (h1 : g ∣ x) (h2 : g ∣ y) (h3 : ∀ k, 1 ≤ k → k ≤ y → k ∣ x → k ∣ y → k ≤ g) : g = Nat.gcd x y := by
  have hg : 0 < Nat.gcd x y := Nat.gcd_pos_of_pos_right x hy
  have a := h3 (Nat.gcd x y) hg (Nat.le_of_dvd hy (Nat.gcd_dvd_right x y)) (Nat.gcd_dvd_left x y) (Nat.gcd_dvd_right x y)
  have b := Nat.le_of_dvd hg (Nat.dvd_gcd h1 h2)
  omega
/-- how many i < m have p -/
def gm_ct (p : Nat → Bool) : Nat → Nat
  | 0 => 0
  | i + 1 => if p i = true then gm_ct p i + 1 else gm_ct p i
theorem gm_ct_le (p : Nat → Bool) : ∀ m, gm_ct p m ≤ m
  | 0 => Nat.le_refl _
  | m + 1 => by
    have := gm_ct_le p m
    unfold gm_ct
    split <;> omega
theorem gm_ct_c {p q : Nat → Bool} : ∀ m : Nat, (∀ i, i < m → p i = q i) → gm_ct p m = gm_ct q m
  | 0, _ => rfl
  | m + 1, h => by
    unfold gm_ct
    rw [h m (by omega), gm_ct_c m (fun i hi => h i (by omega))]
theorem gm_ct_x {p : Nat → Bool} {n : Nat} : ∀ m : Nat, n ≤ m → (∀ i, n ≤ i → i < m → p i = false) → gm_ct p m = gm_ct p n
  | 0, h, _ => by have : n = 0 := by omega
                  subst this; rfl
  | m + 1, h, hp => by
    by_cases e : n = m + 1
    · subst e; rfl
    · have ih := gm_ct_x (p := p) (n := n) m (by omega) (fun i h1 h2 => hp i h1 (by omega))
      show (if p m = true then gm_ct p m + 1 else gm_ct p m) = _
      rw [hp m (by omega) (by omega), ih]
      rfl
theorem gm_ct_0 {p : Nat → Bool} : ∀ m : Nat, gm_ct p m = 0 ↔ ∀ i, i < m → p i = false
  | 0 => ⟨fun _ i hi => by omega, fun _ => rfl⟩
  | m + 1 => by
    have ih := gm_ct_0 (p := p) m
    show (if p m = true then gm_ct p m + 1 else gm_ct p m) = 0 ↔ _
    constructor
    · intro h i hi
      by_cases c : p m = true
      · rw [if_pos c] at h; omega
      · rw [if_neg c] at h
        by_cases e : i = m
        · subst e; exact Bool.eq_false_iff.mpr c
        · exact ih.mp h i (by omega)
    · intro h
      rw [if_neg (by rw [h m (by omega)]; decide)]
      exact ih.mpr (fun i hi => h i (by omega))
/-- r is the first i < m that has p, or -1 -/
def gm_F (p : Nat → Bool) (m : Nat) (r : Int32) : Prop := (∃ b, b < m ∧ p b = true ∧ (∀ j, j < b → p j = false) ∧ r = nI b) ∨ ((∀ j, j < m → p j = false) ∧ r = -1)
theorem gm_F_u {p q : Nat → Bool} {m n : Nat} {r r' : Int32} (hc : ∀ i, i < m → i < n → p i = q i) (hp : ∀ i, i < m → p i = true → i < n) (hq : ∀ i, i < n → q i = true → i < m) (h : gm_F p m r) (h' : gm_F q n r') : r' = r := by
  rcases h with ⟨b, hb, pb, mb, rfl⟩ | ⟨h, rfl⟩ <;> rcases h' with ⟨b', hb', pb', mb', rfl⟩ | ⟨h', rfl⟩
  · have h1 := hp b hb pb
    have h2 := hq b' hb' pb'
    rcases Nat.lt_trichotomy b b' with l | e | g
    · have := mb' b l
      rw [← hc b hb h1, pb] at this
      cases this
    · rw [e]
    · have := mb b' g
      rw [hc b' h2 hb', pb'] at this
      cases this
  · have h1 := hp b hb pb
    have := h' b h1
    rw [← hc b hb h1, pb] at this
    cases this
  · have h2 := hq b' hb' pb'
    have := h b' h2
    rw [hc b' h2 hb', pb'] at this
    cases this
  · rfl
end
section
/-! pairs that meet, counted once and counted twice; the least of some numbers -/
def gm_su (f : Nat → Nat) : Nat → Nat
  | 0 => 0
  | i + 1 => gm_su f i + f i
theorem gm_su_c {f g : Nat → Nat} : ∀ m : Nat, (∀ i, i < m → f i = g i) → gm_su f m = gm_su g m
  | 0, _ => rfl
  | m + 1, h => by
    show gm_su f m + f m = gm_su g m + g m
    rw [h m (by omega), gm_su_c m (fun i hi => h i (by omega))]
theorem gm_su_1 (q : Nat → Nat → Bool) (n : Nat) : ∀ m : Nat, gm_su (fun b => gm_ct (q b) (n + 1)) m = gm_su (fun b => gm_ct (q b) n) m + gm_ct (fun b => q b n) m
  | 0 => rfl
  | m + 1 => by
    have ih := gm_su_1 q n m
    show gm_su (fun b => gm_ct (q b) (n + 1)) m + (if q m n = true then gm_ct (q m) n + 1 else gm_ct (q m) n) = (gm_su (fun b => gm_ct (q b) n) m + gm_ct (q m) n) + (if q m n = true then gm_ct (fun b => q b n) m + 1 else gm_ct (fun b => q b n) m)
    rw [ih]
    split <;> omega
theorem gm_su_m {f : Nat → Nat} : ∀ m : Nat, (∀ i, i < m → 1 ≤ f i) → gm_su (fun b => f b - 1) m + m = gm_su f m
  | 0, _ => rfl
  | m + 1, h => by
    have ih := gm_su_m (f := f) m (fun i hi => h i (by omega))
    have h1 := h m (by omega)
    show gm_su (fun b => f b - 1) m + (f m - 1) + (m + 1) = gm_su f m + f m
    omega
theorem gm_su_le {f : Nat → Nat} {B : Nat} : ∀ m : Nat, (∀ i, i < m → f i ≤ B) → gm_su f m ≤ m * B
  | 0, _ => by show 0 ≤ 0 * B; omega
  | m + 1, h => by
    have ih := gm_su_le (f := f) (B := B) m (fun i hi => h i (by omega))
    have h1 := h m (by omega)
    show gm_su f m + f m ≤ (m + 1) * B
    rw [Nat.succ_mul]
    omega
theorem gm_pairs {M : Nat → Nat → Bool} (hr : ∀ b, M b b = true) (hs : ∀ b o, M b o = M o b) : ∀ n : Nat, gm_su (fun b => gm_ct (fun o => M o b) n) n = 2 * gm_su (fun b => gm_ct (fun o => decide (b < o) && M b o) n) n + n
  | 0 => rfl
  | n + 1 => by
    have ih := gm_pairs hr hs n
    rw [gm_su_1 (fun b o => M o b) n (n + 1), gm_su_1 (fun b o => decide (b < o) && M b o) n (n + 1)]
    have e1 : gm_su (fun b => gm_ct (fun o => M o b) n) (n + 1) = gm_su (fun b => gm_ct (fun o => M o b) n) n + gm_ct (fun o => M o n) n := rfl
    have e2 : gm_ct (fun b => M n b) (n + 1) = gm_ct (fun o => M o n) n + 1 := by
      show (if M n n = true then gm_ct (fun b => M n b) n + 1 else gm_ct (fun b => M n b) n) = _
      rw [if_pos (hr n), gm_ct_c (q := fun o => M o n) n (fun i _ => hs n i)]
    have e3 : gm_su (fun b => gm_ct (fun o => decide (b < o) && M b o) n) (n + 1) = gm_su (fun b => gm_ct (fun o => decide (b < o) && M b o) n) n := by
      show gm_su (fun b => gm_ct (fun o => decide (b < o) && M b o) n) n + gm_ct (fun o => decide (n < o) && M n o) n = _
      rw [(gm_ct_0 (p := fun o => decide (n < o) && M n o) n).mpr (fun i hi => by
        show (decide (n < i) && M n i) = false
        rw [decide_eq_false (by omega)]; rfl)]
      rfl
    have e4 : gm_ct (fun b => decide (b < n) && M b n) (n + 1) = gm_ct (fun o => M o n) n := by
      show (if (decide (n < n) && M n n) = true then gm_ct (fun b => decide (b < n) && M b n) n + 1 else gm_ct (fun b => decide (b < n) && M b n) n) = _
      rw [decide_eq_false (Nat.lt_irrefl n), if_neg (by rw [Bool.false_and]; decide)]
      exact gm_ct_c n (fun i hi => by
        show (decide (i < n) && M i n) = M i n
        rw [decide_eq_true hi]; rfl)
    rw [e1, e2, e3, e4]
    omega
/-- what the reference halves -/
theorem gm_half {M : Nat → Nat → Bool} (hr : ∀ b, M b b = true) (hs : ∀ b o, M b o = M o b) (n : Nat) : gm_su (fun b => gm_ct (fun o => M o b) n - 1) n = 2 * gm_su (fun b => gm_ct (fun o => decide (b < o) && M b o) n) n := by
  have h1 := gm_pairs hr hs n
  have h2 := gm_su_m (f := fun b => gm_ct (fun o => M o b) n) n (fun i hi => by
    show 1 ≤ gm_ct (fun o => M o i) n
    rcases Nat.eq_zero_or_pos (gm_ct (fun o => M o i) n) with z | z
    · have := (gm_ct_0 n).mp z i hi
      rw [hr i] at this
      cases this
    · exact z)
  omega
def gm_mn (f : Nat → Int) : Nat → Int
  | 0 => f 0
  | i + 1 => if f (i + 1) < gm_mn f i then f (i + 1) else gm_mn f i
theorem gm_mn_b {f : Nat → Int} {B : Int} (h : ∀ i, 0 ≤ f i ∧ f i ≤ B) : ∀ m : Nat, 0 ≤ gm_mn f m ∧ gm_mn f m ≤ B
  | 0 => h 0
  | m + 1 => by
    have ih := gm_mn_b h m
    have h1 := h (m + 1)
    unfold gm_mn
    split <;> omega
def gm_gap (lo hi v : Int) : Int := if v < lo then lo - v else if hi < v then v - hi else 0
/-- two boxes have a point in common -/
def gm_mt (l h l' h' : Nat → Int) : Nat → Bool
  | 0 => true
  | i + 1 => gm_mt l h l' h' i && !(decide (h' i < l i) || decide (h i < l' i))
theorem gm_mt_s (l h l' h' : Nat → Int) : ∀ m, gm_mt l h l' h' m = gm_mt l' h' l h m
  | 0 => rfl
  | m + 1 => by
    unfold gm_mt
    rw [gm_mt_s l h l' h' m, Bool.or_comm]
theorem gm_mt_r {l h : Nat → Int} : ∀ m, (∀ i, i < m → l i ≤ h i) → gm_mt l h l h m = true
  | 0, _ => rfl
  | m + 1, k => by
    have h1 := k m (by omega)
    unfold gm_mt
    rw [gm_mt_r m (fun i hi => k i (by omega)), decide_eq_false (by omega)]
    rfl
end
section
/-! the reference's fractions against the ticks, axis by axis -/
theorem gm_la_0 (e : Nat → Int) : ∀ m, 0 ≤ gm_la e m
  | 0 => by unfold gm_la; omega
  | m + 1 => by
    have ih := gm_la_0 e m
    unfold gm_la
    split <;> omega
theorem gm_ea_M (l : Nat → Int) : ∀ m, gm_ea l m ≤ 1000000
  | 0 => by unfold gm_ea; omega
  | m + 1 => by
    have ih := gm_ea_M l m
    unfold gm_ea
    split <;> omega
def gm_Ji (e : Nat → Int) (T : Int) (i : Nat) (it ib : Int) : Prop := 0 ≤ it ∧ it ≤ 162 ∧ 1 ≤ ib ∧ ib ≤ 20 ∧ it * T = gm_la e i * ib ∧ gm_la e i ≤ 64800
def gm_Jo (D : Nat → Int32) (l : Nat → Int) (T : Int) (i : Nat) (ot ob : Int) : Prop := 1 ≤ ob ∧ ob ≤ 20 ∧
  ((ot = 1000000 ∧ ob = 1 ∧ gm_ea l i = 1000000 ∧ ∀ ax, ax < i → (D ax).toInt = 0) ∨ (-162 ≤ ot ∧ ot ≤ 162 ∧ ot * T = gm_ea l i * ob ∧ gm_ea l i ≤ 64800))
theorem gm_Ji_0 (e : Nat → Int) (T : Int) : gm_Ji e T 0 0 1 := by
  refine ⟨by omega, by omega, by omega, by omega, ?_, by unfold gm_la; omega⟩
  unfold gm_la
  omega
theorem gm_Jo_0 (D : Nat → Int32) (l : Nat → Int) (T : Int) : gm_Jo D l T 0 1000000 1 :=
  ⟨by omega, by omega, Or.inl ⟨rfl, rfl, rfl, fun ax h => by omega⟩⟩
theorem gm_Ji_z {e : Nat → Int} {T : Int} {i : Nat} {it ib : Int} (h : gm_Ji e T i it ib) (z : e i = 0) : gm_Ji e T (i + 1) it ib := by
  have h0 := gm_la_0 e i
  have h1 : gm_la e (i + 1) = gm_la e i := if_neg (by omega)
  unfold gm_Ji at h ⊢
  rw [h1]
  exact h
theorem gm_Jo_z {D : Nat → Int32} {l : Nat → Int} {T : Int} {i : Nat} {ot ob : Int} (h : gm_Jo D l T i ot ob) (z : l i = 1000000) (d0 : (D i).toInt = 0) : gm_Jo D l T (i + 1) ot ob := by
  have h0 := gm_ea_M l i
  have h1 : gm_ea l (i + 1) = gm_ea l i := if_neg (by omega)
  obtain ⟨a, b, c⟩ := h
  unfold gm_Jo
  rw [h1]
  refine ⟨a, b, ?_⟩
  rcases c with ⟨c1, c2, c3, c4⟩ | c
  · refine Or.inl ⟨c1, c2, c3, fun ax hx => ?_⟩
    by_cases e : ax = i
    · rw [e]; exact d0
    · exact c4 ax (by omega)
  · exact Or.inr c
theorem gm_mk {n k d T : Int} (hT : T = k * d) : n * T = n * k * d := by rw [hT, Int.mul_assoc]
theorem gm_Ji_t {e : Nat → Int} {T : Int} {i : Nat} {it ib n k d : Int} (h : gm_Ji e T i it ib) (hT : T = k * d) (T0 : 0 < T) (hd : 1 ≤ d ∧ d ≤ 20) (hk : 1 ≤ k ∧ k ≤ 400) (hn : n ≤ 162) (en : e i = n * k) (c : it * d < n * ib) : gm_Ji e T (i + 1) n d := by
  obtain ⟨a1, a2, a3, a4, a5, a6⟩ := h
  have q := (gm_fr (a := it) (b := ib) (p := n) (q := d) (by omega) (by omega) T0 a5 (gm_mk hT)).mp c
  have h1 : gm_la e (i + 1) = n * k := by
    show (if gm_la e i < e i then e i else gm_la e i) = _
    rw [en, if_pos q]
  have h0 := gm_la_0 e i
  have n0 : 0 < n := by
    rcases Int.lt_or_le 0 n with h | h
    · exact h
    · have := Int.mul_le_mul_of_nonneg_right h (show 0 ≤ k by omega)
      rw [Int.zero_mul] at this
      omega
  have hb := gm_mb (a := n) (k := k) 162 400 (by omega) (by omega) (by omega) (by omega) (by omega)
  unfold gm_Ji
  rw [h1]
  exact ⟨by omega, by omega, by omega, by omega, gm_mk hT, by omega⟩
theorem gm_Ji_f {e : Nat → Int} {T : Int} {i : Nat} {it ib n k d : Int} (h : gm_Ji e T i it ib) (hT : T = k * d) (T0 : 0 < T) (hd : 1 ≤ d ∧ d ≤ 20) (en : e i = n * k) (c : n * ib ≤ it * d) : gm_Ji e T (i + 1) it ib := by
  obtain ⟨a1, a2, a3, a4, a5, a6⟩ := h
  have q := gm_fr (a := it) (b := ib) (p := n) (q := d) (by omega) (by omega) T0 a5 (gm_mk hT)
  have h1 : gm_la e (i + 1) = gm_la e i := by
    show (if gm_la e i < e i then e i else gm_la e i) = _
    rw [en, if_neg (by omega)]
  unfold gm_Ji
  rw [h1]
  exact ⟨a1, a2, a3, a4, a5, a6⟩
theorem gm_Jo_t {D : Nat → Int32} {l : Nat → Int} {T : Int} {i : Nat} {ot ob n k d : Int} (h : gm_Jo D l T i ot ob) (hT : T = k * d) (T0 : 0 < T) (hd : 1 ≤ d ∧ d ≤ 20) (hk : 1 ≤ k ∧ k ≤ 400) (hn : -162 ≤ n ∧ n ≤ 162) (en : l i = n * k) (c : n * ob < ot * d) : gm_Jo D l T (i + 1) n d := by
  obtain ⟨a, b, c1⟩ := h
  have hb := gm_mb (a := n) (k := k) 162 400 (by omega) (by omega) (by omega) (by omega) (by omega)
  have h1 : gm_ea l (i + 1) = n * k := by
    show (if l i < gm_ea l i then l i else gm_ea l i) = _
    rw [en]
    refine if_pos ?_
    rcases c1 with ⟨c1, c2, c3, c4⟩ | ⟨c1, c2, c3, c4⟩
    · omega
    · exact (gm_fr (a := n) (b := d) (p := ot) (q := ob) (by omega) (by omega) T0 (gm_mk hT) c3).mp c
  unfold gm_Jo
  rw [h1]
  exact ⟨by omega, by omega, Or.inr ⟨by omega, by omega, gm_mk hT, by omega⟩⟩
theorem gm_Jo_f {D : Nat → Int32} {l : Nat → Int} {T : Int} {i : Nat} {ot ob n k d : Int} (h : gm_Jo D l T i ot ob) (hT : T = k * d) (T0 : 0 < T) (hd : 1 ≤ d ∧ d ≤ 20) (hk : 1 ≤ k ∧ k ≤ 400) (hn : -162 ≤ n ∧ n ≤ 162) (en : l i = n * k) (c : ot * d ≤ n * ob) : gm_Jo D l T (i + 1) ot ob := by
  obtain ⟨a, b, c1⟩ := h
  rcases c1 with ⟨c1, c2, c3, c4⟩ | ⟨c1, c2, c3, c4⟩
  · subst c1 c2
    omega
  · have q := gm_fr (a := n) (b := d) (p := ot) (q := ob) (by omega) (by omega) T0 (gm_mk hT) c3
    have h1 : gm_ea l (i + 1) = gm_ea l i := by
      show (if l i < gm_ea l i then l i else gm_ea l i) = _
      rw [en, if_neg (by omega)]
    unfold gm_Jo
    rw [h1]
    exact ⟨a, b, Or.inr ⟨c1, c2, c3, c4⟩⟩
/-- what the reference holds of a box that is hit at tick t and left at tick x -/
def gm_ok (t x T it ib ot ob : Int) : Prop := 0 ≤ t ∧ t ≤ 64800 ∧ 0 ≤ x ∧ x ≤ 64800 ∧ 0 ≤ it ∧ it ≤ 162 ∧ 1 ≤ ib ∧ ib ≤ 20 ∧ it * T = t * ib ∧ 0 ≤ ot ∧ ot ≤ 162 ∧ 1 ≤ ob ∧ ob ≤ 20 ∧ ot * T = x * ob
theorem gm_end {D : Nat → Int32} {e l : Nat → Int} {T it ib ot ob : Int} (T0 : 0 < T) (hD : ∃ ax, ax < 3 ∧ (D ax).toInt ≠ 0) (h : gm_Ji e T 3 it ib) (h' : gm_Jo D l T 3 ot ob) :
    (it * ob ≤ ot * ib → gm_la e 3 ≤ gm_ea l 3 ∧ gm_ok (gm_la e 3) (gm_ea l 3) T it ib ot ob) ∧ (ot * ib < it * ob → gm_ea l 3 < gm_la e 3) := by
  obtain ⟨a1, a2, a3, a4, a5, a6⟩ := h
  obtain ⟨b1, b2, b3⟩ := h'
  rcases b3 with ⟨_, _, _, c4⟩ | ⟨c1, c2, c3, c4⟩
  · obtain ⟨ax, hx, hn⟩ := hD
    exact absurd (c4 ax hx) hn
  · have q := gm_fle (a := it) (b := ib) (p := ot) (q := ob) (by omega) (by omega) T0 a5 c3
    have h0 := gm_la_0 e 3
    constructor
    · intro c
      have hle := q.mp c
      have o0 : 0 ≤ ot := by
        rcases Int.lt_or_le ot 0 with g | g
        · have h1 : ot * T < 0 := Int.mul_neg_of_neg_of_pos g T0
          have h2 : 0 ≤ gm_ea l 3 * ob := Int.mul_nonneg (by omega) (by omega)
          omega
        · exact g
      exact ⟨hle, by omega, by omega, by omega, by omega, a1, a2, a3, a4, a5, o0, c2, b1, b2, c3⟩
    · intro c
      omega
section
variable {S D K C E : Nat → Int32} {T : Int32}
theorem gm_E_b (hr : gm_ray S D K T) (hC : gm_pk C) (hE : gm_pk E) (b : Nat) {ax : Nat} (h : ax < 3) : -64800 ≤ gm_E S D K C E b ax ∧ (gm_E S D K C E b ax ≤ 64800 ∨ gm_E S D K C E b ax = 1000000) :=
  gm_ent_b (hr.1 ax h) (hr.2.2.2.1 ax h).2 (gm_lo_b hC b ax) (gm_hi_b hC hE b ax)
theorem gm_X_b (hr : gm_ray S D K T) (hC : gm_pk C) (hE : gm_pk E) (b : Nat) {ax : Nat} (h : ax < 3) : -64800 ≤ gm_X S D K C E b ax ∧ (gm_X S D K C E b ax ≤ 64800 ∨ gm_X S D K C E b ax = 1000000) :=
  gm_ext_b (hr.1 ax h) (hr.2.2.2.1 ax h).2 (gm_lo_b hC b ax) (gm_hi_b hC hE b ax)
theorem gm_t_b (hr : gm_ray S D K T) (hC : gm_pk C) (hE : gm_pk E) (b : Nat) : 0 ≤ gm_t S D K C E b ∧ gm_t S D K C E b ≤ 1000000 := by
  have h1 := gm_la_b (e := gm_E S D K C E b) 3 (fun i hi => by have := gm_E_b hr hC hE b hi; omega)
  unfold gm_t
  split <;> omega
theorem gm_x_b (hr : gm_ray S D K T) (hC : gm_pk C) (hE : gm_pk E) (b : Nat) : -64800 ≤ gm_x S D K C E b ∧ gm_x S D K C E b ≤ 1000000 :=
  gm_ea_b 3 (fun i hi => (gm_X_b hr hC hE b hi).1)
theorem gm_t_never (hr : gm_ray S D K T) (hC : gm_pk C) (hE : gm_pk E) {b i : Nat} (hi : i < 3) (z : gm_E S D K C E b i = 1000000) : gm_t S D K C E b = 1000000 := by
  have h1 := gm_la_b (e := gm_E S D K C E b) 3 (fun i hi => by have := gm_E_b hr hC hE b hi; omega)
  have h2 := gm_la_ge (e := gm_E S D K C E b) 3 hi
  unfold gm_t
  split <;> omega
end
end
section
/-! the order of the hits: who is ahead, and the first -/
def gm_ah (t : Nat → Int) (b o : Nat) : Bool := decide (t o < t b) || (decide (t o = t b) && decide (o < b))
/-- the i-th of the order -/
def gm_pi (t : Nat → Int) (n : Nat) (i : Int32) (b : Nat) : Bool := decide (t b < 1000000) && decide (nI (gm_ct (gm_ah t b) n) = i)
def gm_hq (t : Nat → Int) (n b : Nat) : Bool := decide (b < n) && decide (t b < 1000000)
theorem gm_ah_n {t : Nat → Int} {n b : Nat} (hn : n ≤ 14) (hb : t b < 1000000) : gm_ct (fun c => gm_hq t n c && gm_ah t b c) 14 = gm_ct (gm_ah t b) n := by
  rw [gm_ct_x (p := fun c => gm_hq t n c && gm_ah t b c) (n := n) 14 hn (fun i h1 _ => by
    show (gm_hq t n i && gm_ah t b i) = false
    unfold gm_hq
    rw [decide_eq_false (by omega)]
    rfl)]
  refine gm_ct_c n (fun i hi => ?_)
  show (gm_hq t n i && gm_ah t b i) = gm_ah t b i
  by_cases h : t i < 1000000
  · unfold gm_hq
    rw [decide_eq_true hi, decide_eq_true h]
    rfl
  · have : gm_ah t b i = false := by
      unfold gm_ah
      rw [decide_eq_false (by omega), decide_eq_false (by omega)]
      rfl
    rw [this, Bool.and_false]
theorem gm_hits_n {t : Nat → Int} {n : Nat} (hn : n ≤ 14) (q : Nat → Bool) : gm_ct (fun c => gm_hq t n c && q c) 14 = gm_ct (fun c => decide (t c < 1000000) && q c) n := by
  rw [gm_ct_x (p := fun c => gm_hq t n c && q c) (n := n) 14 hn (fun i h1 _ => by
    show (gm_hq t n i && q i) = false
    unfold gm_hq
    rw [decide_eq_false (by omega)]
    rfl)]
  refine gm_ct_c n (fun i hi => ?_)
  show (gm_hq t n i && q i) = (decide (t i < 1000000) && q i)
  unfold gm_hq
  rw [decide_eq_true hi]
  rfl
/-- the search for the least has found the first of the order -/
def gm_best (t : Nat → Int) (i : Nat) (r : Int32) (e : Int) : Prop :=
  (r = -1 ∧ e = 1000000 ∧ ∀ j, j < i → 1000000 ≤ t j) ∨ (∃ b, b < i ∧ r = nI b ∧ e = t b ∧ t b < 1000000 ∧ (∀ j, j < i → t b ≤ t j) ∧ ∀ j, j < b → t b < t j)
theorem gm_best_0 (t : Nat → Int) : gm_best t 0 (-1) 1000000 := Or.inl ⟨rfl, rfl, fun j h => by omega⟩
theorem gm_best_t {t : Nat → Int} {i : Nat} {r : Int32} {e : Int} (h : gm_best t i r e) (hi : t i ≤ 1000000) (c : t i < e) : gm_best t (i + 1) (nI i) (t i) := by
  rcases h with ⟨_, he, h⟩ | ⟨b, hb, _, he, h1, h2, h3⟩
  · refine Or.inr ⟨i, by omega, rfl, rfl, by omega, fun j hj => ?_, fun j hj => ?_⟩
    · by_cases q : j = i
      · rw [q]; omega
      · have := h j (by omega)
        omega
    · have := h j (by omega)
      omega
  · refine Or.inr ⟨i, by omega, rfl, rfl, by omega, fun j hj => ?_, fun j hj => ?_⟩
    · by_cases q : j = i
      · rw [q]; omega
      · have := h2 j (by omega)
        omega
    · have := h2 j (by omega)
      omega
theorem gm_best_f {t : Nat → Int} {i : Nat} {r : Int32} {e : Int} (h : gm_best t i r e) (c : e ≤ t i) : gm_best t (i + 1) r e := by
  rcases h with ⟨hr, he, h⟩ | ⟨b, hb, hr, he, h1, h2, h3⟩
  · refine Or.inl ⟨hr, he, fun j hj => ?_⟩
    by_cases q : j = i
    · rw [q]; omega
    · exact h j (by omega)
  · refine Or.inr ⟨b, by omega, hr, he, h1, fun j hj => ?_, h3⟩
    by_cases q : j = i
    · rw [q]; omega
    · exact h2 j (by omega)
theorem gm_best_F {t : Nat → Int} {n : Nat} (hn : n ≤ 14) {r : Int32} {e : Int} (h : gm_best t n r e) : gm_F (gm_pi t n 0) n r := by
  rcases h with ⟨hr, he, h⟩ | ⟨b, hb, hr, he, h1, h2, h3⟩
  · refine Or.inr ⟨fun j hj => ?_, hr⟩
    have := h j hj
    unfold gm_pi
    rw [decide_eq_false (by omega)]
    rfl
  · refine Or.inl ⟨b, hb, ?_, fun j hj => ?_, hr⟩
    · have z : gm_ct (gm_ah t b) n = 0 := (gm_ct_0 n).mpr (fun j hj => by
        have g2 := h2 j hj
        unfold gm_ah
        by_cases q : j < b
        · have g3 := h3 j q
          rw [decide_eq_false (by omega), decide_eq_false (by omega)]
          rfl
        · rw [decide_eq_false (by omega), decide_eq_false q, Bool.and_false]
          rfl)
      unfold gm_pi
      rw [z, decide_eq_true h1, nI_0, decide_eq_true rfl]
      rfl
    · have g3 := h3 j hj
      unfold gm_pi
      have nz : ¬ nI (gm_ct (gm_ah t j) n) = 0 := by
        have hl := gm_ct_le (gm_ah t j) n
        refine nI_ne0 ?_ (by omega)
        rcases Nat.eq_zero_or_pos (gm_ct (gm_ah t j) n) with z | z
        · have := (gm_ct_0 n).mp z b hb
          unfold gm_ah at this
          rw [decide_eq_true g3] at this
          cases this
        · exact z
      rw [decide_eq_false nz, Bool.and_false]
/-- one answer of both searches -/
theorem gm_F_one {t : Nat → Int} {n : Nat} (hn : n ≤ 14) {i r r' : Int32} (h : gm_F (gm_pi t n i) n r) (h' : gm_F (fun b => decide (b < n) && gm_pi t n i b) 14 r') : r' = r := by
  refine gm_F_u (p := gm_pi t n i) (q := fun b => decide (b < n) && gm_pi t n i b) ?_ ?_ ?_ h h'
  · intro j h1 _
    show _ = (decide (j < n) && gm_pi t n i j)
    rw [decide_eq_true h1]
    rfl
  · intro j h1 _
    omega
  · intro j _ h1
    rcases Bool.and_eq_true_iff.mp h1 with ⟨h2, _⟩
    exact of_decide_eq_true h2
theorem gm_best_b {t : Nat → Int} (ht : ∀ b, 0 ≤ t b ∧ t b ≤ 1000000) {i : Nat} {r : Int32} {e : Int} (h : gm_best t i r e) : 0 ≤ e ∧ e ≤ 1000000 := by
  rcases h with ⟨_, he, _⟩ | ⟨b, _, _, he, _⟩
  · omega
  · have := ht b
    omega
theorem gm_ct_t {p : Nat → Bool} {i : Nat} (h : p i = true) : gm_ct p (i + 1) = gm_ct p i + 1 := if_pos h
theorem gm_ct_f {p : Nat → Bool} {i : Nat} (h : p i = false) : gm_ct p (i + 1) = gm_ct p i := if_neg (by rw [h]; decide)
theorem gm_mt_f {l h l' h' : Nat → Int} {i : Nat} (hb : h' i < l i ∨ h i < l' i) : ∀ m : Nat, i < m → gm_mt l h l' h' m = false
  | 0, hi => by omega
  | m + 1, hi => by
    unfold gm_mt
    by_cases e : i = m
    · subst e
      rcases hb with c | c
      · rw [decide_eq_true c]; simp
      · rw [decide_eq_true c]; simp
    · rw [gm_mt_f hb m (by omega)]
      rfl
theorem gm_mt_t {l h l' h' : Nat → Int} {i : Nat} (hm : gm_mt l h l' h' i = true) (h1 : l i ≤ h' i) (h2 : l' i ≤ h i) : gm_mt l h l' h' (i + 1) = true := by
  unfold gm_mt
  rw [hm, decide_eq_false (by omega), decide_eq_false (by omega)]
  rfl
def gm_spn (C E : Nat → Int32) (b ax : Nat) (v : Int) : Bool := decide (gm_lo C b ax ≤ v ∧ v ≤ gm_hi C E b ax)
def gm_arn (C E : Nat → Int32) (x y z : Int) (b : Nat) : Bool := gm_spn C E b 0 x && (gm_spn C E b 1 y && gm_spn C E b 2 z)
def gm_sq (C E : Nat → Int32) (x y z : Int) (b : Nat) : Int :=
  gm_gap (gm_lo C b 0) (gm_hi C E b 0) x * gm_gap (gm_lo C b 0) (gm_hi C E b 0) x + gm_gap (gm_lo C b 1) (gm_hi C E b 1) y * gm_gap (gm_lo C b 1) (gm_hi C E b 1) y + gm_gap (gm_lo C b 2) (gm_hi C E b 2) z * gm_gap (gm_lo C b 2) (gm_hi C E b 2) z
theorem gm_gap_b {lo hi v : Int} (hl : 0 ≤ lo ∧ lo ≤ 31) (hh : lo ≤ hi ∧ hi ≤ 62) (hv : -100 ≤ v ∧ v ≤ 100) : 0 ≤ gm_gap lo hi v ∧ gm_gap lo hi v ≤ 162 := by
  unfold gm_gap
  split
  · omega
  · split <;> omega
theorem gm_gap_s {lo hi v : Int} (hl : 0 ≤ lo ∧ lo ≤ 31) (hh : lo ≤ hi ∧ hi ≤ 62) (hv : -100 ≤ v ∧ v ≤ 100) : 0 ≤ gm_gap lo hi v * gm_gap lo hi v ∧ gm_gap lo hi v * gm_gap lo hi v ≤ 26244 := by
  have h := gm_gap_b hl hh hv
  have h1 := gm_mb (a := gm_gap lo hi v) (k := gm_gap lo hi v) 162 162 (by omega) (by omega) (by omega) (by omega) (by omega)
  have h2 := Int.mul_nonneg h.1 h.1
  omega
theorem gm_sq_b {C E : Nat → Int32} (hC : gm_pk C) (hE : gm_pk E) {x y z : Int} (hx : -100 ≤ x ∧ x ≤ 100) (hy : -100 ≤ y ∧ y ≤ 100) (hz : -100 ≤ z ∧ z ≤ 100) (b : Nat) : 0 ≤ gm_sq C E x y z b ∧ gm_sq C E x y z b ≤ 78732 := by
  have h0 := gm_gap_s (gm_lo_b hC b 0) (gm_hi_b hC hE b 0) hx
  have h1 := gm_gap_s (gm_lo_b hC b 1) (gm_hi_b hC hE b 1) hy
  have h2 := gm_gap_s (gm_lo_b hC b 2) (gm_hi_b hC hE b 2) hz
  unfold gm_sq
  omega
end
section
/-! the component's small methods -/
section
variable {C E S D K : Nat → Int32} {n : Nat} {T : Int32} {post : Int32 → Prop}
theorem xw_within {x y z : Int32} (a b c : Int) (hx : x = zI_ a) (hy : y = zI_ b) (hz : z = zI_ c) (ra : -2147483648 ≤ a ∧ a < 2147483648) (rb : -2147483648 ≤ b ∧ b < 2147483648) (rc : -2147483648 ≤ c ∧ c < 2147483648)
    (h1 : b ≤ a → a ≤ c → post 1) (h0 : (a < b ∨ c < a) → post 0) : wpX_isWithin post x y z :=
  zb_lt a b (fun h => h0 (Or.inl h)) (fun h => zb_lt c a (fun h' => h0 (Or.inr h')) (fun h' => h1 h h') hz hx rc ra) hx hy ra rb
theorem xw_packed {x : Int32} (h1 : 0 ≤ x.toInt → x.toInt ≤ 32767 → post 1) (h0 : (x.toInt < 0 ∨ 32767 < x.toInt) → post 0) : wpX_isPacked post x :=
  xw_within (post := fun r => narrow .boolean (.int r) = .int r ∧ post r) x.toInt 0 32767 (zI_of x) (by decide) (by decide) (zI_rng x) (by omega) (by omega) (fun a b => ⟨rfl, h1 a b⟩) (fun a => ⟨rfl, h0 a⟩)
theorem xw_good_t {j : Nat} (hj : j < n) (hn : n ≤ 14) (h : post 1) : wpX_isGood post (nI n, T, C, E, S, D, K) (nI j) :=
  br_f (nI_pos (by omega)) (br_f (nI_ge hj (by omega)) h)
theorem xw_good_f {x : Int32} (hx : x < 0 ∨ nI n ≤ x) (h : post 0) : wpX_isGood post (nI n, T, C, E, S, D, K) x := by
  by_cases h0 : x < 0
  · exact br_t h0 h
  · exact br_f h0 (br_t (hx.resolve_left h0) h)
theorem xw_part {t : Int} (ht : 0 ≤ t ∧ t ≤ 32767) {ax : Nat} (hax : ax < 3) (h : post (zI_ (gm_P t ax))) : wpX_part post (zI_ t) (nI ax) := by
  obtain ⟨m, rfl⟩ := Int.eq_ofNat_of_zero_le ht.1
  show post ((zI_ (m : Int) >>> ((5 * (2 - nI ax)) &&& 31)) &&& 31)
  refine zv_ (P := post) ?_ h
  rw [← zI_n]
  have hm : m ≤ 32767 := by omega
  rcases (by omega : ax = 0 ∨ ax = 1 ∨ ax = 2) with rfl | rfl | rfl
  · rw [pk_shrN (by omega) _ 10 (by decide), pk_andN (by omega) 5 (by decide), zI_n]
    congr 1
    show ((m / 2 ^ 10 % 2 ^ 5 : Nat) : Int) = (m : Int) / 1024
    omega
  · rw [pk_shrN (by omega) _ 5 (by decide), pk_andN (by omega) 5 (by decide), zI_n]
    congr 1
  · rw [pk_shrN (by omega) _ 0 (by decide), pk_andN (by omega) 5 (by decide), zI_n]
    congr 1
    show ((m / 2 ^ 0 % 2 ^ 5 : Nat) : Int) = (m : Int) % 32
    omega
theorem xw_partA {A : Nat → Int32} (hA : gm_pk A) (b : Nat) {ax : Nat} (hax : ax < 3) (h : post (zI_ (gm_P (A b).toInt ax))) : wpX_part post (A b) (nI ax) := by
  have := xw_part (post := post) (hA b) hax h
  rw [← zI_of] at this
  exact this
theorem xw_low (hC : gm_pk C) {b ax : Nat} (hb : b < 14) (hax : ax < 3) (h : post (zI_ (gm_lo C b ax))) : wpX_low post (nI n, T, C, E, S, D, K) (nI b) (nI ax) := by
  refine And.intro (vp_in_nI hb (by omega)) ?_
  rw [nI_clamp (by omega)]
  exact xw_partA hC b hax h
theorem xw_high (hC : gm_pk C) (hE : gm_pk E) {b ax : Nat} (hb : b < 14) (hax : ax < 3) (h : post (zI_ (gm_hi C E b ax))) : wpX_high post (nI n, T, C, E, S, D, K) (nI b) (nI ax) := by
  refine And.intro (vp_in_nI hb (by omega)) ?_
  rw [nI_clamp (by omega)]
  refine xw_partA hC b hax (And.intro (vp_in_nI hb (by omega)) (xw_partA hE b hax ?_))
  rw [zI_add]
  exact h
theorem xw_sEnt (hr : gm_ray S D K T) {ax : Nat} (hax : ax < 3) {lo hi : Int} (hl : 0 ≤ lo ∧ lo ≤ 31) (hh : lo ≤ hi ∧ hi ≤ 62) (h : post (zI_ (gm_ent (S ax).toInt (D ax).toInt (K ax).toInt lo hi))) : wpX_slabEntry post (nI n, T, C, E, S, D, K) (nI ax) (zI_ lo) (zI_ hi) := by
  have hv : vp_in (nI ax) 3 := vp_in_nI hax (by omega)
  have hs := hr.1 ax hax
  have hd := hr.2.1 ax hax
  refine And.intro hv ?_
  rw [nI_clamp (by omega)]
  unfold gm_ent at h
  refine zb_le (D ax).toInt 0 (fun h1 => ⟨hv, ?_⟩) (fun h1 => ⟨hv, hv, ?_⟩) (zI_of _) zI_0
  · rw [if_neg (by omega)] at h
    refine zb_le 0 (D ax).toInt (fun h2 => ⟨hv, ?_⟩) (fun h2 => ⟨hv, hv, ?_⟩) zI_0 (zI_of _)
    · rw [if_neg (by omega)] at h
      refine xw_within (S ax).toInt lo hi (zI_of _) rfl rfl (by omega) (by omega) (by omega) (fun a b => br_f (by decide) ?_) (fun a => br_t rfl ?_)
      · rw [if_pos ⟨a, b⟩] at h
        exact zv_ (P := post) zI_0 h
      · rw [if_neg (by omega)] at h
        exact zv_ (P := post) zI_M h
    · rw [if_pos h2] at h
      refine zv_ (P := post) ?_ h
      rw [← zI_mul, ← zI_sub, ← zI_of, ← zI_of]
  · rw [if_pos h1] at h
    refine zv_ (P := post) ?_ h
    rw [← zI_mul, ← zI_sub, ← zI_of, ← zI_of]
theorem xw_sExt (hr : gm_ray S D K T) {ax : Nat} (hax : ax < 3) {lo hi : Int} (h : post (zI_ (gm_ext (S ax).toInt (D ax).toInt (K ax).toInt lo hi))) : wpX_slabExit post (nI n, T, C, E, S, D, K) (nI ax) (zI_ lo) (zI_ hi) := by
  have hv : vp_in (nI ax) 3 := vp_in_nI hax (by omega)
  have hs := hr.1 ax hax
  have hd := hr.2.1 ax hax
  refine And.intro hv ?_
  rw [nI_clamp (by omega)]
  unfold gm_ext at h
  refine zb_le (D ax).toInt 0 (fun h1 => ⟨hv, ?_⟩) (fun h1 => ⟨hv, hv, ?_⟩) (zI_of _) zI_0
  · rw [if_neg (by omega)] at h
    refine zb_le 0 (D ax).toInt (fun h2 => ?_) (fun h2 => ⟨hv, hv, ?_⟩) zI_0 (zI_of _)
    · rw [if_neg (by omega)] at h
      exact zv_ (P := post) zI_M h
    · rw [if_pos h2] at h
      refine zv_ (P := post) ?_ h
      rw [← zI_mul, ← zI_sub, ← zI_of, ← zI_of]
  · rw [if_pos h1] at h
    refine zv_ (P := post) ?_ h
    rw [← zI_mul, ← zI_sub, ← zI_of, ← zI_of]
theorem xw_ent8 (hr : gm_ray S D K T) (hC : gm_pk C) (hE : gm_pk E) {b : Nat} (hb : b < 14) (h : post (zI_ (gm_t S D K C E b))) : ∀ d i : Nat, i + d = 3 →
    wX_entryTicks_8 post (nI b) (nI n) T C E S D K (d + 1) (zI_ (gm_la (gm_E S D K C E b) i)) (zI_ (gm_ea (gm_X S D K C E b) i)) (nI i)
  | 0, i, hi => by
    have e : i = 3 := by omega
    subst e
    have h1 := gm_la_b (e := gm_E S D K C E b) 3 (fun i hi => by have := gm_E_b hr hC hE b hi; omega)
    have h2 := gm_ea_b (l := gm_X S D K C E b) 3 (fun i hi => (gm_X_b hr hC hE b hi).1)
    unfold gm_t at h
    refine br_t (nI_le (a := 3) (b := 3) (by omega) (by omega)) (zb_lt _ _ (fun c => ?_) (fun c => ?_) rfl rfl (by omega) (by omega))
    · rw [if_neg (by omega)] at h
      exact zv_ (P := post) zI_M h
    · rw [if_pos c] at h
      exact h
  | d + 1, i, hi => by
    have h1 := gm_la_b (e := gm_E S D K C E b) i (fun j hj => by have := gm_E_b hr hC hE b (ax := j) (by omega); omega)
    have h2 := gm_ea_b (l := gm_X S D K C E b) i (fun j hj => (gm_X_b hr hC hE b (ax := j) (by omega)).1)
    have ih := xw_ent8 hr hC hE hb h d (i + 1) (by omega)
    have he := gm_E_b hr hC hE b (ax := i) (by omega)
    have hx := gm_X_b hr hC hE b (ax := i) (by omega)
    refine br_f (nI_ge (a := i) (b := 3) (by omega) (by omega)) (xw_low hC hb (by omega) (xw_high hC hE hb (by omega) (xw_sEnt hr (by omega) (gm_lo_b hC b i) (gm_hi_b hC hE b i) (xw_sExt hr (by omega) ?_))))
    have e1 : gm_la (gm_E S D K C E b) (i + 1) = if gm_la (gm_E S D K C E b) i < gm_E S D K C E b i then gm_E S D K C E b i else gm_la (gm_E S D K C E b) i := rfl
    have e2 : gm_ea (gm_X S D K C E b) (i + 1) = if gm_X S D K C E b i < gm_ea (gm_X S D K C E b) i then gm_X S D K C E b i else gm_ea (gm_X S D K C E b) i := rfl
    rw [e1, e2] at ih
    refine zb_le (gm_E S D K C E b i) _ (fun c => ?_) (fun c => ?_) rfl rfl (by omega) (by omega)
    · rw [if_neg (by omega)] at ih
      refine zb_le _ (gm_X S D K C E b i) (fun c' => nm_r (nI_1 i) ?_) (fun c' => nm_r (nI_1 i) ?_) rfl rfl (by omega) (by omega)
      · rw [if_neg (by omega)] at ih
        exact ih
      · rw [if_pos c'] at ih
        exact ih
    · rw [if_pos c] at ih
      refine zb_le _ (gm_X S D K C E b i) (fun c' => nm_r (nI_1 i) ?_) (fun c' => nm_r (nI_1 i) ?_) rfl rfl (by omega) (by omega)
      · rw [if_neg (by omega)] at ih
        exact ih
      · rw [if_pos c'] at ih
        exact ih
theorem xw_ent (hr : gm_ray S D K T) (hC : gm_pk C) (hE : gm_pk E) {b : Nat} (hb : b < 14) (h : post (zI_ (gm_t S D K C E b))) : wpX_entryTicks post (nI n, T, C, E, S, D, K) (nI b) := by
  refine ⟨4, ?_⟩
  rw [zI_M, zI_0]
  exact xw_ent8 hr hC hE hb h 3 0 rfl
theorem xw_ext5 (hr : gm_ray S D K T) (hC : gm_pk C) (hE : gm_pk E) {b : Nat} (hb : b < 14) (h : post (zI_ (gm_x S D K C E b))) : ∀ d i : Nat, i + d = 3 →
    wX_exitTicks_5 post (nI b) (nI n) T C E S D K (d + 1) (zI_ (gm_ea (gm_X S D K C E b) i)) (nI i)
  | 0, i, hi => by
    have e : i = 3 := by omega
    subst e
    exact br_t (nI_le (a := 3) (b := 3) (by omega) (by omega)) h
  | d + 1, i, hi => by
    have h2 := gm_ea_b (l := gm_X S D K C E b) i (fun j hj => (gm_X_b hr hC hE b (ax := j) (by omega)).1)
    have ih := xw_ext5 hr hC hE hb h d (i + 1) (by omega)
    have hx := gm_X_b hr hC hE b (ax := i) (by omega)
    refine br_f (nI_ge (a := i) (b := 3) (by omega) (by omega)) (xw_low hC hb (by omega) (xw_high hC hE hb (by omega) (xw_sExt hr (by omega) ?_)))
    have e2 : gm_ea (gm_X S D K C E b) (i + 1) = if gm_X S D K C E b i < gm_ea (gm_X S D K C E b) i then gm_X S D K C E b i else gm_ea (gm_X S D K C E b) i := rfl
    rw [e2] at ih
    refine zb_le _ (gm_X S D K C E b i) (fun c' => nm_r (nI_1 i) ?_) (fun c' => nm_r (nI_1 i) ?_) rfl rfl (by omega) (by omega)
    · rw [if_neg (by omega)] at ih
      exact ih
    · rw [if_pos c'] at ih
      exact ih
theorem xw_ext (hr : gm_ray S D K T) (hC : gm_pk C) (hE : gm_pk E) {b : Nat} (hb : b < 14) (h : post (zI_ (gm_x S D K C E b))) : wpX_exitTicks post (nI n, T, C, E, S, D, K) (nI b) := by
  refine ⟨4, ?_⟩
  rw [zI_M]
  exact xw_ext5 hr hC hE hb h 3 0 rfl
end
end
section
/-! the component's searches and counts -/
section
variable {C E S D K : Nat → Int32} {n : Nat} {T : Int32} {post : Int32 → Prop}
theorem xw_best7 (hr : gm_ray S D K T) (hC : gm_pk C) (hE : gm_pk E) (hn : n ≤ 14) (h : ∀ r e, gm_best (gm_t S D K C E) n r e → post r) : ∀ (d i : Nat) (r : Int32) (e : Int), i + d = n → gm_best (gm_t S D K C E) i r e →
    wX_firstBox_7 post (nI n) T C E S D K (d + 1) r (zI_ e) (nI i)
  | 0, i, r, e, hi, hb => by
    have q : i = n := by omega
    subst q
    exact br_t (nI_le (Nat.le_refl i) (by omega)) (h r e hb)
  | d + 1, i, r, e, hi, hb => by
    have ht := gm_t_b hr hC hE i
    have he := gm_best_b (gm_t_b hr hC hE) hb
    refine br_f (nI_ge (a := i) (b := n) (by omega) (by omega)) (xw_ent hr hC hE (by omega) (zb_le e (gm_t S D K C E i) (fun c => nm_r (nI_1 i) ?_) (fun c => nm_r (nI_1 i) ?_) rfl rfl (by omega) (by omega)))
    · exact xw_best7 hr hC hE hn h d (i + 1) r e (by omega) (gm_best_f hb c)
    · exact xw_best7 hr hC hE hn h d (i + 1) (nI i) _ (by omega) (gm_best_t hb ht.2 c)
theorem xw_firstBox (hr : gm_ray S D K T) (hC : gm_pk C) (hE : gm_pk E) (hn : n ≤ 14) (h : ∀ r e, gm_best (gm_t S D K C E) n r e → post r) : wpX_firstBox post (nI n, T, C, E, S, D, K) := by
  refine ⟨n + 1, ?_⟩
  rw [zI_M]
  exact xw_best7 hr hC hE hn h n 0 (-1) 1000000 (by omega) (gm_best_0 _)
theorem xw_ah5 (hr : gm_ray S D K T) (hC : gm_pk C) (hE : gm_pk E) (hn : n ≤ 14) {b : Nat} (hb : b < 14) (h : post (nI (gm_ct (gm_ah (gm_t S D K C E) b) n))) : ∀ d i : Nat, i + d = n →
    wX_countAhead_5 post (nI b) (zI_ (gm_t S D K C E b)) (nI n) T C E S D K (d + 1) (nI (gm_ct (gm_ah (gm_t S D K C E) b) i)) (nI i)
  | 0, i, hi => by
    have q : i = n := by omega
    subst q
    exact br_t (nI_le (Nat.le_refl i) (by omega)) h
  | d + 1, i, hi => by
    have ht := gm_t_b hr hC hE i
    have htb := gm_t_b hr hC hE b
    have ih := xw_ah5 hr hC hE hn hb h d (i + 1) (by omega)
    refine br_f (nI_ge (a := i) (b := n) (by omega) (by omega)) (xw_ent hr hC hE (by omega) (zb_lt (gm_t S D K C E i) (gm_t S D K C E b) (fun c => nm_r (nI_1 _) (nm_r (nI_1 i) ?_)) (fun c => zb_eq (gm_t S D K C E i) (gm_t S D K C E b) (fun c2 => pk_le b i (fun c3 => nm_r (nI_1 i) ?_) (fun c3 => nm_r (nI_1 _) (nm_r (nI_1 i) ?_))) (fun c2 => nm_r (nI_1 i) ?_) rfl rfl (by omega) (by omega)) rfl rfl (by omega) (by omega)))
    · rw [gm_ct_t (by unfold gm_ah; rw [decide_eq_true c]; rfl)] at ih
      exact ih
    · rw [gm_ct_f (by unfold gm_ah; rw [decide_eq_false (by omega), decide_eq_false (by omega : ¬ i < b), Bool.and_false]; rfl)] at ih
      exact ih
    · rw [gm_ct_t (by unfold gm_ah; rw [decide_eq_true c2, decide_eq_true c3, Bool.and_true, Bool.or_true])] at ih
      exact ih
    · rw [gm_ct_f (by unfold gm_ah; rw [decide_eq_false (by omega), decide_eq_false c2]; rfl)] at ih
      exact ih
theorem xw_ahead (hr : gm_ray S D K T) (hC : gm_pk C) (hE : gm_pk E) (hn : n ≤ 14) {b : Nat} (hb : b < 14) (h : post (nI (gm_ct (gm_ah (gm_t S D K C E) b) n))) : wpX_countAhead post (nI n, T, C, E, S, D, K) (nI b) (zI_ (gm_t S D K C E b)) :=
  ⟨n + 1, xw_ah5 hr hC hE hn hb h n 0 (by omega)⟩
theorem xw_hit2 (hr : gm_ray S D K T) (hC : gm_pk C) (hE : gm_pk E) (hn : n ≤ 14) {v : Int32} (h : ∀ r, gm_F (gm_pi (gm_t S D K C E) n v) n r → post r) : ∀ d i : Nat, i + d = n → (∀ j, j < i → gm_pi (gm_t S D K C E) n v j = false) →
    wX_hit_2 post v (nI n) T C E S D K (d + 1) (nI i)
  | 0, i, hi, hp => by
    have q : i = n := by omega
    subst q
    exact br_t (nI_le (Nat.le_refl i) (by omega)) (h _ (Or.inr ⟨hp, rfl⟩))
  | d + 1, i, hi, hp => by
    have ht := gm_t_b hr hC hE i
    have ih := fun q => xw_hit2 hr hC hE hn h d (i + 1) (by omega) (lt_s hp q)
    refine br_f (nI_ge (a := i) (b := n) (by omega) (by omega)) (xw_ent hr hC hE (by omega) (zb_le 1000000 (gm_t S D K C E i) (fun c => nm_r (nI_1 i) (ih ?_)) (fun c => xw_ahead hr hC hE hn (by omega) (br_c (fun c2 => h _ (Or.inl ⟨i, by omega, ?_, hp, rfl⟩)) (fun c2 => nm_r (nI_1 i) (ih ?_)))) zI_M rfl (by omega) (by omega)))
    · unfold gm_pi
      rw [decide_eq_false (by omega)]
      rfl
    · unfold gm_pi
      rw [decide_eq_true c, decide_eq_true c2]
      rfl
    · unfold gm_pi
      rw [decide_eq_false c2, Bool.and_false]
theorem xw_hit (hr : gm_ray S D K T) (hC : gm_pk C) (hE : gm_pk E) (hn : n ≤ 14) {v : Int32} (h : ∀ r, gm_F (gm_pi (gm_t S D K C E) n v) n r → post r) : wpX_hit post (nI n, T, C, E, S, D, K) v :=
  ⟨n + 1, xw_hit2 hr hC hE hn h n 0 (by omega) (fun j hj => by omega)⟩
theorem xw_hits4 (hr : gm_ray S D K T) (hC : gm_pk C) (hE : gm_pk E) (hn : n ≤ 14) (h : post (nI (gm_ct (fun c => decide (gm_t S D K C E c < 1000000) && true) n))) : ∀ d i : Nat, i + d = n →
    wX_hits_4 post (nI n) T C E S D K (d + 1) (nI (gm_ct (fun c => decide (gm_t S D K C E c < 1000000) && true) i)) (nI i)
  | 0, i, hi => by
    have q : i = n := by omega
    subst q
    exact br_t (nI_le (Nat.le_refl i) (by omega)) h
  | d + 1, i, hi => by
    have ht := gm_t_b hr hC hE i
    have ih := xw_hits4 hr hC hE hn h d (i + 1) (by omega)
    refine br_f (nI_ge (a := i) (b := n) (by omega) (by omega)) (xw_ent hr hC hE (by omega) (zb_le 1000000 (gm_t S D K C E i) (fun c => nm_r (nI_1 i) ?_) (fun c => nm_r (nI_1 _) (nm_r (nI_1 i) ?_)) zI_M rfl (by omega) (by omega)))
    · rw [gm_ct_f (p := fun c => decide (gm_t S D K C E c < 1000000) && true) (by show (decide (gm_t S D K C E i < 1000000) && true) = false; rw [decide_eq_false (by omega)]; rfl)] at ih
      exact ih
    · rw [gm_ct_t (p := fun c => decide (gm_t S D K C E c < 1000000) && true) (by show (decide (gm_t S D K C E i < 1000000) && true) = true; rw [decide_eq_true c]; rfl)] at ih
      exact ih
theorem xw_hits (hr : gm_ray S D K T) (hC : gm_pk C) (hE : gm_pk E) (hn : n ≤ 14) (h : post (nI (gm_ct (fun c => decide (gm_t S D K C E c < 1000000) && true) n))) : wpX_hits post (nI n, T, C, E, S, D, K) :=
  ⟨n + 1, xw_hits4 hr hC hE hn h n 0 (by omega)⟩
/-- entered by the time p / q -/
def gm_by (t : Nat → Int) (T p q : Int) (c : Nat) : Bool := decide (t c < 1000000) && decide (t c * q ≤ p * T)
theorem xw_hb31 (hr : gm_ray S D K T) (hC : gm_pk C) (hE : gm_pk E) (hn : n ≤ 14) {p q : Int} (hp : 0 ≤ p ∧ p ≤ 1000) (hq : 1 ≤ q ∧ q ≤ 100) (h : post (nI (gm_ct (gm_by (gm_t S D K C E) T.toInt p q) n))) : ∀ d i : Nat, i + d = n →
    wX_hitsBefore_31 post (zI_ p) (zI_ q) (nI n) T C E S D K (d + 1) (nI (gm_ct (gm_by (gm_t S D K C E) T.toInt p q) i)) (nI i)
  | 0, i, hi => by
    have e : i = n := by omega
    subst e
    exact br_t (nI_le (Nat.le_refl i) (by omega)) h
  | d + 1, i, hi => by
    have ht := gm_t_b hr hC hE i
    have ih := xw_hb31 hr hC hE hn hp hq h d (i + 1) (by omega)
    have hT := hr.2.2.2.2
    have b1 := gm_mb (a := p) (k := T.toInt) 1000 8000 (by omega) (by omega) (by omega) (by omega) (by omega)
    have b2 := gm_mb (a := gm_t S D K C E i) (k := q) 1000000 100 (by omega) (by omega) (by omega) (by omega) (by omega)
    refine br_f (nI_ge (a := i) (b := n) (by omega) (by omega)) (xw_ent hr hC hE (by omega) (zb_le 1000000 (gm_t S D K C E i) (fun c => nm_r (nI_1 i) ?_) (fun c => zb_lt (p * T.toInt) (gm_t S D K C E i * q) (fun c2 => nm_r (nI_1 i) ?_) (fun c2 => nm_r (nI_1 _) (nm_r (nI_1 i) ?_)) (by rw [← zI_mul, ← zI_of]) (by rw [← zI_mul]) (by omega) (by omega)) zI_M rfl (by omega) (by omega)))
    · rw [gm_ct_f (by unfold gm_by; rw [decide_eq_false (by omega)]; rfl)] at ih
      exact ih
    · rw [gm_ct_f (by unfold gm_by; rw [decide_eq_false (by omega : ¬ gm_t S D K C E i * q ≤ p * T.toInt), Bool.and_false])] at ih
      exact ih
    · rw [gm_ct_t (by unfold gm_by; rw [decide_eq_true c, decide_eq_true c2]; rfl)] at ih
      exact ih
theorem xw_cd5 {m t : Nat} (ht : 1 ≤ t ∧ t ≤ 8000) (hm : m ≤ 64800) (h : post (nI (Nat.gcd m t))) : ∀ d : Nat, d + 1 ≤ t → (∀ k, d + 1 < k → k ≤ t → k ∣ m → k ∣ t → False) →
    wX_commonDivisor_5 post (nI m) (nI n) (nI t) C E S D K (d + 1) (nI (d + 1))
  | 0, hd, hk => by
    have e : 1 = Nat.gcd m t := gm_gcd (by omega) (by omega) (Nat.one_dvd m) (Nat.one_dvd t) (fun k k1 k2 k3 k4 => by
      rcases (by omega : k ≤ 1 ∨ 1 < k) with c | c
      · exact c
      · exact absurd (hk k c k2 k3 k4) (fun x => x))
    rw [← e] at h
    exact br_t (nI_le (a := 1) (b := 1) (by omega) (by omega)) h
  | d + 1, hd, hk => by
    have ih := fun q => xw_cd5 ht hm h d (by omega) q
    have hz : ¬ nI (d + 1 + 1) = 0 := nI_ne0 (by omega) (by omega)
    have stp : (¬ (d + 1 + 1 ∣ m ∧ d + 1 + 1 ∣ t)) → ∀ k, d + 1 < k → k ≤ t → k ∣ m → k ∣ t → False := by
      intro c k k1 k2 k3 k4
      by_cases e : k = d + 1 + 1
      · subst e; exact c ⟨k3, k4⟩
      · exact hk k (by omega) k2 k3 k4
    refine br_f (nI_ge (a := 1) (b := d + 1 + 1) (by omega) (by omega)) ⟨hz, ?_⟩
    rw [pk_rem (by omega) (by omega) (by omega), pk_rem (by omega) (by omega) (by omega)]
    refine pk_eq (m % (d + 1 + 1)) 0 (fun c => ⟨hz, pk_eq (t % (d + 1 + 1)) 0 (fun c2 => ?_) (fun c2 => nm_r (pk_m1 (d + 1)) (ih (stp ?_))) rfl rfl ?_ ?_⟩) (fun c => nm_r (pk_m1 (d + 1)) (ih (stp ?_))) rfl rfl ?_ ?_
    · have e : d + 1 + 1 = Nat.gcd m t := gm_gcd (by omega) (by omega) (Nat.dvd_of_mod_eq_zero c) (Nat.dvd_of_mod_eq_zero c2) (fun k k1 k2 k3 k4 => by
        rcases (by omega : k ≤ d + 1 + 1 ∨ d + 1 + 1 < k) with q | q
        · exact q
        · exact absurd (hk k q k2 k3 k4) (fun x => x))
      rw [← e] at h
      exact h
    · exact fun q => c2 (Nat.mod_eq_zero_of_dvd q.2)
    · have := Nat.mod_lt t (show 0 < d + 1 + 1 by omega); omega
    · omega
    · exact fun q => c (Nat.mod_eq_zero_of_dvd q.1)
    · have := Nat.mod_lt m (show 0 < d + 1 + 1 by omega); omega
    · omega
theorem xw_cd {m t : Nat} (ht : 1 ≤ t ∧ t ≤ 8000) (hm : m ≤ 64800) (h : post (nI (Nat.gcd m t))) : wpX_commonDivisor post (nI n, nI t, C, E, S, D, K) (nI m) := by
  obtain ⟨d, rfl⟩ : ∃ d, t = d + 1 := ⟨t - 1, by omega⟩
  exact ⟨d + 1, xw_cd5 ht hm h d (by omega) (fun k k1 k2 => by omega)⟩
theorem xw_lowTop {m t : Nat} (ht : 1 ≤ t ∧ t ≤ 8000) (hm : m ≤ 64800) (h : post (nI (m / Nat.gcd m t))) : wpX_lowestTop post (nI n, nI t, C, E, S, D, K) (nI m) := by
  have g0 : 0 < Nat.gcd m t := Nat.gcd_pos_of_pos_right m (by omega)
  have g1 : Nat.gcd m t ≤ t := Nat.le_of_dvd (by omega) (Nat.gcd_dvd_right m t)
  refine xw_cd (post := fun r => ¬ r = 0 ∧ post (nI m / r)) ht hm ⟨nI_ne0 g0 (by omega), ?_⟩
  rw [pk_div (by omega) g0 (by omega)]
  exact h
theorem xw_lowBottom {m t : Nat} (ht : 1 ≤ t ∧ t ≤ 8000) (hm : m ≤ 64800) (h : post (nI (t / Nat.gcd m t))) : wpX_lowestBottom post (nI n, nI t, C, E, S, D, K) (nI m) := by
  have g0 : 0 < Nat.gcd m t := Nat.gcd_pos_of_pos_right m (by omega)
  have g1 : Nat.gcd m t ≤ t := Nat.le_of_dvd (by omega) (Nat.gcd_dvd_right m t)
  refine xw_cd (post := fun r => ¬ r = 0 ∧ post (nI t / r)) ht hm ⟨nI_ne0 g0 (by omega), ?_⟩
  rw [pk_div (by omega) g0 (by omega)]
  exact h
end
end
section
/-! the component: boxes against boxes and points -/
/-- box b against the packed c, e -/
def gm_m (C E : Nat → Int32) (b : Nat) (c e : Int) : Bool := gm_mt (gm_lo C b) (gm_hi C E b) (gm_P c) (fun i => gm_P c i + gm_P e i) 3
section
variable {C E S D K : Nat → Int32} {n : Nat} {T : Int32} {post : Int32 → Prop}
theorem xw_partV {x : Int32} (hx : 0 ≤ x.toInt ∧ x.toInt ≤ 32767) {ax : Nat} (hax : ax < 3) (h : post (zI_ (gm_P x.toInt ax))) : wpX_part post x (nI ax) := by
  have := xw_part (post := post) hx hax h
  rw [← zI_of] at this
  exact this
theorem xw_meets3 (hC : gm_pk C) (hE : gm_pk E) {b : Nat} (hb : b < 14) {c e : Int32} (hc : 0 ≤ c.toInt ∧ c.toInt ≤ 32767) (he : 0 ≤ e.toInt ∧ e.toInt ≤ 32767) (h1 : gm_m C E b c.toInt e.toInt = true → post 1) (h0 : gm_m C E b c.toInt e.toInt = false → post 0) : ∀ d i : Nat, i + d = 3 → gm_mt (gm_lo C b) (gm_hi C E b) (gm_P c.toInt) (fun i => gm_P c.toInt i + gm_P e.toInt i) i = true →
    wX_meets_3 post (nI b) c e (nI n) T C E S D K (d + 1) (nI i)
  | 0, i, hi, hm => by
    have q : i = 3 := by omega
    subst q
    exact br_t (nI_le (a := 3) (b := 3) (by omega) (by omega)) (h1 hm)
  | d + 1, i, hi, hm => by
    have p1 := gm_P_b hc i
    have p2 := gm_P_b he i
    have p3 := gm_lo_b hC b i
    have p4 := gm_hi_b hC hE b i
    refine br_f (nI_ge (a := i) (b := 3) (by omega) (by omega)) (xw_partV hc (by omega) (xw_partV he (by omega) (nm_r (zI_add _ _) (xw_low hC hb (by omega) (zb_lt (gm_P c.toInt i + gm_P e.toInt i) (gm_lo C b i) (fun q => h0 ?_) (fun q => xw_high hC hE hb (by omega) (zb_le (gm_P c.toInt i) (gm_hi C E b i) (fun q' => nm_r (nI_1 i) ?_) (fun q' => h0 ?_) rfl rfl (by omega) (by omega))) rfl rfl (by omega) (by omega))))))
    · exact gm_mt_f (Or.inl q) 3 (by omega)
    · exact xw_meets3 hC hE hb hc he h1 h0 d (i + 1) (by omega) (gm_mt_t hm q q')
    · exact gm_mt_f (Or.inr q') 3 (by omega)
theorem xw_meets (hC : gm_pk C) (hE : gm_pk E) {b : Nat} (hb : b < 14) {c e : Int32} (hc : 0 ≤ c.toInt ∧ c.toInt ≤ 32767) (he : 0 ≤ e.toInt ∧ e.toInt ≤ 32767) (h1 : gm_m C E b c.toInt e.toInt = true → post 1) (h0 : gm_m C E b c.toInt e.toInt = false → post 0) : wpX_meets post (nI n, T, C, E, S, D, K) (nI b) c e :=
  ⟨4, xw_meets3 hC hE hb hc he h1 h0 3 0 rfl rfl⟩
theorem xw_mtg24 (hC : gm_pk C) (hE : gm_pk E) (hn : n ≤ 14) {c e : Int32} (hc : 0 ≤ c.toInt ∧ c.toInt ≤ 32767) (he : 0 ≤ e.toInt ∧ e.toInt ≤ 32767) (h : post (nI (gm_ct (fun b => gm_m C E b c.toInt e.toInt) n))) : ∀ d i : Nat, i + d = n →
    wX_meeting_24 post c e (nI n) T C E S D K (d + 1) (nI (gm_ct (fun b => gm_m C E b c.toInt e.toInt) i)) (nI i)
  | 0, i, hi => by
    have q : i = n := by omega
    subst q
    exact br_t (nI_le (Nat.le_refl i) (by omega)) h
  | d + 1, i, hi => by
    have ih := xw_mtg24 hC hE hn hc he h d (i + 1) (by omega)
    refine br_f (nI_ge (a := i) (b := n) (by omega) (by omega)) (xw_meets hC hE (by omega) hc he (fun q => br_f (by decide) (nm_r (nI_1 _) (nm_r (nI_1 i) ?_))) (fun q => br_t rfl (nm_r (nI_1 i) ?_)))
    · rw [gm_ct_t (p := fun b => gm_m C E b c.toInt e.toInt) q] at ih
      exact ih
    · rw [gm_ct_f (p := fun b => gm_m C E b c.toInt e.toInt) q] at ih
      exact ih
/-- boxes b and o have a point in common -/
def gm_M (C E : Nat → Int32) (b o : Nat) : Bool := gm_m C E b (C o).toInt (E o).toInt
theorem gm_M_s (C E : Nat → Int32) (b o : Nat) : gm_M C E b o = gm_M C E o b := gm_mt_s _ _ _ _ 3
theorem gm_M_r (hC : gm_pk C) (hE : gm_pk E) (b : Nat) : gm_M C E b b = true := gm_mt_r 3 (fun i _ => (gm_hi_b hC hE b i).1)
def gm_later (C E : Nat → Int32) (b o : Nat) : Bool := decide (b < o) && gm_M C E b o
theorem xw_tch16 (hC : gm_pk C) (hE : gm_pk E) (hn : n ≤ 14) {b f : Nat} (hb : b < n) {J : Int32 → Int32 → Prop} (h : J (nI (f + gm_ct (gm_later C E b) n)) (nI (b + 1))) : ∀ d i : Nat, i + d = n → b < i →
    wX_touching_16 post J (nI b) (nI n) T C E S D K (d + 1) (nI (f + gm_ct (gm_later C E b) i)) (nI i)
  | 0, i, hi, hbi => by
    have q : i = n := by omega
    subst q
    exact br_t (nI_le (Nat.le_refl i) (by omega)) (nm_r (nI_1 b) h)
  | d + 1, i, hi, hbi => by
    have ih := xw_tch16 hC hE hn hb h d (i + 1) (by omega) (by omega)
    have hv : vp_in (nI i) 14 := vp_in_nI (by omega) (by omega)
    refine br_f (nI_ge (a := i) (b := n) (by omega) (by omega)) ⟨hv, hv, ?_⟩
    rw [nI_clamp (by omega)]
    refine xw_meets hC hE (by omega) (hC i) (hE i) (fun q => br_f (by decide) (nm_r (nI_1 _) (nm_r (nI_1 i) ?_))) (fun q => br_t rfl (nm_r (nI_1 i) ?_))
    · rw [gm_ct_t (p := gm_later C E b) (by unfold gm_later; rw [decide_eq_true hbi]; exact q)] at ih
      exact ih
    · rw [gm_ct_f (p := gm_later C E b) (by unfold gm_later; rw [decide_eq_true hbi]; exact q)] at ih
      exact ih
theorem xw_tch4 (hC : gm_pk C) (hE : gm_pk E) (hn : n ≤ 14) (h : post (nI (gm_su (fun b => gm_ct (gm_later C E b) n) n))) : ∀ d i : Nat, i + d = n →
    wX_touching_4 post (nI n) T C E S D K (d + 1) (nI (gm_su (fun b => gm_ct (gm_later C E b) n) i)) (nI i)
  | 0, i, hi => by
    have q : i = n := by omega
    subst q
    exact br_t (nI_le (Nat.le_refl i) (by omega)) h
  | d + 1, i, hi => by
    have ih := xw_tch4 hC hE hn h d (i + 1) (by omega)
    refine br_f (nI_ge (a := i) (b := n) (by omega) (by omega)) (nm_r (nI_1 i) ⟨n - (i + 1) + 1, ?_⟩)
    have := xw_tch16 (post := post) (T := T) (S := S) (D := D) (K := K) hC hE hn (b := i) (f := gm_su (fun b => gm_ct (gm_later C E b) n) i) (by omega) ih (n - (i + 1)) (i + 1) (by omega) (by omega)
    have z : gm_ct (gm_later C E i) (i + 1) = 0 := (gm_ct_0 (i + 1)).mpr (fun j hj => by
      unfold gm_later
      rw [decide_eq_false (by omega)]
      rfl)
    rw [z, Nat.add_zero] at this
    exact this
theorem xw_touching (hC : gm_pk C) (hE : gm_pk E) (hn : n ≤ 14) (h : post (nI (gm_su (fun b => gm_ct (gm_later C E b) n) n))) : wpX_touching post (nI n, T, C, E, S, D, K) :=
  ⟨n + 1, xw_tch4 hC hE hn h n 0 (by omega)⟩
theorem xw_spans (hC : gm_pk C) (hE : gm_pk E) {b ax : Nat} (hb : b < 14) (hax : ax < 3) {x : Int32} (h1 : gm_spn C E b ax x.toInt = true → post 1) (h0 : gm_spn C E b ax x.toInt = false → post 0) : wpX_spans post (nI n, T, C, E, S, D, K) (nI b) (nI ax) x := by
  have p3 := gm_lo_b hC b ax
  have p4 := gm_hi_b hC hE b ax
  unfold wpX_spans
  dsimp only
  refine xw_low hC hb hax (xw_high hC hE hb hax (xw_within x.toInt _ _ (zI_of x) rfl rfl (zI_rng x) (by omega) (by omega) (fun q q' => ⟨rfl, h1 ?_⟩) (fun q => ⟨rfl, h0 ?_⟩)))
  · exact decide_eq_true ⟨q, q'⟩
  · exact decide_eq_false (by omega)
theorem xw_arn6 (hC : gm_pk C) (hE : gm_pk E) (hn : n ≤ 14) {x y z : Int32} (h : post (nI (gm_ct (gm_arn C E x.toInt y.toInt z.toInt) n))) : ∀ d i : Nat, i + d = n →
    wX_around_6 post x y z (nI n) T C E S D K (d + 1) (nI (gm_ct (gm_arn C E x.toInt y.toInt z.toInt) i)) (nI i)
  | 0, i, hi => by
    have q : i = n := by omega
    subst q
    exact br_t (nI_le (Nat.le_refl i) (by omega)) h
  | d + 1, i, hi => by
    have ih := xw_arn6 hC hE hn h d (i + 1) (by omega)
    refine br_f (nI_ge (a := i) (b := n) (by omega) (by omega)) (xw_spans (ax := 0) hC hE (by omega) (by omega) (fun q => br_f (by decide) (xw_spans (ax := 1) hC hE (by omega) (by omega) (fun q' => br_f (by decide) (xw_spans (ax := 2) hC hE (by omega) (by omega) (fun q'' => br_f (by decide) (nm_r (nI_1 _) (nm_r (nI_1 i) ?_))) (fun q'' => br_t rfl (nm_r (nI_1 i) ?_)))) (fun q' => br_t rfl (nm_r (nI_1 i) ?_)))) (fun q => br_t rfl (nm_r (nI_1 i) ?_)))
    · rw [gm_ct_t (by unfold gm_arn; rw [q, q', q'']; rfl)] at ih
      exact ih
    · rw [gm_ct_f (by unfold gm_arn; rw [q, q', q'']; rfl)] at ih
      exact ih
    · rw [gm_ct_f (by unfold gm_arn; rw [q, q']; rfl)] at ih
      exact ih
    · rw [gm_ct_f (by unfold gm_arn; rw [q]; rfl)] at ih
      exact ih
theorem xw_gap (hC : gm_pk C) (hE : gm_pk E) {b ax : Nat} (hb : b < 14) (hax : ax < 3) {v : Int} (hv : -100 ≤ v ∧ v ≤ 100) (h : post (zI_ (gm_gap (gm_lo C b ax) (gm_hi C E b ax) v))) : wpX_gap post (nI n, T, C, E, S, D, K) (nI b) (nI ax) (zI_ v) := by
  have p3 := gm_lo_b hC b ax
  have p4 := gm_hi_b hC hE b ax
  unfold gm_gap at h
  unfold wpX_gap
  dsimp only
  refine xw_low hC hb hax (xw_high hC hE hb hax (zb_le (gm_lo C b ax) v (fun q => zb_le v (gm_hi C E b ax) (fun q' => ?_) (fun q' => ?_) rfl rfl (by omega) (by omega)) (fun q => ?_) rfl rfl (by omega) (by omega)))
  · rw [if_neg (by omega), if_neg (by omega)] at h
    exact zv_ (P := post) zI_0 h
  · rw [if_neg (by omega), if_pos q'] at h
    exact zv_ (P := post) (zI_sub _ _) h
  · rw [if_pos q] at h
    exact zv_ (P := post) (zI_sub _ _) h
theorem xw_sq (hC : gm_pk C) (hE : gm_pk E) {b : Nat} (hb : b < 14) {x y z : Int} (hx : -100 ≤ x ∧ x ≤ 100) (hy : -100 ≤ y ∧ y ≤ 100) (hz : -100 ≤ z ∧ z ≤ 100) (h : post (zI_ (gm_sq C E x y z b))) : wpX_squareOfDistance post (nI n, T, C, E, S, D, K) (nI b) (zI_ x) (zI_ y) (zI_ z) := by
  unfold wpX_squareOfDistance
  dsimp only
  refine xw_gap (ax := 0) hC hE hb (by omega) hx (xw_gap (ax := 1) hC hE hb (by omega) hy (xw_gap (ax := 2) hC hE hb (by omega) hz ?_))
  rw [zI_mul, zI_mul, zI_mul, zI_add, zI_add]
  exact h
theorem xw_nr36 (hC : gm_pk C) (hE : gm_pk E) (hn : n ≤ 14) {x y z : Int} (hx : -100 ≤ x ∧ x ≤ 100) (hy : -100 ≤ y ∧ y ≤ 100) (hz : -100 ≤ z ∧ z ≤ 100) (h : post (zI_ (gm_mn (gm_sq C E x y z) (n - 1)))) : ∀ d i : Nat, (i + 1) + d = n →
    wX_nearest_36 post (zI_ x) (zI_ y) (zI_ z) (nI n) T C E S D K (d + 1) (zI_ (gm_mn (gm_sq C E x y z) i)) (nI (i + 1))
  | 0, i, hi => by
    have q : n = i + 1 := by omega
    subst q
    exact br_t (nI_le (Nat.le_refl (i + 1)) (by omega)) h
  | d + 1, i, hi => by
    have ih := xw_nr36 hC hE hn hx hy hz h d (i + 1) (by omega)
    have b1 := gm_sq_b hC hE hx hy hz (i + 1)
    have b2 := gm_mn_b (gm_sq_b hC hE hx hy hz) i
    have e : gm_mn (gm_sq C E x y z) (i + 1) = if gm_sq C E x y z (i + 1) < gm_mn (gm_sq C E x y z) i then gm_sq C E x y z (i + 1) else gm_mn (gm_sq C E x y z) i := rfl
    rw [e] at ih
    refine br_f (nI_ge (a := i + 1) (b := n) (by omega) (by omega)) (xw_sq hC hE (by omega) hx hy hz (zb_le (gm_mn (gm_sq C E x y z) i) (gm_sq C E x y z (i + 1)) (fun q => nm_r (nI_1 _) ?_) (fun q => nm_r (nI_1 _) ?_) rfl rfl (by omega) (by omega)))
    · rw [if_neg (by omega)] at ih
      exact ih
    · rw [if_pos q] at ih
      exact ih
end
end
section
/-! the reference's small methods; what a ray does to one box -/
section
variable {C E S D K A B : Nat → Int32} {n : Nat} {T f1 f2 f3 f4 : Int32}
theorem yw_bad_f {post : Int32 → Prop} {j : Nat} (hj : j < n) (hn : n ≤ 14) (h : post 0) : wpY_bad post (nI n, f1, f2, f3, f4, C, E, S, D, A, B) (nI j) :=
  br_f (nI_pos (by omega)) (br_f (nI_ge hj (by omega)) (br_t (nI_le (a := j) (b := 13) (by omega) (by omega)) h))
theorem yw_bad_t {post : Int32 → Prop} {x : Int32} (hx : x < 0 ∨ nI n ≤ x) (h : post 1) : wpY_bad post (nI n, f1, f2, f3, f4, C, E, S, D, A, B) x := by
  by_cases h0 : x < 0
  · exact br_t h0 h
  · exact br_f h0 (br_t (hx.resolve_left h0) h)
theorem yw_trip {post : Int32 → Prop} {x : Int32} (h0 : 0 ≤ x.toInt → x.toInt ≤ 32767 → post 0) (h1 : (x.toInt < 0 ∨ 32767 < x.toInt) → post 1) : wpY_badTriple post (nI n, f1, f2, f3, f4, C, E, S, D, A, B) x :=
  zb_lt x.toInt 0 (fun h => h1 (Or.inl h)) (fun h => zb_le x.toInt 32767 (fun h' => h0 h h') (fun h' => h1 (Or.inr h')) (zI_of x) (by decide) (zI_rng x) (by omega)) (zI_of x) zI_0 (zI_rng x) (by omega)
theorem yw_far {post : Int32 → Prop} {x M : Int32} (m : Int) (hM : M = zI_ m) (m0 : 0 ≤ m ∧ m ≤ 1000) (h0 : -m ≤ x.toInt → x.toInt ≤ m → post 0) (h1 : (x.toInt < -m ∨ m < x.toInt) → post 1) : wpY_far post (nI n, f1, f2, f3, f4, C, E, S, D, A, B) x M :=
  zb_lt x.toInt (-m) (fun h => h1 (Or.inl h)) (fun h => zb_le x.toInt m (fun h' => h0 h h') (fun h' => h1 (Or.inr h')) (zI_of x) hM (zI_rng x) (by omega)) (zI_of x) (by rw [hM, zI_neg]) (zI_rng x) (by omega)
theorem yw_part {post : Int32 → Prop} {x : Int32} (hx : 0 ≤ x.toInt ∧ x.toInt ≤ 32767) {ax : Nat} (hax : ax < 3) (h : post (zI_ (gm_P x.toInt ax))) : wpY_part post (nI n, f1, f2, f3, f4, C, E, S, D, A, B) x (nI ax) := by
  have e1 : x / 1024 = zI_ (x.toInt / 1024) := by
    have := zI_div (a := x.toInt) (b := 1024) (by omega) (by omega)
    rw [← zI_of] at this
    exact this
  have e2 : x / 32 = zI_ (x.toInt / 32) := by
    have := zI_div (a := x.toInt) (b := 32) (by omega) (by omega)
    rw [← zI_of] at this
    exact this
  have e3 : x - x / 32 * 32 = zI_ (x.toInt % 32) := by
    have := zI_rem (a := x.toInt) (b := 32) (by omega) (by omega)
    rw [← zI_of] at this
    exact this
  have e4 : (x / 32) - (x / 32) / 32 * 32 = zI_ (x.toInt / 32 % 32) := by
    rw [e2]
    exact zI_rem (a := x.toInt / 32) (b := 32) (by omega) (by omega)
  rcases (by omega : ax = 0 ∨ ax = 1 ∨ ax = 2) with rfl | rfl | rfl
  · exact br_t (by decide) ⟨by decide, zv_ (P := post) e1 h⟩
  · exact br_f (by decide) (br_t (by decide) ⟨by decide, by decide, zv_ (P := post) e4 h⟩)
  · exact br_f (by decide) (br_f (by decide) ⟨by decide, zv_ (P := post) e3 h⟩)
theorem yw_low {post : Int32 → Prop} (hC : gm_pk C) {b ax : Nat} (hb : b < 14) (hax : ax < 3) (h : post (zI_ (gm_lo C b ax))) : wpY_low post (nI n, f1, f2, f3, f4, C, E, S, D, A, B) (nI b) (nI ax) := by
  refine And.intro (vp_in_nI hb (by omega)) ?_
  rw [nI_clamp (by omega)]
  exact yw_part (hC b) hax h
theorem yw_high {post : Int32 → Prop} (hC : gm_pk C) (hE : gm_pk E) {b ax : Nat} (hb : b < 14) (hax : ax < 3) (h : post (zI_ (gm_hi C E b ax))) : wpY_high post (nI n, f1, f2, f3, f4, C, E, S, D, A, B) (nI b) (nI ax) := by
  refine And.intro (vp_in_nI hb (by omega)) ?_
  rw [nI_clamp (by omega)]
  refine yw_part (hC b) hax (And.intro (vp_in_nI hb (by omega)) (yw_part (hE b) hax ?_))
  rw [zI_add]
  exact h
theorem gm_Jo_r {l : Nat → Int} {t ot ob : Int} {i : Nat} (h : gm_Jo D l t i ot ob) : 1 ≤ ob ∧ ob ≤ 20 ∧ -162 ≤ ot ∧ ot ≤ 1000000 := by
  obtain ⟨a, b, c⟩ := h
  rcases c with ⟨c1, _⟩ | ⟨c1, c2, _⟩
  · omega
  · omega
theorem gm_Ji_r {e : Nat → Int} {t it ib : Int} {i : Nat} (h : gm_Ji e t i it ib) : 0 ≤ it ∧ it ≤ 162 ∧ 1 ≤ ib ∧ ib ≤ 20 := ⟨h.1, h.2.1, h.2.2.1, h.2.2.2.1⟩
theorem yw_m133 {post : Int32 → SY → Prop} {J : Int32 → Int32 → Int32 → Int32 → Int32 → Prop} {x1 g : Int32} {e l : Nat → Int} {t : Int} {i : Nat} {it ib ot ob ls k d : Int}
    (hJ : ∀ it ib ot ob, gm_Ji e t (i + 1) it ib → gm_Jo D l t (i + 1) ot ob → J (nI (i + 1)) (zI_ it) (zI_ ib) (zI_ ot) (zI_ ob))
    (hi : gm_Ji e t (i + 1) it ib) (ho : gm_Jo D l t i ot ob) (hT : t = k * d) (T0 : 0 < t) (hd : 1 ≤ d ∧ d ≤ 20) (hk : 1 ≤ k ∧ k ≤ 400) (hn : -162 ≤ ls ∧ ls ≤ 162) (en : l i = ls * k) :
    wY_meets_133 post J x1 (nI i) (zI_ d) (zI_ ls) g (zI_ it) (zI_ ib) (zI_ ot) (zI_ ob) C E S D A B := by
  have ro := gm_Jo_r ho
  have b1 := gm_mb (a := ot) (k := d) 1000000 20 (by omega) (by omega) (by omega) (by omega) (by omega)
  have b2 := gm_mb (a := ls) (k := ob) 162 20 (by omega) (by omega) (by omega) (by omega) (by omega)
  refine zb_le d 0 (fun c => absurd c (by omega)) (fun c => zb_le (ot * d) (ls * ob) (fun c2 => nm_r (nI_1 i) ?_) (fun c2 => nm_r (nI_1 i) ?_) (zI_mul _ _) (zI_mul _ _) (by omega) (by omega)) rfl zI_0 (by omega) (by omega)
  · exact hJ _ _ _ _ hi (gm_Jo_f ho hT T0 hd hk hn en c2)
  · exact hJ _ _ _ _ hi (gm_Jo_t ho hT T0 hd hk hn en c2)
theorem yw_m102 {post : Int32 → SY → Prop} {J : Int32 → Int32 → Int32 → Int32 → Int32 → Prop} {x1 g : Int32} {e l : Nat → Int} {t : Int} {i : Nat} {it ib ot ob nr ls k d : Int}
    (hJ : ∀ it ib ot ob, gm_Ji e t (i + 1) it ib → gm_Jo D l t (i + 1) ot ob → J (nI (i + 1)) (zI_ it) (zI_ ib) (zI_ ot) (zI_ ob))
    (hi : gm_Ji e t i it ib) (ho : gm_Jo D l t i ot ob) (hT : t = k * d) (T0 : 0 < t) (hd : 1 ≤ d ∧ d ≤ 20) (hk : 1 ≤ k ∧ k ≤ 400) (hm : -162 ≤ nr ∧ nr ≤ 162) (hn : -162 ≤ ls ∧ ls ≤ 162) (em : e i = nr * k) (en : l i = ls * k) :
    wY_meets_102 post J x1 (nI i) (zI_ d) (zI_ nr) (zI_ ls) g (zI_ it) (zI_ ib) (zI_ ot) (zI_ ob) C E S D A B := by
  have ri := gm_Ji_r hi
  have b1 := gm_mb (a := nr) (k := ib) 162 20 (by omega) (by omega) (by omega) (by omega) (by omega)
  have b2 := gm_mb (a := it) (k := d) 162 20 (by omega) (by omega) (by omega) (by omega) (by omega)
  refine zb_le d 0 (fun c => absurd c (by omega)) (fun c => zb_le (nr * ib) (it * d) (fun c2 => ?_) (fun c2 => ?_) (zI_mul _ _) (zI_mul _ _) (by omega) (by omega)) rfl zI_0 (by omega) (by omega)
  · exact yw_m133 hJ (gm_Ji_f hi hT T0 hd em c2) ho hT T0 hd hk hn en
  · exact yw_m133 hJ (gm_Ji_t hi hT T0 hd hk (by omega) em c2) ho hT T0 hd hk hn en
theorem yw_m23 {post : Int32 → SY → Prop} (hr : gm_ray S D K T) (hC : gm_pk C) (hE : gm_pk E) {b : Nat} (hb : b < 14)
    (h1 : ∀ it ib ot ob, gm_ok (gm_t S D K C E b) (gm_x S D K C E b) T.toInt it ib ot ob → post 1 (nI n, zI_ it, zI_ ib, zI_ ot, zI_ ob, C, E, S, D, A, B))
    (h0 : ∀ g1 g2 g3 g4, gm_t S D K C E b = 1000000 → post 0 (nI n, g1, g2, g3, g4, C, E, S, D, A, B)) : ∀ (d i : Nat) (it ib ot ob : Int), i + d = 3 → gm_Ji (gm_E S D K C E b) T.toInt i it ib → gm_Jo D (gm_X S D K C E b) T.toInt i ot ob →
    wY_meets_23 post (nI b) (nI n) C E S D A B (d + 1) (nI i) (zI_ it) (zI_ ib) (zI_ ot) (zI_ ob)
  | 0, i, it, ib, ot, ob, hi, ji, jo => by
    have q : i = 3 := by omega
    subst q
    have ri := gm_Ji_r ji
    have ro := gm_Jo_r jo
    have b1 := gm_mb (a := ot) (k := ib) 1000000 20 (by omega) (by omega) (by omega) (by omega) (by omega)
    have b2 := gm_mb (a := it) (k := ob) 162 20 (by omega) (by omega) (by omega) (by omega) (by omega)
    have fin := gm_end (by have := hr.2.2.2.2.1; omega) hr.2.2.1 ji jo
    refine br_t (nI_le (a := 3) (b := 3) (by omega) (by omega)) (zb_lt (ot * ib) (it * ob) (fun c => h0 _ _ _ _ ?_) (fun c => h1 _ _ _ _ ?_) (zI_mul _ _) (zI_mul _ _) (by omega) (by omega))
    · have := fin.2 c
      unfold gm_t
      rw [if_neg (by omega)]
    · have := fin.1 c
      unfold gm_t gm_x
      rw [if_pos this.1]
      exact this.2
  | d + 1, i, it, ib, ot, ob, hi, ji, jo => by
    have hv : vp_in (nI i) 3 := vp_in_nI (by omega) (by omega)
    have hs := hr.1 i (by omega)
    have hd := hr.2.1 i (by omega)
    have hk := hr.2.2.2.1 i (by omega)
    have hT := hr.2.2.2.2
    have hl := gm_lo_b hC b i
    have hh := gm_hi_b hC hE b i
    have ih := fun it ib ot ob => yw_m23 hr hC hE hb h1 h0 d (i + 1) it ib ot ob (by omega)
    have cl : (nI i).toNatClampNeg = i := nI_clamp (by omega)
    have e1 : D (nI i).toNatClampNeg = zI_ (D i).toInt := by rw [cl]; exact zI_of _
    have e2 : zI_ (gm_lo C b i) - S (nI i).toNatClampNeg = zI_ (gm_lo C b i - (S i).toInt) := by rw [cl, ← zI_sub, ← zI_of]
    have e3 : zI_ (gm_hi C E b i) - S (nI i).toNatClampNeg = zI_ (gm_hi C E b i - (S i).toInt) := by rw [cl, ← zI_sub, ← zI_of]
    refine br_f (nI_ge (a := i) (b := 3) (by omega) (by omega)) ⟨hv, nm_r e1 (yw_low hC hb (by omega) ⟨hv, nm_r e2 (yw_high hC hE hb (by omega) ⟨hv, nm_r e3 ?_⟩)⟩)⟩
    refine zb_eq (D i).toInt 0 (fun c => zb_lt 0 (gm_lo C b i - (S i).toInt) (fun c2 => h0 _ _ _ _ ?_) (fun c2 => zb_le 0 (gm_hi C E b i - (S i).toInt) (fun c3 => ?_) (fun c3 => h0 _ _ _ _ ?_) zI_0 rfl (by omega) (by omega)) zI_0 rfl (by omega) (by omega)) (fun c => ?_) rfl zI_0 (by omega) (by omega)
    · refine gm_t_never hr hC hE (i := i) (by omega) ?_
      unfold gm_E gm_ent
      rw [if_neg (by omega), if_neg (by omega), if_neg (by omega)]
    · have z1 : gm_E S D K C E b i = 0 := by
        unfold gm_E gm_ent
        rw [if_neg (by omega), if_neg (by omega), if_pos (by omega)]
      have z2 : gm_X S D K C E b i = 1000000 := by
        unfold gm_X gm_ext
        rw [if_neg (by omega), if_neg (by omega)]
      refine zb_le 0 (D i).toInt (fun _ => zb_le (D i).toInt 0 (fun _ => zb_le (D i).toInt 0 (fun _ => nm_r (nI_1 i) ?_) (fun q => absurd q (by omega)) rfl zI_0 (by omega) (by omega)) (fun q => absurd q (by omega)) rfl zI_0 (by omega) (by omega)) (fun q => absurd q (by omega)) zI_0 rfl (by omega) (by omega)
      exact ih _ _ _ _ (gm_Ji_z ji z1) (gm_Jo_z jo z2 c)
    · refine gm_t_never hr hC hE (i := i) (by omega) ?_
      unfold gm_E gm_ent
      rw [if_neg (by omega), if_neg (by omega), if_neg (by omega)]
    · refine zb_le 0 (D i).toInt (fun c2 => ?_) (fun c2 => ?_) zI_0 rfl (by omega) (by omega)
      · refine yw_m102 (k := (K i).toInt) ih ji jo ?_ (by omega) (by omega) hk.2 (by omega) (by omega) ?_ ?_
        · have := hk.1
          unfold gm_sp at this
          rw [if_neg c, if_neg (by omega)] at this
          exact this
        · unfold gm_E gm_ent
          rw [if_pos (by omega)]
        · unfold gm_X gm_ext
          rw [if_pos (by omega)]
      · refine nm_r (zI_neg _) (nm_r (zI_neg _) (nm_r (zI_neg _) ?_))
        refine yw_m102 (k := (K i).toInt) ih ji jo ?_ (by omega) (by omega) hk.2 (by omega) (by omega) ?_ ?_
        · have := hk.1
          unfold gm_sp at this
          rw [if_neg c, if_pos (by omega)] at this
          exact this
        · unfold gm_E gm_ent
          rw [if_neg (by omega), if_pos (by omega)]
          congr 1
          omega
        · unfold gm_X gm_ext
          rw [if_neg (by omega), if_pos (by omega)]
          congr 1
          omega
theorem yw_meets {post : Int32 → SY → Prop} (hr : gm_ray S D K T) (hC : gm_pk C) (hE : gm_pk E) {b : Nat} (hb : b < 14)
    (h1 : ∀ it ib ot ob, gm_ok (gm_t S D K C E b) (gm_x S D K C E b) T.toInt it ib ot ob → post 1 (nI n, zI_ it, zI_ ib, zI_ ot, zI_ ob, C, E, S, D, A, B))
    (h0 : ∀ g1 g2 g3 g4, gm_t S D K C E b = 1000000 → post 0 (nI n, g1, g2, g3, g4, C, E, S, D, A, B)) : wpY_meets post (nI n, f1, f2, f3, f4, C, E, S, D, A, B) (nI b) := by
  refine ⟨4, ?_⟩
  rw [zI_M, zI_1, zI_0]
  exact yw_m23 hr hC hE hb h1 h0 3 0 0 1 1000000 1 rfl (gm_Ji_0 _ _) (gm_Jo_0 _ _ _)
end
end
section
/-! the reference's searches and counts -/
/-- what shoot has laid for the boxes below m -/
def gm_sh (t : Nat → Int) (T : Int) (n m : Nat) (A B : Nat → Int32) : Prop := ∀ b, b < m →
  (gm_hq t n b = true → ∃ it ib : Int, A b = zI_ it ∧ B b = zI_ ib ∧ 0 ≤ it ∧ it ≤ 162 ∧ 1 ≤ ib ∧ ib ≤ 20 ∧ it * T = t b * ib) ∧ (gm_hq t n b = false → B b = 0)
theorem gm_sh_f {t : Nat → Int} {T : Int} {n m : Nat} {A B : Nat → Int32} (h : gm_sh t T n m A B) (q : gm_hq t n m = false) (x : Int32) : gm_sh t T n (m + 1) (upd A m x) (upd B m 0) := by
  intro b hb
  by_cases e : b = m
  · subst e
    exact ⟨fun q' => (by rw [q] at q'; cases q'), fun _ => pk_us⟩
  · rw [pk_un e, pk_un e]
    exact h b (by omega)
theorem gm_sh_t {t : Nat → Int} {T : Int} {n m : Nat} {A B : Nat → Int32} (h : gm_sh t T n m A B) (q : gm_hq t n m = true) {it ib : Int} (r : 0 ≤ it ∧ it ≤ 162 ∧ 1 ≤ ib ∧ ib ≤ 20 ∧ it * T = t m * ib) : gm_sh t T n (m + 1) (upd A m (zI_ it)) (upd B m (zI_ ib)) := by
  intro b hb
  by_cases e : b = m
  · subst e
    exact ⟨fun _ => ⟨it, ib, pk_us, pk_us, r⟩, fun q' => by rw [q] at q'; cases q'⟩
  · rw [pk_un e, pk_un e]
    exact h b (by omega)
theorem gm_hq_b {t : Nat → Int} {n b : Nat} (h : gm_hq t n b = true) : b < n ∧ t b < 1000000 := by
  rcases Bool.and_eq_true_iff.mp h with ⟨h1, h2⟩
  exact ⟨of_decide_eq_true h1, of_decide_eq_true h2⟩
section
variable {C E S D K A B : Nat → Int32} {n : Nat} {T f1 f2 f3 f4 : Int32}
theorem yw_s47f {post : SY → Prop} {J : Int32 → Int32 → Int32 → Int32 → Int32 → Int32 → (Nat → Int32) → (Nat → Int32) → (Nat → Int32) → (Nat → Int32) → (Nat → Int32) → (Nat → Int32) → Prop} {i : Nat} (hi : i < 14) {x : Int32}
    (h : J (nI (i + 1)) (nI n) f1 f2 f3 f4 C E S D (upd A i x) (upd B i 0)) : wY_shoot_47 post J (nI i) 0 x (nI i) (nI n) f1 f2 f3 f4 C E S D A B := by
  have hv : vp_in (nI i) 14 := vp_in_nI hi (by omega)
  have cl : (nI i).toNatClampNeg = i := nI_clamp (by omega)
  refine And.intro hv (nm_r (congrArg (fun j => upd A j x) cl) (br_t rfl ⟨hv, nm_r (congrArg (fun j => upd B j 0) cl) (nm_r (nI_1 i) h)⟩))
theorem yw_s47t {post : SY → Prop} {J : Int32 → Int32 → Int32 → Int32 → Int32 → Int32 → (Nat → Int32) → (Nat → Int32) → (Nat → Int32) → (Nat → Int32) → (Nat → Int32) → (Nat → Int32) → Prop} {i : Nat} (hi : i < 14) {x : Int32}
    (h : J (nI (i + 1)) (nI n) f1 f2 f3 f4 C E S D (upd A i x) (upd B i f2)) : wY_shoot_47 post J (nI i) 1 x (nI i) (nI n) f1 f2 f3 f4 C E S D A B := by
  have hv : vp_in (nI i) 14 := vp_in_nI hi (by omega)
  have cl : (nI i).toNatClampNeg = i := nI_clamp (by omega)
  refine And.intro hv (nm_r (congrArg (fun j => upd A j x) cl) (br_f (by decide) ⟨hv, nm_r (congrArg (fun j => upd B j f2) cl) (nm_r (nI_1 i) h)⟩))
theorem yw_sh2 {post : SY → Prop} (hr : gm_ray S D K T) (hC : gm_pk C) (hE : gm_pk E) (hn : n ≤ 14) (h : ∀ g1 g2 g3 g4 A B, gm_sh (gm_t S D K C E) T.toInt n 14 A B → post (nI n, g1, g2, g3, g4, C, E, S, D, A, B)) :
    ∀ (d i : Nat) (g1 g2 g3 g4 : Int32) (A B : Nat → Int32), i + d = 14 → gm_sh (gm_t S D K C E) T.toInt n i A B → wY_shoot_2 post (d + 1) (nI i) (nI n) g1 g2 g3 g4 C E S D A B
  | 0, i, g1, g2, g3, g4, A, B, hi, hs => by
    have q : i = 14 := by omega
    subst q
    exact br_t (nI_le (a := 14) (b := 14) (by omega) (by omega)) (h _ _ _ _ _ _ hs)
  | d + 1, i, g1, g2, g3, g4, A, B, hi, hs => by
    have ih := fun g1 g2 g3 g4 A B => yw_sh2 hr hC hE hn h d (i + 1) g1 g2 g3 g4 A B (by omega)
    have ht := gm_t_b hr hC hE i
    refine br_f (nI_ge (a := i) (b := 14) (by omega) (by omega)) (pk_le n i (fun c => ?_) (fun c => ?_))
    · refine br_t rfl (yw_s47f (by omega) (ih _ _ _ _ _ _ (gm_sh_f hs ?_ _)))
      unfold gm_hq
      rw [decide_eq_false (by omega)]
      rfl
    · refine yw_meets hr hC hE (by omega) (fun it ib ot ob ok => ?_) (fun g1 g2 g3 g4 z => ?_)
      · obtain ⟨o1, o2, o3, o4, o5, o6, o7, o8, o9, _⟩ := ok
        refine br_f (by decide) (br_f (by decide) (yw_s47t (by omega) (ih _ _ _ _ _ _ (gm_sh_t hs ?_ ⟨o5, o6, o7, o8, o9⟩))))
        unfold gm_hq
        rw [decide_eq_true c, decide_eq_true (by omega)]
        rfl
      · refine br_t rfl (br_t rfl (yw_s47f (by omega) (ih _ _ _ _ _ _ (gm_sh_f hs ?_ _))))
        unfold gm_hq
        rw [decide_eq_false (by omega : ¬ gm_t S D K C E i < 1000000), Bool.and_false]
theorem yw_shoot {post : SY → Prop} (hr : gm_ray S D K T) (hC : gm_pk C) (hE : gm_pk E) (hn : n ≤ 14) (h : ∀ g1 g2 g3 g4 A B, gm_sh (gm_t S D K C E) T.toInt n 14 A B → post (nI n, g1, g2, g3, g4, C, E, S, D, A, B)) :
    wpY_shoot post (nI n, f1, f2, f3, f4, C, E, S, D, A, B) :=
  ⟨15, yw_sh2 hr hC hE hn h 14 0 f1 f2 f3 f4 A B rfl (fun b hb => by omega)⟩
theorem yw_before {post : Int32 → Prop} {t : Nat → Int} {tt : Int} (T0 : 0 < tt) (hs : gm_sh t tt n 14 A B) {c b : Nat} (hc : c < 14) (hb : b < 14) (qc : gm_hq t n c = true) (qb : gm_hq t n b = true)
    (h1 : gm_ah t b c = true → post 1) (h0 : gm_ah t b c = false → post 0) : wpY_before post (nI n, f1, f2, f3, f4, C, E, S, D, A, B) (nI c) (nI b) := by
  obtain ⟨ic, jc, a1, a2, a3, a4, a5, a6, a7⟩ := (hs c hc).1 qc
  obtain ⟨ib, jb, b1, b2, b3, b4, b5, b6, b7⟩ := (hs b hb).1 qb
  have vc : vp_in (nI c) 14 := vp_in_nI hc (by omega)
  have vb : vp_in (nI b) 14 := vp_in_nI hb (by omega)
  have r1 := gm_mb (a := ic) (k := jb) 162 20 (by omega) (by omega) (by omega) (by omega) (by omega)
  have r2 := gm_mb (a := ib) (k := jc) 162 20 (by omega) (by omega) (by omega) (by omega) (by omega)
  have e1 : A (nI c).toNatClampNeg * B (nI b).toNatClampNeg = zI_ (ic * jb) := by
    rw [nI_clamp (by omega), nI_clamp (by omega), a1, b2, zI_mul]
  have e2 : A (nI b).toNatClampNeg * B (nI c).toNatClampNeg = zI_ (ib * jc) := by
    rw [nI_clamp (by omega), nI_clamp (by omega), b1, a2, zI_mul]
  have k1 := gm_fr (a := ic) (b := jc) (p := ib) (q := jb) (by omega) (by omega) T0 a7 b7
  have k2 := gm_feq (a := ic) (b := jc) (p := ib) (q := jb) (by omega) (by omega) T0 a7 b7
  refine And.intro vc ⟨vb, nm_r e1 ⟨vb, vc, nm_r e2 (zb_lt (ic * jb) (ib * jc) (fun c1 => h1 ?_) (fun c1 => zb_eq (ic * jb) (ib * jc) (fun c2 => pk_le b c (fun c3 => h0 ?_) (fun c3 => h1 ?_)) (fun c2 => h0 ?_) rfl rfl (by omega) (by omega)) rfl rfl (by omega) (by omega))⟩⟩
  · unfold gm_ah
    rw [decide_eq_true (k1.mp c1)]
    rfl
  · unfold gm_ah
    have := k2.mp c2
    rw [decide_eq_false (by omega), decide_eq_false (by omega : ¬ c < b), Bool.and_false]
    rfl
  · unfold gm_ah
    rw [decide_eq_true (k2.mp c2), decide_eq_true c3, Bool.and_true, Bool.or_true]
  · unfold gm_ah
    rw [decide_eq_false (fun q => by have := k1.mpr q; omega), decide_eq_false (fun q => c2 (k2.mpr q))]
    rfl
theorem yw_B {t : Nat → Int} {tt : Int} (hs : gm_sh t tt n 14 A B) {i : Nat} (hi : i < 14) {P Q : Prop} (h0 : gm_hq t n i = false → P) (h1 : gm_hq t n i = true → Q) : (B (nI i).toNatClampNeg ≤ 0 → P) ∧ (¬ B (nI i).toNatClampNeg ≤ 0 → Q) := by
  rw [nI_clamp (by omega)]
  by_cases q : gm_hq t n i = true
  · obtain ⟨it, ib, b1, b2, b3, b4, b5, b6, b7⟩ := (hs i hi).1 q
    rw [b2]
    exact zb_le ib 0 (fun c => absurd c (by omega)) (fun _ => h1 q) rfl zI_0 (by omega) (by omega)
  · have q' : gm_hq t n i = false := Bool.eq_false_iff.mpr q
    rw [(hs i hi).2 q']
    exact br_t (by decide) (h0 q')
theorem yw_ah4 {post : Int32 → Prop} {t : Nat → Int} {tt : Int} (T0 : 0 < tt) (hs : gm_sh t tt n 14 A B) {b : Nat} (hb : b < 14) (qb : gm_hq t n b = true) (h : post (nI (gm_ct (fun c => gm_hq t n c && gm_ah t b c) 14))) : ∀ d i : Nat, i + d = 14 →
    wY_ahead_4 post (nI b) (nI n) f1 f2 f3 f4 C E S D A B (d + 1) (nI (gm_ct (fun c => gm_hq t n c && gm_ah t b c) i)) (nI i)
  | 0, i, hi => by
    have q : i = 14 := by omega
    subst q
    exact br_t (nI_le (a := 14) (b := 14) (by omega) (by omega)) h
  | d + 1, i, hi => by
    have ih := yw_ah4 T0 hs hb qb h d (i + 1) (by omega)
    refine br_f (nI_ge (a := i) (b := 14) (by omega) (by omega)) ⟨vp_in_nI (by omega) (by omega), yw_B hs (by omega) (fun q => nm_r (nI_1 i) ?_) (fun q => yw_before T0 hs (by omega) hb q qb (fun q' => br_f (by decide) (nm_r (nI_1 _) (nm_r (nI_1 i) ?_))) (fun q' => br_t rfl (nm_r (nI_1 i) ?_)))⟩
    · rw [gm_ct_f (p := fun c => gm_hq t n c && gm_ah t b c) (by show (gm_hq t n i && gm_ah t b i) = false; rw [q]; rfl)] at ih
      exact ih
    · rw [gm_ct_t (p := fun c => gm_hq t n c && gm_ah t b c) (by show (gm_hq t n i && gm_ah t b i) = true; rw [q, q']; rfl)] at ih
      exact ih
    · rw [gm_ct_f (p := fun c => gm_hq t n c && gm_ah t b c) (by show (gm_hq t n i && gm_ah t b i) = false; rw [q, q']; rfl)] at ih
      exact ih
theorem yw_ahead {post : Int32 → Prop} {t : Nat → Int} {tt : Int} (T0 : 0 < tt) (hn : n ≤ 14) (hs : gm_sh t tt n 14 A B) {b : Nat} (hb : b < 14) (qb : gm_hq t n b = true) (h : post (nI (gm_ct (gm_ah t b) n))) : wpY_ahead post (nI n, f1, f2, f3, f4, C, E, S, D, A, B) (nI b) := by
  rw [← gm_ah_n hn (gm_hq_b qb).2] at h
  exact ⟨15, yw_ah4 T0 hs hb qb h 14 0 rfl⟩
theorem yw_ch6 {post : Int32 → SY → Prop} {t : Nat → Int} {tt : Int} {v : Int32} (T0 : 0 < tt) (hn : n ≤ 14) (hs : gm_sh t tt n 14 A B) (h : ∀ r, gm_F (fun b => decide (b < n) && gm_pi t n v b) 14 r → post r (nI n, f1, f2, f3, f4, C, E, S, D, A, B)) : ∀ d i : Nat, i + d = 14 → (∀ j, j < i → (decide (j < n) && gm_pi t n v j) = false) →
    wY_chosen_6 post v (nI n) f1 f2 f3 f4 C E S D A B (d + 1) (nI i)
  | 0, i, hi, hp => by
    have q : i = 14 := by omega
    subst q
    exact br_t (nI_le (a := 14) (b := 14) (by omega) (by omega)) (h _ (Or.inr ⟨hp, rfl⟩))
  | d + 1, i, hi, hp => by
    have ih := fun q => yw_ch6 T0 hn hs h d (i + 1) (by omega) (lt_s (p := fun j => (decide (j < n) && gm_pi t n v j) = false) hp q)
    refine br_f (nI_ge (a := i) (b := 14) (by omega) (by omega)) ⟨vp_in_nI (by omega) (by omega), yw_B hs (by omega) (fun q => nm_r (nI_1 i) (ih ?_)) (fun q => yw_ahead T0 hn hs (by omega) q (br_c (fun c2 => h _ (Or.inl ⟨i, by omega, ?_, hp, rfl⟩)) (fun c2 => nm_r (nI_1 i) (ih ?_))))⟩
    · unfold gm_hq at q
      unfold gm_pi
      rw [← Bool.and_assoc, q]
      rfl
    · have := gm_hq_b q
      show (decide (i < n) && gm_pi t n v i) = true
      unfold gm_pi
      rw [decide_eq_true this.1, decide_eq_true this.2, decide_eq_true c2]
      rfl
    · unfold gm_pi
      rw [decide_eq_false c2, Bool.and_false, Bool.and_false]
theorem yw_chosen {post : Int32 → SY → Prop} {v : Int32} (hr : gm_ray S D K T) (hC : gm_pk C) (hE : gm_pk E) (hn : n ≤ 14)
    (h : ∀ r g1 g2 g3 g4 A B, gm_sh (gm_t S D K C E) T.toInt n 14 A B → gm_F (fun b => decide (b < n) && gm_pi (gm_t S D K C E) n v b) 14 r → post r (nI n, g1, g2, g3, g4, C, E, S, D, A, B)) : wpY_chosen post (nI n, f1, f2, f3, f4, C, E, S, D, A, B) v := by
  unfold wpY_chosen
  dsimp only
  refine yw_shoot hr hC hE hn (fun g1 g2 g3 g4 A B hs => ⟨15, ?_⟩)
  exact yw_ch6 (by have := hr.2.2.2.2.1; omega) hn hs (fun r hF => h r g1 g2 g3 g4 A B hs hF) 14 0 rfl (fun j hj => by omega)
theorem yw_ht8 {post : Int32 → SY → Prop} {t : Nat → Int} {tt : Int} (hs : gm_sh t tt n 14 A B) (h : post (nI (gm_ct (fun c => gm_hq t n c && true) 14)) (nI n, f1, f2, f3, f4, C, E, S, D, A, B)) : ∀ d i : Nat, i + d = 14 →
    wY_hits_8 post (nI n) f1 f2 f3 f4 C E S D A B (d + 1) (nI (gm_ct (fun c => gm_hq t n c && true) i)) (nI i)
  | 0, i, hi => by
    have q : i = 14 := by omega
    subst q
    exact br_t (nI_le (a := 14) (b := 14) (by omega) (by omega)) h
  | d + 1, i, hi => by
    have ih := yw_ht8 hs h d (i + 1) (by omega)
    refine br_f (nI_ge (a := i) (b := 14) (by omega) (by omega)) ⟨vp_in_nI (by omega) (by omega), yw_B hs (by omega) (fun q => nm_r (nI_1 i) ?_) (fun q => nm_r (nI_1 _) (nm_r (nI_1 i) ?_))⟩
    · rw [gm_ct_f (p := fun c => gm_hq t n c && true) (by show (gm_hq t n i && true) = false; rw [q]; rfl)] at ih
      exact ih
    · rw [gm_ct_t (p := fun c => gm_hq t n c && true) (by show (gm_hq t n i && true) = true; rw [q]; rfl)] at ih
      exact ih
theorem yw_hits {post : Int32 → SY → Prop} (hr : gm_ray S D K T) (hC : gm_pk C) (hE : gm_pk E) (hn : n ≤ 14)
    (h : ∀ g1 g2 g3 g4 A B, post (nI (gm_ct (fun c => decide (gm_t S D K C E c < 1000000) && true) n)) (nI n, g1, g2, g3, g4, C, E, S, D, A, B)) : wpY_hits post (nI n, f1, f2, f3, f4, C, E, S, D, A, B) := by
  unfold wpY_hits
  dsimp only
  refine yw_shoot hr hC hE hn (fun g1 g2 g3 g4 A B hs => ⟨15, ?_⟩)
  have h' := h g1 g2 g3 g4 A B
  rw [← gm_hits_n hn (fun _ => true)] at h'
  exact yw_ht8 hs h' 14 0 rfl
theorem yw_hb36 {post : Int32 → SY → Prop} {t : Nat → Int} {tt p q : Int} (hp : 0 ≤ p ∧ p ≤ 1000) (hq : 1 ≤ q ∧ q ≤ 100) (T0 : 0 < tt) (hs : gm_sh t tt n 14 A B) (h : post (nI (gm_ct (fun c => gm_hq t n c && decide (t c * q ≤ p * tt)) 14)) (nI n, f1, f2, f3, f4, C, E, S, D, A, B)) : ∀ d i : Nat, i + d = 14 →
    wY_hitsBefore_36 post (zI_ p) (zI_ q) (nI n) f1 f2 f3 f4 C E S D A B (d + 1) (nI (gm_ct (fun c => gm_hq t n c && decide (t c * q ≤ p * tt)) i)) (nI i)
  | 0, i, hi => by
    have e : i = 14 := by omega
    subst e
    exact br_t (nI_le (a := 14) (b := 14) (by omega) (by omega)) h
  | d + 1, i, hi => by
    have ih := yw_hb36 hp hq T0 hs h d (i + 1) (by omega)
    have hv : vp_in (nI i) 14 := vp_in_nI (by omega) (by omega)
    refine br_f (nI_ge (a := i) (b := 14) (by omega) (by omega)) ⟨hv, yw_B hs (by omega) (fun c => nm_r (nI_1 i) ?_) (fun c => ⟨hv, hv, ?_⟩)⟩
    · rw [gm_ct_f (p := fun c => gm_hq t n c && decide (t c * q ≤ p * tt)) (by show (gm_hq t n i && _) = false; rw [c]; rfl)] at ih
      exact ih
    · obtain ⟨it, ib, b1, b2, b3, b4, b5, b6, b7⟩ := (hs i (by omega)).1 c
      have r1 := gm_mb (a := p) (k := ib) 1000 20 (by omega) (by omega) (by omega) (by omega) (by omega)
      have r2 := gm_mb (a := it) (k := q) 162 100 (by omega) (by omega) (by omega) (by omega) (by omega)
      have k := gm_fq (a := it) (b := ib) (p := p) (q := q) (by omega) T0 b7
      rw [nI_clamp (by omega), b1, b2]
      refine zb_lt (p * ib) (it * q) (fun c2 => nm_r (nI_1 i) ?_) (fun c2 => nm_r (nI_1 _) (nm_r (nI_1 i) ?_)) (zI_mul _ _) (zI_mul _ _) (by omega) (by omega)
      · rw [gm_ct_f (p := fun c => gm_hq t n c && decide (t c * q ≤ p * tt)) (by show (gm_hq t n i && decide (t i * q ≤ p * tt)) = false; rw [decide_eq_false (fun z => by have := k.mpr z; omega), Bool.and_false])] at ih
        exact ih
      · rw [gm_ct_t (p := fun c => gm_hq t n c && decide (t c * q ≤ p * tt)) (by show (gm_hq t n i && decide (t i * q ≤ p * tt)) = true; rw [c, decide_eq_true (k.mp c2)]; rfl)] at ih
        exact ih
theorem yw_cm17 {post : Int32 → Prop} {a y : Nat} (hy : 1 ≤ y ∧ y ≤ 20) (ha : a ≤ 162) (h : post (nI (Nat.gcd a y))) : ∀ d k g : Nat, k + d = y + 1 → 2 ≤ k → 1 ≤ g → g < k → g ∣ a → g ∣ y → (∀ j, 1 ≤ j → j < k → j ∣ a → j ∣ y → j ≤ g) →
    wY_common_17 post (nI y) (nI a) (nI n) f1 f2 f3 f4 C E S D A B (d + 1) (nI g) (nI k)
  | 0, k, g, hk, k2, g1, gk, ga, gy, hj => by
    have q : k = y + 1 := by omega
    subst q
    have e : g = Nat.gcd a y := gm_gcd (by omega) g1 ga gy (fun j j1 j2 j3 j4 => hj j j1 (by omega) j3 j4)
    rw [← e] at h
    exact br_t (nI_lt (by omega) (by omega)) h
  | d + 1, k, g, hk, k2, g1, gk, ga, gy, hj => by
    have hz : ¬ nI k = 0 := nI_ne0 (by omega) (by omega)
    have stp : ¬ (k ∣ a ∧ k ∣ y) → ∀ j, 1 ≤ j → j < k + 1 → j ∣ a → j ∣ y → j ≤ g := by
      intro c j j1 j2 j3 j4
      by_cases e : j = k
      · subst e; exact absurd ⟨j3, j4⟩ c
      · exact hj j j1 (by omega) j3 j4
    refine br_f (nI_nlt (by omega) (by omega)) ⟨hz, ?_⟩
    rw [pk_rem (by omega) (by omega) (by omega), pk_rem (by omega) (by omega) (by omega)]
    refine pk_eq (a % k) 0 (fun c => ⟨hz, pk_eq (y % k) 0 (fun c2 => nm_r (nI_1 k) ?_) (fun c2 => nm_r (nI_1 k) ?_) rfl rfl ?_ ?_⟩) (fun c => nm_r (nI_1 k) ?_) rfl rfl ?_ ?_
    · exact yw_cm17 hy ha h d (k + 1) k (by omega) (by omega) (by omega) (by omega) (Nat.dvd_of_mod_eq_zero c) (Nat.dvd_of_mod_eq_zero c2) (fun j _ j2 _ _ => by omega)
    · exact yw_cm17 hy ha h d (k + 1) g (by omega) (by omega) g1 (by omega) ga gy (stp (fun q => c2 (Nat.mod_eq_zero_of_dvd q.2)))
    · have := Nat.mod_lt y (show 0 < k by omega); omega
    · omega
    · exact yw_cm17 hy ha h d (k + 1) g (by omega) (by omega) g1 (by omega) ga gy (stp (fun q => c (Nat.mod_eq_zero_of_dvd q.1)))
    · have := Nat.mod_lt a (show 0 < k by omega); omega
    · omega
theorem yw_common {post : Int32 → Prop} {a y : Nat} (hy : 1 ≤ y ∧ y ≤ 20) (ha : a ≤ 162) (h : post (nI (Nat.gcd a y))) : wpY_common post (nI n, f1, f2, f3, f4, C, E, S, D, A, B) (nI a) (nI y) :=
  br_t (nI_pos' (by omega)) ⟨(y - 1) + 1, yw_cm17 hy ha h (y - 1) 2 1 (by omega) (by omega) (by omega) (by omega) (Nat.one_dvd a) (Nat.one_dvd y) (fun j _ j2 _ _ => by omega)⟩
end
end
section
/-! the reference: boxes against boxes and points -/
theorem gm_mt_e {l h l' h' : Nat → Int} {i : Nat} (h1 : l i ≤ h' i) (h2 : l' i ≤ h i) : gm_mt l h l' h' (i + 1) = gm_mt l h l' h' i := by
  show (gm_mt l h l' h' i && !(decide (h' i < l i) || decide (h i < l' i))) = _
  rw [decide_eq_false (by omega), decide_eq_false (by omega)]
  exact Bool.and_true _
def gm_fl (b : Bool) : Int32 := if b = true then 1 else 0
/-- the reference's least so far -/
def gm_yl (f : Nat → Int) : Nat → Int
  | 0 => -2
  | i + 1 => gm_mn f i
section
variable {C E S D K A B : Nat → Int32} {n : Nat} {T f1 f2 f3 f4 : Int32} {post : Int32 → Prop}
theorem yw_within (hC : gm_pk C) (hE : gm_pk E) {b ax : Nat} (hb : b < 14) (hax : ax < 3) {x : Int32} (h1 : gm_spn C E b ax x.toInt = true → post 1) (h0 : gm_spn C E b ax x.toInt = false → post 0) : wpY_within post (nI n, f1, f2, f3, f4, C, E, S, D, A, B) (nI b) (nI ax) x := by
  have p3 := gm_lo_b hC b ax
  have p4 := gm_hi_b hC hE b ax
  unfold wpY_within
  dsimp only
  refine yw_low hC hb hax (zb_lt x.toInt (gm_lo C b ax) (fun q => h0 ?_) (fun q => yw_high hC hE hb hax (zb_lt (gm_hi C E b ax) x.toInt (fun q' => h0 ?_) (fun q' => h1 ?_) rfl (zI_of x) (by omega) (zI_rng x))) (zI_of x) rfl (zI_rng x) (by omega))
  · exact decide_eq_false (by omega)
  · exact decide_eq_false (by omega)
  · exact decide_eq_true ⟨q, q'⟩
theorem yw_arn6 (hC : gm_pk C) (hE : gm_pk E) (hn : n ≤ 14) {x y z : Int32} (h : post (nI (gm_ct (gm_arn C E x.toInt y.toInt z.toInt) n))) : ∀ d i : Nat, i + d = n →
    wY_around_6 post x y z (nI n) f1 f2 f3 f4 C E S D A B (d + 1) (nI (gm_ct (gm_arn C E x.toInt y.toInt z.toInt) i)) (nI i)
  | 0, i, hi => by
    have q : i = n := by omega
    subst q
    exact br_t (nI_le (Nat.le_refl i) (by omega)) h
  | d + 1, i, hi => by
    have ih := yw_arn6 hC hE hn h d (i + 1) (by omega)
    refine br_f (nI_ge (a := i) (b := n) (by omega) (by omega)) (br_f (nI_ge (a := i) (b := 14) (by omega) (by omega)) (yw_within (ax := 0) hC hE (by omega) (by omega) (fun q => br_f (by decide) (yw_within (ax := 1) hC hE (by omega) (by omega) (fun q' => br_f (by decide) (yw_within (ax := 2) hC hE (by omega) (by omega) (fun q'' => br_f (by decide) (nm_r (nI_1 _) (nm_r (nI_1 i) ?_))) (fun q'' => br_t rfl (nm_r (nI_1 i) ?_)))) (fun q' => br_t rfl (nm_r (nI_1 i) ?_)))) (fun q => br_t rfl (nm_r (nI_1 i) ?_))))
    · rw [gm_ct_t (by unfold gm_arn; rw [q, q', q'']; rfl)] at ih
      exact ih
    · rw [gm_ct_f (by unfold gm_arn; rw [q, q', q'']; rfl)] at ih
      exact ih
    · rw [gm_ct_f (by unfold gm_arn; rw [q, q']; rfl)] at ih
      exact ih
    · rw [gm_ct_f (by unfold gm_arn; rw [q]; rfl)] at ih
      exact ih
theorem yw_mt48 (hC : gm_pk C) (hE : gm_pk E) {b f : Nat} (hb : b < 14) {c e : Int32} (hc : 0 ≤ c.toInt ∧ c.toInt ≤ 32767) (he : 0 ≤ e.toInt ∧ e.toInt ≤ 32767) {J : Int32 → Int32 → Prop} (h1 : gm_m C E b c.toInt e.toInt = true → J (nI (f + 1)) (nI (b + 1))) (h0 : gm_m C E b c.toInt e.toInt = false → J (nI f) (nI (b + 1))) : ∀ d i : Nat, i + d = 3 →
    wY_meeting_48 post J c e (nI f) (nI b) (nI n) f1 f2 f3 f4 C E S D A B (d + 1) (gm_fl (gm_mt (gm_lo C b) (gm_hi C E b) (gm_P c.toInt) (fun i => gm_P c.toInt i + gm_P e.toInt i) i)) (nI i)
  | 0, i, hi => by
    have q : i = 3 := by omega
    subst q
    refine br_t (nI_le (a := 3) (b := 3) (by omega) (by omega)) ?_
    unfold gm_m at h1 h0
    cases qq : gm_mt (gm_lo C b) (gm_hi C E b) (gm_P c.toInt) (fun i => gm_P c.toInt i + gm_P e.toInt i) 3 with
    | true => exact br_f (by decide) (nm_r (nI_1 f) (nm_r (nI_1 b) (h1 qq)))
    | false => exact br_t rfl (nm_r (nI_1 b) (h0 qq))
  | d + 1, i, hi => by
    have p1 := gm_P_b hc i
    have p2 := gm_P_b he i
    have p3 := gm_lo_b hC b i
    have p4 := gm_hi_b hC hE b i
    have ih := yw_mt48 hC hE hb hc he h1 h0 d (i + 1) (by omega)
    refine br_f (nI_ge (a := i) (b := 3) (by omega) (by omega)) (yw_part hc (by omega) (yw_part he (by omega) (nm_r (zI_add _ _) (yw_low hC hb (by omega) (zb_lt (gm_P c.toInt i + gm_P e.toInt i) (gm_lo C b i) (fun q => nm_r (nI_1 i) ?_) (fun q => yw_high hC hE hb (by omega) (zb_le (gm_P c.toInt i) (gm_hi C E b i) (fun q' => nm_r (nI_1 i) ?_) (fun q' => nm_r (nI_1 i) ?_) rfl rfl (by omega) (by omega))) rfl rfl (by omega) (by omega))))))
    · rw [gm_mt_f (i := i) (Or.inl q) (i + 1) (by omega)] at ih
      exact ih
    · rw [gm_mt_e q q'] at ih
      exact ih
    · rw [gm_mt_f (i := i) (Or.inr q') (i + 1) (by omega)] at ih
      exact ih
theorem yw_mt26 (hC : gm_pk C) (hE : gm_pk E) (hn : n ≤ 14) {c e : Int32} (hc : 0 ≤ c.toInt ∧ c.toInt ≤ 32767) (he : 0 ≤ e.toInt ∧ e.toInt ≤ 32767) (h : post (nI (gm_ct (fun b => gm_m C E b c.toInt e.toInt) n))) : ∀ d i : Nat, i + d = n →
    wY_meeting_26 post c e (nI n) f1 f2 f3 f4 C E S D A B (d + 1) (nI (gm_ct (fun b => gm_m C E b c.toInt e.toInt) i)) (nI i)
  | 0, i, hi => by
    have q : i = n := by omega
    subst q
    exact br_t (nI_le (Nat.le_refl i) (by omega)) h
  | d + 1, i, hi => by
    have ih := yw_mt26 hC hE hn hc he h d (i + 1) (by omega)
    refine br_f (nI_ge (a := i) (b := n) (by omega) (by omega)) (br_f (nI_ge (a := i) (b := 14) (by omega) (by omega)) ⟨4, yw_mt48 hC hE (by omega) hc he (fun q => ?_) (fun q => ?_) 3 0 rfl⟩)
    · rw [gm_ct_t (p := fun b => gm_m C E b c.toInt e.toInt) q] at ih
      exact ih
    · rw [gm_ct_f (p := fun b => gm_m C E b c.toInt e.toInt) q] at ih
      exact ih
theorem yw_mtg (hC : gm_pk C) (hE : gm_pk E) (hn : n ≤ 14) {c e : Int32} (hc : 0 ≤ c.toInt ∧ c.toInt ≤ 32767) (he : 0 ≤ e.toInt ∧ e.toInt ≤ 32767) (h : post (nI (gm_ct (fun b => gm_m C E b c.toInt e.toInt) n))) : wpY_meeting post (nI n, f1, f2, f3, f4, C, E, S, D, A, B) c e := by
  unfold wpY_meeting
  dsimp only
  refine yw_trip (fun _ _ => br_t rfl (yw_trip (fun _ _ => br_t rfl ⟨n + 1, ?_⟩) (fun q => ?_))) (fun q => ?_)
  · exact yw_mt26 hC hE hn hc he h n 0 (by omega)
  · omega
  · omega
theorem yw_tch4 (hC : gm_pk C) (hE : gm_pk E) (hn : n ≤ 14) (h : post (nI (gm_su (fun b => gm_ct (gm_later C E b) n) n))) : ∀ d i : Nat, i + d = n →
    wY_touching_4 post (nI n) f1 f2 f3 f4 C E S D A B (d + 1) (nI (gm_su (fun b => gm_ct (fun o => gm_M C E o b) n - 1) i)) (nI i)
  | 0, i, hi => by
    have q : i = n := by omega
    subst q
    refine br_t (nI_le (Nat.le_refl i) (by omega)) ⟨by decide, ?_⟩
    have e : gm_su (fun b => gm_ct (fun o => gm_M C E o b) i - 1) i = 2 * gm_su (fun b => gm_ct (gm_later C E b) i) i := gm_half (gm_M_r hC hE) (gm_M_s C E) i
    have bd : gm_su (fun b => gm_ct (gm_later C E b) i) i ≤ i * 14 := gm_su_le i (fun j _ => Nat.le_trans (gm_ct_le _ i) hn)
    rw [e]
    refine zv_ (P := post) ?_ h
    have k := pk_div (a := 2 * gm_su (fun b => gm_ct (gm_later C E b) i) i) (d := 2) (by omega) (by omega) (by omega)
    rw [Nat.mul_div_cancel_left _ (by omega)] at k
    exact k
  | d + 1, i, hi => by
    have ih := yw_tch4 hC hE hn h d (i + 1) (by omega)
    have hv : vp_in (nI i) 14 := vp_in_nI (by omega) (by omega)
    refine br_f (nI_ge (a := i) (b := n) (by omega) (by omega)) (br_f (nI_ge (a := i) (b := 14) (by omega) (by omega)) ⟨hv, hv, ?_⟩)
    rw [nI_clamp (by omega)]
    refine yw_mtg hC hE hn (hC i) (hE i) (nm_r ?_ (nm_r (nI_1 i) ih))
    have c1 : 1 ≤ gm_ct (fun o => gm_M C E o i) n := by
      rcases Nat.eq_zero_or_pos (gm_ct (fun o => gm_M C E o i) n) with z | z
      · have := (gm_ct_0 n).mp z i (by omega)
        rw [gm_M_r hC hE i] at this
        cases this
      · exact z
    show nI (gm_su (fun b => gm_ct (fun o => gm_M C E o b) n - 1) i) + (nI (gm_ct (fun o => gm_M C E o i) n) - nI 1) = nI (gm_su (fun b => gm_ct (fun o => gm_M C E o b) n - 1) i + (gm_ct (fun o => gm_M C E o i) n - 1))
    rw [pk_sub c1, nI_add]
theorem yw_touching (hC : gm_pk C) (hE : gm_pk E) (hn : n ≤ 14) (h : post (nI (gm_su (fun b => gm_ct (gm_later C E b) n) n))) : wpY_touching post (nI n, f1, f2, f3, f4, C, E, S, D, A, B) :=
  ⟨n + 1, yw_tch4 hC hE hn h n 0 (by omega)⟩
theorem yw_gap (hC : gm_pk C) (hE : gm_pk E) {b ax : Nat} (hb : b < 14) (hax : ax < 3) {v : Int} (hv : -100 ≤ v ∧ v ≤ 100) (h : post (zI_ (gm_gap (gm_lo C b ax) (gm_hi C E b ax) v * gm_gap (gm_lo C b ax) (gm_hi C E b ax) v))) : wpY_gap post (nI n, f1, f2, f3, f4, C, E, S, D, A, B) (nI b) (nI ax) (zI_ v) := by
  have p3 := gm_lo_b hC b ax
  have p4 := gm_hi_b hC hE b ax
  unfold gm_gap at h
  unfold wpY_gap
  dsimp only
  refine yw_low hC hb hax (zb_le (gm_lo C b ax) v (fun q => ?_) (fun q => yw_low hC hb hax (nm_r (zI_sub _ _) ?_)) rfl rfl (by omega) (by omega))
  · unfold wY_gap_23
    refine yw_high hC hE hb hax (zb_le v (gm_hi C E b ax) (fun q' => ?_) (fun q' => yw_high hC hE hb hax (nm_r (zI_sub _ _) ?_)) rfl rfl (by omega) (by omega))
    · rw [if_neg (by omega), if_neg (by omega)] at h
      rw [zI_0, zI_mul]
      exact h
    · rw [if_neg (by omega), if_pos q'] at h
      rw [zI_mul]
      exact h
  · unfold wY_gap_23
    refine yw_high hC hE hb hax (zb_le v (gm_hi C E b ax) (fun q' => ?_) (fun q' => absurd q' (by omega)) rfl rfl (by omega) (by omega))
    rw [if_pos q] at h
    rw [zI_mul]
    exact h
theorem yw_nr39 (hC : gm_pk C) (hE : gm_pk E) (hn : n ≤ 14) {x y z : Int} (hx : -100 ≤ x ∧ x ≤ 100) (hy : -100 ≤ y ∧ y ≤ 100) (hz : -100 ≤ z ∧ z ≤ 100) (h : post (zI_ (gm_yl (gm_sq C E x y z) n))) : ∀ d i : Nat, i + d = n →
    wY_nearest_39 post (zI_ x) (zI_ y) (zI_ z) (nI n) f1 f2 f3 f4 C E S D A B (d + 1) (zI_ (gm_yl (gm_sq C E x y z) i)) (nI i)
  | 0, i, hi => by
    have q : i = n := by omega
    subst q
    exact br_t (nI_le (Nat.le_refl i) (by omega)) h
  | d + 1, i, hi => by
    have ih := yw_nr39 hC hE hn hx hy hz h d (i + 1) (by omega)
    have b1 := gm_sq_b hC hE hx hy hz i
    have e : zI_ (gm_gap (gm_lo C i 0) (gm_hi C E i 0) x * gm_gap (gm_lo C i 0) (gm_hi C E i 0) x) + zI_ (gm_gap (gm_lo C i 1) (gm_hi C E i 1) y * gm_gap (gm_lo C i 1) (gm_hi C E i 1) y) + zI_ (gm_gap (gm_lo C i 2) (gm_hi C E i 2) z * gm_gap (gm_lo C i 2) (gm_hi C E i 2) z) = zI_ (gm_sq C E x y z i) := by
      rw [zI_add, zI_add]
      rfl
    refine br_f (nI_ge (a := i) (b := n) (by omega) (by omega)) (br_f (nI_ge (a := i) (b := 14) (by omega) (by omega)) (yw_gap (ax := 0) hC hE (by omega) (by omega) hx (yw_gap (ax := 1) hC hE (by omega) (by omega) hy (yw_gap (ax := 2) hC hE (by omega) (by omega) hz (nm_r e ?_)))))
    cases i with
    | zero => exact zb_lt (-2) 0 (fun _ => nm_r (nI_1 0) ih) (fun q => absurd q (by omega)) rfl zI_0 (by omega) (by omega)
    | succ i =>
      have b2 := gm_mn_b (gm_sq_b hC hE hx hy hz) i
      have e2 : gm_yl (gm_sq C E x y z) (i + 1 + 1) = if gm_sq C E x y z (i + 1) < gm_mn (gm_sq C E x y z) i then gm_sq C E x y z (i + 1) else gm_mn (gm_sq C E x y z) i := rfl
      rw [e2] at ih
      refine zb_lt (gm_mn (gm_sq C E x y z) i) 0 (fun q => absurd q (by omega)) (fun _ => zb_le (gm_mn (gm_sq C E x y z) i) (gm_sq C E x y z (i + 1)) (fun q => nm_r (nI_1 _) ?_) (fun q => nm_r (nI_1 _) ?_) rfl rfl (by omega) (by omega)) rfl zI_0 (by omega) (by omega)
      · rw [if_neg (by omega)] at ih
        exact ih
      · rw [if_pos q] at ih
        exact ih
end
end
section
/-! the relation; the constructors; the methods that write -/
/-- count, boxes, origin and direction are the same; the component's ticks are those of the direction; the reference's scratch is free -/
def i_Rel (k : Nat) (u : SX) (v : SY) : Prop := ∃ (n : Nat) (T f1 f2 f3 f4 : Int32) (C E S D K A B : Nat → Int32),
  u = (nI n, T, C, E, S, D, K) ∧ v = (nI n, f1, f2, f3, f4, C, E, S, D, A, B) ∧ n ≤ 14 ∧ gm_pk C ∧ gm_pk E ∧ gm_ray S D K T
theorem i_up {k : Nat} {u : SX} {v : SY} (h : i_Rel k u v) : i_Rel (k + 4) u v := h
theorem ir_mk {k n : Nat} {T f1 f2 f3 f4 : Int32} {C E S D K A B : Nat → Int32} (hn : n ≤ 14) (hC : gm_pk C) (hE : gm_pk E) (hr : gm_ray S D K T) : i_Rel k (nI n, T, C, E, S, D, K) (nI n, f1, f2, f3, f4, C, E, S, D, A, B) :=
  ⟨n, T, f1, f2, f3, f4, C, E, S, D, K, A, B, rfl, rfl, hn, hC, hE, hr⟩
theorem gm_mp {a b : Int} (A B : Int) (ha : 1 ≤ a ∧ a ≤ A) (hb : 1 ≤ b ∧ b ≤ B) : 1 ≤ a * b ∧ a * b ≤ A * B := by
  have h1 : 0 < a * b := Int.mul_pos (by omega) (by omega)
  have h2 : a * b ≤ A * b := Int.mul_le_mul_of_nonneg_right ha.2 (by omega)
  have h3 : A * b ≤ A * B := Int.mul_le_mul_of_nonneg_left hb.2 (by omega)
  omega
theorem gm_sp_b {d : Int} (h : -20 ≤ d ∧ d ≤ 20) : 1 ≤ gm_sp d ∧ gm_sp d ≤ 20 := by
  unfold gm_sp
  split
  · omega
  · split <;> omega
def gm_u3 (F : Nat → Int32) (x y z : Int32) : Nat → Int32 := upd (upd (upd F 0 x) 1 y) 2 z
theorem gm_u3_all {F : Nat → Int32} {x y z : Int32} {P : Nat → Int32 → Prop} (h0 : P 0 x) (h1 : P 1 y) (h2 : P 2 z) : ∀ ax, ax < 3 → P ax (gm_u3 F x y z ax) := by
  intro ax hax
  rcases (by omega : ax = 0 ∨ ax = 1 ∨ ax = 2) with rfl | rfl | rfl
  · exact h0
  · exact h1
  · exact h2
theorem gm_ray_S {S D K : Nat → Int32} {T : Int32} (h : gm_ray S D K T) {x y z : Int32} (hx : -100 ≤ x.toInt ∧ x.toInt ≤ 100) (hy : -100 ≤ y.toInt ∧ y.toInt ≤ 100) (hz : -100 ≤ z.toInt ∧ z.toInt ≤ 100) : gm_ray (gm_u3 S x y z) D K T :=
  ⟨gm_u3_all (P := fun _ w => -100 ≤ w.toInt ∧ w.toInt ≤ 100) hx hy hz, h.2⟩
theorem gm_ray_D {S D K : Nat → Int32} (hS : ∀ ax, ax < 3 → -100 ≤ (S ax).toInt ∧ (S ax).toInt ≤ 100) {x y z : Int32} (hx : -20 ≤ x.toInt ∧ x.toInt ≤ 20) (hy : -20 ≤ y.toInt ∧ y.toInt ≤ 20) (hz : -20 ≤ z.toInt ∧ z.toInt ≤ 20) (nz : x.toInt ≠ 0 ∨ y.toInt ≠ 0 ∨ z.toInt ≠ 0) :
    gm_ray S (gm_u3 D x y z) (gm_u3 K (zI_ (gm_sp y.toInt * gm_sp z.toInt)) (zI_ (gm_sp x.toInt * gm_sp z.toInt)) (zI_ (gm_sp x.toInt * gm_sp y.toInt))) (zI_ (gm_sp x.toInt * gm_sp y.toInt * gm_sp z.toInt)) := by
  have bx := gm_sp_b hx
  have b_y := gm_sp_b hy
  have bz := gm_sp_b hz
  have xy := gm_mp 20 20 bx b_y
  have xz := gm_mp 20 20 bx bz
  have yz := gm_mp 20 20 b_y bz
  have xyz := gm_mp 400 20 xy bz
  have t1 : (zI_ (gm_sp x.toInt * gm_sp y.toInt * gm_sp z.toInt)).toInt = gm_sp x.toInt * gm_sp y.toInt * gm_sp z.toInt := zI_t (by omega) (by omega)
  have t2 : (zI_ (gm_sp y.toInt * gm_sp z.toInt)).toInt = gm_sp y.toInt * gm_sp z.toInt := zI_t (by omega) (by omega)
  have t3 : (zI_ (gm_sp x.toInt * gm_sp z.toInt)).toInt = gm_sp x.toInt * gm_sp z.toInt := zI_t (by omega) (by omega)
  have t4 : (zI_ (gm_sp x.toInt * gm_sp y.toInt)).toInt = gm_sp x.toInt * gm_sp y.toInt := zI_t (by omega) (by omega)
  refine ⟨hS, gm_u3_all (P := fun _ w => -20 ≤ w.toInt ∧ w.toInt ≤ 20) hx hy hz, ?_, ?_, by omega, by omega⟩
  · rcases nz with h | h | h
    · exact ⟨0, by omega, h⟩
    · exact ⟨1, by omega, h⟩
    · exact ⟨2, by omega, h⟩
  · intro ax hax
    rcases (by omega : ax = 0 ∨ ax = 1 ∨ ax = 2) with rfl | rfl | rfl
    · show (zI_ (gm_sp x.toInt * gm_sp y.toInt * gm_sp z.toInt)).toInt = (zI_ (gm_sp y.toInt * gm_sp z.toInt)).toInt * gm_sp x.toInt ∧ 1 ≤ (zI_ (gm_sp y.toInt * gm_sp z.toInt)).toInt ∧ (zI_ (gm_sp y.toInt * gm_sp z.toInt)).toInt ≤ 400
      rw [t1, t2]
      exact ⟨by rw [Int.mul_assoc, Int.mul_comm], by omega, by omega⟩
    · show (zI_ (gm_sp x.toInt * gm_sp y.toInt * gm_sp z.toInt)).toInt = (zI_ (gm_sp x.toInt * gm_sp z.toInt)).toInt * gm_sp y.toInt ∧ 1 ≤ (zI_ (gm_sp x.toInt * gm_sp z.toInt)).toInt ∧ (zI_ (gm_sp x.toInt * gm_sp z.toInt)).toInt ≤ 400
      rw [t1, t3]
      exact ⟨Int.mul_right_comm _ _ _, by omega, by omega⟩
    · show (zI_ (gm_sp x.toInt * gm_sp y.toInt * gm_sp z.toInt)).toInt = (zI_ (gm_sp x.toInt * gm_sp y.toInt)).toInt * gm_sp z.toInt ∧ 1 ≤ (zI_ (gm_sp x.toInt * gm_sp y.toInt)).toInt ∧ (zI_ (gm_sp x.toInt * gm_sp y.toInt)).toInt ≤ 400
      rw [t1, t4]
      exact ⟨rfl, by omega, by omega⟩
section
variable {C E S D K A B : Nat → Int32} {n : Nat} {T f1 f2 f3 f4 : Int32}
theorem xw_speed {post : Int32 → Prop} {x : Int32} (hx : -20 ≤ x.toInt ∧ x.toInt ≤ 20) (h : post (zI_ (gm_sp x.toInt))) : wpX_speed post x := by
  unfold gm_sp at h
  refine zb_eq x.toInt 0 (fun c => ?_) (fun c => zb_le 0 x.toInt (fun c2 => ?_) (fun c2 => ?_) zI_0 (zI_of x) (by omega) (by omega)) (zI_of x) zI_0 (by omega) (by omega)
  · rw [if_pos c] at h
    exact zv_ (P := post) zI_1 h
  · rw [if_neg c, if_neg (by omega)] at h
    exact zv_ (P := post) (zI_of x) h
  · rw [if_neg c, if_pos c2, ← zI_neg, ← zI_of] at h
    exact h
theorem xw_head {post : SX → Prop} {x y z : Int32} (hx : -20 ≤ x.toInt ∧ x.toInt ≤ 20) (hy : -20 ≤ y.toInt ∧ y.toInt ≤ 20) (hz : -20 ≤ z.toInt ∧ z.toInt ≤ 20)
    (h : post (nI n, zI_ (gm_sp x.toInt * gm_sp y.toInt * gm_sp z.toInt), C, E, S, gm_u3 D x y z, gm_u3 K (zI_ (gm_sp y.toInt * gm_sp z.toInt)) (zI_ (gm_sp x.toInt * gm_sp z.toInt)) (zI_ (gm_sp x.toInt * gm_sp y.toInt)))) : wpX_head post (nI n, T, C, E, S, D, K) x y z := by
  refine nm_e (nm_e (nm_e (xw_speed hx (xw_speed hy (xw_speed hz ?_)))))
  rw [zI_mul, zI_mul, zI_mul, zI_mul]
  exact nm_e (nm_e (nm_e (nm_e h)))
theorem xw_all {post : Int32 → Prop} {x y z M : Int32} (m : Int) (hM : M = zI_ m) (m0 : 0 ≤ m ∧ m ≤ 1000) (h1 : (-m ≤ x.toInt ∧ x.toInt ≤ m) → (-m ≤ y.toInt ∧ y.toInt ≤ m) → (-m ≤ z.toInt ∧ z.toInt ≤ m) → post 1)
    (h0 : ¬ ((-m ≤ x.toInt ∧ x.toInt ≤ m) ∧ (-m ≤ y.toInt ∧ y.toInt ≤ m) ∧ (-m ≤ z.toInt ∧ z.toInt ≤ m)) → post 0) : wpX_areAllWithin post x y z M := by
  have hN : -M = zI_ (-m) := by rw [hM, zI_neg]
  unfold wpX_areAllWithin
  refine xw_within x.toInt (-m) m (zI_of x) hN hM (zI_rng x) (by omega) (by omega) (fun a b => br_f (by decide) (xw_within y.toInt (-m) m (zI_of y) hN hM (zI_rng y) (by omega) (by omega) (fun c d => br_f (by decide) (xw_within z.toInt (-m) m (zI_of z) hN hM (zI_rng z) (by omega) (by omega) (fun e f => br_f (by decide) (h1 ⟨a, b⟩ ⟨c, d⟩ ⟨e, f⟩)) (fun e => br_t rfl (h0 ?_)))) (fun c => br_t rfl (h0 ?_)))) (fun a => br_t rfl (h0 ?_))
  · omega
  · omega
  · omega
theorem yw_all {x y z M : Int32} (m : Int) (hM : M = zI_ m) (m0 : 0 ≤ m ∧ m ≤ 1000) (P0 P1 : Prop) (h1 : (-m ≤ x.toInt ∧ x.toInt ≤ m) → (-m ≤ y.toInt ∧ y.toInt ≤ m) → (-m ≤ z.toInt ∧ z.toInt ≤ m) → P1)
    (h0 : ¬ ((-m ≤ x.toInt ∧ x.toInt ≤ m) ∧ (-m ≤ y.toInt ∧ y.toInt ≤ m) ∧ (-m ≤ z.toInt ∧ z.toInt ≤ m)) → P0) :
    wpY_far (fun r => (r = 0 → wpY_far (fun r => (r = 0 → wpY_far (fun r => (r = 0 → P1) ∧ (¬ r = 0 → P0)) (nI n, f1, f2, f3, f4, C, E, S, D, A, B) z M) ∧ (¬ r = 0 → P0)) (nI n, f1, f2, f3, f4, C, E, S, D, A, B) y M) ∧ (¬ r = 0 → P0)) (nI n, f1, f2, f3, f4, C, E, S, D, A, B) x M := by
  refine yw_far m hM m0 (fun a b => br_t rfl (yw_far m hM m0 (fun c d => br_t rfl (yw_far m hM m0 (fun e f => br_t rfl (h1 ⟨a, b⟩ ⟨c, d⟩ ⟨e, f⟩)) (fun e => br_f (by decide) (h0 ?_)))) (fun c => br_f (by decide) (h0 ?_)))) (fun a => br_f (by decide) (h0 ?_))
  · omega
  · omega
  · omega
theorem xw_append {post : SX → Prop} {c e : Int32} (hn : n < 14) (h : post (nI (n + 1), T, upd C n c, upd E n e, S, D, K)) : wpX_append post (nI n, T, C, E, S, D, K) c e := by
  have hv : vp_in (nI n) 14 := vp_in_nI hn (by omega)
  have cl : (nI n).toNatClampNeg = n := nI_clamp (by omega)
  exact And.intro hv (nm_r (congrArg (fun j => upd C j c) cl) ⟨hv, nm_r (congrArg (fun j => upd E j e) cl) (nm_r (nI_1 n) h)⟩)
theorem yw_add {post : Int32 → SY → Prop} {c e : Int32} (hc : 0 ≤ c.toInt ∧ c.toInt ≤ 32767) (he : 0 ≤ e.toInt ∧ e.toInt ≤ 32767) (hn : n ≤ 14) (h1 : n < 14 → post (nI n) (nI (n + 1), f1, f2, f3, f4, upd C n c, upd E n e, S, D, A, B)) (h0 : n = 14 → post (-3) (nI n, f1, f2, f3, f4, C, E, S, D, A, B)) : wpY_add post (nI n, f1, f2, f3, f4, C, E, S, D, A, B) c e := by
  have cl : (nI n).toNatClampNeg = n := nI_clamp (by omega)
  unfold wpY_add
  dsimp only
  refine yw_trip (fun _ _ => br_t rfl (yw_trip (fun _ _ => br_t rfl (pk_le n 13 (fun q => ?_) (fun q => h0 (by omega)))) (fun q => absurd q (by omega)))) (fun q => absurd q (by omega))
  have hv : vp_in (nI n) 14 := vp_in_nI (by omega) (by omega)
  exact ⟨hv, nm_r (congrArg (fun j => upd C j c) cl) ⟨hv, nm_r (congrArg (fun j => upd E j e) cl) (nm_r (nI_1 n) (h1 (by omega)))⟩⟩
end
theorem i_vc0 : wpX_init (fun u => wpY_init (fun v => i_Rel 0 u v)) := by
  unfold wpX_init
  refine xw_head (n := 0) (by decide) (by decide) (by decide) (nm_e ?_)
  have e : upd (fun _ => (0 : Int32)) 0 1 = gm_u3 (fun _ => 0) 1 0 0 := by
    funext j
    unfold gm_u3 upd
    by_cases h1 : j = 1
    · subst h1; rfl
    · by_cases h2 : j = 2
      · subst h2; rfl
      · rw [if_neg h2, if_neg h1]
  rw [e]
  exact ir_mk (by omega) gm_pk0 gm_pk0 (gm_ray_D (fun _ _ => (by decide : -100 ≤ (0 : Int32).toInt ∧ (0 : Int32).toInt ≤ 100)) (by decide) (by decide) (by decide) (Or.inl (by decide)))
theorem i_vc_add {k : Nat} {u : SX} {v : SY} (I : i_Rel k u v) (hk : k + 4 ≤ 2048) (v1 : Int32) (v2 : Int32) : wpX_add (fun r u' => wpY_add (fun r' v' => r' = r ∧ i_Rel (k + 4) u' v') v v1 v2) u v1 v2 := by
  obtain ⟨n, T, f1, f2, f3, f4, C, E, S, D, K, A, B, rfl, rfl, hn, hC, hE, hr⟩ := I
  unfold wpX_add
  dsimp only
  refine xw_packed (fun a b => br_f (by decide) (xw_packed (fun c d => br_f (by decide) (pk_lt n 14 (fun q => xw_append q ?_) (fun q => ?_))) (fun c => br_t rfl ?_))) (fun a => br_t rfl ?_)
  · refine yw_add ⟨a, b⟩ ⟨c, d⟩ hn (fun _ => ⟨?_, ir_mk (by omega) (gm_pku hC n ⟨a, b⟩) (gm_pku hE n ⟨c, d⟩) hr⟩) (fun z => absurd z (by omega))
    exact (nI_pred n).symm
  · exact yw_add ⟨a, b⟩ ⟨c, d⟩ hn (fun z => absurd z (by omega)) (fun z => ⟨rfl, ir_mk hn hC hE hr⟩)
  · unfold wpY_add
    dsimp only
    exact yw_trip (fun _ _ => br_t rfl (yw_trip (fun _ _ => absurd c (by omega)) (fun _ => br_f (by decide) ⟨rfl, ir_mk hn hC hE hr⟩))) (fun q => absurd q (by omega))
  · unfold wpY_add
    dsimp only
    exact yw_trip (fun _ _ => absurd a (by omega)) (fun _ => br_f (by decide) ⟨rfl, ir_mk hn hC hE hr⟩)
theorem i_vc_move {k : Nat} {u : SX} {v : SY} (I : i_Rel k u v) (hk : k + 4 ≤ 2048) (v1 : Int32) (v2 : Int32) : wpX_move (fun r u' => wpY_move (fun r' v' => r' = r ∧ i_Rel (k + 4) u' v') v v1 v2) u v1 v2 := by
  obtain ⟨n, T, f1, f2, f3, f4, C, E, S, D, K, A, B, rfl, rfl, hn, hC, hE, hr⟩ := I
  unfold wpX_move wpY_move
  dsimp only
  have bad : (v1 < 0 ∨ nI n ≤ v1) ∨ ∃ j : Nat, j < n ∧ v1 = nI j := by
    rcases pk_ix v1 (n := n) (by omega) with h | h | h
    · exact Or.inl (Or.inl h)
    · exact Or.inl (Or.inr h)
    · exact Or.inr h
  rcases bad with h | ⟨j, hj, rfl⟩
  · exact xw_good_f h (br_t rfl (yw_bad_t h (br_f (by decide) ⟨rfl, ir_mk hn hC hE hr⟩)))
  · have hv : vp_in (nI j) 14 := vp_in_nI (by omega) (by omega)
    have cl : (nI j).toNatClampNeg = j := nI_clamp (by omega)
    rw [cl]
    refine xw_good_t hj hn (br_f (by decide) (xw_packed (fun a b => br_f (by decide) ⟨hv, nm_e ⟨hv, nm_e (yw_bad_f hj hn (br_t rfl (yw_trip (fun _ _ => br_t rfl ⟨hv, nm_e ⟨hv, nm_e ⟨rfl, ir_mk hn (gm_pku hC j ⟨a, b⟩) hE hr⟩⟩⟩) (fun q => absurd q (by omega)))))⟩⟩) (fun a => br_t rfl ?_)))
    exact yw_bad_f hj hn (br_t rfl (yw_trip (fun _ _ => absurd a (by omega)) (fun _ => br_f (by decide) ⟨rfl, ir_mk hn hC hE hr⟩)))
theorem i_vc_origin {k : Nat} {u : SX} {v : SY} (I : i_Rel k u v) (hk : k + 4 ≤ 2048) (v1 : Int32) (v2 : Int32) (v3 : Int32) : wpX_origin (fun r u' => wpY_origin (fun r' v' => r' = r ∧ i_Rel (k + 4) u' v') v v1 v2 v3) u v1 v2 v3 := by
  obtain ⟨n, T, f1, f2, f3, f4, C, E, S, D, K, A, B, rfl, rfl, hn, hC, hE, hr⟩ := I
  unfold wpX_origin wpY_origin
  dsimp only
  refine xw_all 100 (by decide) (by omega) (fun a b c => br_f (by decide) (nm_e (nm_e (nm_e ?_)))) (fun a => br_t rfl ?_)
  · exact yw_all 100 (by decide) (by omega) _ _ (fun _ _ _ => nm_e (nm_e (nm_e ⟨rfl, ir_mk hn hC hE (gm_ray_S hr a b c)⟩))) (fun q => absurd ⟨a, b, c⟩ q)
  · exact yw_all 100 (by decide) (by omega) _ _ (fun b c d => absurd ⟨b, c, d⟩ a) (fun _ => ⟨rfl, ir_mk hn hC hE hr⟩)
theorem i_vc_direction {k : Nat} {u : SX} {v : SY} (I : i_Rel k u v) (hk : k + 4 ≤ 2048) (v1 : Int32) (v2 : Int32) (v3 : Int32) : wpX_direction (fun r u' => wpY_direction (fun r' v' => r' = r ∧ i_Rel (k + 4) u' v') v v1 v2 v3) u v1 v2 v3 := by
  obtain ⟨n, T, f1, f2, f3, f4, C, E, S, D, K, A, B, rfl, rfl, hn, hC, hE, hr⟩ := I
  unfold wpX_direction wpY_direction
  dsimp only
  have z : ∀ x : Int32, ¬ x = 0 → x.toInt ≠ 0 := fun x hx q => hx (Int32.toInt_inj.mp q)
  refine xw_all 20 (by decide) (by omega) (fun a b c => br_f (by decide) ?_) (fun a => br_t rfl ?_)
  · by_cases z1 : v1 = 0
    · refine br_t z1 ?_
      by_cases z2 : v2 = 0
      · refine br_t z2 ?_
        by_cases z3 : v3 = 0
        · refine br_t z3 ?_
          exact yw_all 20 (by decide) (by omega) _ _ (fun _ _ _ => br_t z1 (br_t z2 (br_t z3 ⟨rfl, ir_mk hn hC hE hr⟩))) (fun q => absurd ⟨a, b, c⟩ q)
        · refine br_f z3 (xw_head a b c ?_)
          exact yw_all 20 (by decide) (by omega) _ _ (fun _ _ _ => br_t z1 (br_t z2 (br_f z3 (nm_e (nm_e (nm_e ⟨rfl, ir_mk hn hC hE (gm_ray_D hr.1 a b c (Or.inr (Or.inr (z _ z3))))⟩)))))) (fun q => absurd ⟨a, b, c⟩ q)
      · refine br_f z2 (xw_head a b c ?_)
        exact yw_all 20 (by decide) (by omega) _ _ (fun _ _ _ => br_t z1 (br_f z2 (nm_e (nm_e (nm_e ⟨rfl, ir_mk hn hC hE (gm_ray_D hr.1 a b c (Or.inr (Or.inl (z _ z2))))⟩))))) (fun q => absurd ⟨a, b, c⟩ q)
    · refine br_f z1 (xw_head a b c ?_)
      exact yw_all 20 (by decide) (by omega) _ _ (fun _ _ _ => br_f z1 (nm_e (nm_e (nm_e ⟨rfl, ir_mk hn hC hE (gm_ray_D hr.1 a b c (Or.inl (z _ z1)))⟩)))) (fun q => absurd ⟨a, b, c⟩ q)
  · exact yw_all 20 (by decide) (by omega) _ _ (fun b c d => absurd ⟨b, c, d⟩ a) (fun _ => ⟨rfl, ir_mk hn hC hE hr⟩)
theorem i_vc_boxes {k : Nat} {u : SX} {v : SY} (I : i_Rel k u v) (hk : k + 4 ≤ 2048) : wpX_boxes (fun r => wpY_boxes (fun r' => r' = r ∧ i_Rel (k + 4) u v) v) u := by
  obtain ⟨n, T, f1, f2, f3, f4, C, E, S, D, K, A, B, rfl, rfl, hn, hC, hE, hr⟩ := I
  exact And.intro rfl (ir_mk hn hC hE hr)
end
section
/-! row and remove -/
def gm_shf (a : Nat → Int32) (b i : Nat) : Nat → Int32 := fun j => if b ≤ j ∧ j < i then a (j + 1) else a j
theorem gm_shf_0 (a : Nat → Int32) (b : Nat) : gm_shf a b b = a := by
  funext j
  exact if_neg (by omega)
theorem gm_shf_s (a : Nat → Int32) {b i : Nat} (h : b ≤ i) : upd (gm_shf a b i) i (gm_shf a b i (i + 1)) = gm_shf a b (i + 1) := by
  funext j
  unfold upd gm_shf
  by_cases e : j = i
  · subst e
    rw [if_pos rfl, if_neg (by omega), if_pos (by omega)]
  · rw [if_neg e]
    by_cases q : b ≤ j ∧ j < i
    · rw [if_pos q, if_pos (by omega)]
    · rw [if_neg q, if_neg (by omega)]
theorem gm_shf_pk {a : Nat → Int32} (h : gm_pk a) (b i : Nat) : gm_pk (gm_shf a b i) := by
  intro j
  unfold gm_shf
  split
  · exact h (j + 1)
  · exact h j
section
variable {C E S D K A B : Nat → Int32} {n : Nat} {T f1 f2 f3 f4 : Int32}
theorem xw_rm12 {post : Int32 → SX → Prop} {b m : Nat} (hm : m < 14) (h : post (nI m) (nI m, T, gm_shf C b m, gm_shf E b m, S, D, K)) : ∀ d i : Nat, i + d = m → b ≤ i →
    wX_remove_12 post (nI (m + 1)) T (d + 1) (nI i) (gm_shf C b i) (gm_shf E b i) S D K
  | 0, i, hi, hb => by
    have q : i = m := by omega
    subst q
    refine br_t ?_ (nm_r (nI_pred i) h)
    rw [nI_pred]
    exact nI_le (Nat.le_refl i) (by omega)
  | d + 1, i, hi, hb => by
    have ih := xw_rm12 hm h d (i + 1) (by omega) (by omega)
    have v0 : vp_in (nI i) 14 := vp_in_nI (by omega) (by omega)
    have v1 : vp_in (nI i + 1) 14 := by rw [nI_1]; exact vp_in_nI (by omega) (by omega)
    have c0 : (nI i).toNatClampNeg = i := nI_clamp (by omega)
    have c1 : (nI i + 1).toNatClampNeg = i + 1 := by rw [nI_1]; exact nI_clamp (by omega)
    refine br_f ?_ ⟨v1, v0, nm_r ?_ ⟨v1, v0, nm_r ?_ (nm_r (nI_1 i) ih)⟩⟩
    · rw [nI_pred]
      exact nI_ge (by omega) (by omega)
    · rw [c0, c1]
      exact gm_shf_s C hb
    · rw [c0, c1]
      exact gm_shf_s E hb
theorem yw_rm12 {post : Int32 → SY → Prop} {b m : Nat} (hm : m < 14) (h : post (nI m) (nI m, f1, f2, f3, f4, gm_shf C b m, gm_shf E b m, S, D, A, B)) : ∀ d i : Nat, i + d = m → b ≤ i →
    wY_remove_12 post (nI (m + 1)) f1 f2 f3 f4 (d + 1) (nI i) (gm_shf C b i) (gm_shf E b i) S D A B
  | 0, i, hi, hb => by
    have q : i = m := by omega
    subst q
    refine br_t ?_ (nm_r (nI_pred i) h)
    rw [nI_pred]
    exact nI_le (Nat.le_refl i) (by omega)
  | d + 1, i, hi, hb => by
    have ih := yw_rm12 hm h d (i + 1) (by omega) (by omega)
    have v0 : vp_in (nI i) 14 := vp_in_nI (by omega) (by omega)
    have v1 : vp_in (nI i + 1) 14 := by rw [nI_1]; exact vp_in_nI (by omega) (by omega)
    have c0 : (nI i).toNatClampNeg = i := nI_clamp (by omega)
    have c1 : (nI i + 1).toNatClampNeg = i + 1 := by rw [nI_1]; exact nI_clamp (by omega)
    refine br_f ?_ (br_f (nI_ge (a := i) (b := 13) (by omega) (by omega)) ⟨v1, v0, nm_r ?_ ⟨v1, v0, nm_r ?_ (nm_r (nI_1 i) ih)⟩⟩)
    · rw [nI_pred]
      exact nI_ge (by omega) (by omega)
    · rw [c0, c1]
      exact gm_shf_s C hb
    · rw [c0, c1]
      exact gm_shf_s E hb
theorem xw_rm {post : Int32 → SX → Prop} {b m : Nat} (hb : b ≤ m) (hm : m < 14) (h : post (nI m) (nI m, T, gm_shf C b m, gm_shf E b m, S, D, K)) : wX_remove_12 post (nI (m + 1)) T (m - b + 1) (nI b) C E S D K := by
  have := xw_rm12 hm h (m - b) b (by omega) (Nat.le_refl b)
  rw [gm_shf_0, gm_shf_0] at this
  exact this
theorem yw_rm {post : Int32 → SY → Prop} {b m : Nat} (hb : b ≤ m) (hm : m < 14) (h : post (nI m) (nI m, f1, f2, f3, f4, gm_shf C b m, gm_shf E b m, S, D, A, B)) : wY_remove_12 post (nI (m + 1)) f1 f2 f3 f4 (m - b + 1) (nI b) C E S D A B := by
  have := yw_rm12 hm h (m - b) b (by omega) (Nat.le_refl b)
  rw [gm_shf_0, gm_shf_0] at this
  exact this
end
/-- a box's number is good on both sides, or bad -/
theorem gm_gb (x : Int32) {n : Nat} (hn : n ≤ 14) : (x < 0 ∨ nI n ≤ x) ∨ ∃ j : Nat, j < n ∧ x = nI j := by
  rcases pk_ix x (n := n) (by omega) with h | h | h
  · exact Or.inl (Or.inl h)
  · exact Or.inl (Or.inr h)
  · exact Or.inr h
theorem i_vc_remove {k : Nat} {u : SX} {v : SY} (I : i_Rel k u v) (hk : k + 4 ≤ 2048) (v1 : Int32) : wpX_remove (fun r u' => wpY_remove (fun r' v' => r' = r ∧ i_Rel (k + 4) u' v') v v1) u v1 := by
  obtain ⟨n, T, f1, f2, f3, f4, C, E, S, D, K, A, B, rfl, rfl, hn, hC, hE, hr⟩ := I
  unfold wpX_remove wpY_remove
  dsimp only
  rcases gm_gb v1 hn with h | ⟨j, hj, rfl⟩
  · exact xw_good_f h (br_t rfl (yw_bad_t h (br_f (by decide) ⟨rfl, ir_mk hn hC hE hr⟩)))
  · obtain ⟨m, rfl⟩ : ∃ m, n = m + 1 := ⟨n - 1, by omega⟩
    exact xw_good_t hj hn (br_f (by decide) ⟨_, xw_rm (b := j) (by omega) (by omega) (yw_bad_f hj hn (br_t rfl ⟨_, yw_rm (b := j) (by omega) (by omega) ⟨rfl, ir_mk (by omega) (gm_shf_pk hC j m) (gm_shf_pk hE j m) hr⟩⟩))⟩)
/-- once out of 0 .. 31, the copies stay out -/
theorem gm_out {x d : Int} (hx : 0 ≤ x ∧ x ≤ 31) {k j : Nat} (hkj : k ≤ j) (h : x + (k : Int) * d < 0 ∨ 31 < x + (k : Int) * d) : x + (j : Int) * d < 0 ∨ 31 < x + (j : Int) * d := by
  have hk : (0 : Int) ≤ k := by omega
  have hj : (k : Int) ≤ j := by omega
  rcases Int.lt_trichotomy d 0 with c | c | c
  · have e1 : (j : Int) * d ≤ (k : Int) * d := by
      have := Int.mul_le_mul_of_nonneg_right hj (show 0 ≤ -d by omega)
      rw [Int.mul_neg, Int.mul_neg] at this
      omega
    have e2 : (k : Int) * d ≤ 0 := by
      have := Int.mul_nonneg hk (show 0 ≤ -d by omega)
      rw [Int.mul_neg] at this
      omega
    omega
  · subst c
    rw [Int.mul_zero] at h
    omega
  · have e1 : (k : Int) * d ≤ (j : Int) * d := Int.mul_le_mul_of_nonneg_right hj (by omega)
    have e2 : 0 ≤ (k : Int) * d := Int.mul_nonneg hk (by omega)
    omega
theorem gm_cp {c d : Int} (hc : 0 ≤ c ∧ c ≤ 32767) {k : Int} (h : 0 ≤ c / 1024 + k * d ∧ c / 1024 + k * d ≤ 31) : 0 ≤ c + 1024 * (k * d) ∧ c + 1024 * (k * d) ≤ 32767 := by
  generalize k * d = e at *
  omega
theorem gm_kd {k : Nat} {d : Int} (hk : k ≤ 14) (hd : -31 ≤ d ∧ d ≤ 31) : -434 ≤ (k : Int) * d ∧ (k : Int) * d ≤ 434 := by
  have := gm_mb (a := d) (k := (k : Int)) 31 14 (by omega) (by omega) (by omega) (by omega) (by omega)
  rw [Int.mul_comm d] at this
  omega
section
variable {S D K A B : Nat → Int32} {T f1 f2 f3 f4 c e : Int32} {dx : Int} {m b : Nat}
theorem rw_x5 {C : Nat → Int32} (hC : gm_pk C) (hb : b < 14) (k : Nat) : C (nI b).toNatClampNeg / 1024 + nI k * zI_ dx = zI_ ((C b).toInt / 1024 + (k : Int) * dx) := by
  have h := hC b
  have e1 : C b / 1024 = zI_ ((C b).toInt / 1024) := by
    have := zI_div (a := (C b).toInt) (b := 1024) (by omega) (by omega)
    rw [← zI_of] at this
    exact this
  rw [nI_clamp (by omega), e1, zI_n, zI_mul, zI_add]
theorem rw_cy {C : Nat → Int32} (hb : b < 14) (k : Nat) : C (nI b).toNatClampNeg + 1024 * nI k * zI_ dx = zI_ ((C b).toInt + 1024 * ((k : Int) * dx)) := by
  have e2 : (1024 : Int32) = zI_ 1024 := by decide
  rw [nI_clamp (by omega), e2, zI_n, zI_mul, zI_mul, ← zI_add, ← zI_of, Int.mul_assoc]
theorem rw_cx {C : Nat → Int32} (hb : b < 14) (k : Nat) : C (nI b).toNatClampNeg + nI k * zI_ dx * 1024 = zI_ ((C b).toInt + 1024 * ((k : Int) * dx)) := by
  have e2 : (1024 : Int32) = zI_ 1024 := by decide
  rw [nI_clamp (by omega), e2, zI_n, zI_mul, zI_mul, ← zI_add, ← zI_of, Int.mul_comm 1024]
/-- nothing is added any more -/
theorem yw_row_end {C E : Nat → Int32} {n : Nat} {post : Int32 → SY → Prop} (hC : gm_pk C) (hE : gm_pk E) (hn : n ≤ 14) (hb : b < n) (hd : -31 ≤ dx ∧ dx ≤ 31) (hm : m ≤ 13) (h : post (nI n) (nI n, f1, f2, f3, f4, C, E, S, D, A, B)) :
    ∀ d k : Nat, k + d = m + 1 → (n = 14 ∨ ∀ j : Nat, k ≤ j → ((C b).toInt / 1024 + (j : Int) * dx < 0 ∨ 31 < (C b).toInt / 1024 + (j : Int) * dx)) →
    wY_row_42 post (nI b) (zI_ dx) (nI m) (d + 1) (nI k) (nI n) f1 f2 f3 f4 C E S D A B
  | 0, k, hk, _ => by
    have q : k = m + 1 := by omega
    subst q
    exact br_t (nI_lt (by omega) (by omega)) h
  | d + 1, k, hk, hx => by
    have ih := yw_row_end hC hE hn hb hd hm h d (k + 1) (by omega) (hx.imp (fun q => q) (fun q j hj => q j (by omega)))
    have hv : vp_in (nI b) 14 := vp_in_nI (by omega) (by omega)
    have c0 := hC b
    have r1 := gm_kd (k := k) (by omega) hd
    refine br_f (nI_nlt (by omega) (by omega)) ⟨hv, by decide, nm_r (rw_x5 hC (by omega) k) ?_⟩
    refine zb_lt ((C b).toInt / 1024 + (k : Int) * dx) 0 (fun q => nm_r (nI_1 k) ih) (fun q => zb_lt 31 ((C b).toInt / 1024 + (k : Int) * dx) (fun q' => nm_r (nI_1 k) ih) (fun q' => ⟨hv, hv, ?_⟩) (by decide) rfl (by omega) (by omega)) rfl zI_0 (by omega) (by omega)
    have cp := gm_cp c0 ⟨q, q'⟩
    have full : n = 14 := by
      rcases hx with z | z
      · exact z
      · have := z k (Nat.le_refl k)
        omega
    rw [rw_cy (by omega) k, nI_clamp (by omega)]
    exact yw_add (by rw [zI_t (by omega) (by omega)]; exact cp) (hE b) hn (fun z => absurd z (by omega)) (fun _ => nm_r (nI_1 k) ih)
/-- X and Y add the same copies -/
theorem xy_row (hd : -31 ≤ dx ∧ dx ≤ 31) (hm : m ≤ 13) : ∀ (d k n : Nat) (C E : Nat → Int32) (c : Int32), 1 ≤ k → k + d = m + 1 → n ≤ 14 → b < n → gm_pk C → gm_pk E → C b = c →
    ∃ (n' : Nat) (C' E' : Nat → Int32), n' ≤ 14 ∧ gm_pk C' ∧ gm_pk E' ∧
      (∀ post : Int32 → SX → Prop, post (nI n') (nI n', T, C', E', S, D, K) → wX_row_48 post (nI b) (zI_ dx) (nI m) (zI_ (c.toInt / 1024)) (d + 1) (nI k) (nI n) T C E S D K) ∧
      (∀ post : Int32 → SY → Prop, post (nI n') (nI n', f1, f2, f3, f4, C', E', S, D, A, B) → wY_row_42 post (nI b) (zI_ dx) (nI m) (d + 1) (nI k) (nI n) f1 f2 f3 f4 C E S D A B)
  | 0, k, n, C, E, c, k1, hk, hn, hb, hC, hE, hc => by
    have q : k = m + 1 := by omega
    subst q
    exact ⟨n, C, E, hn, hC, hE, fun post h => br_t (nI_lt (by omega) (by omega)) h, fun post h => br_t (nI_lt (by omega) (by omega)) h⟩
  | d + 1, k, n, C, E, c, k1, hk, hn, hb, hC, hE, hc => by
    subst hc
    have hv : vp_in (nI b) 14 := vp_in_nI (by omega) (by omega)
    have c0 := hC b
    have r1 := gm_kd (k := k) (by omega) hd
    have ex : zI_ ((C b).toInt / 1024) + nI k * zI_ dx = zI_ ((C b).toInt / 1024 + (k : Int) * dx) := by rw [zI_n, zI_mul, zI_add]
    by_cases full : n = 14
    · refine ⟨n, C, E, hn, hC, hE, fun post h => ?_, fun post h => ?_⟩
      · exact br_f (nI_nlt (by omega) (by omega)) (br_t (nI_le (a := 14) (by omega) (by omega)) h)
      · exact yw_row_end hC hE hn hb hd hm h (d + 1) k hk (Or.inl full)
    · by_cases out : (C b).toInt / 1024 + (k : Int) * dx < 0 ∨ 31 < (C b).toInt / 1024 + (k : Int) * dx
      · refine ⟨n, C, E, hn, hC, hE, fun post h => ?_, fun post h => ?_⟩
        · exact br_f (nI_nlt (by omega) (by omega)) (br_f (nI_ge (b := 14) (by omega) (by omega)) (xw_within _ 0 31 ex zI_0 (by decide) (by omega) (by omega) (by omega) (fun q q' => absurd out (by omega)) (fun _ => br_t rfl h)))
        · exact yw_row_end hC hE hn hb hd hm h (d + 1) k hk (Or.inr (fun j hj => gm_out (by omega) hj out))
      · have cp := gm_cp c0 (d := dx) (k := (k : Int)) (by omega)
        have tp : 0 ≤ (zI_ ((C b).toInt + 1024 * ((k : Int) * dx))).toInt ∧ (zI_ ((C b).toInt + 1024 * ((k : Int) * dx))).toInt ≤ 32767 := by
          rw [zI_t (by omega) (by omega)]; exact cp
        obtain ⟨n', C', E', hn', hC', hE', gx, gy⟩ := xy_row hd hm d (k + 1) (n + 1) (upd C n (zI_ ((C b).toInt + 1024 * ((k : Int) * dx)))) (upd E n (E b)) (C b) (by omega) (by omega) (by omega) (by omega) (gm_pku hC n tp) (gm_pku hE n (hE b)) (pk_un (by omega))
        refine ⟨n', C', E', hn', hC', hE', fun post h => ?_, fun post h => ?_⟩
        · refine br_f (nI_nlt (by omega) (by omega)) (br_f (nI_ge (b := 14) (by omega) (by omega)) (xw_within _ 0 31 ex zI_0 (by decide) (by omega) (by omega) (by omega) (fun q q' => br_f (by decide) ⟨hv, hv, ?_⟩) (fun q => absurd q out)))
          rw [rw_cx (by omega) k, nI_clamp (by omega)]
          exact xw_append (by omega) (nm_r (nI_1 k) (gx post h))
        · refine br_f (nI_nlt (by omega) (by omega)) ⟨hv, by decide, nm_r (rw_x5 hC (by omega) k) ?_⟩
          refine zb_lt ((C b).toInt / 1024 + (k : Int) * dx) 0 (fun q => absurd (Or.inl q) out) (fun q => zb_lt 31 ((C b).toInt / 1024 + (k : Int) * dx) (fun q' => absurd (Or.inr q') out) (fun q' => ⟨hv, hv, ?_⟩) (by decide) rfl (by omega) (by omega)) rfl zI_0 (by omega) (by omega)
          rw [rw_cy (by omega) k, nI_clamp (by omega)]
          exact yw_add tp (hE b) hn (fun _ => nm_r (nI_1 k) (gy post h)) (fun z => absurd z full)
end
theorem i_vc_row {k : Nat} {u : SX} {v : SY} (I : i_Rel k u v) (hk : k + 4 ≤ 2048) (v1 : Int32) (v2 : Int32) (v3 : Int32) : wpX_row (fun r u' => wpY_row (fun r' v' => r' = r ∧ i_Rel (k + 4) u' v') v v1 v2 v3) u v1 v2 v3 := by
  obtain ⟨n, T, f1, f2, f3, f4, C, E, S, D, K, A, B, rfl, rfl, hn, hC, hE, hr⟩ := I
  unfold wpX_row wpY_row
  dsimp only
  rcases gm_gb v1 hn with h | ⟨j, hj, rfl⟩
  · exact xw_good_f h (br_t rfl (yw_bad_t h (br_f (by decide) ⟨rfl, ir_mk hn hC hE hr⟩)))
  · refine xw_good_t hj hn (br_f (by decide) (xw_within v2.toInt (-31) 31 (zI_of _) (by decide) (by decide) (zI_rng _) (by omega) (by omega) (fun a b => br_f (by decide) (xw_within v3.toInt 1 13 (zI_of _) zI_1 (by decide) (zI_rng _) (by omega) (by omega) (fun c d => br_f (by decide) (xw_low (ax := 0) hC (by omega) (by omega) ?_)) (fun c => br_t rfl ?_))) (fun a => br_t rfl ?_)))
    · obtain ⟨m, hm⟩ := Int.eq_ofNat_of_zero_le (show 0 ≤ v3.toInt by omega)
      have e3 : v3 = nI m := by rw [zI_n, ← hm]; exact zI_of v3
      obtain ⟨n', C', E', hn', hC', hE', gx, gy⟩ := xy_row (S := S) (D := D) (K := K) (A := A) (B := B) (T := T) (f1 := f1) (f2 := f2) (f3 := f3) (f4 := f4) (dx := v2.toInt) (m := m) (b := j) ⟨a, b⟩ (by omega) m 1 n C E (C j) (by omega) (by omega) hn hj hC hE rfl
      rw [← zI_of] at gx gy
      rw [← e3] at gx gy
      refine ⟨m + 1, gx _ ?_⟩
      exact yw_bad_f hj hn (br_t rfl (zb_lt v2.toInt (-31) (fun q => absurd q (by omega)) (fun _ => zb_le v2.toInt 31 (fun _ => zb_lt v3.toInt 1 (fun q => absurd q (by omega)) (fun _ => zb_le v3.toInt 13 (fun _ => ⟨m + 1, gy _ ⟨rfl, ir_mk hn' hC' hE' hr⟩⟩) (fun q => absurd q (by omega)) (zI_of _) (by decide) (zI_rng _) (by omega)) (zI_of _) zI_1 (zI_rng _) (by omega)) (fun q => absurd q (by omega)) (zI_of _) (by decide) (zI_rng _) (by omega)) (zI_of _) (by decide) (zI_rng _) (by omega)))
    · refine yw_bad_f hj hn (br_t rfl (zb_lt v2.toInt (-31) (fun q => absurd q (by omega)) (fun _ => zb_le v2.toInt 31 (fun _ => zb_lt v3.toInt 1 (fun q => ⟨rfl, ir_mk hn hC hE hr⟩) (fun _ => zb_le v3.toInt 13 (fun _ => absurd c (by omega)) (fun q => ⟨rfl, ir_mk hn hC hE hr⟩) (zI_of _) (by decide) (zI_rng _) (by omega)) (zI_of _) zI_1 (zI_rng _) (by omega)) (fun q => absurd q (by omega)) (zI_of _) (by decide) (zI_rng _) (by omega)) (zI_of _) (by decide) (zI_rng _) (by omega)))
    · refine yw_bad_f hj hn (br_t rfl (zb_lt v2.toInt (-31) (fun q => ⟨rfl, ir_mk hn hC hE hr⟩) (fun _ => zb_le v2.toInt 31 (fun _ => absurd a (by omega)) (fun q => ⟨rfl, ir_mk hn hC hE hr⟩) (zI_of _) (by decide) (zI_rng _) (by omega)) (zI_of _) (by decide) (zI_rng _) (by omega)))
end
section
/-! the methods that read -/
/-- hitsBefore's answer -/
def gm_hbv (t : Nat → Int) (T : Int) (n : Nat) (p q : Int) : Int32 := if p < 0 ∨ 1000 < p then -1 else if q < 1 ∨ 100 < q then -2 else nI (gm_ct (gm_by t T p q) n)
/-- a ray's T is a natural number -/
theorem gm_ray_T {S D K : Nat → Int32} {T : Int32} (h : gm_ray S D K T) : ∃ t : Nat, T = nI t ∧ T.toInt = (t : Int) ∧ 1 ≤ t ∧ t ≤ 8000 := by
  have h1 := h.2.2.2.2
  obtain ⟨t, ht⟩ := Int.eq_ofNat_of_zero_le (show 0 ≤ T.toInt by omega)
  refine ⟨t, ?_, ht, by omega, by omega⟩
  rw [zI_n, ← ht]
  exact zI_of T
section
variable {C E S D K A B : Nat → Int32} {n : Nat} {T f1 f2 f3 f4 : Int32}
theorem xw_hb {post : Int32 → Prop} (hr : gm_ray S D K T) (hC : gm_pk C) (hE : gm_pk E) (hn : n ≤ 14) {p q : Int32} (h : post (gm_hbv (gm_t S D K C E) T.toInt n p.toInt q.toInt)) : wpX_hitsBefore post (nI n, T, C, E, S, D, K) p q := by
  unfold gm_hbv at h
  unfold wpX_hitsBefore
  dsimp only
  refine xw_within p.toInt 0 1000 (zI_of _) zI_0 (by decide) (zI_rng _) (by omega) (by omega) (fun a b => br_f (by decide) (xw_within q.toInt 1 100 (zI_of _) zI_1 (by decide) (zI_rng _) (by omega) (by omega) (fun c d => br_f (by decide) ⟨n + 1, ?_⟩) (fun c => br_t rfl ?_))) (fun a => br_t rfl ?_)
  · rw [if_neg (by omega), if_neg (by omega)] at h
    have := xw_hb31 hr hC hE hn ⟨a, b⟩ ⟨c, d⟩ h n 0 (by omega)
    rw [← zI_of p, ← zI_of q] at this
    exact this
  · rw [if_neg (by omega), if_pos c] at h
    exact h
  · rw [if_pos a] at h
    exact h
theorem yw_hb {post : Int32 → SY → Prop} (hr : gm_ray S D K T) (hC : gm_pk C) (hE : gm_pk E) (hn : n ≤ 14) {p q : Int32} (h : ∀ g1 g2 g3 g4 A B, post (gm_hbv (gm_t S D K C E) T.toInt n p.toInt q.toInt) (nI n, g1, g2, g3, g4, C, E, S, D, A, B)) : wpY_hitsBefore post (nI n, f1, f2, f3, f4, C, E, S, D, A, B) p q := by
  unfold gm_hbv at h
  unfold wpY_hitsBefore
  dsimp only
  refine zb_lt p.toInt 0 (fun a => ?_) (fun a => zb_le p.toInt 1000 (fun b => zb_lt q.toInt 1 (fun c => ?_) (fun c => zb_le q.toInt 100 (fun d => ?_) (fun d => ?_) (zI_of _) (by decide) (zI_rng _) (by omega)) (zI_of _) zI_1 (zI_rng _) (by omega)) (fun b => ?_) (zI_of _) (by decide) (zI_rng _) (by omega)) (zI_of _) zI_0 (zI_rng _) (by omega)
  · rw [if_pos (Or.inl a)] at h
    exact h _ _ _ _ _ _
  · rw [if_neg (by omega), if_pos (Or.inl c)] at h
    exact h _ _ _ _ _ _
  · rw [if_neg (by omega), if_neg (by omega)] at h
    refine yw_shoot hr hC hE hn (fun g1 g2 g3 g4 A B hs => ⟨15, ?_⟩)
    have h' := h g1 g2 g3 g4 A B
    have e : gm_ct (gm_by (gm_t S D K C E) T.toInt p.toInt q.toInt) n = gm_ct (fun c => gm_hq (gm_t S D K C E) n c && decide (gm_t S D K C E c * q.toInt ≤ p.toInt * T.toInt)) 14 := (gm_hits_n hn (fun c => decide (gm_t S D K C E c * q.toInt ≤ p.toInt * T.toInt))).symm
    rw [e] at h'
    have := yw_hb36 (p := p.toInt) (q := q.toInt) ⟨a, b⟩ ⟨c, d⟩ (by have := hr.2.2.2.2.1; omega) hs h' 14 0 rfl
    rw [← zI_of p, ← zI_of q] at this
    exact this
  · rw [if_neg (by omega), if_pos (Or.inr d)] at h
    exact h _ _ _ _ _ _
  · rw [if_pos (Or.inr b)] at h
    exact h _ _ _ _ _ _
end
theorem i_vc_first {k : Nat} {u : SX} {v : SY} (I : i_Rel k u v) (hk : k + 4 ≤ 2048) : wpX_first (fun r => wpY_first (fun r' v' => r' = r ∧ i_Rel (k + 4) u v') v) u := by
  obtain ⟨n, T, f1, f2, f3, f4, C, E, S, D, K, A, B, rfl, rfl, hn, hC, hE, hr⟩ := I
  unfold wpX_first wpY_first
  dsimp only
  exact xw_firstBox hr hC hE hn (fun r e hb => yw_chosen hr hC hE hn (fun r' g1 g2 g3 g4 A B hs hF => ⟨gm_F_one hn (gm_best_F hn hb) hF, ir_mk hn hC hE hr⟩))
theorem i_vc_hit {k : Nat} {u : SX} {v : SY} (I : i_Rel k u v) (hk : k + 4 ≤ 2048) (v1 : Int32) : wpX_hit (fun r => wpY_hit (fun r' v' => r' = r ∧ i_Rel (k + 4) u v') v v1) u v1 := by
  obtain ⟨n, T, f1, f2, f3, f4, C, E, S, D, K, A, B, rfl, rfl, hn, hC, hE, hr⟩ := I
  refine xw_hit hr hC hE hn (fun r hG => ?_)
  unfold wpY_hit
  dsimp only
  exact yw_chosen hr hC hE hn (fun r' g1 g2 g3 g4 A B hs hF => ⟨gm_F_one hn hG hF, ir_mk hn hC hE hr⟩)
theorem i_vc_hits {k : Nat} {u : SX} {v : SY} (I : i_Rel k u v) (hk : k + 4 ≤ 2048) : wpX_hits (fun r => wpY_hits (fun r' v' => r' = r ∧ i_Rel (k + 4) u v') v) u := by
  obtain ⟨n, T, f1, f2, f3, f4, C, E, S, D, K, A, B, rfl, rfl, hn, hC, hE, hr⟩ := I
  exact xw_hits hr hC hE hn (yw_hits hr hC hE hn (fun g1 g2 g3 g4 A B => ⟨rfl, ir_mk hn hC hE hr⟩))
theorem i_vc_hitsBefore {k : Nat} {u : SX} {v : SY} (I : i_Rel k u v) (hk : k + 4 ≤ 2048) (v1 : Int32) (v2 : Int32) : wpX_hitsBefore (fun r => wpY_hitsBefore (fun r' v' => r' = r ∧ i_Rel (k + 4) u v') v v1 v2) u v1 v2 := by
  obtain ⟨n, T, f1, f2, f3, f4, C, E, S, D, K, A, B, rfl, rfl, hn, hC, hE, hr⟩ := I
  exact xw_hb hr hC hE hn (yw_hb hr hC hE hn (fun g1 g2 g3 g4 A B => ⟨rfl, ir_mk hn hC hE hr⟩))
theorem i_vc_blocked {k : Nat} {u : SX} {v : SY} (I : i_Rel k u v) (hk : k + 4 ≤ 2048) (v1 : Int32) (v2 : Int32) : wpX_blocked (fun r => wpY_blocked (fun r' v' => r' = r ∧ i_Rel (k + 4) u v') v v1 v2) u v1 v2 := by
  obtain ⟨n, T, f1, f2, f3, f4, C, E, S, D, K, A, B, rfl, rfl, hn, hC, hE, hr⟩ := I
  unfold wpX_blocked wpY_blocked
  dsimp only
  exact xw_hb hr hC hE hn (br_c (fun c => yw_hb hr hC hE hn (fun g1 g2 g3 g4 A B => br_t c ⟨rfl, ir_mk hn hC hE hr⟩)) (fun c => yw_hb hr hC hE hn (fun g1 g2 g3 g4 A B => br_f c ⟨rfl, ir_mk hn hC hE hr⟩)))
theorem i_vc_around {k : Nat} {u : SX} {v : SY} (I : i_Rel k u v) (hk : k + 4 ≤ 2048) (v1 : Int32) (v2 : Int32) (v3 : Int32) : wpX_around (fun r => wpY_around (fun r' => r' = r ∧ i_Rel (k + 4) u v) v v1 v2 v3) u v1 v2 v3 := by
  obtain ⟨n, T, f1, f2, f3, f4, C, E, S, D, K, A, B, rfl, rfl, hn, hC, hE, hr⟩ := I
  exact ⟨n + 1, xw_arn6 hC hE hn ⟨n + 1, yw_arn6 hC hE hn ⟨rfl, ir_mk hn hC hE hr⟩ n 0 (by omega)⟩ n 0 (by omega)⟩
theorem i_vc_meeting {k : Nat} {u : SX} {v : SY} (I : i_Rel k u v) (hk : k + 4 ≤ 2048) (v1 : Int32) (v2 : Int32) : wpX_meeting (fun r => wpY_meeting (fun r' => r' = r ∧ i_Rel (k + 4) u v) v v1 v2) u v1 v2 := by
  obtain ⟨n, T, f1, f2, f3, f4, C, E, S, D, K, A, B, rfl, rfl, hn, hC, hE, hr⟩ := I
  unfold wpX_meeting
  dsimp only
  refine xw_packed (fun a b => br_f (by decide) (xw_packed (fun c d => br_f (by decide) ⟨n + 1, xw_mtg24 hC hE hn ⟨a, b⟩ ⟨c, d⟩ ?_ n 0 (by omega)⟩) (fun c => br_t rfl ?_))) (fun a => br_t rfl ?_)
  · exact yw_mtg hC hE hn ⟨a, b⟩ ⟨c, d⟩ ⟨rfl, ir_mk hn hC hE hr⟩
  · unfold wpY_meeting
    dsimp only
    exact yw_trip (fun _ _ => br_t rfl (yw_trip (fun _ _ => absurd c (by omega)) (fun _ => br_f (by decide) ⟨rfl, ir_mk hn hC hE hr⟩))) (fun q => absurd q (by omega))
  · unfold wpY_meeting
    dsimp only
    exact yw_trip (fun _ _ => absurd a (by omega)) (fun _ => br_f (by decide) ⟨rfl, ir_mk hn hC hE hr⟩)
theorem i_vc_touching {k : Nat} {u : SX} {v : SY} (I : i_Rel k u v) (hk : k + 4 ≤ 2048) : wpX_touching (fun r => wpY_touching (fun r' => r' = r ∧ i_Rel (k + 4) u v) v) u := by
  obtain ⟨n, T, f1, f2, f3, f4, C, E, S, D, K, A, B, rfl, rfl, hn, hC, hE, hr⟩ := I
  exact xw_touching hC hE hn (yw_touching hC hE hn ⟨rfl, ir_mk hn hC hE hr⟩)
theorem i_vc_nearest {k : Nat} {u : SX} {v : SY} (I : i_Rel k u v) (hk : k + 4 ≤ 2048) (v1 : Int32) (v2 : Int32) (v3 : Int32) : wpX_nearest (fun r => wpY_nearest (fun r' => r' = r ∧ i_Rel (k + 4) u v) v v1 v2 v3) u v1 v2 v3 := by
  obtain ⟨n, T, f1, f2, f3, f4, C, E, S, D, K, A, B, rfl, rfl, hn, hC, hE, hr⟩ := I
  unfold wpX_nearest wpY_nearest
  dsimp only
  refine xw_all 100 (by decide) (by omega) (fun a b c => br_f (by decide) ?_) (fun a => br_t rfl ?_)
  · have ky := fun (r : Int32) (h : zI_ (gm_yl (gm_sq C E v1.toInt v2.toInt v3.toInt) n) = r ∧ i_Rel (k + 4) (nI n, T, C, E, S, D, K) (nI n, f1, f2, f3, f4, C, E, S, D, A, B)) => yw_nr39 (post := fun r' => r' = r ∧ i_Rel (k + 4) (nI n, T, C, E, S, D, K) (nI n, f1, f2, f3, f4, C, E, S, D, A, B)) (f1 := f1) (f2 := f2) (f3 := f3) (f4 := f4) (S := S) (D := D) (A := A) (B := B) hC hE hn a b c h n 0 (by omega)
    rw [← zI_of v1, ← zI_of v2, ← zI_of v3] at ky
    refine pk_eq n 0 (fun z => ?_) (fun z => ?_)
    · subst z
      exact yw_all 100 (by decide) (by omega) _ _ (fun _ _ _ => ⟨0 + 1, ky _ ⟨rfl, ir_mk hn hC hE hr⟩⟩) (fun q => absurd ⟨a, b, c⟩ q)
    · obtain ⟨m, rfl⟩ : ∃ m, n = m + 1 := ⟨n - 1, by omega⟩
      have ks := fun (post : Int32 → Prop) (h : post (zI_ (gm_sq C E v1.toInt v2.toInt v3.toInt 0))) => xw_sq (post := post) (n := m + 1) (T := T) (S := S) (D := D) (K := K) hC hE (b := 0) (by omega) a b c h
      have kx := fun (post : Int32 → Prop) (h : post (zI_ (gm_mn (gm_sq C E v1.toInt v2.toInt v3.toInt) (m + 1 - 1)))) => xw_nr36 (post := post) (T := T) (S := S) (D := D) (K := K) hC hE hn a b c h m 0 (by omega)
      rw [← zI_of v1, ← zI_of v2, ← zI_of v3] at ks kx
      refine ks _ ⟨m + 1, kx _ ?_⟩
      exact yw_all 100 (by decide) (by omega) _ _ (fun _ _ _ => ⟨m + 1 + 1, ky _ ⟨rfl, ir_mk hn hC hE hr⟩⟩) (fun q => absurd ⟨a, b, c⟩ q)
  · exact yw_all 100 (by decide) (by omega) _ _ (fun b c d => absurd ⟨b, c, d⟩ a) (fun _ => ⟨rfl, ir_mk hn hC hE hr⟩)
end
section
/-! the answers in lowest terms -/
/-- a / y and m / t are the same fraction: the same lowest terms on both sides -/
theorem gm_fin {t m a y : Nat} (ht : 1 ≤ t ∧ t ≤ 8000) (hm : m ≤ 64800) (hy : 1 ≤ y ∧ y ≤ 20) (ha : a ≤ 162) (h : (a : Int) * (t : Int) = (m : Int) * (y : Int)) :
    nI a / nI (Nat.gcd a y) = nI (m / Nat.gcd m t) ∧ nI y / nI (Nat.gcd a y) = nI (t / Nat.gcd m t) ∧ ¬ nI (Nat.gcd a y) = 0 ∧ 1 ≤ nI (Nat.gcd a y) := by
  have h' : a * t = m * y := by exact_mod_cast h
  have k := gm_low (t := m) (T := t) (a := a) (b := y) (by omega) (by omega) h'
  have g0 : 0 < Nat.gcd a y := Nat.gcd_pos_of_pos_right a (by omega)
  have g1 : Nat.gcd a y ≤ y := Nat.le_of_dvd (by omega) (Nat.gcd_dvd_right a y)
  rw [pk_div (by omega) g0 (by omega), pk_div (by omega) g0 (by omega), k.1, k.2]
  exact ⟨rfl, rfl, nI_ne0 g0 (by omega), nI_le (a := 1) g0 (by omega)⟩
theorem gm_nat {x : Int} (h : 0 ≤ x) : ∃ m : Nat, x = (m : Int) ∧ zI_ x = nI m := by
  obtain ⟨m, rfl⟩ := Int.eq_ofNat_of_zero_le h
  exact ⟨m, rfl, (zI_n m).symm⟩
theorem gm_x_le {S D K C E : Nat → Int32} {T : Int32} (hr : gm_ray S D K T) (hC : gm_pk C) (hE : gm_pk E) (b : Nat) : gm_ea (gm_X S D K C E b) 3 ≤ 64800 := by
  obtain ⟨ax, hax, hd⟩ := hr.2.2.1
  have lx : ∀ m : Nat, ax < m → gm_ea (gm_X S D K C E b) m ≤ gm_X S D K C E b ax := by
    intro m
    induction m with
    | zero => intro h; omega
    | succ m ih =>
      intro h
      show (if gm_X S D K C E b m < gm_ea (gm_X S D K C E b) m then gm_X S D K C E b m else gm_ea (gm_X S D K C E b) m) ≤ _
      by_cases e : ax = m
      · subst e
        split <;> omega
      · have := ih (by omega)
        split <;> omega
  have l3 := lx 3 hax
  have nx : gm_X S D K C E b ax ≤ 64800 := by
    have hs := hr.1 ax hax
    have hk := (hr.2.2.2.1 ax hax).2
    have hl := gm_lo_b hC b ax
    have hh := gm_hi_b hC hE b ax
    have q1 := gm_mb (a := gm_hi C E b ax - (S ax).toInt) (k := (K ax).toInt) 162 400 (by omega) (by omega) (by omega) (by omega) (by omega)
    have q2 := gm_mb (a := (S ax).toInt - gm_lo C b ax) (k := (K ax).toInt) 162 400 (by omega) (by omega) (by omega) (by omega) (by omega)
    unfold gm_X gm_ext
    split
    · omega
    · split
      · omega
      · omega
  omega
theorem gm_tx_b {S D K C E : Nat → Int32} {T : Int32} (hr : gm_ray S D K T) (hC : gm_pk C) (hE : gm_pk E) {b : Nat} (h : gm_t S D K C E b < 1000000) : gm_t S D K C E b ≤ 64800 ∧ 0 ≤ gm_x S D K C E b ∧ gm_x S D K C E b ≤ 64800 := by
  have h1 := gm_x_le hr hC hE b
  have h0 := gm_la_0 (gm_E S D K C E b) 3
  unfold gm_x
  unfold gm_t at h ⊢
  by_cases z : gm_la (gm_E S D K C E b) 3 ≤ gm_ea (gm_X S D K C E b) 3
  · rw [if_pos z]
    omega
  · rw [if_neg z] at h
    omega
theorem i_vc_firstTop {k : Nat} {u : SX} {v : SY} (I : i_Rel k u v) (hk : k + 4 ≤ 2048) : wpX_firstTop (fun r => wpY_firstTop (fun r' v' => r' = r ∧ i_Rel (k + 4) u v') v) u := by
  obtain ⟨n, T, f1, f2, f3, f4, C, E, S, D, K, A, B, rfl, rfl, hn, hC, hE, hr⟩ := I
  obtain ⟨t, rfl, hT, ht⟩ := gm_ray_T hr
  unfold wpX_firstTop wpY_firstTop
  dsimp only
  refine xw_firstBox hr hC hE hn (fun r e hb => ?_)
  have hF1 := gm_best_F hn hb
  rcases hb with ⟨rfl, _, _⟩ | ⟨b, hbn, rfl, _, hlt, _, _⟩
  · refine br_f (by decide) (yw_chosen hr hC hE hn (fun r' g1 g2 g3 g4 A B hs hF => ?_))
    have e := gm_F_one hn hF1 hF
    subst e
    exact br_f (by decide) ⟨rfl, ir_mk hn hC hE hr⟩
  · have hv : vp_in (nI b) 14 := vp_in_nI (by omega) (by omega)
    have q : gm_hq (gm_t S D K C E) n b = true := by
      unfold gm_hq
      rw [decide_eq_true hbn, decide_eq_true hlt]
      rfl
    have tb := gm_tx_b hr hC hE hlt
    refine br_t (nI_pos' (by omega)) (xw_ent hr hC hE (by omega) ?_)
    obtain ⟨m, em, ez⟩ := gm_nat (gm_t_b hr hC hE b).1
    rw [ez]
    refine xw_lowTop ht (by omega) (yw_chosen hr hC hE hn (fun r' g1 g2 g3 g4 A B hs hF => ?_))
    have e := gm_F_one hn hF1 hF
    subst e
    obtain ⟨it, ib, a1, a2, a3, a4, a5, a6, a7⟩ := (hs b (by omega)).1 q
    obtain ⟨a, ea, za⟩ := gm_nat a3
    obtain ⟨y, ey, zy⟩ := gm_nat (show 0 ≤ ib by omega)
    subst ea ey
    rw [hT, em] at a7
    have fin := gm_fin ht (by omega) (by omega) (by omega) a7
    dsimp only
    rw [nI_clamp (by omega), a1, a2, za, zy]
    exact br_t (nI_pos' (by omega)) ⟨hv, hv, yw_common (by omega) (by omega) (br_t fin.2.2.2 ⟨hv, fin.2.2.1, fin.1, ir_mk hn hC hE hr⟩)⟩
theorem i_vc_firstBottom {k : Nat} {u : SX} {v : SY} (I : i_Rel k u v) (hk : k + 4 ≤ 2048) : wpX_firstBottom (fun r => wpY_firstBottom (fun r' v' => r' = r ∧ i_Rel (k + 4) u v') v) u := by
  obtain ⟨n, T, f1, f2, f3, f4, C, E, S, D, K, A, B, rfl, rfl, hn, hC, hE, hr⟩ := I
  obtain ⟨t, rfl, hT, ht⟩ := gm_ray_T hr
  unfold wpX_firstBottom wpY_firstBottom
  dsimp only
  refine xw_firstBox hr hC hE hn (fun r e hb => ?_)
  have hF1 := gm_best_F hn hb
  rcases hb with ⟨rfl, _, _⟩ | ⟨b, hbn, rfl, _, hlt, _, _⟩
  · refine br_f (by decide) (yw_chosen hr hC hE hn (fun r' g1 g2 g3 g4 A B hs hF => ?_))
    have e := gm_F_one hn hF1 hF
    subst e
    exact br_f (by decide) ⟨rfl, ir_mk hn hC hE hr⟩
  · have hv : vp_in (nI b) 14 := vp_in_nI (by omega) (by omega)
    have q : gm_hq (gm_t S D K C E) n b = true := by
      unfold gm_hq
      rw [decide_eq_true hbn, decide_eq_true hlt]
      rfl
    have tb := gm_tx_b hr hC hE hlt
    refine br_t (nI_pos' (by omega)) (xw_ent hr hC hE (by omega) ?_)
    obtain ⟨m, em, ez⟩ := gm_nat (gm_t_b hr hC hE b).1
    rw [ez]
    refine xw_lowBottom ht (by omega) (yw_chosen hr hC hE hn (fun r' g1 g2 g3 g4 A B hs hF => ?_))
    have e := gm_F_one hn hF1 hF
    subst e
    obtain ⟨it, ib, a1, a2, a3, a4, a5, a6, a7⟩ := (hs b (by omega)).1 q
    obtain ⟨a, ea, za⟩ := gm_nat a3
    obtain ⟨y, ey, zy⟩ := gm_nat (show 0 ≤ ib by omega)
    subst ea ey
    rw [hT, em] at a7
    have fin := gm_fin ht (by omega) (by omega) (by omega) a7
    dsimp only
    rw [nI_clamp (by omega), a1, a2, za, zy]
    exact br_t (nI_pos' (by omega)) ⟨hv, hv, yw_common (by omega) (by omega) (br_t fin.2.2.2 ⟨hv, fin.2.2.1, fin.2.1, ir_mk hn hC hE hr⟩)⟩
theorem i_vc_leaveTop {k : Nat} {u : SX} {v : SY} (I : i_Rel k u v) (hk : k + 4 ≤ 2048) (v1 : Int32) : wpX_leaveTop (fun r => wpY_leaveTop (fun r' v' => r' = r ∧ i_Rel (k + 4) u v') v v1) u v1 := by
  obtain ⟨n, T, f1, f2, f3, f4, C, E, S, D, K, A, B, rfl, rfl, hn, hC, hE, hr⟩ := I
  obtain ⟨t, rfl, hT, ht⟩ := gm_ray_T hr
  unfold wpX_leaveTop wpY_leaveTop
  dsimp only
  rcases gm_gb v1 hn with h | ⟨b, hbn, rfl⟩
  · exact xw_good_f h (br_t rfl (yw_bad_t h (br_f (by decide) ⟨rfl, ir_mk hn hC hE hr⟩)))
  · have tb := gm_t_b hr hC hE b
    refine xw_good_t hbn hn (br_f (by decide) (xw_ent hr hC hE (by omega) (zb_eq (gm_t S D K C E b) 1000000 (fun c => ?_) (fun c => ?_) rfl zI_M (by omega) (by omega))))
    · refine yw_bad_f hbn hn (br_t rfl (yw_meets hr hC hE (by omega) (fun it ib ot ob ok => ?_) (fun g1 g2 g3 g4 z => br_t rfl ⟨rfl, ir_mk hn hC hE hr⟩)))
      have := ok.2.1
      omega
    · have tx := gm_tx_b hr hC hE (b := b) (by omega)
      refine xw_ext hr hC hE (by omega) ?_
      obtain ⟨m, em, ez⟩ := gm_nat tx.2.1
      rw [ez]
      refine xw_lowTop ht (by omega) (yw_bad_f hbn hn (br_t rfl (yw_meets hr hC hE (by omega) (fun it ib ot ob ok => br_f (by decide) ?_) (fun g1 g2 g3 g4 z => absurd z c))))
      obtain ⟨_, _, _, _, _, _, _, _, _, a3, a4, a5, a6, a7⟩ := ok
      obtain ⟨a, ea, za⟩ := gm_nat a3
      obtain ⟨y, ey, zy⟩ := gm_nat (show 0 ≤ ob by omega)
      subst ea ey
      rw [hT, em] at a7
      have fin := gm_fin ht (by omega) (by omega) (by omega) a7
      dsimp only
      rw [za, zy]
      exact yw_common (by omega) (by omega) (br_t fin.2.2.2 ⟨fin.2.2.1, fin.1, ir_mk hn hC hE hr⟩)
theorem i_vc_leaveBottom {k : Nat} {u : SX} {v : SY} (I : i_Rel k u v) (hk : k + 4 ≤ 2048) (v1 : Int32) : wpX_leaveBottom (fun r => wpY_leaveBottom (fun r' v' => r' = r ∧ i_Rel (k + 4) u v') v v1) u v1 := by
  obtain ⟨n, T, f1, f2, f3, f4, C, E, S, D, K, A, B, rfl, rfl, hn, hC, hE, hr⟩ := I
  obtain ⟨t, rfl, hT, ht⟩ := gm_ray_T hr
  unfold wpX_leaveBottom wpY_leaveBottom
  dsimp only
  rcases gm_gb v1 hn with h | ⟨b, hbn, rfl⟩
  · exact xw_good_f h (br_t rfl (yw_bad_t h (br_f (by decide) ⟨rfl, ir_mk hn hC hE hr⟩)))
  · have tb := gm_t_b hr hC hE b
    refine xw_good_t hbn hn (br_f (by decide) (xw_ent hr hC hE (by omega) (zb_eq (gm_t S D K C E b) 1000000 (fun c => ?_) (fun c => ?_) rfl zI_M (by omega) (by omega))))
    · refine yw_bad_f hbn hn (br_t rfl (yw_meets hr hC hE (by omega) (fun it ib ot ob ok => ?_) (fun g1 g2 g3 g4 z => br_t rfl ⟨rfl, ir_mk hn hC hE hr⟩)))
      have := ok.2.1
      omega
    · have tx := gm_tx_b hr hC hE (b := b) (by omega)
      refine xw_ext hr hC hE (by omega) ?_
      obtain ⟨m, em, ez⟩ := gm_nat tx.2.1
      rw [ez]
      refine xw_lowBottom ht (by omega) (yw_bad_f hbn hn (br_t rfl (yw_meets hr hC hE (by omega) (fun it ib ot ob ok => br_f (by decide) ?_) (fun g1 g2 g3 g4 z => absurd z c))))
      obtain ⟨_, _, _, _, _, _, _, _, _, a3, a4, a5, a6, a7⟩ := ok
      obtain ⟨a, ea, za⟩ := gm_nat a3
      obtain ⟨y, ey, zy⟩ := gm_nat (show 0 ≤ ob by omega)
      subst ea ey
      rw [hT, em] at a7
      have fin := gm_fin ht (by omega) (by omega) (by omega) a7
      dsimp only
      rw [za, zy]
      exact yw_common (by omega) (by omega) (br_t fin.2.2.2 ⟨fin.2.2.1, fin.2.1, ir_mk hn hC hE hr⟩)
end
