/-! pairs that meet, counted once and counted twice; the least of some numbers -/
def gm_su (f : Nat → Nat) : Nat → Nat
  | 0 => 0
  | i + 1 => gm_su f i + f i
theorem gm_su_c {f g : Nat → Nat} : ∀ m : Nat, (∀ i, i < m → f i = g i) → gm_su f m = gm_su g m
  | 0, _ => rfl
  | m + 1, h => by
    show gm_su f m + f m = gm_su g m + g m
    rw [h m (by omega), gm_su_c m (fun i hi => h i (by omega))]
theorem gm_su_1 (q : Nat → Nat → Bool) (n : Nat) : ∀ m : Nat, gm_su (fun b => gm_ct (q b) (n + 1)) m = gm_su (fun b => gm_ct (q b) n) m + gm_ct (fun b => q b n) m
  | 0 => rfl
  | m + 1 => by
    have ih := gm_su_1 q n m
    show gm_su (fun b => gm_ct (q b) (n + 1)) m + (if q m n = true then gm_ct (q m) n + 1 else gm_ct (q m) n) = (gm_su (fun b => gm_ct (q b) n) m + gm_ct (q m) n) + (if q m n = true then gm_ct (fun b => q b n) m + 1 else gm_ct (fun b => q b n) m)
    rw [ih]
    split <;> omega
theorem gm_su_m {f : Nat → Nat} : ∀ m : Nat, (∀ i, i < m → 1 ≤ f i) → gm_su (fun b => f b - 1) m + m = gm_su f m
  | 0, _ => rfl
  | m + 1, h => by
    have ih := gm_su_m (f := f) m (fun i hi => h i (by omega))
    have h1 := h m (by omega)
    show gm_su (fun b => f b - 1) m + (f m - 1) + (m + 1) = gm_su f m + f m
    omega
theorem gm_su_le {f : Nat → Nat} {B : Nat} : ∀ m : Nat, (∀ i, i < m → f i ≤ B) → gm_su f m ≤ m * B
  | 0, _ => by show 0 ≤ 0 * B; omega
  | m + 1, h => by
    have ih := gm_su_le (f := f) (B := B) m (fun i hi => h i (by omega))
    have h1 := h m (by omega)
    show gm_su f m + f m ≤ (m + 1) * B
    rw [Nat.succ_mul]
    omega
theorem gm_pairs {M : Nat → Nat → Bool} (hr : ∀ b, M b b = true) (hs : ∀ b o, M b o = M o b) : ∀ n : Nat, gm_su (fun b => gm_ct (fun o => M o b) n) n = 2 * gm_su (fun b => gm_ct (fun o => decide (b < o) && M b o) n) n + n
  | 0 => rfl
  | n + 1 => by
    have ih := gm_pairs hr hs n
    rw [gm_su_1 (fun b o => M o b) n (n + 1), gm_su_1 (fun b o => decide (b < o) && M b o) n (n + 1)]
    have e1 : gm_su (fun b => gm_ct (fun o => M o b) n) (n + 1) = gm_su (fun b => gm_ct (fun o => M o b) n) n + gm_ct (fun o => M o n) n := rfl
    have e2 : gm_ct (fun b => M n b) (n + 1) = gm_ct (fun o => M o n) n + 1 := by
      show (if M n n = true then gm_ct (fun b => M n b) n + 1 else gm_ct (fun b => M n b) n) = _
      rw [if_pos (hr n), gm_ct_c (q := fun o => M o n) n (fun i _ => hs n i)]
    have e3 : gm_su (fun b => gm_ct (fun o => decide (b < o) && M b o) n) (n + 1) = gm_su (fun b => gm_ct (fun o => decide (b < o) && M b o) n) n := by
      show gm_su (fun b => gm_ct (fun o => decide (b < o) && M b o) n) n + gm_ct (fun o => decide (n < o) && M n o) n = _
      rw [(gm_ct_0 (p := fun o => decide (n < o) && M n o) n).mpr (fun i hi => by
        show (decide (n < i) && M n i) = false
        rw [decide_eq_false (by omega)]; rfl)]
      rfl
    have e4 : gm_ct (fun b => decide (b < n) && M b n) (n + 1) = gm_ct (fun o => M o n) n := by
      show (if (decide (n < n) && M n n) = true then gm_ct (fun b => decide (b < n) && M b n) n + 1 else gm_ct (fun b => decide (b < n) && M b n) n) = _
      rw [decide_eq_false (Nat.lt_irrefl n), if_neg (by rw [Bool.false_and]; decide)]
      exact gm_ct_c n (fun i hi => by
        show (decide (i < n) && M i n) = M i n
        rw [decide_eq_true hi]; rfl)
    rw [e1, e2, e3, e4]
    omega
/-- what the reference halves -/
theorem gm_half {M : Nat → Nat → Bool} (hr : ∀ b, M b b = true) (hs : ∀ b o, M b o = M o b) (n : Nat) : gm_su (fun b => gm_ct (fun o => M o b) n - 1) n = 2 * gm_su (fun b => gm_ct (fun o => decide (b < o) && M b o) n) n := by
  have h1 := gm_pairs hr hs n
  have h2 := gm_su_m (f := fun b => gm_ct (fun o => M o b) n) n (fun i hi => by
    show 1 ≤ gm_ct (fun o => M o i) n
    rcases Nat.eq_zero_or_pos (gm_ct (fun o => M o i) n) with z | z
    · have := (gm_ct_0 n).mp z i hi
      rw [hr i] at this
      cases this
    · exact z)
  omega
def gm_mn (f : Nat → Int) : Nat → Int
  | 0 => f 0
  | i + 1 => if f (i + 1) < gm_mn f i then f (i + 1) else gm_mn f i
theorem gm_mn_b {f : Nat → Int} {B : Int} (h : ∀ i, 0 ≤ f i ∧ f i ≤ B) : ∀ m : Nat, 0 ≤ gm_mn f m ∧ gm_mn f m ≤ B
  | 0 => h 0
  | m + 1 => by
    have ih := gm_mn_b h m
    have h1 := h (m + 1)
    unfold gm_mn
    split <;> omega
def gm_gap (lo hi v : Int) : Int := if v < lo then lo - v else if hi < v then v - hi else 0
/-- two boxes have a point in common -/
def gm_mt (l h l' h' : Nat → Int) : Nat → Bool
  | 0 => true
  | i + 1 => gm_mt l h l' h' i && !(decide (h' i < l i) || decide (h i < l' i))
theorem gm_mt_s (l h l' h' : Nat → Int) : ∀ m, gm_mt l h l' h' m = gm_mt l' h' l h m
  | 0 => rfl
  | m + 1 => by
    unfold gm_mt
    rw [gm_mt_s l h l' h' m, Bool.or_comm]
theorem gm_mt_r {l h : Nat → Int} : ∀ m, (∀ i, i < m → l i ≤ h i) → gm_mt l h l h m = true
  | 0, _ => rfl
  | m + 1, k => by
    have h1 := k m (by omega)
    unfold gm_mt
    rw [gm_mt_r m (fun i hi => k i (by omega)), decide_eq_false (by omega)]
    rfl
