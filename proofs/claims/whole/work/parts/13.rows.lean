/-! row and remove -/
def gm_shf (a : Nat → Int32) (b i : Nat) : Nat → Int32 := fun j => if b ≤ j ∧ j < i then a (j + 1) else a j
theorem gm_shf_0 (a : Nat → Int32) (b : Nat) : gm_shf a b b = a := by
  funext j
  exact if_neg (by omega)
theorem gm_shf_s (a : Nat → Int32) {b i : Nat} (h : b ≤ i) : upd (gm_shf a b i) i (gm_shf a b i (i + 1)) = gm_shf a b (i + 1) := by
  funext j
  unfold upd gm_shf
  by_cases e : j = i
  · subst e
    rw [if_pos rfl, if_neg (by omega), if_pos (by omega)]
  · rw [if_neg e]
    by_cases q : b ≤ j ∧ j < i
    · rw [if_pos q, if_pos (by omega)]
    · rw [if_neg q, if_neg (by omega)]
theorem gm_shf_pk {a : Nat → Int32} (h : gm_pk a) (b i : Nat) : gm_pk (gm_shf a b i) := by
  intro j
  unfold gm_shf
  split
  · exact h (j + 1)
  · exact h j
section
variable {C E S D K A B : Nat → Int32} {n : Nat} {T f1 f2 f3 f4 : Int32}
theorem xw_rm12 {post : Int32 → SX → Prop} {b m : Nat} (hm : m < 14) (h : post (nI m) (nI m, T, gm_shf C b m, gm_shf E b m, S, D, K)) : ∀ d i : Nat, i + d = m → b ≤ i →
    wX_remove_12 post (nI (m + 1)) T (d + 1) (nI i) (gm_shf C b i) (gm_shf E b i) S D K
  | 0, i, hi, hb => by
    have q : i = m := by omega
    subst q
    refine br_t ?_ (nm_r (nI_pred i) h)
    rw [nI_pred]
    exact nI_le (Nat.le_refl i) (by omega)
  | d + 1, i, hi, hb => by
    have ih := xw_rm12 hm h d (i + 1) (by omega) (by omega)
    have v0 : vp_in (nI i) 14 := vp_in_nI (by omega) (by omega)
    have v1 : vp_in (nI i + 1) 14 := by rw [nI_1]; exact vp_in_nI (by omega) (by omega)
    have c0 : (nI i).toNatClampNeg = i := nI_clamp (by omega)
    have c1 : (nI i + 1).toNatClampNeg = i + 1 := by rw [nI_1]; exact nI_clamp (by omega)
    refine br_f ?_ ⟨v1, v0, nm_r ?_ ⟨v1, v0, nm_r ?_ (nm_r (nI_1 i) ih)⟩⟩
    · rw [nI_pred]
      exact nI_ge (by omega) (by omega)
    · rw [c0, c1]
      exact gm_shf_s C hb
    · rw [c0, c1]
      exact gm_shf_s E hb
theorem yw_rm12 {post : Int32 → SY → Prop} {b m : Nat} (hm : m < 14) (h : post (nI m) (nI m, f1, f2, f3, f4, gm_shf C b m, gm_shf E b m, S, D, A, B)) : ∀ d i : Nat, i + d = m → b ≤ i →
    wY_remove_12 post (nI (m + 1)) f1 f2 f3 f4 (d + 1) (nI i) (gm_shf C b i) (gm_shf E b i) S D A B
  | 0, i, hi, hb => by
    have q : i = m := by omega
    subst q
    refine br_t ?_ (nm_r (nI_pred i) h)
    rw [nI_pred]
    exact nI_le (Nat.le_refl i) (by omega)
  | d + 1, i, hi, hb => by
    have ih := yw_rm12 hm h d (i + 1) (by omega) (by omega)
    have v0 : vp_in (nI i) 14 := vp_in_nI (by omega) (by omega)
    have v1 : vp_in (nI i + 1) 14 := by rw [nI_1]; exact vp_in_nI (by omega) (by omega)
    have c0 : (nI i).toNatClampNeg = i := nI_clamp (by omega)
    have c1 : (nI i + 1).toNatClampNeg = i + 1 := by rw [nI_1]; exact nI_clamp (by omega)
    refine br_f ?_ (br_f (nI_ge (a := i) (b := 13) (by omega) (by omega)) ⟨v1, v0, nm_r ?_ ⟨v1, v0, nm_r ?_ (nm_r (nI_1 i) ih)⟩⟩)
    · rw [nI_pred]
      exact nI_ge (by omega) (by omega)
    · rw [c0, c1]
      exact gm_shf_s C hb
    · rw [c0, c1]
      exact gm_shf_s E hb
theorem xw_rm {post : Int32 → SX → Prop} {b m : Nat} (hb : b ≤ m) (hm : m < 14) (h : post (nI m) (nI m, T, gm_shf C b m, gm_shf E b m, S, D, K)) : wX_remove_12 post (nI (m + 1)) T (m - b + 1) (nI b) C E S D K := by
  have := xw_rm12 hm h (m - b) b (by omega) (Nat.le_refl b)
  rw [gm_shf_0, gm_shf_0] at this
  exact this
theorem yw_rm {post : Int32 → SY → Prop} {b m : Nat} (hb : b ≤ m) (hm : m < 14) (h : post (nI m) (nI m, f1, f2, f3, f4, gm_shf C b m, gm_shf E b m, S, D, A, B)) : wY_remove_12 post (nI (m + 1)) f1 f2 f3 f4 (m - b + 1) (nI b) C E S D A B := by
  have := yw_rm12 hm h (m - b) b (by omega) (Nat.le_refl b)
  rw [gm_shf_0, gm_shf_0] at this
  exact this
end
/-- a box's number is good on both sides, or bad -/
theorem gm_gb (x : Int32) {n : Nat} (hn : n ≤ 14) : (x < 0 ∨ nI n ≤ x) ∨ ∃ j : Nat, j < n ∧ x = nI j := by
  rcases pk_ix x (n := n) (by omega) with h | h | h
  · exact Or.inl (Or.inl h)
  · exact Or.inl (Or.inr h)
  · exact Or.inr h
theorem i_vc_remove {k : Nat} {u : SX} {v : SY} (I : i_Rel k u v) (hk : k + 4 ≤ 2048) (v1 : Int32) : wpX_remove (fun r u' => wpY_remove (fun r' v' => r' = r ∧ i_Rel (k + 4) u' v') v v1) u v1 := by
  obtain ⟨n, T, f1, f2, f3, f4, C, E, S, D, K, A, B, rfl, rfl, hn, hC, hE, hr⟩ := I
  unfold wpX_remove wpY_remove
  dsimp only
  rcases gm_gb v1 hn with h | ⟨j, hj, rfl⟩
  · exact xw_good_f h (br_t rfl (yw_bad_t h (br_f (by decide) ⟨rfl, ir_mk hn hC hE hr⟩)))
  · obtain ⟨m, rfl⟩ : ∃ m, n = m + 1 := ⟨n - 1, by omega⟩
    exact xw_good_t hj hn (br_f (by decide) ⟨_, xw_rm (b := j) (by omega) (by omega) (yw_bad_f hj hn (br_t rfl ⟨_, yw_rm (b := j) (by omega) (by omega) ⟨rfl, ir_mk (by omega) (gm_shf_pk hC j m) (gm_shf_pk hE j m) hr⟩⟩))⟩)
/-- once out of 0 .. 31, the copies stay out -/
theorem gm_out {x d : Int} (hx : 0 ≤ x ∧ x ≤ 31) {k j : Nat} (hkj : k ≤ j) (h : x + (k : Int) * d < 0 ∨ 31 < x + (k : Int) * d) : x + (j : Int) * d < 0 ∨ 31 < x + (j : Int) * d := by
  have hk : (0 : Int) ≤ k := by omega
  have hj : (k : Int) ≤ j := by omega
  rcases Int.lt_trichotomy d 0 with c | c | c
  · have e1 : (j : Int) * d ≤ (k : Int) * d := by
      have := Int.mul_le_mul_of_nonneg_right hj (show 0 ≤ -d by omega)
      rw [Int.mul_neg, Int.mul_neg] at this
      omega
    have e2 : (k : Int) * d ≤ 0 := by
      have := Int.mul_nonneg hk (show 0 ≤ -d by omega)
      rw [Int.mul_neg] at this
      omega
    omega
  · subst c
    rw [Int.mul_zero] at h
    omega
  · have e1 : (k : Int) * d ≤ (j : Int) * d := Int.mul_le_mul_of_nonneg_right hj (by omega)
    have e2 : 0 ≤ (k : Int) * d := Int.mul_nonneg hk (by omega)
    omega
theorem gm_cp {c d : Int} (hc : 0 ≤ c ∧ c ≤ 32767) {k : Int} (h : 0 ≤ c / 1024 + k * d ∧ c / 1024 + k * d ≤ 31) : 0 ≤ c + 1024 * (k * d) ∧ c + 1024 * (k * d) ≤ 32767 := by
  generalize k * d = e at *
  omega
theorem gm_kd {k : Nat} {d : Int} (hk : k ≤ 14) (hd : -31 ≤ d ∧ d ≤ 31) : -434 ≤ (k : Int) * d ∧ (k : Int) * d ≤ 434 := by
  have := gm_mb (a := d) (k := (k : Int)) 31 14 (by omega) (by omega) (by omega) (by omega) (by omega)
  rw [Int.mul_comm d] at this
  omega
section
variable {S D K A B : Nat → Int32} {T f1 f2 f3 f4 c e : Int32} {dx : Int} {m b : Nat}
theorem rw_x5 {C : Nat → Int32} (hC : gm_pk C) (hb : b < 14) (k : Nat) : C (nI b).toNatClampNeg / 1024 + nI k * zI_ dx = zI_ ((C b).toInt / 1024 + (k : Int) * dx) := by
  have h := hC b
  have e1 : C b / 1024 = zI_ ((C b).toInt / 1024) := by
    have := zI_div (a := (C b).toInt) (b := 1024) (by omega) (by omega)
    rw [← zI_of] at this
    exact this
  rw [nI_clamp (by omega), e1, zI_n, zI_mul, zI_add]
theorem rw_cy {C : Nat → Int32} (hb : b < 14) (k : Nat) : C (nI b).toNatClampNeg + 1024 * nI k * zI_ dx = zI_ ((C b).toInt + 1024 * ((k : Int) * dx)) := by
  have e2 : (1024 : Int32) = zI_ 1024 := by decide
  rw [nI_clamp (by omega), e2, zI_n, zI_mul, zI_mul, ← zI_add, ← zI_of, Int.mul_assoc]
theorem rw_cx {C : Nat → Int32} (hb : b < 14) (k : Nat) : C (nI b).toNatClampNeg + nI k * zI_ dx * 1024 = zI_ ((C b).toInt + 1024 * ((k : Int) * dx)) := by
  have e2 : (1024 : Int32) = zI_ 1024 := by decide
  rw [nI_clamp (by omega), e2, zI_n, zI_mul, zI_mul, ← zI_add, ← zI_of, Int.mul_comm 1024]
/-- nothing is added any more -/
theorem yw_row_end {C E : Nat → Int32} {n : Nat} {post : Int32 → SY → Prop} (hC : gm_pk C) (hE : gm_pk E) (hn : n ≤ 14) (hb : b < n) (hd : -31 ≤ dx ∧ dx ≤ 31) (hm : m ≤ 13) (h : post (nI n) (nI n, f1, f2, f3, f4, C, E, S, D, A, B)) :
    ∀ d k : Nat, k + d = m + 1 → (n = 14 ∨ ∀ j : Nat, k ≤ j → ((C b).toInt / 1024 + (j : Int) * dx < 0 ∨ 31 < (C b).toInt / 1024 + (j : Int) * dx)) →
    wY_row_42 post (nI b) (zI_ dx) (nI m) (d + 1) (nI k) (nI n) f1 f2 f3 f4 C E S D A B
  | 0, k, hk, _ => by
    have q : k = m + 1 := by omega
    subst q
    exact br_t (nI_lt (by omega) (by omega)) h
  | d + 1, k, hk, hx => by
    have ih := yw_row_end hC hE hn hb hd hm h d (k + 1) (by omega) (hx.imp (fun q => q) (fun q j hj => q j (by omega)))
    have hv : vp_in (nI b) 14 := vp_in_nI (by omega) (by omega)
    have c0 := hC b
    have r1 := gm_kd (k := k) (by omega) hd
    refine br_f (nI_nlt (by omega) (by omega)) ⟨hv, by decide, nm_r (rw_x5 hC (by omega) k) ?_⟩
    refine zb_lt ((C b).toInt / 1024 + (k : Int) * dx) 0 (fun q => nm_r (nI_1 k) ih) (fun q => zb_lt 31 ((C b).toInt / 1024 + (k : Int) * dx) (fun q' => nm_r (nI_1 k) ih) (fun q' => ⟨hv, hv, ?_⟩) (by decide) rfl (by omega) (by omega)) rfl zI_0 (by omega) (by omega)
    have cp := gm_cp c0 ⟨q, q'⟩
    have full : n = 14 := by
      rcases hx with z | z
      · exact z
      · have := z k (Nat.le_refl k)
        omega
    rw [rw_cy (by omega) k, nI_clamp (by omega)]
    exact yw_add (by rw [zI_t (by omega) (by omega)]; exact cp) (hE b) hn (fun z => absurd z (by omega)) (fun _ => nm_r (nI_1 k) ih)
/-- X and Y add the same copies -/
theorem xy_row (hd : -31 ≤ dx ∧ dx ≤ 31) (hm : m ≤ 13) : ∀ (d k n : Nat) (C E : Nat → Int32) (c : Int32), 1 ≤ k → k + d = m + 1 → n ≤ 14 → b < n → gm_pk C → gm_pk E → C b = c →
    ∃ (n' : Nat) (C' E' : Nat → Int32), n' ≤ 14 ∧ gm_pk C' ∧ gm_pk E' ∧
      (∀ post : Int32 → SX → Prop, post (nI n') (nI n', T, C', E', S, D, K) → wX_row_48 post (nI b) (zI_ dx) (nI m) (zI_ (c.toInt / 1024)) (d + 1) (nI k) (nI n) T C E S D K) ∧
      (∀ post : Int32 → SY → Prop, post (nI n') (nI n', f1, f2, f3, f4, C', E', S, D, A, B) → wY_row_42 post (nI b) (zI_ dx) (nI m) (d + 1) (nI k) (nI n) f1 f2 f3 f4 C E S D A B)
  | 0, k, n, C, E, c, k1, hk, hn, hb, hC, hE, hc => by
    have q : k = m + 1 := by omega
    subst q
    exact ⟨n, C, E, hn, hC, hE, fun post h => br_t (nI_lt (by omega) (by omega)) h, fun post h => br_t (nI_lt (by omega) (by omega)) h⟩
  | d + 1, k, n, C, E, c, k1, hk, hn, hb, hC, hE, hc => by
    subst hc
    have hv : vp_in (nI b) 14 := vp_in_nI (by omega) (by omega)
    have c0 := hC b
    have r1 := gm_kd (k := k) (by omega) hd
    have ex : zI_ ((C b).toInt / 1024) + nI k * zI_ dx = zI_ ((C b).toInt / 1024 + (k : Int) * dx) := by rw [zI_n, zI_mul, zI_add]
    by_cases full : n = 14
    · refine ⟨n, C, E, hn, hC, hE, fun post h => ?_, fun post h => ?_⟩
      · exact br_f (nI_nlt (by omega) (by omega)) (br_t (nI_le (a := 14) (by omega) (by omega)) h)
      · exact yw_row_end hC hE hn hb hd hm h (d + 1) k hk (Or.inl full)
    · by_cases out : (C b).toInt / 1024 + (k : Int) * dx < 0 ∨ 31 < (C b).toInt / 1024 + (k : Int) * dx
      · refine ⟨n, C, E, hn, hC, hE, fun post h => ?_, fun post h => ?_⟩
        · exact br_f (nI_nlt (by omega) (by omega)) (br_f (nI_ge (b := 14) (by omega) (by omega)) (xw_within _ 0 31 ex zI_0 (by decide) (by omega) (by omega) (by omega) (fun q q' => absurd out (by omega)) (fun _ => br_t rfl h)))
        · exact yw_row_end hC hE hn hb hd hm h (d + 1) k hk (Or.inr (fun j hj => gm_out (by omega) hj out))
      · have cp := gm_cp c0 (d := dx) (k := (k : Int)) (by omega)
        have tp : 0 ≤ (zI_ ((C b).toInt + 1024 * ((k : Int) * dx))).toInt ∧ (zI_ ((C b).toInt + 1024 * ((k : Int) * dx))).toInt ≤ 32767 := by
          rw [zI_t (by omega) (by omega)]; exact cp
        obtain ⟨n', C', E', hn', hC', hE', gx, gy⟩ := xy_row hd hm d (k + 1) (n + 1) (upd C n (zI_ ((C b).toInt + 1024 * ((k : Int) * dx)))) (upd E n (E b)) (C b) (by omega) (by omega) (by omega) (by omega) (gm_pku hC n tp) (gm_pku hE n (hE b)) (pk_un (by omega))
        refine ⟨n', C', E', hn', hC', hE', fun post h => ?_, fun post h => ?_⟩
        · refine br_f (nI_nlt (by omega) (by omega)) (br_f (nI_ge (b := 14) (by omega) (by omega)) (xw_within _ 0 31 ex zI_0 (by decide) (by omega) (by omega) (by omega) (fun q q' => br_f (by decide) ⟨hv, hv, ?_⟩) (fun q => absurd q out)))
          rw [rw_cx (by omega) k, nI_clamp (by omega)]
          exact xw_append (by omega) (nm_r (nI_1 k) (gx post h))
        · refine br_f (nI_nlt (by omega) (by omega)) ⟨hv, by decide, nm_r (rw_x5 hC (by omega) k) ?_⟩
          refine zb_lt ((C b).toInt / 1024 + (k : Int) * dx) 0 (fun q => absurd (Or.inl q) out) (fun q => zb_lt 31 ((C b).toInt / 1024 + (k : Int) * dx) (fun q' => absurd (Or.inr q') out) (fun q' => ⟨hv, hv, ?_⟩) (by decide) rfl (by omega) (by omega)) rfl zI_0 (by omega) (by omega)
          rw [rw_cy (by omega) k, nI_clamp (by omega)]
          exact yw_add tp (hE b) hn (fun _ => nm_r (nI_1 k) (gy post h)) (fun z => absurd z full)
end
theorem i_vc_row {k : Nat} {u : SX} {v : SY} (I : i_Rel k u v) (hk : k + 4 ≤ 2048) (v1 : Int32) (v2 : Int32) (v3 : Int32) : wpX_row (fun r u' => wpY_row (fun r' v' => r' = r ∧ i_Rel (k + 4) u' v') v v1 v2 v3) u v1 v2 v3 := by
  obtain ⟨n, T, f1, f2, f3, f4, C, E, S, D, K, A, B, rfl, rfl, hn, hC, hE, hr⟩ := I
  unfold wpX_row wpY_row
  dsimp only
  rcases gm_gb v1 hn with h | ⟨j, hj, rfl⟩
  · exact xw_good_f h (br_t rfl (yw_bad_t h (br_f (by decide) ⟨rfl, ir_mk hn hC hE hr⟩)))
  · refine xw_good_t hj hn (br_f (by decide) (xw_within v2.toInt (-31) 31 (zI_of _) (by decide) (by decide) (zI_rng _) (by omega) (by omega) (fun a b => br_f (by decide) (xw_within v3.toInt 1 13 (zI_of _) zI_1 (by decide) (zI_rng _) (by omega) (by omega) (fun c d => br_f (by decide) (xw_low (ax := 0) hC (by omega) (by omega) ?_)) (fun c => br_t rfl ?_))) (fun a => br_t rfl ?_)))
    · obtain ⟨m, hm⟩ := Int.eq_ofNat_of_zero_le (show 0 ≤ v3.toInt by omega)
      have e3 : v3 = nI m := by rw [zI_n, ← hm]; exact zI_of v3
      obtain ⟨n', C', E', hn', hC', hE', gx, gy⟩ := xy_row (S := S) (D := D) (K := K) (A := A) (B := B) (T := T) (f1 := f1) (f2 := f2) (f3 := f3) (f4 := f4) (dx := v2.toInt) (m := m) (b := j) ⟨a, b⟩ (by omega) m 1 n C E (C j) (by omega) (by omega) hn hj hC hE rfl
      rw [← zI_of] at gx gy
      rw [← e3] at gx gy
      refine ⟨m + 1, gx _ ?_⟩
      exact yw_bad_f hj hn (br_t rfl (zb_lt v2.toInt (-31) (fun q => absurd q (by omega)) (fun _ => zb_le v2.toInt 31 (fun _ => zb_lt v3.toInt 1 (fun q => absurd q (by omega)) (fun _ => zb_le v3.toInt 13 (fun _ => ⟨m + 1, gy _ ⟨rfl, ir_mk hn' hC' hE' hr⟩⟩) (fun q => absurd q (by omega)) (zI_of _) (by decide) (zI_rng _) (by omega)) (zI_of _) zI_1 (zI_rng _) (by omega)) (fun q => absurd q (by omega)) (zI_of _) (by decide) (zI_rng _) (by omega)) (zI_of _) (by decide) (zI_rng _) (by omega)))
    · refine yw_bad_f hj hn (br_t rfl (zb_lt v2.toInt (-31) (fun q => absurd q (by omega)) (fun _ => zb_le v2.toInt 31 (fun _ => zb_lt v3.toInt 1 (fun q => ⟨rfl, ir_mk hn hC hE hr⟩) (fun _ => zb_le v3.toInt 13 (fun _ => absurd c (by omega)) (fun q => ⟨rfl, ir_mk hn hC hE hr⟩) (zI_of _) (by decide) (zI_rng _) (by omega)) (zI_of _) zI_1 (zI_rng _) (by omega)) (fun q => absurd q (by omega)) (zI_of _) (by decide) (zI_rng _) (by omega)) (zI_of _) (by decide) (zI_rng _) (by omega)))
    · refine yw_bad_f hj hn (br_t rfl (zb_lt v2.toInt (-31) (fun q => ⟨rfl, ir_mk hn hC hE hr⟩) (fun _ => zb_le v2.toInt 31 (fun _ => absurd a (by omega)) (fun q => ⟨rfl, ir_mk hn hC hE hr⟩) (zI_of _) (by decide) (zI_rng _) (by omega)) (zI_of _) (by decide) (zI_rng _) (by omega)))
