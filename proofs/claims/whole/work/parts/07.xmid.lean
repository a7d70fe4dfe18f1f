/-! the component's searches and counts -/
section
variable {C E S D K : Nat → Int32} {n : Nat} {T : Int32} {post : Int32 → Prop}
theorem xw_best7 (hr : gm_ray S D K T) (hC : gm_pk C) (hE : gm_pk E) (hn : n ≤ 14) (h : ∀ r e, gm_best (gm_t S D K C E) n r e → post r) : ∀ (d i : Nat) (r : Int32) (e : Int), i + d = n → gm_best (gm_t S D K C E) i r e →
    wX_firstBox_7 post (nI n) T C E S D K (d + 1) r (zI_ e) (nI i)
  | 0, i, r, e, hi, hb => by
    have q : i = n := by omega
    subst q
    exact br_t (nI_le (Nat.le_refl i) (by omega)) (h r e hb)
  | d + 1, i, r, e, hi, hb => by
    have ht := gm_t_b hr hC hE i
    have he := gm_best_b (gm_t_b hr hC hE) hb
    refine br_f (nI_ge (a := i) (b := n) (by omega) (by omega)) (xw_ent hr hC hE (by omega) (zb_le e (gm_t S D K C E i) (fun c => nm_r (nI_1 i) ?_) (fun c => nm_r (nI_1 i) ?_) rfl rfl (by omega) (by omega)))
    · exact xw_best7 hr hC hE hn h d (i + 1) r e (by omega) (gm_best_f hb c)
    · exact xw_best7 hr hC hE hn h d (i + 1) (nI i) _ (by omega) (gm_best_t hb ht.2 c)
theorem xw_firstBox (hr : gm_ray S D K T) (hC : gm_pk C) (hE : gm_pk E) (hn : n ≤ 14) (h : ∀ r e, gm_best (gm_t S D K C E) n r e → post r) : wpX_firstBox post (nI n, T, C, E, S, D, K) := by
  refine ⟨n + 1, ?_⟩
  rw [zI_M]
  exact xw_best7 hr hC hE hn h n 0 (-1) 1000000 (by omega) (gm_best_0 _)
theorem xw_ah5 (hr : gm_ray S D K T) (hC : gm_pk C) (hE : gm_pk E) (hn : n ≤ 14) {b : Nat} (hb : b < 14) (h : post (nI (gm_ct (gm_ah (gm_t S D K C E) b) n))) : ∀ d i : Nat, i + d = n →
    wX_countAhead_5 post (nI b) (zI_ (gm_t S D K C E b)) (nI n) T C E S D K (d + 1) (nI (gm_ct (gm_ah (gm_t S D K C E) b) i)) (nI i)
  | 0, i, hi => by
    have q : i = n := by omega
    subst q
    exact br_t (nI_le (Nat.le_refl i) (by omega)) h
  | d + 1, i, hi => by
    have ht := gm_t_b hr hC hE i
    have htb := gm_t_b hr hC hE b
    have ih := xw_ah5 hr hC hE hn hb h d (i + 1) (by omega)
    refine br_f (nI_ge (a := i) (b := n) (by omega) (by omega)) (xw_ent hr hC hE (by omega) (zb_lt (gm_t S D K C E i) (gm_t S D K C E b) (fun c => nm_r (nI_1 _) (nm_r (nI_1 i) ?_)) (fun c => zb_eq (gm_t S D K C E i) (gm_t S D K C E b) (fun c2 => pk_le b i (fun c3 => nm_r (nI_1 i) ?_) (fun c3 => nm_r (nI_1 _) (nm_r (nI_1 i) ?_))) (fun c2 => nm_r (nI_1 i) ?_) rfl rfl (by omega) (by omega)) rfl rfl (by omega) (by omega)))
    · rw [gm_ct_t (by unfold gm_ah; rw [decide_eq_true c]; rfl)] at ih
      exact ih
    · rw [gm_ct_f (by unfold gm_ah; rw [decide_eq_false (by omega), decide_eq_false (by omega : ¬ i < b), Bool.and_false]; rfl)] at ih
      exact ih
    · rw [gm_ct_t (by unfold gm_ah; rw [decide_eq_true c2, decide_eq_true c3, Bool.and_true, Bool.or_true])] at ih
      exact ih
    · rw [gm_ct_f (by unfold gm_ah; rw [decide_eq_false (by omega), decide_eq_false c2]; rfl)] at ih
      exact ih
theorem xw_ahead (hr : gm_ray S D K T) (hC : gm_pk C) (hE : gm_pk E) (hn : n ≤ 14) {b : Nat} (hb : b < 14) (h : post (nI (gm_ct (gm_ah (gm_t S D K C E) b) n))) : wpX_countAhead post (nI n, T, C, E, S, D, K) (nI b) (zI_ (gm_t S D K C E b)) :=
  ⟨n + 1, xw_ah5 hr hC hE hn hb h n 0 (by omega)⟩
theorem xw_hit2 (hr : gm_ray S D K T) (hC : gm_pk C) (hE : gm_pk E) (hn : n ≤ 14) {v : Int32} (h : ∀ r, gm_F (gm_pi (gm_t S D K C E) n v) n r → post r) : ∀ d i : Nat, i + d = n → (∀ j, j < i → gm_pi (gm_t S D K C E) n v j = false) →
    wX_hit_2 post v (nI n) T C E S D K (d + 1) (nI i)
  | 0, i, hi, hp => by
    have q : i = n := by omega
    subst q
    exact br_t (nI_le (Nat.le_refl i) (by omega)) (h _ (Or.inr ⟨hp, rfl⟩))
  | d + 1, i, hi, hp => by
    have ht := gm_t_b hr hC hE i
    have ih := fun q => xw_hit2 hr hC hE hn h d (i + 1) (by omega) (lt_s hp q)
    refine br_f (nI_ge (a := i) (b := n) (by omega) (by omega)) (xw_ent hr hC hE (by omega) (zb_le 1000000 (gm_t S D K C E i) (fun c => nm_r (nI_1 i) (ih ?_)) (fun c => xw_ahead hr hC hE hn (by omega) (br_c (fun c2 => h _ (Or.inl ⟨i, by omega, ?_, hp, rfl⟩)) (fun c2 => nm_r (nI_1 i) (ih ?_)))) zI_M rfl (by omega) (by omega)))
    · unfold gm_pi
      rw [decide_eq_false (by omega)]
      rfl
    · unfold gm_pi
      rw [decide_eq_true c, decide_eq_true c2]
      rfl
    · unfold gm_pi
      rw [decide_eq_false c2, Bool.and_false]
theorem xw_hit (hr : gm_ray S D K T) (hC : gm_pk C) (hE : gm_pk E) (hn : n ≤ 14) {v : Int32} (h : ∀ r, gm_F (gm_pi (gm_t S D K C E) n v) n r → post r) : wpX_hit post (nI n, T, C, E, S, D, K) v :=
  ⟨n + 1, xw_hit2 hr hC hE hn h n 0 (by omega) (fun j hj => by omega)⟩
theorem xw_hits4 (hr : gm_ray S D K T) (hC : gm_pk C) (hE : gm_pk E) (hn : n ≤ 14) (h : post (nI (gm_ct (fun c => decide (gm_t S D K C E c < 1000000) && true) n))) : ∀ d i : Nat, i + d = n →
    wX_hits_4 post (nI n) T C E S D K (d + 1) (nI (gm_ct (fun c => decide (gm_t S D K C E c < 1000000) && true) i)) (nI i)
  | 0, i, hi => by
    have q : i = n := by omega
    subst q
    exact br_t (nI_le (Nat.le_refl i) (by omega)) h
  | d + 1, i, hi => by
    have ht := gm_t_b hr hC hE i
    have ih := xw_hits4 hr hC hE hn h d (i + 1) (by omega)
    refine br_f (nI_ge (a := i) (b := n) (by omega) (by omega)) (xw_ent hr hC hE (by omega) (zb_le 1000000 (gm_t S D K C E i) (fun c => nm_r (nI_1 i) ?_) (fun c => nm_r (nI_1 _) (nm_r (nI_1 i) ?_)) zI_M rfl (by omega) (by omega)))
    · rw [gm_ct_f (p := fun c => decide (gm_t S D K C E c < 1000000) && true) (by show (decide (gm_t S D K C E i < 1000000) && true) = false; rw [decide_eq_false (by omega)]; rfl)] at ih
      exact ih
    · rw [gm_ct_t (p := fun c => decide (gm_t S D K C E c < 1000000) && true) (by show (decide (gm_t S D K C E i < 1000000) && true) = true; rw [decide_eq_true c]; rfl)] at ih
      exact ih
theorem xw_hits (hr : gm_ray S D K T) (hC : gm_pk C) (hE : gm_pk E) (hn : n ≤ 14) (h : post (nI (gm_ct (fun c => decide (gm_t S D K C E c < 1000000) && true) n))) : wpX_hits post (nI n, T, C, E, S, D, K) :=
  ⟨n + 1, xw_hits4 hr hC hE hn h n 0 (by omega)⟩
/-- entered by the time p / q -/
def gm_by (t : Nat → Int) (T p q : Int) (c : Nat) : Bool := decide (t c < 1000000) && decide (t c * q ≤ p * T)
theorem xw_hb31 (hr : gm_ray S D K T) (hC : gm_pk C) (hE : gm_pk E) (hn : n ≤ 14) {p q : Int} (hp : 0 ≤ p ∧ p ≤ 1000) (hq : 1 ≤ q ∧ q ≤ 100) (h : post (nI (gm_ct (gm_by (gm_t S D K C E) T.toInt p q) n))) : ∀ d i : Nat, i + d = n →
    wX_hitsBefore_31 post (zI_ p) (zI_ q) (nI n) T C E S D K (d + 1) (nI (gm_ct (gm_by (gm_t S D K C E) T.toInt p q) i)) (nI i)
  | 0, i, hi => by
    have e : i = n := by omega
    subst e
    exact br_t (nI_le (Nat.le_refl i) (by omega)) h
  | d + 1, i, hi => by
    have ht := gm_t_b hr hC hE i
    have ih := xw_hb31 hr hC hE hn hp hq h d (i + 1) (by omega)
    have hT := hr.2.2.2.2
    have b1 := gm_mb (a := p) (k := T.toInt) 1000 8000 (by omega) (by omega) (by omega) (by omega) (by omega)
    have b2 := gm_mb (a := gm_t S D K C E i) (k := q) 1000000 100 (by omega) (by omega) (by omega) (by omega) (by omega)
    refine br_f (nI_ge (a := i) (b := n) (by omega) (by omega)) (xw_ent hr hC hE (by omega) (zb_le 1000000 (gm_t S D K C E i) (fun c => nm_r (nI_1 i) ?_) (fun c => zb_lt (p * T.toInt) (gm_t S D K C E i * q) (fun c2 => nm_r (nI_1 i) ?_) (fun c2 => nm_r (nI_1 _) (nm_r (nI_1 i) ?_)) (by rw [← zI_mul, ← zI_of]) (by rw [← zI_mul]) (by omega) (by omega)) zI_M rfl (by omega) (by omega)))
    · rw [gm_ct_f (by unfold gm_by; rw [decide_eq_false (by omega)]; rfl)] at ih
      exact ih
    · rw [gm_ct_f (by unfold gm_by; rw [decide_eq_false (by omega : ¬ gm_t S D K C E i * q ≤ p * T.toInt), Bool.and_false])] at ih
      exact ih
    · rw [gm_ct_t (by unfold gm_by; rw [decide_eq_true c, decide_eq_true c2]; rfl)] at ih
      exact ih
theorem xw_cd5 {m t : Nat} (ht : 1 ≤ t ∧ t ≤ 8000) (hm : m ≤ 64800) (h : post (nI (Nat.gcd m t))) : ∀ d : Nat, d + 1 ≤ t → (∀ k, d + 1 < k → k ≤ t → k ∣ m → k ∣ t → False) →
    wX_commonDivisor_5 post (nI m) (nI n) (nI t) C E S D K (d + 1) (nI (d + 1))
  | 0, hd, hk => by
    have e : 1 = Nat.gcd m t := gm_gcd (by omega) (by omega) (Nat.one_dvd m) (Nat.one_dvd t) (fun k k1 k2 k3 k4 => by
      rcases (by omega : k ≤ 1 ∨ 1 < k) with c | c
      · exact c
      · exact absurd (hk k c k2 k3 k4) (fun x => x))
    rw [← e] at h
    exact br_t (nI_le (a := 1) (b := 1) (by omega) (by omega)) h
  | d + 1, hd, hk => by
    have ih := fun q => xw_cd5 ht hm h d (by omega) q
    have hz : ¬ nI (d + 1 + 1) = 0 := nI_ne0 (by omega) (by omega)
    have stp : (¬ (d + 1 + 1 ∣ m ∧ d + 1 + 1 ∣ t)) → ∀ k, d + 1 < k → k ≤ t → k ∣ m → k ∣ t → False := by
      intro c k k1 k2 k3 k4
      by_cases e : k = d + 1 + 1
      · subst e; exact c ⟨k3, k4⟩
      · exact hk k (by omega) k2 k3 k4
    refine br_f (nI_ge (a := 1) (b := d + 1 + 1) (by omega) (by omega)) ⟨hz, ?_⟩
    rw [pk_rem (by omega) (by omega) (by omega), pk_rem (by omega) (by omega) (by omega)]
    refine pk_eq (m % (d + 1 + 1)) 0 (fun c => ⟨hz, pk_eq (t % (d + 1 + 1)) 0 (fun c2 => ?_) (fun c2 => nm_r (pk_m1 (d + 1)) (ih (stp ?_))) rfl rfl ?_ ?_⟩) (fun c => nm_r (pk_m1 (d + 1)) (ih (stp ?_))) rfl rfl ?_ ?_
    · have e : d + 1 + 1 = Nat.gcd m t := gm_gcd (by omega) (by omega) (Nat.dvd_of_mod_eq_zero c) (Nat.dvd_of_mod_eq_zero c2) (fun k k1 k2 k3 k4 => by
        rcases (by omega : k ≤ d + 1 + 1 ∨ d + 1 + 1 < k) with q | q
        · exact q
        · exact absurd (hk k q k2 k3 k4) (fun x => x))
      rw [← e] at h
      exact h
    · exact fun q => c2 (Nat.mod_eq_zero_of_dvd q.2)
    · have := Nat.mod_lt t (show 0 < d + 1 + 1 by omega); omega
    · omega
    · exact fun q => c (Nat.mod_eq_zero_of_dvd q.1)
    · have := Nat.mod_lt m (show 0 < d + 1 + 1 by omega); omega
    · omega
theorem xw_cd {m t : Nat} (ht : 1 ≤ t ∧ t ≤ 8000) (hm : m ≤ 64800) (h : post (nI (Nat.gcd m t))) : wpX_commonDivisor post (nI n, nI t, C, E, S, D, K) (nI m) := by
  obtain ⟨d, rfl⟩ : ∃ d, t = d + 1 := ⟨t - 1, by omega⟩
  exact ⟨d + 1, xw_cd5 ht hm h d (by omega) (fun k k1 k2 => by omega)⟩
theorem xw_lowTop {m t : Nat} (ht : 1 ≤ t ∧ t ≤ 8000) (hm : m ≤ 64800) (h : post (nI (m / Nat.gcd m t))) : wpX_lowestTop post (nI n, nI t, C, E, S, D, K) (nI m) := by
  have g0 : 0 < Nat.gcd m t := Nat.gcd_pos_of_pos_right m (by omega)
  have g1 : Nat.gcd m t ≤ t := Nat.le_of_dvd (by omega) (Nat.gcd_dvd_right m t)
  refine xw_cd (post := fun r => ¬ r = 0 ∧ post (nI m / r)) ht hm ⟨nI_ne0 g0 (by omega), ?_⟩
  rw [pk_div (by omega) g0 (by omega)]
  exact h
theorem xw_lowBottom {m t : Nat} (ht : 1 ≤ t ∧ t ≤ 8000) (hm : m ≤ 64800) (h : post (nI (t / Nat.gcd m t))) : wpX_lowestBottom post (nI n, nI t, C, E, S, D, K) (nI m) := by
  have g0 : 0 < Nat.gcd m t := Nat.gcd_pos_of_pos_right m (by omega)
  have g1 : Nat.gcd m t ≤ t := Nat.le_of_dvd (by omega) (Nat.gcd_dvd_right m t)
  refine xw_cd (post := fun r => ¬ r = 0 ∧ post (nI t / r)) ht hm ⟨nI_ne0 g0 (by omega), ?_⟩
  rw [pk_div (by omega) g0 (by omega)]
  exact h
end
