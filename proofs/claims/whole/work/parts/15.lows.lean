/-! the answers in lowest terms -/
/-- a / y and m / t are the same fraction: the same lowest terms on both sides -/
theorem gm_fin {t m a y : Nat} (ht : 1 ≤ t ∧ t ≤ 8000) (hm : m ≤ 64800) (hy : 1 ≤ y ∧ y ≤ 20) (ha : a ≤ 162) (h : (a : Int) * (t : Int) = (m : Int) * (y : Int)) :
    nI a / nI (Nat.gcd a y) = nI (m / Nat.gcd m t) ∧ nI y / nI (Nat.gcd a y) = nI (t / Nat.gcd m t) ∧ ¬ nI (Nat.gcd a y) = 0 ∧ 1 ≤ nI (Nat.gcd a y) := by
  have h' : a * t = m * y := by exact_mod_cast h
  have k := gm_low (t := m) (T := t) (a := a) (b := y) (by omega) (by omega) h'
  have g0 : 0 < Nat.gcd a y := Nat.gcd_pos_of_pos_right a (by omega)
  have g1 : Nat.gcd a y ≤ y := Nat.le_of_dvd (by omega) (Nat.gcd_dvd_right a y)
  rw [pk_div (by omega) g0 (by omega), pk_div (by omega) g0 (by omega), k.1, k.2]
  exact ⟨rfl, rfl, nI_ne0 g0 (by omega), nI_le (a := 1) g0 (by omega)⟩
theorem gm_nat {x : Int} (h : 0 ≤ x) : ∃ m : Nat, x = (m : Int) ∧ zI_ x = nI m := by
  obtain ⟨m, rfl⟩ := Int.eq_ofNat_of_zero_le h
  exact ⟨m, rfl, (zI_n m).symm⟩
theorem gm_x_le {S D K C E : Nat → Int32} {T : Int32} (hr : gm_ray S D K T) (hC : gm_pk C) (hE : gm_pk E) (b : Nat) : gm_ea (gm_X S D K C E b) 3 ≤ 64800 := by
  obtain ⟨ax, hax, hd⟩ := hr.2.2.1
  have lx : ∀ m : Nat, ax < m → gm_ea (gm_X S D K C E b) m ≤ gm_X S D K C E b ax := by
    intro m
    induction m with
    | zero => intro h; omega
    | succ m ih =>
      intro h
      show (if gm_X S D K C E b m < gm_ea (gm_X S D K C E b) m then gm_X S D K C E b m else gm_ea (gm_X S D K C E b) m) ≤ _
      by_cases e : ax = m
      · subst e
        split <;> omega
      · have := ih (by omega)
        split <;> omega
  have l3 := lx 3 hax
  have nx : gm_X S D K C E b ax ≤ 64800 := by
    have hs := hr.1 ax hax
    have hk := (hr.2.2.2.1 ax hax).2
    have hl := gm_lo_b hC b ax
    have hh := gm_hi_b hC hE b ax
    have q1 := gm_mb (a := gm_hi C E b ax - (S ax).toInt) (k := (K ax).toInt) 162 400 (by omega) (by omega) (by omega) (by omega) (by omega)
    have q2 := gm_mb (a := (S ax).toInt - gm_lo C b ax) (k := (K ax).toInt) 162 400 (by omega) (by omega) (by omega) (by omega) (by omega)
    unfold gm_X gm_ext
    split
    · omega
    · split
      · omega
      · omega
  omega
theorem gm_tx_b {S D K C E : Nat → Int32} {T : Int32} (hr : gm_ray S D K T) (hC : gm_pk C) (hE : gm_pk E) {b : Nat} (h : gm_t S D K C E b < 1000000) : gm_t S D K C E b ≤ 64800 ∧ 0 ≤ gm_x S D K C E b ∧ gm_x S D K C E b ≤ 64800 := by
  have h1 := gm_x_le hr hC hE b
  have h0 := gm_la_0 (gm_E S D K C E b) 3
  unfold gm_x
  unfold gm_t at h ⊢
  by_cases z : gm_la (gm_E S D K C E b) 3 ≤ gm_ea (gm_X S D K C E b) 3
  · rw [if_pos z]
    omega
  · rw [if_neg z] at h
    omega
theorem i_vc_firstTop {k : Nat} {u : SX} {v : SY} (I : i_Rel k u v) (hk : k + 4 ≤ 2048) : wpX_firstTop (fun r => wpY_firstTop (fun r' v' => r' = r ∧ i_Rel (k + 4) u v') v) u := by
  obtain ⟨n, T, f1, f2, f3, f4, C, E, S, D, K, A, B, rfl, rfl, hn, hC, hE, hr⟩ := I
  obtain ⟨t, rfl, hT, ht⟩ := gm_ray_T hr
  unfold wpX_firstTop wpY_firstTop
  dsimp only
  refine xw_firstBox hr hC hE hn (fun r e hb => ?_)
  have hF1 := gm_best_F hn hb
  rcases hb with ⟨rfl, _, _⟩ | ⟨b, hbn, rfl, _, hlt, _, _⟩
  · refine br_f (by decide) (yw_chosen hr hC hE hn (fun r' g1 g2 g3 g4 A B hs hF => ?_))
    have e := gm_F_one hn hF1 hF
    subst e
    exact br_f (by decide) ⟨rfl, ir_mk hn hC hE hr⟩
  · have hv : vp_in (nI b) 14 := vp_in_nI (by omega) (by omega)
    have q : gm_hq (gm_t S D K C E) n b = true := by
      unfold gm_hq
      rw [decide_eq_true hbn, decide_eq_true hlt]
      rfl
    have tb := gm_tx_b hr hC hE hlt
    refine br_t (nI_pos' (by omega)) (xw_ent hr hC hE (by omega) ?_)
    obtain ⟨m, em, ez⟩ := gm_nat (gm_t_b hr hC hE b).1
    rw [ez]
    refine xw_lowTop ht (by omega) (yw_chosen hr hC hE hn (fun r' g1 g2 g3 g4 A B hs hF => ?_))
    have e := gm_F_one hn hF1 hF
    subst e
    obtain ⟨it, ib, a1, a2, a3, a4, a5, a6, a7⟩ := (hs b (by omega)).1 q
    obtain ⟨a, ea, za⟩ := gm_nat a3
    obtain ⟨y, ey, zy⟩ := gm_nat (show 0 ≤ ib by omega)
    subst ea ey
    rw [hT, em] at a7
    have fin := gm_fin ht (by omega) (by omega) (by omega) a7
    dsimp only
    rw [nI_clamp (by omega), a1, a2, za, zy]
    exact br_t (nI_pos' (by omega)) ⟨hv, hv, yw_common (by omega) (by omega) (br_t fin.2.2.2 ⟨hv, fin.2.2.1, fin.1, ir_mk hn hC hE hr⟩)⟩
theorem i_vc_firstBottom {k : Nat} {u : SX} {v : SY} (I : i_Rel k u v) (hk : k + 4 ≤ 2048) : wpX_firstBottom (fun r => wpY_firstBottom (fun r' v' => r' = r ∧ i_Rel (k + 4) u v') v) u := by
  obtain ⟨n, T, f1, f2, f3, f4, C, E, S, D, K, A, B, rfl, rfl, hn, hC, hE, hr⟩ := I
  obtain ⟨t, rfl, hT, ht⟩ := gm_ray_T hr
  unfold wpX_firstBottom wpY_firstBottom
  dsimp only
  refine xw_firstBox hr hC hE hn (fun r e hb => ?_)
  have hF1 := gm_best_F hn hb
  rcases hb with ⟨rfl, _, _⟩ | ⟨b, hbn, rfl, _, hlt, _, _⟩
  · refine br_f (by decide) (yw_chosen hr hC hE hn (fun r' g1 g2 g3 g4 A B hs hF => ?_))
    have e := gm_F_one hn hF1 hF
    subst e
    exact br_f (by decide) ⟨rfl, ir_mk hn hC hE hr⟩
  · have hv : vp_in (nI b) 14 := vp_in_nI (by omega) (by omega)
    have q : gm_hq (gm_t S D K C E) n b = true := by
      unfold gm_hq
      rw [decide_eq_true hbn, decide_eq_true hlt]
      rfl
    have tb := gm_tx_b hr hC hE hlt
    refine br_t (nI_pos' (by omega)) (xw_ent hr hC hE (by omega) ?_)
    obtain ⟨m, em, ez⟩ := gm_nat (gm_t_b hr hC hE b).1
    rw [ez]
    refine xw_lowBottom ht (by omega) (yw_chosen hr hC hE hn (fun r' g1 g2 g3 g4 A B hs hF => ?_))
    have e := gm_F_one hn hF1 hF
    subst e
    obtain ⟨it, ib, a1, a2, a3, a4, a5, a6, a7⟩ := (hs b (by omega)).1 q
    obtain ⟨a, ea, za⟩ := gm_nat a3
    obtain ⟨y, ey, zy⟩ := gm_nat (show 0 ≤ ib by omega)
    subst ea ey
    rw [hT, em] at a7
    have fin := gm_fin ht (by omega) (by omega) (by omega) a7
    dsimp only
    rw [nI_clamp (by omega), a1, a2, za, zy]
    exact br_t (nI_pos' (by omega)) ⟨hv, hv, yw_common (by omega) (by omega) (br_t fin.2.2.2 ⟨hv, fin.2.2.1, fin.2.1, ir_mk hn hC hE hr⟩)⟩
theorem i_vc_leaveTop {k : Nat} {u : SX} {v : SY} (I : i_Rel k u v) (hk : k + 4 ≤ 2048) (v1 : Int32) : wpX_leaveTop (fun r => wpY_leaveTop (fun r' v' => r' = r ∧ i_Rel (k + 4) u v') v v1) u v1 := by
  obtain ⟨n, T, f1, f2, f3, f4, C, E, S, D, K, A, B, rfl, rfl, hn, hC, hE, hr⟩ := I
  obtain ⟨t, rfl, hT, ht⟩ := gm_ray_T hr
  unfold wpX_leaveTop wpY_leaveTop
  dsimp only
  rcases gm_gb v1 hn with h | ⟨b, hbn, rfl⟩
  · exact xw_good_f h (br_t rfl (yw_bad_t h (br_f (by decide) ⟨rfl, ir_mk hn hC hE hr⟩)))
  · have tb := gm_t_b hr hC hE b
    refine xw_good_t hbn hn (br_f (by decide) (xw_ent hr hC hE (by omega) (zb_eq (gm_t S D K C E b) 1000000 (fun c => ?_) (fun c => ?_) rfl zI_M (by omega) (by omega))))
    · refine yw_bad_f hbn hn (br_t rfl (yw_meets hr hC hE (by omega) (fun it ib ot ob ok => ?_) (fun g1 g2 g3 g4 z => br_t rfl ⟨rfl, ir_mk hn hC hE hr⟩)))
      have := ok.2.1
      omega
    · have tx := gm_tx_b hr hC hE (b := b) (by omega)
      refine xw_ext hr hC hE (by omega) ?_
      obtain ⟨m, em, ez⟩ := gm_nat tx.2.1
      rw [ez]
      refine xw_lowTop ht (by omega) (yw_bad_f hbn hn (br_t rfl (yw_meets hr hC hE (by omega) (fun it ib ot ob ok => br_f (by decide) ?_) (fun g1 g2 g3 g4 z => absurd z c))))
      obtain ⟨_, _, _, _, _, _, _, _, _, a3, a4, a5, a6, a7⟩ := ok
      obtain ⟨a, ea, za⟩ := gm_nat a3
      obtain ⟨y, ey, zy⟩ := gm_nat (show 0 ≤ ob by omega)
      subst ea ey
      rw [hT, em] at a7
      have fin := gm_fin ht (by omega) (by omega) (by omega) a7
      dsimp only
      rw [za, zy]
      exact yw_common (by omega) (by omega) (br_t fin.2.2.2 ⟨fin.2.2.1, fin.1, ir_mk hn hC hE hr⟩)
theorem i_vc_leaveBottom {k : Nat} {u : SX} {v : SY} (I : i_Rel k u v) (hk : k + 4 ≤ 2048) (v1 : Int32) : wpX_leaveBottom (fun r => wpY_leaveBottom (fun r' v' => r' = r ∧ i_Rel (k + 4) u v') v v1) u v1 := by
  obtain ⟨n, T, f1, f2, f3, f4, C, E, S, D, K, A, B, rfl, rfl, hn, hC, hE, hr⟩ := I
  obtain ⟨t, rfl, hT, ht⟩ := gm_ray_T hr
  unfold wpX_leaveBottom wpY_leaveBottom
  dsimp only
  rcases gm_gb v1 hn with h | ⟨b, hbn, rfl⟩
  · exact xw_good_f h (br_t rfl (yw_bad_t h (br_f (by decide) ⟨rfl, ir_mk hn hC hE hr⟩)))
  · have tb := gm_t_b hr hC hE b
    refine xw_good_t hbn hn (br_f (by decide) (xw_ent hr hC hE (by omega) (zb_eq (gm_t S D K C E b) 1000000 (fun c => ?_) (fun c => ?_) rfl zI_M (by omega) (by omega))))
    · refine yw_bad_f hbn hn (br_t rfl (yw_meets hr hC hE (by omega) (fun it ib ot ob ok => ?_) (fun g1 g2 g3 g4 z => br_t rfl ⟨rfl, ir_mk hn hC hE hr⟩)))
      have := ok.2.1
      omega
    · have tx := gm_tx_b hr hC hE (b := b) (by omega)
      refine xw_ext hr hC hE (by omega) ?_
      obtain ⟨m, em, ez⟩ := gm_nat tx.2.1
      rw [ez]
      refine xw_lowBottom ht (by omega) (yw_bad_f hbn hn (br_t rfl (yw_meets hr hC hE (by omega) (fun it ib ot ob ok => br_f (by decide) ?_) (fun g1 g2 g3 g4 z => absurd z c))))
      obtain ⟨_, _, _, _, _, _, _, _, _, a3, a4, a5, a6, a7⟩ := ok
      obtain ⟨a, ea, za⟩ := gm_nat a3
      obtain ⟨y, ey, zy⟩ := gm_nat (show 0 ≤ ob by omega)
      subst ea ey
      rw [hT, em] at a7
      have fin := gm_fin ht (by omega) (by omega) (by omega) a7
      dsimp only
      rw [za, zy]
      exact yw_common (by omega) (by omega) (br_t fin.2.2.2 ⟨fin.2.2.1, fin.2.1, ir_mk hn hC hE hr⟩)
