/-! the methods that read -/
/-- hitsBefore's answer -/
def gm_hbv (t : Nat → Int) (T : Int) (n : Nat) (p q : Int) : Int32 := if p < 0 ∨ 1000 < p then -1 else if q < 1 ∨ 100 < q then -2 else nI (gm_ct (gm_by t T p q) n)
/-- a ray's T is a natural number -/
theorem gm_ray_T {S D K : Nat → Int32} {T : Int32} (h : gm_ray S D K T) : ∃ t : Nat, T = nI t ∧ T.toInt = (t : Int) ∧ 1 ≤ t ∧ t ≤ 8000 := by
  have h1 := h.2.2.2.2
  obtain ⟨t, ht⟩ := Int.eq_ofNat_of_zero_le (show 0 ≤ T.toInt by omega)
  refine ⟨t, ?_, ht, by omega, by omega⟩
  rw [zI_n, ← ht]
  exact zI_of T
section
variable {C E S D K A B : Nat → Int32} {n : Nat} {T f1 f2 f3 f4 : Int32}
theorem xw_hb {post : Int32 → Prop} (hr : gm_ray S D K T) (hC : gm_pk C) (hE : gm_pk E) (hn : n ≤ 14) {p q : Int32} (h : post (gm_hbv (gm_t S D K C E) T.toInt n p.toInt q.toInt)) : wpX_hitsBefore post (nI n, T, C, E, S, D, K) p q := by
  unfold gm_hbv at h
  unfold wpX_hitsBefore
  dsimp only
  refine xw_within p.toInt 0 1000 (zI_of _) zI_0 (by decide) (zI_rng _) (by omega) (by omega) (fun a b => br_f (by decide) (xw_within q.toInt 1 100 (zI_of _) zI_1 (by decide) (zI_rng _) (by omega) (by omega) (fun c d => br_f (by decide) ⟨n + 1, ?_⟩) (fun c => br_t rfl ?_))) (fun a => br_t rfl ?_)
  · rw [if_neg (by omega), if_neg (by omega)] at h
    have := xw_hb31 hr hC hE hn ⟨a, b⟩ ⟨c, d⟩ h n 0 (by omega)
    rw [← zI_of p, ← zI_of q] at this
    exact this
  · rw [if_neg (by omega), if_pos c] at h
    exact h
  · rw [if_pos a] at h
    exact h
theorem yw_hb {post : Int32 → SY → Prop} (hr : gm_ray S D K T) (hC : gm_pk C) (hE : gm_pk E) (hn : n ≤ 14) {p q : Int32} (h : ∀ g1 g2 g3 g4 A B, post (gm_hbv (gm_t S D K C E) T.toInt n p.toInt q.toInt) (nI n, g1, g2, g3, g4, C, E, S, D, A, B)) : wpY_hitsBefore post (nI n, f1, f2, f3, f4, C, E, S, D, A, B) p q := by
  unfold gm_hbv at h
  unfold wpY_hitsBefore
  dsimp only
  refine zb_lt p.toInt 0 (fun a => ?_) (fun a => zb_le p.toInt 1000 (fun b => zb_lt q.toInt 1 (fun c => ?_) (fun c => zb_le q.toInt 100 (fun d => ?_) (fun d => ?_) (zI_of _) (by decide) (zI_rng _) (by omega)) (zI_of _) zI_1 (zI_rng _) (by omega)) (fun b => ?_) (zI_of _) (by decide) (zI_rng _) (by omega)) (zI_of _) zI_0 (zI_rng _) (by omega)
  · rw [if_pos (Or.inl a)] at h
    exact h _ _ _ _ _ _
  · rw [if_neg (by omega), if_pos (Or.inl c)] at h
    exact h _ _ _ _ _ _
  · rw [if_neg (by omega), if_neg (by omega)] at h
    refine yw_shoot hr hC hE hn (fun g1 g2 g3 g4 A B hs => ⟨15, ?_⟩)
    have h' := h g1 g2 g3 g4 A B
    have e : gm_ct (gm_by (gm_t S D K C E) T.toInt p.toInt q.toInt) n = gm_ct (fun c => gm_hq (gm_t S D K C E) n c && decide (gm_t S D K C E c * q.toInt ≤ p.toInt * T.toInt)) 14 := (gm_hits_n hn (fun c => decide (gm_t S D K C E c * q.toInt ≤ p.toInt * T.toInt))).symm
    rw [e] at h'
    have := yw_hb36 (p := p.toInt) (q := q.toInt) ⟨a, b⟩ ⟨c, d⟩ (by have := hr.2.2.2.2.1; omega) hs h' 14 0 rfl
    rw [← zI_of p, ← zI_of q] at this
    exact this
  · rw [if_neg (by omega), if_pos (Or.inr d)] at h
    exact h _ _ _ _ _ _
  · rw [if_pos (Or.inr b)] at h
    exact h _ _ _ _ _ _
end
theorem i_vc_first {k : Nat} {u : SX} {v : SY} (I : i_Rel k u v) (hk : k + 4 ≤ 2048) : wpX_first (fun r => wpY_first (fun r' v' => r' = r ∧ i_Rel (k + 4) u v') v) u := by
  obtain ⟨n, T, f1, f2, f3, f4, C, E, S, D, K, A, B, rfl, rfl, hn, hC, hE, hr⟩ := I
  unfold wpX_first wpY_first
  dsimp only
  exact xw_firstBox hr hC hE hn (fun r e hb => yw_chosen hr hC hE hn (fun r' g1 g2 g3 g4 A B hs hF => ⟨gm_F_one hn (gm_best_F hn hb) hF, ir_mk hn hC hE hr⟩))
theorem i_vc_hit {k : Nat} {u : SX} {v : SY} (I : i_Rel k u v) (hk : k + 4 ≤ 2048) (v1 : Int32) : wpX_hit (fun r => wpY_hit (fun r' v' => r' = r ∧ i_Rel (k + 4) u v') v v1) u v1 := by
  obtain ⟨n, T, f1, f2, f3, f4, C, E, S, D, K, A, B, rfl, rfl, hn, hC, hE, hr⟩ := I
  refine xw_hit hr hC hE hn (fun r hG => ?_)
  unfold wpY_hit
  dsimp only
  exact yw_chosen hr hC hE hn (fun r' g1 g2 g3 g4 A B hs hF => ⟨gm_F_one hn hG hF, ir_mk hn hC hE hr⟩)
theorem i_vc_hits {k : Nat} {u : SX} {v : SY} (I : i_Rel k u v) (hk : k + 4 ≤ 2048) : wpX_hits (fun r => wpY_hits (fun r' v' => r' = r ∧ i_Rel (k + 4) u v') v) u := by
  obtain ⟨n, T, f1, f2, f3, f4, C, E, S, D, K, A, B, rfl, rfl, hn, hC, hE, hr⟩ := I
  exact xw_hits hr hC hE hn (yw_hits hr hC hE hn (fun g1 g2 g3 g4 A B => ⟨rfl, ir_mk hn hC hE hr⟩))
theorem i_vc_hitsBefore {k : Nat} {u : SX} {v : SY} (I : i_Rel k u v) (hk : k + 4 ≤ 2048) (v1 : Int32) (v2 : Int32) : wpX_hitsBefore (fun r => wpY_hitsBefore (fun r' v' => r' = r ∧ i_Rel (k + 4) u v') v v1 v2) u v1 v2 := by
  obtain ⟨n, T, f1, f2, f3, f4, C, E, S, D, K, A, B, rfl, rfl, hn, hC, hE, hr⟩ := I
  exact xw_hb hr hC hE hn (yw_hb hr hC hE hn (fun g1 g2 g3 g4 A B => ⟨rfl, ir_mk hn hC hE hr⟩))
theorem i_vc_blocked {k : Nat} {u : SX} {v : SY} (I : i_Rel k u v) (hk : k + 4 ≤ 2048) (v1 : Int32) (v2 : Int32) : wpX_blocked (fun r => wpY_blocked (fun r' v' => r' = r ∧ i_Rel (k + 4) u v') v v1 v2) u v1 v2 := by
  obtain ⟨n, T, f1, f2, f3, f4, C, E, S, D, K, A, B, rfl, rfl, hn, hC, hE, hr⟩ := I
  unfold wpX_blocked wpY_blocked
  dsimp only
  exact xw_hb hr hC hE hn (br_c (fun c => yw_hb hr hC hE hn (fun g1 g2 g3 g4 A B => br_t c ⟨rfl, ir_mk hn hC hE hr⟩)) (fun c => yw_hb hr hC hE hn (fun g1 g2 g3 g4 A B => br_f c ⟨rfl, ir_mk hn hC hE hr⟩)))
theorem i_vc_around {k : Nat} {u : SX} {v : SY} (I : i_Rel k u v) (hk : k + 4 ≤ 2048) (v1 : Int32) (v2 : Int32) (v3 : Int32) : wpX_around (fun r => wpY_around (fun r' => r' = r ∧ i_Rel (k + 4) u v) v v1 v2 v3) u v1 v2 v3 := by
  obtain ⟨n, T, f1, f2, f3, f4, C, E, S, D, K, A, B, rfl, rfl, hn, hC, hE, hr⟩ := I
  exact ⟨n + 1, xw_arn6 hC hE hn ⟨n + 1, yw_arn6 hC hE hn ⟨rfl, ir_mk hn hC hE hr⟩ n 0 (by omega)⟩ n 0 (by omega)⟩
theorem i_vc_meeting {k : Nat} {u : SX} {v : SY} (I : i_Rel k u v) (hk : k + 4 ≤ 2048) (v1 : Int32) (v2 : Int32) : wpX_meeting (fun r => wpY_meeting (fun r' => r' = r ∧ i_Rel (k + 4) u v) v v1 v2) u v1 v2 := by
  obtain ⟨n, T, f1, f2, f3, f4, C, E, S, D, K, A, B, rfl, rfl, hn, hC, hE, hr⟩ := I
  unfold wpX_meeting
  dsimp only
  refine xw_packed (fun a b => br_f (by decide) (xw_packed (fun c d => br_f (by decide) ⟨n + 1, xw_mtg24 hC hE hn ⟨a, b⟩ ⟨c, d⟩ ?_ n 0 (by omega)⟩) (fun c => br_t rfl ?_))) (fun a => br_t rfl ?_)
  · exact yw_mtg hC hE hn ⟨a, b⟩ ⟨c, d⟩ ⟨rfl, ir_mk hn hC hE hr⟩
  · unfold wpY_meeting
    dsimp only
    exact yw_trip (fun _ _ => br_t rfl (yw_trip (fun _ _ => absurd c (by omega)) (fun _ => br_f (by decide) ⟨rfl, ir_mk hn hC hE hr⟩))) (fun q => absurd q (by omega))
  · unfold wpY_meeting
    dsimp only
    exact yw_trip (fun _ _ => absurd a (by omega)) (fun _ => br_f (by decide) ⟨rfl, ir_mk hn hC hE hr⟩)
theorem i_vc_touching {k : Nat} {u : SX} {v : SY} (I : i_Rel k u v) (hk : k + 4 ≤ 2048) : wpX_touching (fun r => wpY_touching (fun r' => r' = r ∧ i_Rel (k + 4) u v) v) u := by
  obtain ⟨n, T, f1, f2, f3, f4, C, E, S, D, K, A, B, rfl, rfl, hn, hC, hE, hr⟩ := I
  exact xw_touching hC hE hn (yw_touching hC hE hn ⟨rfl, ir_mk hn hC hE hr⟩)
theorem i_vc_nearest {k : Nat} {u : SX} {v : SY} (I : i_Rel k u v) (hk : k + 4 ≤ 2048) (v1 : Int32) (v2 : Int32) (v3 : Int32) : wpX_nearest (fun r => wpY_nearest (fun r' => r' = r ∧ i_Rel (k + 4) u v) v v1 v2 v3) u v1 v2 v3 := by
  obtain ⟨n, T, f1, f2, f3, f4, C, E, S, D, K, A, B, rfl, rfl, hn, hC, hE, hr⟩ := I
  unfold wpX_nearest wpY_nearest
  dsimp only
  refine xw_all 100 (by decide) (by omega) (fun a b c => br_f (by decide) ?_) (fun a => br_t rfl ?_)
  · have ky := fun (r : Int32) (h : zI_ (gm_yl (gm_sq C E v1.toInt v2.toInt v3.toInt) n) = r ∧ i_Rel (k + 4) (nI n, T, C, E, S, D, K) (nI n, f1, f2, f3, f4, C, E, S, D, A, B)) => yw_nr39 (post := fun r' => r' = r ∧ i_Rel (k + 4) (nI n, T, C, E, S, D, K) (nI n, f1, f2, f3, f4, C, E, S, D, A, B)) (f1 := f1) (f2 := f2) (f3 := f3) (f4 := f4) (S := S) (D := D) (A := A) (B := B) hC hE hn a b c h n 0 (by omega)
    rw [← zI_of v1, ← zI_of v2, ← zI_of v3] at ky
    refine pk_eq n 0 (fun z => ?_) (fun z => ?_)
    · subst z
      exact yw_all 100 (by decide) (by omega) _ _ (fun _ _ _ => ⟨0 + 1, ky _ ⟨rfl, ir_mk hn hC hE hr⟩⟩) (fun q => absurd ⟨a, b, c⟩ q)
    · obtain ⟨m, rfl⟩ : ∃ m, n = m + 1 := ⟨n - 1, by omega⟩
      have ks := fun (post : Int32 → Prop) (h : post (zI_ (gm_sq C E v1.toInt v2.toInt v3.toInt 0))) => xw_sq (post := post) (n := m + 1) (T := T) (S := S) (D := D) (K := K) hC hE (b := 0) (by omega) a b c h
      have kx := fun (post : Int32 → Prop) (h : post (zI_ (gm_mn (gm_sq C E v1.toInt v2.toInt v3.toInt) (m + 1 - 1)))) => xw_nr36 (post := post) (T := T) (S := S) (D := D) (K := K) hC hE hn a b c h m 0 (by omega)
      rw [← zI_of v1, ← zI_of v2, ← zI_of v3] at ks kx
      refine ks _ ⟨m + 1, kx _ ?_⟩
      exact yw_all 100 (by decide) (by omega) _ _ (fun _ _ _ => ⟨m + 1 + 1, ky _ ⟨rfl, ir_mk hn hC hE hr⟩⟩) (fun q => absurd ⟨a, b, c⟩ q)
  · exact yw_all 100 (by decide) (by omega) _ _ (fun b c d => absurd ⟨b, c, d⟩ a) (fun _ => ⟨rfl, ir_mk hn hC hE hr⟩)
