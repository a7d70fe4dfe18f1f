/-! the relation; the constructors; the methods that write -/
/-- count, boxes, origin and direction are the same; the component's ticks are those of the direction; the reference's scratch is free -/
def i_Rel (k : Nat) (u : SX) (v : SY) : Prop := ∃ (n : Nat) (T f1 f2 f3 f4 : Int32) (C E S D K A B : Nat → Int32),
  u = (nI n, T, C, E, S, D, K) ∧ v = (nI n, f1, f2, f3, f4, C, E, S, D, A, B) ∧ n ≤ 14 ∧ gm_pk C ∧ gm_pk E ∧ gm_ray S D K T
theorem i_up {k : Nat} {u : SX} {v : SY} (h : i_Rel k u v) : i_Rel (k + 4) u v := h
theorem ir_mk {k n : Nat} {T f1 f2 f3 f4 : Int32} {C E S D K A B : Nat → Int32} (hn : n ≤ 14) (hC : gm_pk C) (hE : gm_pk E) (hr : gm_ray S D K T) : i_Rel k (nI n, T, C, E, S, D, K) (nI n, f1, f2, f3, f4, C, E, S, D, A, B) :=
  ⟨n, T, f1, f2, f3, f4, C, E, S, D, K, A, B, rfl, rfl, hn, hC, hE, hr⟩
theorem gm_mp {a b : Int} (A B : Int) (ha : 1 ≤ a ∧ a ≤ A) (hb : 1 ≤ b ∧ b ≤ B) : 1 ≤ a * b ∧ a * b ≤ A * B := by
  have h1 : 0 < a * b := Int.mul_pos (by omega) (by omega)
  have h2 : a * b ≤ A * b := Int.mul_le_mul_of_nonneg_right ha.2 (by omega)
  have h3 : A * b ≤ A * B := Int.mul_le_mul_of_nonneg_left hb.2 (by omega)
  omega
theorem gm_sp_b {d : Int} (h : -20 ≤ d ∧ d ≤ 20) : 1 ≤ gm_sp d ∧ gm_sp d ≤ 20 := by
  unfold gm_sp
  split
  · omega
  · split <;> omega
def gm_u3 (F : Nat → Int32) (x y z : Int32) : Nat → Int32 := upd (upd (upd F 0 x) 1 y) 2 z
theorem gm_u3_all {F : Nat → Int32} {x y z : Int32} {P : Nat → Int32 → Prop} (h0 : P 0 x) (h1 : P 1 y) (h2 : P 2 z) : ∀ ax, ax < 3 → P ax (gm_u3 F x y z ax) := by
  intro ax hax
  rcases (by omega : ax = 0 ∨ ax = 1 ∨ ax = 2) with rfl | rfl | rfl
  · exact h0
  · exact h1
  · exact h2
theorem gm_ray_S {S D K : Nat → Int32} {T : Int32} (h : gm_ray S D K T) {x y z : Int32} (hx : -100 ≤ x.toInt ∧ x.toInt ≤ 100) (hy : -100 ≤ y.toInt ∧ y.toInt ≤ 100) (hz : -100 ≤ z.toInt ∧ z.toInt ≤ 100) : gm_ray (gm_u3 S x y z) D K T :=
  ⟨gm_u3_all (P := fun _ w => -100 ≤ w.toInt ∧ w.toInt ≤ 100) hx hy hz, h.2⟩
theorem gm_ray_D {S D K : Nat → Int32} (hS : ∀ ax, ax < 3 → -100 ≤ (S ax).toInt ∧ (S ax).toInt ≤ 100) {x y z : Int32} (hx : -20 ≤ x.toInt ∧ x.toInt ≤ 20) (hy : -20 ≤ y.toInt ∧ y.toInt ≤ 20) (hz : -20 ≤ z.toInt ∧ z.toInt ≤ 20) (nz : x.toInt ≠ 0 ∨ y.toInt ≠ 0 ∨ z.toInt ≠ 0) :
    gm_ray S (gm_u3 D x y z) (gm_u3 K (zI_ (gm_sp y.toInt * gm_sp z.toInt)) (zI_ (gm_sp x.toInt * gm_sp z.toInt)) (zI_ (gm_sp x.toInt * gm_sp y.toInt))) (zI_ (gm_sp x.toInt * gm_sp y.toInt * gm_sp z.toInt)) := by
  have bx := gm_sp_b hx
  have b_y := gm_sp_b hy
  have bz := gm_sp_b hz
  have xy := gm_mp 20 20 bx b_y
  have xz := gm_mp 20 20 bx bz
  have yz := gm_mp 20 20 b_y bz
  have xyz := gm_mp 400 20 xy bz
  have t1 : (zI_ (gm_sp x.toInt * gm_sp y.toInt * gm_sp z.toInt)).toInt = gm_sp x.toInt * gm_sp y.toInt * gm_sp z.toInt := zI_t (by omega) (by omega)
  have t2 : (zI_ (gm_sp y.toInt * gm_sp z.toInt)).toInt = gm_sp y.toInt * gm_sp z.toInt := zI_t (by omega) (by omega)
  have t3 : (zI_ (gm_sp x.toInt * gm_sp z.toInt)).toInt = gm_sp x.toInt * gm_sp z.toInt := zI_t (by omega) (by omega)
  have t4 : (zI_ (gm_sp x.toInt * gm_sp y.toInt)).toInt = gm_sp x.toInt * gm_sp y.toInt := zI_t (by omega) (by omega)
  refine ⟨hS, gm_u3_all (P := fun _ w => -20 ≤ w.toInt ∧ w.toInt ≤ 20) hx hy hz, ?_, ?_, by omega, by omega⟩
  · rcases nz with h | h | h
    · exact ⟨0, by omega, h⟩
    · exact ⟨1, by omega, h⟩
    · exact ⟨2, by omega, h⟩
  · intro ax hax
    rcases (by omega : ax = 0 ∨ ax = 1 ∨ ax = 2) with rfl | rfl | rfl
    · show (zI_ (gm_sp x.toInt * gm_sp y.toInt * gm_sp z.toInt)).toInt = (zI_ (gm_sp y.toInt * gm_sp z.toInt)).toInt * gm_sp x.toInt ∧ 1 ≤ (zI_ (gm_sp y.toInt * gm_sp z.toInt)).toInt ∧ (zI_ (gm_sp y.toInt * gm_sp z.toInt)).toInt ≤ 400
      rw [t1, t2]
      exact ⟨by rw [Int.mul_assoc, Int.mul_comm], by omega, by omega⟩
    · show (zI_ (gm_sp x.toInt * gm_sp y.toInt * gm_sp z.toInt)).toInt = (zI_ (gm_sp x.toInt * gm_sp z.toInt)).toInt * gm_sp y.toInt ∧ 1 ≤ (zI_ (gm_sp x.toInt * gm_sp z.toInt)).toInt ∧ (zI_ (gm_sp x.toInt * gm_sp z.toInt)).toInt ≤ 400
      rw [t1, t3]
      exact ⟨Int.mul_right_comm _ _ _, by omega, by omega⟩
    · show (zI_ (gm_sp x.toInt * gm_sp y.toInt * gm_sp z.toInt)).toInt = (zI_ (gm_sp x.toInt * gm_sp y.toInt)).toInt * gm_sp z.toInt ∧ 1 ≤ (zI_ (gm_sp x.toInt * gm_sp y.toInt)).toInt ∧ (zI_ (gm_sp x.toInt * gm_sp y.toInt)).toInt ≤ 400
      rw [t1, t4]
      exact ⟨rfl, by omega, by omega⟩
section
variable {C E S D K A B : Nat → Int32} {n : Nat} {T f1 f2 f3 f4 : Int32}
theorem xw_speed {post : Int32 → Prop} {x : Int32} (hx : -20 ≤ x.toInt ∧ x.toInt ≤ 20) (h : post (zI_ (gm_sp x.toInt))) : wpX_speed post x := by
  unfold gm_sp at h
  refine zb_eq x.toInt 0 (fun c => ?_) (fun c => zb_le 0 x.toInt (fun c2 => ?_) (fun c2 => ?_) zI_0 (zI_of x) (by omega) (by omega)) (zI_of x) zI_0 (by omega) (by omega)
  · rw [if_pos c] at h
    exact zv_ (P := post) zI_1 h
  · rw [if_neg c, if_neg (by omega)] at h
    exact zv_ (P := post) (zI_of x) h
  · rw [if_neg c, if_pos c2, ← zI_neg, ← zI_of] at h
    exact h
theorem xw_head {post : SX → Prop} {x y z : Int32} (hx : -20 ≤ x.toInt ∧ x.toInt ≤ 20) (hy : -20 ≤ y.toInt ∧ y.toInt ≤ 20) (hz : -20 ≤ z.toInt ∧ z.toInt ≤ 20)
    (h : post (nI n, zI_ (gm_sp x.toInt * gm_sp y.toInt * gm_sp z.toInt), C, E, S, gm_u3 D x y z, gm_u3 K (zI_ (gm_sp y.toInt * gm_sp z.toInt)) (zI_ (gm_sp x.toInt * gm_sp z.toInt)) (zI_ (gm_sp x.toInt * gm_sp y.toInt)))) : wpX_head post (nI n, T, C, E, S, D, K) x y z := by
  refine nm_e (nm_e (nm_e (xw_speed hx (xw_speed hy (xw_speed hz ?_)))))
  rw [zI_mul, zI_mul, zI_mul, zI_mul]
  exact nm_e (nm_e (nm_e (nm_e h)))
theorem xw_all {post : Int32 → Prop} {x y z M : Int32} (m : Int) (hM : M = zI_ m) (m0 : 0 ≤ m ∧ m ≤ 1000) (h1 : (-m ≤ x.toInt ∧ x.toInt ≤ m) → (-m ≤ y.toInt ∧ y.toInt ≤ m) → (-m ≤ z.toInt ∧ z.toInt ≤ m) → post 1)
    (h0 : ¬ ((-m ≤ x.toInt ∧ x.toInt ≤ m) ∧ (-m ≤ y.toInt ∧ y.toInt ≤ m) ∧ (-m ≤ z.toInt ∧ z.toInt ≤ m)) → post 0) : wpX_areAllWithin post x y z M := by
  have hN : -M = zI_ (-m) := by rw [hM, zI_neg]
  unfold wpX_areAllWithin
  refine xw_within x.toInt (-m) m (zI_of x) hN hM (zI_rng x) (by omega) (by omega) (fun a b => br_f (by decide) (xw_within y.toInt (-m) m (zI_of y) hN hM (zI_rng y) (by omega) (by omega) (fun c d => br_f (by decide) (xw_within z.toInt (-m) m (zI_of z) hN hM (zI_rng z) (by omega) (by omega) (fun e f => br_f (by decide) (h1 ⟨a, b⟩ ⟨c, d⟩ ⟨e, f⟩)) (fun e => br_t rfl (h0 ?_)))) (fun c => br_t rfl (h0 ?_)))) (fun a => br_t rfl (h0 ?_))
  · omega
  · omega
  · omega
theorem yw_all {x y z M : Int32} (m : Int) (hM : M = zI_ m) (m0 : 0 ≤ m ∧ m ≤ 1000) (P0 P1 : Prop) (h1 : (-m ≤ x.toInt ∧ x.toInt ≤ m) → (-m ≤ y.toInt ∧ y.toInt ≤ m) → (-m ≤ z.toInt ∧ z.toInt ≤ m) → P1)
    (h0 : ¬ ((-m ≤ x.toInt ∧ x.toInt ≤ m) ∧ (-m ≤ y.toInt ∧ y.toInt ≤ m) ∧ (-m ≤ z.toInt ∧ z.toInt ≤ m)) → P0) :
    wpY_far (fun r => (r = 0 → wpY_far (fun r => (r = 0 → wpY_far (fun r => (r = 0 → P1) ∧ (¬ r = 0 → P0)) (nI n, f1, f2, f3, f4, C, E, S, D, A, B) z M) ∧ (¬ r = 0 → P0)) (nI n, f1, f2, f3, f4, C, E, S, D, A, B) y M) ∧ (¬ r = 0 → P0)) (nI n, f1, f2, f3, f4, C, E, S, D, A, B) x M := by
  refine yw_far m hM m0 (fun a b => br_t rfl (yw_far m hM m0 (fun c d => br_t rfl (yw_far m hM m0 (fun e f => br_t rfl (h1 ⟨a, b⟩ ⟨c, d⟩ ⟨e, f⟩)) (fun e => br_f (by decide) (h0 ?_)))) (fun c => br_f (by decide) (h0 ?_)))) (fun a => br_f (by decide) (h0 ?_))
  · omega
  · omega
  · omega
theorem xw_append {post : SX → Prop} {c e : Int32} (hn : n < 14) (h : post (nI (n + 1), T, upd C n c, upd E n e, S, D, K)) : wpX_append post (nI n, T, C, E, S, D, K) c e := by
  have hv : vp_in (nI n) 14 := vp_in_nI hn (by omega)
  have cl : (nI n).toNatClampNeg = n := nI_clamp (by omega)
  exact And.intro hv (nm_r (congrArg (fun j => upd C j c) cl) ⟨hv, nm_r (congrArg (fun j => upd E j e) cl) (nm_r (nI_1 n) h)⟩)
theorem yw_add {post : Int32 → SY → Prop} {c e : Int32} (hc : 0 ≤ c.toInt ∧ c.toInt ≤ 32767) (he : 0 ≤ e.toInt ∧ e.toInt ≤ 32767) (hn : n ≤ 14) (h1 : n < 14 → post (nI n) (nI (n + 1), f1, f2, f3, f4, upd C n c, upd E n e, S, D, A, B)) (h0 : n = 14 → post (-3) (nI n, f1, f2, f3, f4, C, E, S, D, A, B)) : wpY_add post (nI n, f1, f2, f3, f4, C, E, S, D, A, B) c e := by
  have cl : (nI n).toNatClampNeg = n := nI_clamp (by omega)
  unfold wpY_add
  dsimp only
  refine yw_trip (fun _ _ => br_t rfl (yw_trip (fun _ _ => br_t rfl (pk_le n 13 (fun q => ?_) (fun q => h0 (by omega)))) (fun q => absurd q (by omega)))) (fun q => absurd q (by omega))
  have hv : vp_in (nI n) 14 := vp_in_nI (by omega) (by omega)
  exact ⟨hv, nm_r (congrArg (fun j => upd C j c) cl) ⟨hv, nm_r (congrArg (fun j => upd E j e) cl) (nm_r (nI_1 n) (h1 (by omega)))⟩⟩
end
theorem i_vc0 : wpX_init (fun u => wpY_init (fun v => i_Rel 0 u v)) := by
  unfold wpX_init
  refine xw_head (n := 0) (by decide) (by decide) (by decide) (nm_e ?_)
  have e : upd (fun _ => (0 : Int32)) 0 1 = gm_u3 (fun _ => 0) 1 0 0 := by
    funext j
    unfold gm_u3 upd
    by_cases h1 : j = 1
    · subst h1; rfl
    · by_cases h2 : j = 2
      · subst h2; rfl
      · rw [if_neg h2, if_neg h1]
  rw [e]
  exact ir_mk (by omega) gm_pk0 gm_pk0 (gm_ray_D (fun _ _ => (by decide : -100 ≤ (0 : Int32).toInt ∧ (0 : Int32).toInt ≤ 100)) (by decide) (by decide) (by decide) (Or.inl (by decide)))
theorem i_vc_add {k : Nat} {u : SX} {v : SY} (I : i_Rel k u v) (hk : k + 4 ≤ 2048) (v1 : Int32) (v2 : Int32) : wpX_add (fun r u' => wpY_add (fun r' v' => r' = r ∧ i_Rel (k + 4) u' v') v v1 v2) u v1 v2 := by
  obtain ⟨n, T, f1, f2, f3, f4, C, E, S, D, K, A, B, rfl, rfl, hn, hC, hE, hr⟩ := I
  unfold wpX_add
  dsimp only
  refine xw_packed (fun a b => br_f (by decide) (xw_packed (fun c d => br_f (by decide) (pk_lt n 14 (fun q => xw_append q ?_) (fun q => ?_))) (fun c => br_t rfl ?_))) (fun a => br_t rfl ?_)
  · refine yw_add ⟨a, b⟩ ⟨c, d⟩ hn (fun _ => ⟨?_, ir_mk (by omega) (gm_pku hC n ⟨a, b⟩) (gm_pku hE n ⟨c, d⟩) hr⟩) (fun z => absurd z (by omega))
    exact (nI_pred n).symm
  · exact yw_add ⟨a, b⟩ ⟨c, d⟩ hn (fun z => absurd z (by omega)) (fun z => ⟨rfl, ir_mk hn hC hE hr⟩)
  · unfold wpY_add
    dsimp only
    exact yw_trip (fun _ _ => br_t rfl (yw_trip (fun _ _ => absurd c (by omega)) (fun _ => br_f (by decide) ⟨rfl, ir_mk hn hC hE hr⟩))) (fun q => absurd q (by omega))
  · unfold wpY_add
    dsimp only
    exact yw_trip (fun _ _ => absurd a (by omega)) (fun _ => br_f (by decide) ⟨rfl, ir_mk hn hC hE hr⟩)
theorem i_vc_move {k : Nat} {u : SX} {v : SY} (I : i_Rel k u v) (hk : k + 4 ≤ 2048) (v1 : Int32) (v2 : Int32) : wpX_move (fun r u' => wpY_move (fun r' v' => r' = r ∧ i_Rel (k + 4) u' v') v v1 v2) u v1 v2 := by
  obtain ⟨n, T, f1, f2, f3, f4, C, E, S, D, K, A, B, rfl, rfl, hn, hC, hE, hr⟩ := I
  unfold wpX_move wpY_move
  dsimp only
  have bad : (v1 < 0 ∨ nI n ≤ v1) ∨ ∃ j : Nat, j < n ∧ v1 = nI j := by
    rcases pk_ix v1 (n := n) (by omega) with h | h | h
    · exact Or.inl (Or.inl h)
    · exact Or.inl (Or.inr h)
    · exact Or.inr h
  rcases bad with h | ⟨j, hj, rfl⟩
  · exact xw_good_f h (br_t rfl (yw_bad_t h (br_f (by decide) ⟨rfl, ir_mk hn hC hE hr⟩)))
  · have hv : vp_in (nI j) 14 := vp_in_nI (by omega) (by omega)
    have cl : (nI j).toNatClampNeg = j := nI_clamp (by omega)
    rw [cl]
    refine xw_good_t hj hn (br_f (by decide) (xw_packed (fun a b => br_f (by decide) ⟨hv, nm_e ⟨hv, nm_e (yw_bad_f hj hn (br_t rfl (yw_trip (fun _ _ => br_t rfl ⟨hv, nm_e ⟨hv, nm_e ⟨rfl, ir_mk hn (gm_pku hC j ⟨a, b⟩) hE hr⟩⟩⟩) (fun q => absurd q (by omega)))))⟩⟩) (fun a => br_t rfl ?_)))
    exact yw_bad_f hj hn (br_t rfl (yw_trip (fun _ _ => absurd a (by omega)) (fun _ => br_f (by decide) ⟨rfl, ir_mk hn hC hE hr⟩)))
theorem i_vc_origin {k : Nat} {u : SX} {v : SY} (I : i_Rel k u v) (hk : k + 4 ≤ 2048) (v1 : Int32) (v2 : Int32) (v3 : Int32) : wpX_origin (fun r u' => wpY_origin (fun r' v' => r' = r ∧ i_Rel (k + 4) u' v') v v1 v2 v3) u v1 v2 v3 := by
  obtain ⟨n, T, f1, f2, f3, f4, C, E, S, D, K, A, B, rfl, rfl, hn, hC, hE, hr⟩ := I
  unfold wpX_origin wpY_origin
  dsimp only
  refine xw_all 100 (by decide) (by omega) (fun a b c => br_f (by decide) (nm_e (nm_e (nm_e ?_)))) (fun a => br_t rfl ?_)
  · exact yw_all 100 (by decide) (by omega) _ _ (fun _ _ _ => nm_e (nm_e (nm_e ⟨rfl, ir_mk hn hC hE (gm_ray_S hr a b c)⟩))) (fun q => absurd ⟨a, b, c⟩ q)
  · exact yw_all 100 (by decide) (by omega) _ _ (fun b c d => absurd ⟨b, c, d⟩ a) (fun _ => ⟨rfl, ir_mk hn hC hE hr⟩)
theorem i_vc_direction {k : Nat} {u : SX} {v : SY} (I : i_Rel k u v) (hk : k + 4 ≤ 2048) (v1 : Int32) (v2 : Int32) (v3 : Int32) : wpX_direction (fun r u' => wpY_direction (fun r' v' => r' = r ∧ i_Rel (k + 4) u' v') v v1 v2 v3) u v1 v2 v3 := by
  obtain ⟨n, T, f1, f2, f3, f4, C, E, S, D, K, A, B, rfl, rfl, hn, hC, hE, hr⟩ := I
  unfold wpX_direction wpY_direction
  dsimp only
  have z : ∀ x : Int32, ¬ x = 0 → x.toInt ≠ 0 := fun x hx q => hx (Int32.toInt_inj.mp q)
  refine xw_all 20 (by decide) (by omega) (fun a b c => br_f (by decide) ?_) (fun a => br_t rfl ?_)
  · by_cases z1 : v1 = 0
    · refine br_t z1 ?_
      by_cases z2 : v2 = 0
      · refine br_t z2 ?_
        by_cases z3 : v3 = 0
        · refine br_t z3 ?_
          exact yw_all 20 (by decide) (by omega) _ _ (fun _ _ _ => br_t z1 (br_t z2 (br_t z3 ⟨rfl, ir_mk hn hC hE hr⟩))) (fun q => absurd ⟨a, b, c⟩ q)
        · refine br_f z3 (xw_head a b c ?_)
          exact yw_all 20 (by decide) (by omega) _ _ (fun _ _ _ => br_t z1 (br_t z2 (br_f z3 (nm_e (nm_e (nm_e ⟨rfl, ir_mk hn hC hE (gm_ray_D hr.1 a b c (Or.inr (Or.inr (z _ z3))))⟩)))))) (fun q => absurd ⟨a, b, c⟩ q)
      · refine br_f z2 (xw_head a b c ?_)
        exact yw_all 20 (by decide) (by omega) _ _ (fun _ _ _ => br_t z1 (br_f z2 (nm_e (nm_e (nm_e ⟨rfl, ir_mk hn hC hE (gm_ray_D hr.1 a b c (Or.inr (Or.inl (z _ z2))))⟩))))) (fun q => absurd ⟨a, b, c⟩ q)
    · refine br_f z1 (xw_head a b c ?_)
      exact yw_all 20 (by decide) (by omega) _ _ (fun _ _ _ => br_f z1 (nm_e (nm_e (nm_e ⟨rfl, ir_mk hn hC hE (gm_ray_D hr.1 a b c (Or.inl (z _ z1)))⟩)))) (fun q => absurd ⟨a, b, c⟩ q)
  · exact yw_all 20 (by decide) (by omega) _ _ (fun b c d => absurd ⟨b, c, d⟩ a) (fun _ => ⟨rfl, ir_mk hn hC hE hr⟩)
theorem i_vc_boxes {k : Nat} {u : SX} {v : SY} (I : i_Rel k u v) (hk : k + 4 ≤ 2048) : wpX_boxes (fun r => wpY_boxes (fun r' => r' = r ∧ i_Rel (k + 4) u v) v) u := by
  obtain ⟨n, T, f1, f2, f3, f4, C, E, S, D, K, A, B, rfl, rfl, hn, hC, hE, hr⟩ := I
  exact And.intro rfl (ir_mk hn hC hE hr)
