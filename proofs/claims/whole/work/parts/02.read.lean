def hk_cn (f : Nat → Bool) : Nat → Nat
  | 0 => 0
  | n + 1 => hk_cn f n + (if f n = true then 1 else 0)
theorem hk_cns {f : Nat → Bool} {n : Nat} : hk_cn f (n + 1) = hk_cn f n + (if f n = true then 1 else 0) := rfl
theorem hk_cnt {f : Nat → Bool} {n : Nat} (h : f n = true) : hk_cn f (n + 1) = hk_cn f n + 1 := by rw [hk_cns, if_pos h]
theorem hk_cnf {f : Nat → Bool} {n : Nat} (h : ¬ f n = true) : hk_cn f (n + 1) = hk_cn f n := by rw [hk_cns, if_neg h]; rfl
theorem hk_cnle (f : Nat → Bool) : ∀ n, hk_cn f n ≤ n
  | 0 => Nat.le_refl 0
  | n + 1 => by
    have := hk_cnle f n
    rw [hk_cns]
    by_cases h : f n = true
    · rw [if_pos h]; omega
    · rw [if_neg h]; omega
theorem hk_cnlt (f : Nat → Bool) : ∀ n, hk_cn f n < n → ∃ i, i < n ∧ f i = false
  | 0, h => absurd h (Nat.not_lt_zero _)
  | n + 1, h => by
    by_cases hf : f n = true
    · rw [hk_cnt hf] at h
      obtain ⟨i, hi, e⟩ := hk_cnlt f n (by omega)
      exact ⟨i, by omega, e⟩
    · exact ⟨n, by omega, by simpa using hf⟩
theorem hk_cnpos (f : Nat → Bool) : ∀ n, 0 < hk_cn f n → ∃ i, i < n ∧ f i = true
  | 0, h => absurd h (Nat.not_lt_zero _)
  | n + 1, h => by
    by_cases hf : f n = true
    · exact ⟨n, by omega, hf⟩
    · rw [hk_cnf hf] at h
      obtain ⟨i, hi, e⟩ := hk_cnpos f n h
      exact ⟨i, by omega, e⟩
theorem hk_cn0 (f : Nat → Bool) : ∀ n, hk_cn f n = 0 → ∀ i, i < n → f i = false
  | 0, _, i, hi => absurd hi (Nat.not_lt_zero _)
  | n + 1, h, i, hi => by
    by_cases hf : f n = true
    · rw [hk_cnt hf] at h; omega
    · rw [hk_cnf hf] at h
      by_cases e : i = n
      · subst e; simpa using hf
      · exact hk_cn0 f n h i (by omega)
theorem hk_cneq (f g : Nat → Bool) : ∀ n, (∀ i, i < n → f i = g i) → hk_cn f n = hk_cn g n
  | 0, _ => rfl
  | n + 1, h => by rw [hk_cns, hk_cns, h n (by omega), hk_cneq f g n (fun i hi => h i (by omega))]
theorem hk_cnup (f g : Nat → Bool) (o : Nat) (h1 : f o = false) (h2 : g o = true) (h : ∀ i, i ≠ o → f i = g i) : ∀ n, o < n → hk_cn g n = hk_cn f n + 1
  | 0, z => absurd z (Nat.not_lt_zero _)
  | n + 1, z => by
    by_cases e : o = n
    · subst e
      rw [hk_cnt h2, hk_cnf (by rw [h1]; decide), hk_cneq f g o (fun i hi => h i (by omega))]
    · rw [hk_cns, hk_cns, hk_cnup f g o h1 h2 h n (by omega), h n (by omega)]
      omega
/-- a live slot; a free place -/
def hk_lv (K : Nat → Int32) : Nat → Bool := fun i => decide (K i ≠ -1)
def hk_fp (H : Nat → Int32) (a : Nat) : Nat → Bool := fun j => decide (H (a * 10 + j) = -1)

section
variable {md : Int32} {w : Nat} {K N S P O C U G H R xw mv co cr xp pk pn ps wo wb wp wk : Nat → Int32} {E ow gv ga gb yw vv f1 r1 f2 r2 yp qk qn qs zo zb zp zk : Nat → Int32}
theorem hk_xr1 {post : Int32 → Prop} {a : Nat} (ha : a < 4) (hu : U a ≠ 0) (h : post 1) : wpX_runs post (md, nI w, K, N, S, P, O, C, U, G, H, R, xw, mv, co, cr, xp, pk, pn, ps, wo, wb, wp, wk) (nI a) :=
  br_f (nI_pos (by omega)) (br_f (nI_ge (b := 4) ha (by decide)) ⟨vp_in_nI ha (by decide), br_f (by rw [nI_clamp (by omega)]; exact hu) h⟩)
theorem hk_xr0 {post : Int32 → Prop} {p : Int32} (hn : ¬ hk_run U p) (h : post 0) : wpX_runs post (md, nI w, K, N, S, P, O, C, U, G, H, R, xw, mv, co, cr, xp, pk, pn, ps, wo, wb, wp, wk) p := by
  rcases pk_ix p (n := 4) (by decide) with h1 | h1 | ⟨a, ha, rfl⟩
  · exact br_t h1 h
  · exact br_f (Int32.not_lt.mpr (Int32.le_trans (by decide) h1)) (br_t h1 h)
  · refine br_f (nI_pos (by omega)) (br_f (nI_ge (b := 4) ha (by decide)) ⟨vp_in_nI ha (by decide), br_t ?_ h⟩)
    rw [nI_clamp (by omega)]
    exact Classical.byContradiction fun z => hn ⟨a, ha, rfl, z⟩
theorem hk_in1 {post : Int32 → Prop} {j n : Nat} (h : j ≤ n) (hn : n < 2 ^ 31) (hp : post 1) : wpY_in post (nI j) 0 (nI n) :=
  br_f (nI_pos (by omega)) (br_f (nI_nlt h hn) hp)
theorem hk_in0 {post : Int32 → Prop} {x : Int32} {n : Nat} (hx : x < 0 ∨ nI (n + 1) ≤ x) (hn : n + 1 < 2 ^ 31) (hp : post 0) : wpY_in post x 0 (nI n) := by
  rcases hx with h | h
  · exact br_t h hp
  · have h2 : nI n < x := Int32.lt_of_lt_of_le (nI_lt (by omega) hn) h
    exact br_f (Int32.not_lt.mpr (Int32.le_trans (nI_pos' hn) h)) (br_t h2 hp)
theorem hk_yr1 {post : Int32 → Prop} {a : Nat} (ha : a < 4) (hu : U a ≠ 0) (h : post 1) : wpY_isRunning post (md, nI w, K, N, E, P, ow, C, H, R, U, gv, ga, gb, yw, vv, f1, r1, f2, r2, yp, qk, qn, qs, zo, zb, zp, zk) (nI a) := by
  unfold wpY_isRunning
  exact hk_in1 (n := 3) (by omega) (by decide) (br_f (by decide) ⟨vp_in_nI ha (by decide), br_f (by rw [nI_clamp (by omega)]; exact hu) h⟩)
theorem hk_yr0 {post : Int32 → Prop} {p : Int32} (hn : ¬ hk_run U p) (h : post 0) : wpY_isRunning post (md, nI w, K, N, E, P, ow, C, H, R, U, gv, ga, gb, yw, vv, f1, r1, f2, r2, yp, qk, qn, qs, zo, zb, zp, zk) p := by
  unfold wpY_isRunning
  rcases pk_ix p (n := 4) (by decide) with h1 | h1 | ⟨a, ha, rfl⟩
  · exact hk_in0 (n := 3) (Or.inl h1) (by decide) (br_t rfl h)
  · exact hk_in0 (n := 3) (Or.inr h1) (by decide) (br_t rfl h)
  · refine hk_in1 (n := 3) (by omega) (by decide) (br_f (by decide) ⟨vp_in_nI ha (by decide), br_t ?_ h⟩)
    rw [nI_clamp (by omega)]
    exact Classical.byContradiction fun z => hn ⟨a, ha, rfl, z⟩
theorem hk_th1 (hK : hk_K K) (hH : hk_H K H) {a : Nat} (ha : a < 4) (hu : U a ≠ 0) (h k rt : Int32) (hk : k = -1 ∨ ¬ k < 0) : ∃ r : Int32, (∀ post : Int32 → Prop, post r → wpX_testHandle post (md, nI w, K, N, S, P, O, C, U, G, H, R, xw, mv, co, cr, xp, pk, pn, ps, wo, wb, wp, wk) (nI a) h k rt) ∧ (∀ post : Int32 → Prop, post r → wpY_test post (md, nI w, K, N, E, P, ow, C, H, R, U, gv, ga, gb, yw, vv, f1, r1, f2, r2, yp, qk, qn, qs, zo, zb, zp, zk) (nI a) h k rt) ∧ (r = 0 → ∃ b o : Nat, b < 10 ∧ o < 16 ∧ h = nI b ∧ H (a * 10 + b) = nI o ∧ K o ≠ -1 ∧ (k = -1 ∨ K o = k)) := by
  rcases pk_ix h (n := 10) (by decide) with h1 | h1 | ⟨b, hb, rfl⟩
  · refine ⟨-2, fun post hp => ?_, fun post hp => ?_, fun z => absurd z (by decide)⟩
    · unfold wpX_testHandle
      exact hk_xr1 ha hu (br_f (by decide) (br_t h1 hp))
    · unfold wpY_test
      exact hk_in0 (n := 9) (Or.inl h1) (by decide) (br_t rfl hp)
  · refine ⟨-2, fun post hp => ?_, fun post hp => ?_, fun z => absurd z (by decide)⟩
    · unfold wpX_testHandle
      exact hk_xr1 ha hu (br_f (by decide) (br_f (Int32.not_lt.mpr (Int32.le_trans (by decide) h1)) (br_f (Int32.not_lt.mpr h1) hp)))
    · unfold wpY_test
      exact hk_in0 (n := 9) (Or.inr h1) (by decide) (br_t rfl hp)
  · have hlt : a * 10 + b < 40 := by omega
    have hc : (nI (a * 10 + b)).toNatClampNeg = a * 10 + b := nI_clamp (by omega)
    have hv : vp_in (nI (a * 10 + b)) 40 := vp_in_nI hlt (by decide)
    have hb0 : ¬ nI b < 0 := nI_pos (by omega)
    have hb1 : nI b < 10 := nI_lt (b := 10) hb (by decide)
    rcases hH (a * 10 + b) hlt with e | ⟨o, ho, e, hko⟩
    · refine ⟨-2, fun post hp => ?_, fun post hp => ?_, fun z => absurd z (by decide)⟩
      · unfold wpX_testHandle
        exact hk_xr1 ha hu (br_f (by decide) (br_f hb0 (br_t hb1 (nm_r (hk_m10 a b) ⟨hv, br_t (by rw [hc]; exact e) hp⟩))))
      · unfold wpY_test
        refine hk_in1 (n := 9) (by omega) (by decide) (br_f (by decide) ?_)
        rw [hk_10m, hc, e]
        exact ⟨hv, br_f (by decide) hp⟩
    · have hne : ¬ H (a * 10 + b) = -1 := by rw [e]; exact hk_ne o (by omega)
      have hge : 0 ≤ H (a * 10 + b) := by rw [e]; exact nI_pos' (by omega)
      have hvo : vp_in (H (a * 10 + b)) 16 := by rw [e]; exact vp_in_nI ho (by decide)
      have hco : (H (a * 10 + b)).toNatClampNeg = o := by rw [e]; exact nI_clamp (by omega)
      have X0 : ∀ post : Int32 → Prop, ((k = -1 → wX_testHandle_69 post rt (nI (a * 10 + b)) md (nI w) K N S P O C U G H R xw mv co cr xp pk pn ps wo wb wp wk) ∧ (¬ k = -1 → (K o = k → wX_testHandle_69 post rt (nI (a * 10 + b)) md (nI w) K N S P O C U G H R xw mv co cr xp pk pn ps wo wb wp wk) ∧ (¬ K o = k → post (-3)))) → wpX_testHandle post (md, nI w, K, N, S, P, O, C, U, G, H, R, xw, mv, co, cr, xp, pk, pn, ps, wo, wb, wp, wk) (nI a) (nI b) k rt := by
        intro post hp
        unfold wpX_testHandle
        refine hk_xr1 ha hu (br_f (by decide) (br_f hb0 (br_t hb1 (nm_r (hk_m10 a b) ⟨hv, br_f (by rw [hc]; exact hne) ?_⟩))))
        refine ⟨hp.1, fun z => ⟨hv, ?_⟩⟩
        rw [hc, hco]
        exact ⟨hvo, hp.2 z⟩
      have Y0 : ∀ post : Int32 → Prop, ((k < 0 → wY_test_58 post rt (nI (a * 10 + b)) md (nI w) K N E P ow C H R U gv ga gb yw vv f1 r1 f2 r2 yp qk qn qs zo zb zp zk) ∧ (¬ k < 0 → (K o = k → wY_test_58 post rt (nI (a * 10 + b)) md (nI w) K N E P ow C H R U gv ga gb yw vv f1 r1 f2 r2 yp qk qn qs zo zb zp zk) ∧ (¬ K o = k → post (-3)))) → wpY_test post (md, nI w, K, N, E, P, ow, C, H, R, U, gv, ga, gb, yw, vv, f1, r1, f2, r2, yp, qk, qn, qs, zo, zb, zp, zk) (nI a) (nI b) k rt := by
        intro post hp
        unfold wpY_test
        refine hk_in1 (n := 9) (by omega) (by decide) (br_f (by decide) ?_)
        rw [hk_10m, hc]
        refine ⟨hv, br_t hge (nm_e ?_)⟩
        refine ⟨hp.1, fun z => ⟨hv, ?_⟩⟩
        rw [hc, hco]
        exact ⟨hvo, hp.2 z⟩
      have fin : (k = -1 ∨ K o = k) → ∃ b' o' : Nat, b' < 10 ∧ o' < 16 ∧ nI b = nI b' ∧ H (a * 10 + b') = nI o' ∧ K o' ≠ -1 ∧ (k = -1 ∨ K o' = k) := fun z => ⟨b, o, hb, ho, rfl, e, hko, z⟩
      by_cases hr : R (a * 10 + b) &&& rt = rt
      · have x1 : ∀ post : Int32 → Prop, post 0 → wX_testHandle_69 post rt (nI (a * 10 + b)) md (nI w) K N S P O C U G H R xw mv co cr xp pk pn ps wo wb wp wk := fun post hp => ⟨hv, br_t (by rw [hc]; exact hr) hp⟩
        have y1 : ∀ post : Int32 → Prop, post 0 → wY_test_58 post rt (nI (a * 10 + b)) md (nI w) K N E P ow C H R U gv ga gb yw vv f1 r1 f2 r2 yp qk qn qs zo zb zp zk := fun post hp => ⟨hv, br_t (by rw [hc]; exact hr) hp⟩
        rcases hk with rfl | hk
        · exact ⟨0, fun post hp => X0 post (br_t rfl (x1 post hp)), fun post hp => Y0 post (br_t (by decide) (y1 post hp)), fun _ => fin (Or.inl rfl)⟩
        · by_cases hkk : K o = k
          · exact ⟨0, fun post hp => X0 post (br_f (fun z => hk (hk_nn z)) (br_t hkk (x1 post hp))), fun post hp => Y0 post (br_f hk (br_t hkk (y1 post hp))), fun _ => fin (Or.inr hkk)⟩
          · exact ⟨-3, fun post hp => X0 post (br_f (fun z => hk (hk_nn z)) (br_f hkk hp)), fun post hp => Y0 post (br_f hk (br_f hkk hp)), fun z => absurd z (by decide)⟩
      · have x1 : ∀ post : Int32 → Prop, post (-4) → wX_testHandle_69 post rt (nI (a * 10 + b)) md (nI w) K N S P O C U G H R xw mv co cr xp pk pn ps wo wb wp wk := fun post hp => ⟨hv, br_f (by rw [hc]; exact hr) hp⟩
        have y1 : ∀ post : Int32 → Prop, post (-4) → wY_test_58 post rt (nI (a * 10 + b)) md (nI w) K N E P ow C H R U gv ga gb yw vv f1 r1 f2 r2 yp qk qn qs zo zb zp zk := fun post hp => ⟨hv, br_f (by rw [hc]; exact hr) hp⟩
        rcases hk with rfl | hk
        · exact ⟨-4, fun post hp => X0 post (br_t rfl (x1 post hp)), fun post hp => Y0 post (br_t (by decide) (y1 post hp)), fun z => absurd z (by decide)⟩
        · by_cases hkk : K o = k
          · exact ⟨-4, fun post hp => X0 post (br_f (fun z => hk (hk_nn z)) (br_t hkk (x1 post hp))), fun post hp => Y0 post (br_f hk (br_t hkk (y1 post hp))), fun z => absurd z (by decide)⟩
          · exact ⟨-3, fun post hp => X0 post (br_f (fun z => hk (hk_nn z)) (br_f hkk hp)), fun post hp => Y0 post (br_f hk (br_f hkk hp)), fun z => absurd z (by decide)⟩
theorem hk_th (hK : hk_K K) (hH : hk_H K H) (p h k rt : Int32) (hk : k = -1 ∨ ¬ k < 0) : ∃ r : Int32, (∀ post : Int32 → Prop, post r → wpX_testHandle post (md, nI w, K, N, S, P, O, C, U, G, H, R, xw, mv, co, cr, xp, pk, pn, ps, wo, wb, wp, wk) p h k rt) ∧ (∀ post : Int32 → Prop, post r → wpY_check post (md, nI w, K, N, E, P, ow, C, H, R, U, gv, ga, gb, yw, vv, f1, r1, f2, r2, yp, qk, qn, qs, zo, zb, zp, zk) p h k rt) ∧ (r = 0 → ∃ a b o : Nat, a < 4 ∧ b < 10 ∧ o < 16 ∧ p = nI a ∧ h = nI b ∧ U a ≠ 0 ∧ H (a * 10 + b) = nI o ∧ K o ≠ -1 ∧ (k = -1 ∨ K o = k)) := by
  by_cases hr : hk_run U p
  · obtain ⟨a, ha, rfl, hu⟩ := hr
    obtain ⟨r, h1, h2, h3⟩ := hk_th1 (md := md) (K := K) (N := N) (S := S) (P := P) (O := O) (C := C) (U := U) (G := G) (H := H) (R := R) (xw := xw) (mv := mv) (co := co) (cr := cr) (xp := xp) (pk := pk) (pn := pn) (ps := ps) (wo := wo) (wb := wb) (wp := wp) (wk := wk) (E := E) (ow := ow) (gv := gv) (ga := ga) (gb := gb) (yw := yw) (vv := vv) (f1 := f1) (r1 := r1) (f2 := f2) (r2 := r2) (yp := yp) (qk := qk) (qn := qn) (qs := qs) (zo := zo) (zb := zb) (zp := zp) (zk := zk) (w := w) hK hH ha hu h k rt hk
    refine ⟨r, h1, fun post hp => ?_, fun z => ?_⟩
    · unfold wpY_check
      exact hk_yr1 ha hu (br_f (by decide) (h2 _ hp))
    · obtain ⟨b, o, hb, ho, e1, e2, e3, e4⟩ := h3 z
      exact ⟨a, b, o, ha, hb, ho, rfl, e1, hu, e2, e3, e4⟩
  · refine ⟨-1, fun post hp => ?_, fun post hp => ?_, fun z => absurd z (by decide)⟩
    · unfold wpX_testHandle
      exact hk_xr0 hr (br_t rfl hp)
    · unfold wpY_check
      exact hk_yr0 hr (br_t rfl hp)
theorem hk_xcnt : ∀ d j, j + d = 16 → ∀ post : Int32 → Prop, post (nI (hk_cn (hk_lv K) 16)) → wX_objectCount_4 post md (nI w) K N S P O C U G H R xw mv co cr xp pk pn ps wo wb wp wk (d + 1) (nI (hk_cn (hk_lv K) j)) (nI j) := by
  intro d
  induction d with
  | zero =>
    intro j hj post hp
    obtain rfl : j = 16 := by omega
    exact br_t (nI_le (a := 16) (b := 16) (by omega) (by decide)) hp
  | succ d ih =>
    intro j hj post hp
    have hc : (nI j).toNatClampNeg = j := nI_clamp (by omega)
    refine br_f (nI_ge (b := 16) (by omega) (by decide)) ⟨vp_in_nI (by omega) (by decide), ?_⟩
    by_cases z : K j = -1
    · refine br_t (by rw [hc]; exact z) (nm_r (nI_1 j) ?_)
      have := ih (j + 1) (by omega) post hp
      rw [hk_cnf (by simp [hk_lv, z])] at this
      exact this
    · refine br_f (by rw [hc]; exact z) (nm_r (nI_1 _) (nm_r (nI_1 j) ?_))
      have := ih (j + 1) (by omega) post hp
      rw [hk_cnt (by simp [hk_lv, z])] at this
      exact this
theorem hk_xoc {post : Int32 → Prop} (hp : post (nI (hk_cn (hk_lv K) 16))) : wpX_objectCount post (md, nI w, K, N, S, P, O, C, U, G, H, R, xw, mv, co, cr, xp, pk, pn, ps, wo, wb, wp, wk) := ⟨17, hk_xcnt 16 0 rfl post hp⟩
theorem hk_ycnt (hK : hk_K K) : ∀ d j, j + d = 16 → ∀ post : Int32 → Prop, post (nI (hk_cn (hk_lv K) 16)) → wY_objects_4 post md (nI w) K N E P ow C H R U gv ga gb yw vv f1 r1 f2 r2 yp qk qn qs zo zb zp zk (d + 1) (nI (hk_cn (hk_lv K) j)) (nI j) := by
  intro d
  induction d with
  | zero =>
    intro j hj post hp
    obtain rfl : j = 16 := by omega
    exact br_t (nI_le (a := 16) (b := 16) (by omega) (by decide)) hp
  | succ d ih =>
    intro j hj post hp
    have hc : (nI j).toNatClampNeg = j := nI_clamp (by omega)
    refine br_f (nI_ge (b := 16) (by omega) (by decide)) ⟨vp_in_nI (by omega) (by decide), ?_⟩
    by_cases z : K j = -1
    · refine br_t (by rw [hc, z]; decide) (nm_r (nI_1 j) ?_)
      have := ih (j + 1) (by omega) post hp
      rw [hk_cnf (by simp [hk_lv, z])] at this
      exact this
    · refine br_f (by rw [hc]; exact hk_kdn (hK j (by omega)) z) (nm_r (nI_1 _) (nm_r (nI_1 j) ?_))
      have := ih (j + 1) (by omega) post hp
      rw [hk_cnt (by simp [hk_lv, z])] at this
      exact this
theorem hk_yoc (hK : hk_K K) {post : Int32 → Prop} (hp : post (nI (hk_cn (hk_lv K) 16))) : wpY_objects post (md, nI w, K, N, E, P, ow, C, H, R, U, gv, ga, gb, yw, vv, f1, r1, f2, r2, yp, qk, qn, qs, zo, zb, zp, zk) := ⟨17, hk_ycnt hK 16 0 rfl post hp⟩
theorem hk_xfpl {a : Nat} (ha : a < 4) : ∀ d j, j + d = 10 → ∀ post : Int32 → Prop, post (nI (hk_cn (hk_fp H a) 10)) → wX_freePlaceCount_4 post (nI a) md (nI w) K N S P O C U G H R xw mv co cr xp pk pn ps wo wb wp wk (d + 1) (nI (hk_cn (hk_fp H a) j)) (nI j) := by
  intro d
  induction d with
  | zero =>
    intro j hj post hp
    obtain rfl : j = 10 := by omega
    exact br_t (nI_le (a := 10) (b := 10) (by omega) (by decide)) hp
  | succ d ih =>
    intro j hj post hp
    have hc : (nI a * 10 + nI j).toNatClampNeg = a * 10 + j := by rw [hk_m10]; exact nI_clamp (by omega)
    refine br_f (nI_ge (b := 10) (by omega) (by decide)) ⟨by rw [hk_m10]; exact vp_in_nI (by omega) (by decide), ?_⟩
    by_cases z : H (a * 10 + j) = -1
    · refine br_t (by rw [hc]; exact z) (nm_r (nI_1 _) (nm_r (nI_1 j) ?_))
      have := ih (j + 1) (by omega) post hp
      rw [hk_cnt (by simp [hk_fp, z])] at this
      exact this
    · refine br_f (by rw [hc]; exact z) (nm_r (nI_1 j) ?_)
      have := ih (j + 1) (by omega) post hp
      rw [hk_cnf (by simp [hk_fp, z])] at this
      exact this
theorem hk_xfc {a : Nat} (ha : a < 4) {post : Int32 → Prop} (hp : post (nI (hk_cn (hk_fp H a) 10))) : wpX_freePlaceCount post (md, nI w, K, N, S, P, O, C, U, G, H, R, xw, mv, co, cr, xp, pk, pn, ps, wo, wb, wp, wk) (nI a) := ⟨11, hk_xfpl ha 10 0 rfl post hp⟩
theorem hk_yfpl (hH : hk_H K H) {a : Nat} (ha : a < 4) : ∀ d j, j + d = 10 → ∀ post : Int32 → Prop, post (nI (hk_cn (hk_fp H a) 10)) → wY_room_4 post (nI a) md (nI w) K N E P ow C H R U gv ga gb yw vv f1 r1 f2 r2 yp qk qn qs zo zb zp zk (d + 1) (nI (hk_cn (hk_fp H a) j)) (nI j) := by
  intro d
  induction d with
  | zero =>
    intro j hj post hp
    obtain rfl : j = 10 := by omega
    exact br_t (nI_le (a := 10) (b := 10) (by omega) (by decide)) hp
  | succ d ih =>
    intro j hj post hp
    have hc : (10 * nI a + nI j).toNatClampNeg = a * 10 + j := by rw [hk_10m]; exact nI_clamp (by omega)
    refine br_f (nI_ge (b := 10) (by omega) (by decide)) ⟨by rw [hk_10m]; exact vp_in_nI (by omega) (by decide), ?_⟩
    rcases hH (a * 10 + j) (by omega) with z | ⟨o, ho, e, -⟩
    · refine br_f (by rw [hc, z]; decide) (nm_r (nI_1 _) (nm_r (nI_1 j) ?_))
      have := ih (j + 1) (by omega) post hp
      rw [hk_cnt (by simp [hk_fp, z])] at this
      exact this
    · refine br_t (by rw [hc, e]; exact nI_pos' (by omega)) (nm_r (nI_1 j) ?_)
      have := ih (j + 1) (by omega) post hp
      rw [hk_cnf (by have := hk_ne o (by omega); simp [hk_fp, e, this])] at this
      exact this
theorem hk_yfc (hH : hk_H K H) {a : Nat} (ha : a < 4) {post : Int32 → Prop} (hp : post (nI (hk_cn (hk_fp H a) 10))) : wpY_room post (md, nI w, K, N, E, P, ow, C, H, R, U, gv, ga, gb, yw, vv, f1, r1, f2, r2, yp, qk, qn, qs, zo, zb, zp, zk) (nI a) := ⟨11, hk_yfpl hH ha 10 0 rfl post hp⟩
theorem hk_yob {a b : Nat} (ha : a < 4) (hb : b < 10) {post : Int32 → Prop} (hp : post (H (a * 10 + b))) : wpY_object post (md, nI w, K, N, E, P, ow, C, H, R, U, gv, ga, gb, yw, vv, f1, r1, f2, r2, yp, qk, qn, qs, zo, zb, zp, zk) (nI a) (nI b) := by
  unfold wpY_object
  dsimp only
  rw [hk_10m, nI_clamp (by omega)]
  exact ⟨vp_in_nI (by omega) (by decide), hp⟩
end
