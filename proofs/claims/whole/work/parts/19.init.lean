theorem hk_dhj (H : Nat → Int32) {a b c : Nat} (h1 : a ≤ b) (h2 : b ≤ c) : hk_dh (hk_dh H a b) b c = hk_dh H a c := by
  funext j
  unfold hk_dh
  by_cases z : b ≤ j ∧ j < c
  · rw [if_pos z, if_pos (by omega)]
  · rw [if_neg z]
    by_cases y : a ≤ j ∧ j < b
    · rw [if_pos y, if_pos (by omega)]
    · rw [if_neg y, if_neg (by omega)]
section
variable {md : Int32} {w : Nat} {K N S P O C U G H R xw mv co cr xp pk pn ps wo wb wp wk : Nat → Int32} {E ow gv ga gb yw vv f1 r1 f2 r2 yp qk qn qs zo zb zp zk : Nat → Int32}
theorem hk_i215 : ∀ d p (G gv ga gb : Nat → Int32), p + d = 4 → hk_G G gv ga gb → ∃ G' gv' ga' gb' : Nat → Int32, hk_G G' gv' ga' gb' ∧ (∀ post : SX → Prop, post (md, nI w, K, N, S, P, O, C, upd U 0 (vp_nar .boolean 1), G', hk_dh H 0 40, R, xw, mv, co, cr, xp, pk, pn, ps, wo, wb, wp, wk) → wX_init_215 post (d + 1) (nI p) md (nI w) K N S P O C U G (hk_dh H 0 (p * 10)) R xw mv co cr xp pk pn ps wo wb wp wk) ∧ (∀ (Hy : Nat → Int32) (post : SY → Prop), post (md, nI w, K, N, E, P, ow, C, Hy, R, upd U 0 (vp_nar .boolean 1), gv', ga', gb', yw, vv, f1, r1, f2, r2, yp, qk, qn, qs, zo, zb, zp, zk) → wY_init_253 post (d + 1) (nI p) md (nI w) K N E P ow C Hy R U gv ga gb yw vv f1 r1 f2 r2 yp qk qn qs zo zb zp zk) := by
  intro d
  induction d with
  | zero =>
    intro p G gv ga gb hp hG
    obtain rfl : p = 4 := by omega
    have h : (4 : Int32) ≤ nI 4 := nI_le (a := 4) (b := 4) (by omega) (by decide)
    exact ⟨G, gv, ga, gb, hG, fun post hp => br_t h (nm_e hp), fun _ post hp => br_t h (nm_e hp)⟩
  | succ d ih =>
    intro p G gv ga gb hp hG
    have h : ¬ (4 : Int32) ≤ nI p := nI_ge (b := 4) (by omega) (by decide)
    obtain ⟨G', gv', ga', gb', hG', hX, hY⟩ := ih (p + 1) _ _ _ _ (by omega) (hk_gG (a := p) (x := 0) (y := -1) (z := -1) hG)
    refine ⟨G', gv', ga', gb', hG', fun post hp => br_f h ?_, fun Hy post hp => br_f h ?_⟩
    · refine hk_xdh (p := p) (by omega) ?_
      refine hk_xfg (c := p) (by omega) ?_
      rw [hk_dhj H (by omega) (by omega)]
      refine nm_r (nI_1 p) ?_
      have := hX post hp
      rw [show (p + 1) * 10 = p * 10 + 10 by omega] at this
      exact this
    · refine hk_yfg (c := p) (by omega) ?_
      exact nm_r (nI_1 p) (hY Hy post hp)
theorem hk_x194 {post : SX → Prop} (hp : ∃ n, wX_init_215 post n 0 md (nI w) (hk_dh K 0 16) N S P O C U G H R xw mv co cr xp pk pn ps wo wb wp wk) : ∀ d j, j + d = 16 → wX_init_194 post md (nI w) (d + 1) (nI j) (hk_dh K 0 j) N S P O C U G H R xw mv co cr xp pk pn ps wo wb wp wk := by
  intro d
  induction d with
  | zero =>
    intro j hj
    obtain rfl : j = 16 := by omega
    exact br_t (nI_le (a := 16) (b := 16) (by omega) (by decide)) hp
  | succ d ih =>
    intro j hj
    have hc : (nI j).toNatClampNeg = j := nI_clamp (by omega)
    exact br_f (nI_ge (b := 16) (by omega) (by decide)) ⟨vp_in_nI (by omega) (by decide), nm_r ((hk_u hc).trans (hk_dhs K (by omega))) (nm_r (nI_1 j) (ih (j + 1) (by omega)))⟩
theorem hk_y232 {post : SY → Prop} (hp : ∃ n, wY_init_253 post n 0 md (nI w) K N E P ow C (hk_dh H 0 40) R U gv ga gb yw vv f1 r1 f2 r2 yp qk qn qs zo zb zp zk) : ∀ d j, j + d = 40 → wY_init_232 post md (nI w) (d + 1) (nI j) K N E P ow C (hk_dh H 0 j) R U gv ga gb yw vv f1 r1 f2 r2 yp qk qn qs zo zb zp zk := by
  intro d
  induction d with
  | zero =>
    intro j hj
    obtain rfl : j = 40 := by omega
    exact br_t (nI_le (a := 40) (b := 40) (by omega) (by decide)) hp
  | succ d ih =>
    intro j hj
    have hc : (nI j).toNatClampNeg = j := nI_clamp (by omega)
    exact br_f (nI_ge (b := 40) (by omega) (by decide)) ⟨vp_in_nI (by omega) (by decide), nm_r ((hk_u hc).trans (hk_dhs H (by omega))) (nm_r (nI_1 j) (ih (j + 1) (by omega)))⟩
theorem hk_y211 {post : SY → Prop} (hp : ∃ n, wY_init_232 post md (nI w) n 0 (hk_dh K 0 16) N E P ow C H R U gv ga gb yw vv f1 r1 f2 r2 yp qk qn qs zo zb zp zk) : ∀ d j, j + d = 16 → wY_init_211 post md (nI w) (d + 1) (nI j) (hk_dh K 0 j) N E P ow C H R U gv ga gb yw vv f1 r1 f2 r2 yp qk qn qs zo zb zp zk := by
  intro d
  induction d with
  | zero =>
    intro j hj
    obtain rfl : j = 16 := by omega
    exact br_t (nI_le (a := 16) (b := 16) (by omega) (by decide)) hp
  | succ d ih =>
    intro j hj
    have hc : (nI j).toNatClampNeg = j := nI_clamp (by omega)
    exact br_f (nI_ge (b := 16) (by omega) (by decide)) ⟨vp_in_nI (by omega) (by decide), nm_r ((hk_u hc).trans (hk_dhs K (by omega))) (nm_r (nI_1 j) (ih (j + 1) (by omega)))⟩
end
theorem i_vc0 : wpX_init (fun u => wpY_init (fun v => i_Rel 0 u v)) := by
  have zz : hk_dh (fun _ => 0) 0 0 = (fun _ => (0 : Int32)) := hk_dh0 _ 0
  have hG : hk_G (fun _ => 0) (fun _ => 0) (fun _ => 0) (fun _ => 0) := fun p hp => ⟨rfl, rfl, rfl⟩
  have k16 : ∀ i, i < 16 → hk_dh (fun _ => 0) 0 16 i = -1 := fun i hi => by
    unfold hk_dh
    rw [if_pos (by omega)]
  have h40 : ∀ i, i < 40 → hk_dh (fun _ => 0) 0 40 i = -1 := fun i hi => by
    unfold hk_dh
    rw [if_pos (by omega)]
  obtain ⟨G', gv', ga', gb', hG', hX, hY⟩ := hk_i215 (md := 0) (w := 0) (K := hk_dh (fun _ => 0) 0 16) (N := fun _ => 0) (S := fun _ => 0) (P := fun _ => 0) (O := fun _ => 0) (C := fun _ => 0) (U := fun _ => 0) (H := fun _ => 0) (R := fun _ => 0) (xw := fun _ => 0) (mv := fun _ => 0) (co := fun _ => 0) (cr := fun _ => 0) (xp := fun _ => 0) (pk := fun _ => 0) (pn := fun _ => 0) (ps := fun _ => 0) (wo := fun _ => 0) (wb := fun _ => 0) (wp := fun _ => 0) (wk := fun _ => 0) (E := fun _ => 0) (ow := fun _ => 0) (yw := fun _ => 0) (vv := fun _ => 0) (f1 := fun _ => 0) (r1 := fun _ => 0) (f2 := fun _ => 0) (r2 := fun _ => 0) (yp := fun _ => 0) (qk := fun _ => 0) (qn := fun _ => 0) (qs := fun _ => 0) (zo := fun _ => 0) (zb := fun _ => 0) (zp := fun _ => 0) (zk := fun _ => 0) 4 0 _ _ _ _ rfl hG
  have HX : ∀ post : SX → Prop, post (0, nI 0, hk_dh (fun _ => 0) 0 16, (fun _ => 0), (fun _ => 0), (fun _ => 0), (fun _ => 0), (fun _ => 0), upd (fun _ => 0) 0 (vp_nar .boolean 1), G', hk_dh (fun _ => 0) 0 40, (fun _ => 0), (fun _ => 0), (fun _ => 0), (fun _ => 0), (fun _ => 0), (fun _ => 0), (fun _ => 0), (fun _ => 0), (fun _ => 0), (fun _ => 0), (fun _ => 0), (fun _ => 0), (fun _ => 0)) → wpX_init post := fun post hp => by
    have a := hX post hp
    rw [show hk_dh (fun _ => 0) 0 (0 * 10) = (fun _ => (0 : Int32)) from zz] at a
    have b := hk_x194 ⟨_, a⟩ 16 0 rfl
    rw [zz] at b
    exact ⟨_, b⟩
  have HY : ∀ post : SY → Prop, post (0, nI 0, hk_dh (fun _ => 0) 0 16, (fun _ => 0), (fun _ => 0), (fun _ => 0), (fun _ => 0), (fun _ => 0), hk_dh (fun _ => 0) 0 40, (fun _ => 0), upd (fun _ => 0) 0 (vp_nar .boolean 1), gv', ga', gb', (fun _ => 0), (fun _ => 0), (fun _ => 0), (fun _ => 0), (fun _ => 0), (fun _ => 0), (fun _ => 0), (fun _ => 0), (fun _ => 0), (fun _ => 0), (fun _ => 0), (fun _ => 0), (fun _ => 0), (fun _ => 0)) → wpY_init post := fun post hp => by
    have a := hY (hk_dh (fun _ => 0) 0 40) post hp
    have b := hk_y232 (H := fun _ => 0) ⟨_, a⟩ 40 0 rfl
    rw [zz] at b
    have c := hk_y211 (K := fun _ => 0) ⟨_, b⟩ 16 0 rfl
    rw [zz] at c
    exact ⟨_, c⟩
  refine HX _ (HY _ ?_)
  have nk : ∀ i, i < 16 → ∀ c : Int32, c ≠ -1 → ¬ hk_dh (fun _ => 0) 0 16 i = c := fun i hi c hc z => hc (by rw [← z]; exact k16 i hi)
  refine hk_mk ⟨fun i hi => Or.inl (k16 i hi), fun i hi => Or.inl (h40 i hi), fun e he => ⟨fun _ => rfl, fun _ => rfl⟩, fun e he z => absurd z (nk e he 1 (by decide)), fun e he z => absurd z (nk e he 3 (by decide)), fun e he z => absurd (k16 e he) z, ⟨fun e he z => absurd z (nk e he 4 (by decide)), fun e e' he he' z => absurd z (nk e he 4 (by decide))⟩, fun e he z => absurd (k16 e he) z, ⟨by omega, fun i hi => absurd hi (Nat.not_lt_zero _)⟩, hG'⟩ (fun i hi => absurd hi (Nat.not_lt_zero _)) ?_
  intro c hc _ j hj
  exact h40 _ (by omega)
