def hk_dh (H : Nat → Int32) (lo n : Nat) : Nat → Int32 := fun j => if lo ≤ j ∧ j < n then -1 else H j
theorem hk_dh0 (H : Nat → Int32) (lo : Nat) : hk_dh H lo lo = H := by
  funext j
  unfold hk_dh
  rw [if_neg (by omega)]
theorem hk_dhs (H : Nat → Int32) {lo n : Nat} (h : lo ≤ n) : upd (hk_dh H lo n) n (-1) = hk_dh H lo (n + 1) := by
  funext j
  show (if j = n then -1 else (if lo ≤ j ∧ j < n then -1 else H j)) = (if lo ≤ j ∧ j < n + 1 then -1 else H j)
  by_cases e : j = n
  · subst e
    rw [if_pos rfl, if_pos (by omega)]
  · rw [if_neg e]
    by_cases e2 : lo ≤ j ∧ j < n
    · rw [if_pos e2, if_pos (by omega)]
    · rw [if_neg e2, if_neg (by omega)]
section
variable {md : Int32} {w : Nat} {K N S P O C U G H R xw mv co cr xp pk pn ps wo wb wp wk : Nat → Int32} {E ow gv ga gb yw vv f1 r1 f2 r2 yp qk qn qs zo zb zp zk : Nat → Int32}
theorem hk_xdhl {p : Nat} (hp4 : p < 4) {post : SX → Prop} (hp : post (md, nI w, K, N, S, P, O, C, U, G, hk_dh H (p * 10) (p * 10 + 10), R, xw, mv, co, cr, xp, pk, pn, ps, wo, wb, wp, wk)) : ∀ d j, j + d = 10 → wX_dropHandles_2 post (nI p) md (nI w) (d + 1) (nI j) K N S P O C U G (hk_dh H (p * 10) (p * 10 + j)) R xw mv co cr xp pk pn ps wo wb wp wk := by
  intro d
  induction d with
  | zero =>
    intro j hj
    obtain rfl : j = 10 := by omega
    exact br_t (nI_le (a := 10) (b := 10) (by omega) (by decide)) hp
  | succ d ih =>
    intro j hj
    have hc : (nI p * 10 + nI j).toNatClampNeg = p * 10 + j := by rw [hk_m10]; exact nI_clamp (by omega)
    exact br_f (nI_ge (b := 10) (by omega) (by decide)) ⟨by rw [hk_m10]; exact vp_in_nI (by omega) (by decide), nm_r ((hk_u hc).trans (hk_dhs H (by omega))) (nm_r (nI_1 j) (ih (j + 1) (by omega)))⟩
theorem hk_xdh {p : Nat} (hp4 : p < 4) {post : SX → Prop} (hp : post (md, nI w, K, N, S, P, O, C, U, G, hk_dh H (p * 10) (p * 10 + 10), R, xw, mv, co, cr, xp, pk, pn, ps, wo, wb, wp, wk)) : wpX_dropHandles post (md, nI w, K, N, S, P, O, C, U, G, H, R, xw, mv, co, cr, xp, pk, pn, ps, wo, wb, wp, wk) (nI p) := by
  have := hk_xdhl hp4 hp 10 0 rfl
  rw [show hk_dh H (p * 10) (p * 10 + 0) = H from hk_dh0 _ _] at this
  exact ⟨_, this⟩
theorem hk_ykl {p : Nat} (hp4 : p < 4) {post : Int32 → SY → Prop} (hp : wpY_sweep (fun u => post 0 u) (md, nI w, K, N, E, P, ow, C, hk_dh H (p * 10) (p * 10 + 10), R, U, gv, ga, gb, yw, vv, f1, r1, f2, r2, yp, qk, qn, qs, zo, zb, zp, zk)) : ∀ d j, j + d = 10 → wY_kill_61 post (nI p) md (nI w) (d + 1) (nI (p * 10 + j)) K N E P ow C (hk_dh H (p * 10) (p * 10 + j)) R U gv ga gb yw vv f1 r1 f2 r2 yp qk qn qs zo zb zp zk := by
  have e10 : 10 * nI p + 10 = nI (p * 10 + 10) := hk_10m p 10
  intro d
  induction d with
  | zero =>
    intro j hj
    obtain rfl : j = 10 := by omega
    exact br_t (by rw [e10]; exact Int32.le_refl _) hp
  | succ d ih =>
    intro j hj
    have hc : (nI (p * 10 + j)).toNatClampNeg = p * 10 + j := nI_clamp (by omega)
    exact br_f (by rw [e10]; exact nI_ge (by omega) (by omega)) ⟨vp_in_nI (by omega) (by decide), nm_r ((hk_u hc).trans (hk_dhs H (by omega))) (nm_r (nI_1 _) (ih (j + 1) (by omega)))⟩
theorem hk_klR {o p : Nat} (hR : (hk_K K ∧ hk_H K H ∧ hk_X K xw xp ∧ hk_M K xw mv co cr yw vv f1 r1 f2 r2 ∧ hk_P K xp pk pn ps yp qk qn qs ∧ hk_E K P ∧ hk_O K O ow ∧ hk_S K P S E ow U yw yp ∧ hk_W K w wo wb wp wk zo zb zp zk ∧ hk_G G gv ga gb)) (ho : o < 16) (hp4 : p < 4) (hko : K o = 4) (how : ow o = nI p) (hu : U p ≠ 0) : (hk_K K ∧ hk_H K H ∧ hk_X K xw xp ∧ hk_M K xw mv co cr yw vv f1 r1 f2 r2 ∧ hk_P K xp pk pn ps yp qk qn qs ∧ hk_E K P ∧ hk_O K O ow ∧ hk_S K P (upd S o (S o ||| 1024)) E ow (upd U p 0) yw yp ∧ hk_W K w wo wb wp wk zo zb zp zk ∧ hk_G G gv ga gb) := by
  obtain ⟨hK, hH, hX, hM, hP, hE, hO, hS, hW, hG⟩ := hR
  refine ⟨hK, hH, hX, hM, hP, hE, hO, fun e he hke => ?_, hW, hG⟩
  have hcp : (nI p).toNatClampNeg = p := nI_clamp (by omega)
  by_cases z : e = o
  · subst z
    rw [pk_us, hS e he hke]
    unfold hk_sg
    have n0 : ¬ K e = 0 := by rw [hko]; decide
    have n1 : ¬ K e = 1 := by rw [hko]; decide
    have n3 : ¬ K e = 3 := by rw [hko]; decide
    rw [if_neg n0, if_neg n0, if_neg n1, if_neg n1, if_neg n3, if_neg n3, if_pos hko, if_pos hko, how, hcp, pk_us, if_neg hu, if_pos rfl]
    decide
  · rw [pk_un z, hS e he hke]
    unfold hk_sg
    by_cases y : K e = 4
    · obtain ⟨q, hq, -, e2⟩ := hO.1 e he y
      have hqp : q ≠ p := fun x => z (hO.2 e o he ho y hko (by rw [e2, how, x]))
      rw [e2, nI_clamp (by omega), pk_un hqp]
    · rw [if_neg y, if_neg y]
end
theorem i_vc_kill {k : Nat} {u : SX} {v : SY} (I : i_Rel k u v) (hk : k + 6 ≤ 3072) (v1 : Int32) (v2 : Int32) : wpX_kill (fun r u' => wpY_kill (fun r' v' => r' = r ∧ i_Rel (k + 6) u' v') v v1 v2) u v1 v2 := by
  obtain ⟨md, w, K, N, S, P, O, C, U, G, H, R, xw, mv, co, cr, xp, pk, pn, ps, wo, wb, wp, wk, E, ow, gv, ga, gb, yw, vv, f1, r1, f2, r2, yp, qk, qn, qs, zo, zb, zp, zk, rfl, rfl, hR, hQ, hF⟩ := I
  obtain ⟨r, hX, hY, h0⟩ := hk_th (md := md) (K := K) (N := N) (S := S) (P := P) (O := O) (C := C) (U := U) (G := G) (H := H) (R := R) (xw := xw) (mv := mv) (co := co) (cr := cr) (xp := xp) (pk := pk) (pn := pn) (ps := ps) (wo := wo) (wb := wb) (wp := wp) (wk := wk) (E := E) (ow := ow) (gv := gv) (ga := ga) (gb := gb) (yw := yw) (vv := vv) (f1 := f1) (r1 := r1) (f2 := f2) (r2 := r2) (yp := yp) (qk := qk) (qn := qn) (qs := qs) (zo := zo) (zb := zb) (zp := zp) (zk := zk) (w := w) hR.1 hR.2.1 v1 v2 4 32 (Or.inr (by decide))
  unfold wpX_kill
  refine hX _ ?_
  by_cases hr : r = 0
  · obtain ⟨a, b, o, ha, hb, ho, rfl, rfl, hu, e, hko, hk4⟩ := h0 hr
    have hk4 : K o = 4 := by
      rcases hk4 with z | z
      · exact absurd z (by decide)
      · exact z
    have hc : (nI (a * 10 + b)).toNatClampNeg = a * 10 + b := nI_clamp (by omega)
    have hv : vp_in (nI (a * 10 + b)) 40 := vp_in_nI (by omega) (by decide)
    have hco : (nI o).toNatClampNeg = o := nI_clamp (by omega)
    have hvo : vp_in (nI o) 16 := vp_in_nI ho (by decide)
    obtain ⟨p, hp4, o1, o2⟩ := hR.2.2.2.2.2.2.1.1 o ho hk4
    have hcp : (nI p).toNatClampNeg = p := nI_clamp (by omega)
    have hvp : vp_in (nI p) 4 := vp_in_nI hp4 (by decide)
    refine br_t hr ?_
    rw [hk_m10, hc, e]
    refine ⟨hv, nm_e ⟨hvo, ?_⟩⟩
    rw [hco]
    refine nm_r o1 ⟨hvp, ?_⟩
    rw [hcp]
    by_cases hz : U p = 0
    · refine br_t hz ?_
      unfold wpY_kill
      refine hY _ (br_t hr ?_)
      refine hk_yob ha hb ?_
      rw [e]
      refine ⟨hvo, ?_⟩
      rw [hco]
      refine nm_r o2 ⟨hvp, ?_⟩
      rw [hcp]
      exact br_t hz ⟨rfl, hk_mk hR hQ hF⟩
    · have R1 := hk_klR hR ho hp4 hk4 o2 hz
      obtain ⟨w1, S1, xp1, pk1, pn1, ps1, wo1, wb1, wp1, wk1, yp1, qk1, qn1, qs1, zo1, zb1, zp1, zk1, R2, Q2, X2, Y2⟩ := hk_tl (md := md) (N := N) (C := C) (R := R) R1
      have R3 : (hk_K K ∧ hk_H K (hk_dh H (p * 10) (p * 10 + 10)) ∧ hk_X K xw xp1 ∧ hk_M K xw mv co cr yw vv f1 r1 f2 r2 ∧ hk_P K xp1 pk1 pn1 ps1 yp1 qk1 qn1 qs1 ∧ hk_E K P ∧ hk_O K O ow ∧ hk_S K P S1 E ow (upd U p 0) yw yp1 ∧ hk_W K w1 wo1 wb1 wp1 wk1 zo1 zb1 zp1 zk1 ∧ hk_G G gv ga gb) := ⟨R2.1, fun i hi => by
        unfold hk_dh
        by_cases z : p * 10 ≤ i ∧ i < p * 10 + 10
        · rw [if_pos z]; exact Or.inl rfl
        · rw [if_neg z]; exact R2.2.1 i hi, R2.2.2⟩
      have F3 : hk_F (upd U p 0) (hk_dh H (p * 10) (p * 10 + 10)) := fun c hc4 hcz j hj => by
        unfold hk_dh
        by_cases z : p * 10 ≤ c * 10 + j ∧ c * 10 + j < p * 10 + 10
        · rw [if_pos z]
        · rw [if_neg z]
          have : c ≠ p := fun y => z (by omega)
          rw [pk_un this] at hcz
          exact hF c hc4 hcz j hj
      obtain ⟨w', S', xp', pk', pn', ps', wo', wb', wp', wk', yp', qk', qn', qs', zo', zb', zp', zk', K', P', xw', R', Q', X', Y'⟩ := hk_sw (md := md) (N := N) (C := C) (R := R) R3 Q2
      refine br_f hz ⟨hvp, nm_r (by rw [hk_b0]) ⟨hvo, hvo, nm_e ?_⟩⟩
      refine X2 K xw _ ?_
      refine hk_xdh hp4 ?_
      refine X' _ ?_
      unfold wpY_kill
      refine hY _ (br_t hr ?_)
      refine hk_yob ha hb ?_
      rw [e]
      refine ⟨hvo, ?_⟩
      rw [hco]
      refine nm_r o2 ⟨hvp, ?_⟩
      rw [hcp]
      refine br_f hz ⟨hvp, nm_r (by rw [hk_b0]) ?_⟩
      refine Y2 _ ?_
      refine nm_r (hk_10m' p) ?_
      have key := hk_ykl (md := md) (K := K) (N := N) (E := E) (P := P) (ow := ow) (C := C) (H := H) (R := R) (U := upd U p 0) (gv := gv) (ga := ga) (gb := gb) (yw := yw) (vv := vv) (f1 := f1) (r1 := r1) (f2 := f2) (r2 := r2) (yp := yp1) (qk := qk1) (qn := qn1) (qs := qs1) (zo := zo1) (zb := zb1) (zp := zp1) (zk := zk1) (w := w1) (post := fun r' v' => r' = 0 ∧ i_Rel (k + 6) (md, nI w', K', N, S', P', O, C, upd U p 0, G, hk_dh H (p * 10) (p * 10 + 10), R, xw', mv, co, cr, xp', pk', pn', ps', wo', wb', wp', wk') v') hp4 (Y' _ ⟨rfl, hk_mk R' Q' F3⟩) 10 0 rfl
      rw [show hk_dh H (p * 10) (p * 10 + 0) = H from hk_dh0 _ _] at key
      exact ⟨_, key⟩
  · refine br_f hr ?_
    unfold wpY_kill
    exact hY _ (br_f hr ⟨rfl, hk_mk hR hQ hF⟩)
