theorem i_vc_copy {k : Nat} {u : SX} {v : SY} (I : i_Rel k u v) (hk : k + 6 ≤ 3072) (v1 : Int32) (v2 : Int32) (v3 : Int32) : wpX_copy (fun r u' => wpY_copy (fun r' v' => r' = r ∧ i_Rel (k + 6) u' v') v v1 v2 v3) u v1 v2 v3 := by
  obtain ⟨md, w, K, N, S, P, O, C, U, G, H, R, xw, mv, co, cr, xp, pk, pn, ps, wo, wb, wp, wk, E, ow, gv, ga, gb, yw, vv, f1, r1, f2, r2, yp, qk, qn, qs, zo, zb, zp, zk, rfl, rfl, hR, hQ, hF⟩ := I
  obtain ⟨r, hX, hY, h0⟩ := hk_th (md := md) (K := K) (N := N) (S := S) (P := P) (O := O) (C := C) (U := U) (G := G) (H := H) (R := R) (xw := xw) (mv := mv) (co := co) (cr := cr) (xp := xp) (pk := pk) (pn := pn) (ps := ps) (wo := wo) (wb := wb) (wp := wp) (wk := wk) (E := E) (ow := ow) (gv := gv) (ga := ga) (gb := gb) (yw := yw) (vv := vv) (f1 := f1) (r1 := r1) (f2 := f2) (r2 := r2) (yp := yp) (qk := qk) (qn := qn) (qs := qs) (zo := zo) (zb := zb) (zp := zp) (zk := zk) (w := w) hR.1 hR.2.1 v1 v2 (-1) 4 (Or.inl rfl)
  unfold wpX_copy
  refine hX _ ?_
  by_cases hr : r = 0
  · obtain ⟨a, b, o, ha, hb, ho, rfl, rfl, hu, e, hko, -⟩ := h0 hr
    have hc : (nI (a * 10 + b)).toNatClampNeg = a * 10 + b := nI_clamp (by omega)
    have hv : vp_in (nI (a * 10 + b)) 40 := vp_in_nI (by omega) (by decide)
    have hn10 := hk_cnle (hk_fp H a) 10
    refine br_t hr (nm_r (hk_m10 a b) ⟨hv, hv, ?_⟩)
    rw [hc, e]
    by_cases hm : hk_cn (hk_fp H a) 10 = 0
    · refine hk_xnf ha _ _ (hk_noroom hm) ?_
      unfold wpY_copy
      refine hY _ (br_t hr ?_)
      refine hk_yfc hR.2.1 ha (br_t (by rw [hm]; rfl) ?_)
      exact ⟨rfl, hk_mk hR hQ hF⟩
    · obtain ⟨d, hd, d1, d2⟩ := hk_room hm
      refine hk_xnh ha hd _ _ d1 d2 ?_
      unfold wpY_copy
      refine hY _ (br_t hr ?_)
      refine hk_yfc hR.2.1 ha (br_f (nI_ne0 (by omega) (by omega)) ?_)
      refine hk_yob ha hb ?_
      dsimp only
      rw [hk_10m, hc, e]
      refine ⟨hv, hk_ynh hR.2.1 ha hd _ _ d1 d2 ?_⟩
      exact ⟨rfl, hk_mk ⟨hR.1, hk_plH hR.2.1 (Or.inr ⟨o, ho, rfl, hko⟩), hR.2.2⟩ hQ (hk_plF ha hd hF hu)⟩
  · refine br_f hr ?_
    unfold wpY_copy
    exact hY _ (br_f hr ⟨rfl, hk_mk hR hQ hF⟩)
theorem i_vc_restrict {k : Nat} {u : SX} {v : SY} (I : i_Rel k u v) (hk : k + 6 ≤ 3072) (v1 : Int32) (v2 : Int32) (v3 : Int32) : wpX_restrict (fun r u' => wpY_restrict (fun r' v' => r' = r ∧ i_Rel (k + 6) u' v') v v1 v2 v3) u v1 v2 v3 := by
  obtain ⟨md, w, K, N, S, P, O, C, U, G, H, R, xw, mv, co, cr, xp, pk, pn, ps, wo, wb, wp, wk, E, ow, gv, ga, gb, yw, vv, f1, r1, f2, r2, yp, qk, qn, qs, zo, zb, zp, zk, rfl, rfl, hR, hQ, hF⟩ := I
  obtain ⟨r, hX, hY, h0⟩ := hk_th (md := md) (K := K) (N := N) (S := S) (P := P) (O := O) (C := C) (U := U) (G := G) (H := H) (R := R) (xw := xw) (mv := mv) (co := co) (cr := cr) (xp := xp) (pk := pk) (pn := pn) (ps := ps) (wo := wo) (wb := wb) (wp := wp) (wk := wk) (E := E) (ow := ow) (gv := gv) (ga := ga) (gb := gb) (yw := yw) (vv := vv) (f1 := f1) (r1 := r1) (f2 := f2) (r2 := r2) (yp := yp) (qk := qk) (qn := qn) (qs := qs) (zo := zo) (zb := zb) (zp := zp) (zk := zk) (w := w) hR.1 hR.2.1 v1 v2 (-1) 0 (Or.inl rfl)
  unfold wpX_restrict
  refine hX _ ?_
  by_cases hr : r = 0
  · obtain ⟨a, b, o, ha, hb, ho, rfl, rfl, hu, e, hko, -⟩ := h0 hr
    have hc : (nI (a * 10 + b)).toNatClampNeg = a * 10 + b := nI_clamp (by omega)
    have hv : vp_in (nI (a * 10 + b)) 40 := vp_in_nI (by omega) (by decide)
    refine br_t hr (nm_r (hk_m10 a b) ⟨hv, hv, ?_⟩)
    rw [hc]
    refine nm_e ⟨hv, ?_⟩
    unfold wpY_restrict
    refine hY _ (br_t hr ?_)
    rw [hk_10m, hc]
    exact ⟨hv, hv, nm_e ⟨hv, rfl, hk_mk hR hQ hF⟩⟩
  · refine br_f hr ?_
    unfold wpY_restrict
    exact hY _ (br_f hr ⟨rfl, hk_mk hR hQ hF⟩)
theorem i_vc_got {k : Nat} {u : SX} {v : SY} (I : i_Rel k u v) (hk : k + 6 ≤ 3072) (v1 : Int32) (v2 : Int32) : wpX_got (fun r => wpY_got (fun r' => r' = r ∧ i_Rel (k + 6) u v) v v1 v2) u v1 v2 := by
  obtain ⟨md, w, K, N, S, P, O, C, U, G, H, R, xw, mv, co, cr, xp, pk, pn, ps, wo, wb, wp, wk, E, ow, gv, ga, gb, yw, vv, f1, r1, f2, r2, yp, qk, qn, qs, zo, zb, zp, zk, rfl, rfl, hR, hQ, hF⟩ := I
  have J : i_Rel (k + 6) (md, nI w, K, N, S, P, O, C, U, G, H, R, xw, mv, co, cr, xp, pk, pn, ps, wo, wb, wp, wk) (md, nI w, K, N, E, P, ow, C, H, R, U, gv, ga, gb, yw, vv, f1, r1, f2, r2, yp, qk, qn, qs, zo, zb, zp, zk) := hk_mk hR hQ hF
  have hG := hR.2.2.2.2.2.2.2.2.2
  have bad : (v2 < 0 ∨ nI 3 ≤ v2) → wpY_got (fun r' => r' = 0 ∧ i_Rel (k + 6) (md, nI w, K, N, S, P, O, C, U, G, H, R, xw, mv, co, cr, xp, pk, pn, ps, wo, wb, wp, wk) (md, nI w, K, N, E, P, ow, C, H, R, U, gv, ga, gb, yw, vv, f1, r1, f2, r2, yp, qk, qn, qs, zo, zb, zp, zk)) (md, nI w, K, N, E, P, ow, C, H, R, U, gv, ga, gb, yw, vv, f1, r1, f2, r2, yp, qk, qn, qs, zo, zb, zp, zk) v1 v2 := fun z => by
    have n : ∀ c : Nat, c < 3 → ¬ v2 = nI c := fun c hc e => by
      subst e
      rcases z with z | z
      · exact nI_pos (by omega) z
      · exact nI_ge hc (by decide) z
    unfold wpY_got
    rcases pk_ix v1 (n := 4) (by decide) with y | y | ⟨a, ha, rfl⟩
    · exact hk_in0 (n := 3) (Or.inl y) (by decide) (br_f (n 1 (by omega)) (br_f (n 2 (by omega)) (br_f (n 0 (by omega)) ⟨rfl, J⟩)))
    · exact hk_in0 (n := 3) (Or.inr y) (by decide) (br_f (n 1 (by omega)) (br_f (n 2 (by omega)) (br_f (n 0 (by omega)) ⟨rfl, J⟩)))
    · exact hk_in1 (n := 3) (by omega) (by decide) (br_f (n 1 (by omega)) (br_f (n 2 (by omega)) (br_f (n 0 (by omega)) ⟨rfl, J⟩)))
  have out : (v1 < 0 ∨ nI 4 ≤ v1) → ∀ c : Nat, c < 3 → ∀ S0 : Unit, wX_got_20 (fun r => wpY_got (fun r' => r' = r ∧ i_Rel (k + 6) (md, nI w, K, N, S, P, O, C, U, G, H, R, xw, mv, co, cr, xp, pk, pn, ps, wo, wb, wp, wk) (md, nI w, K, N, E, P, ow, C, H, R, U, gv, ga, gb, yw, vv, f1, r1, f2, r2, yp, qk, qn, qs, zo, zb, zp, zk)) (md, nI w, K, N, E, P, ow, C, H, R, U, gv, ga, gb, yw, vv, f1, r1, f2, r2, yp, qk, qn, qs, zo, zb, zp, zk) v1 (nI c)) (nI c) md (nI w) K N S P O C U G H R xw mv co cr xp pk pn ps wo wb wp wk := fun z c hc _ => by
    obtain rfl | rfl | rfl : c = 0 ∨ c = 1 ∨ c = 2 := by omega
    · refine br_t rfl ?_
      unfold wpY_got
      exact hk_in0 (n := 3) z (by decide) (br_f (by decide) (br_f (by decide) (br_t rfl (br_t rfl ⟨rfl, J⟩))))
    · refine br_f (by decide) ?_
      unfold wpY_got
      exact hk_in0 (n := 3) z (by decide) (br_t rfl (br_t rfl ⟨rfl, J⟩))
    · refine br_f (by decide) ?_
      unfold wpY_got
      exact hk_in0 (n := 3) z (by decide) (br_f (by decide) (br_t rfl (br_t rfl ⟨rfl, J⟩)))
  rcases pk_ix v2 (n := 3) (by decide) with z | z | ⟨c, hc, rfl⟩
  · exact br_t z (bad (Or.inl z))
  · exact br_f (Int32.not_lt.mpr (Int32.le_trans (by decide) z)) (br_f (Int32.not_lt.mpr z) (bad (Or.inr z)))
  · refine br_f (nI_pos (by omega)) (br_t (nI_lt (b := 3) hc (by decide)) ?_)
    rcases pk_ix v1 (n := 4) (by decide) with y | y | ⟨a, ha, rfl⟩
    · exact br_t y (out (Or.inl y) c hc ())
    · exact br_f (Int32.not_lt.mpr (Int32.le_trans (by decide) y)) (br_f (Int32.not_lt.mpr y) (out (Or.inr y) c hc ()))
    · refine br_f (nI_pos (by omega)) (br_t (nI_lt (b := 4) ha (by decide)) ?_)
      obtain ⟨g1, g2, g3⟩ := hG a ha
      have hca : (nI a).toNatClampNeg = a := nI_clamp (by omega)
      have hva : vp_in (nI a) 4 := vp_in_nI ha (by decide)
      have e : nI a * 3 + nI c = nI (a * 3 + c) := by rw [hk_m3, nI_add]
      rw [e, nI_clamp (by omega)]
      refine ⟨vp_in_nI (by omega) (by decide), ?_⟩
      unfold wpY_got
      obtain rfl | rfl | rfl : c = 0 ∨ c = 1 ∨ c = 2 := by omega
      · exact hk_in1 (n := 3) (by omega) (by decide) (br_f (by decide) (br_f (by decide) (br_t rfl (br_f (by decide) ⟨hva, by rw [hca]; exact g1.symm, J⟩))))
      · exact hk_in1 (n := 3) (by omega) (by decide) (br_t rfl (br_f (by decide) (br_t rfl ⟨hva, by rw [hca]; exact g2.symm, J⟩)))
      · exact hk_in1 (n := 3) (by omega) (by decide) (br_f (by decide) (br_t rfl (br_f (by decide) (br_f (by decide) ⟨hva, by rw [hca]; exact g3.symm, J⟩))))
theorem i_vc_load {k : Nat} {u : SX} {v : SY} (I : i_Rel k u v) (hk : k + 6 ≤ 3072) (v1 : Int32) (v2 : Int32) (v3 : Int32) : wpX_load (fun r => wpY_load (fun r' => r' = r ∧ i_Rel (k + 6) u v) v v1 v2 v3) u v1 v2 v3 := by
  obtain ⟨md, w, K, N, S, P, O, C, U, G, H, R, xw, mv, co, cr, xp, pk, pn, ps, wo, wb, wp, wk, E, ow, gv, ga, gb, yw, vv, f1, r1, f2, r2, yp, qk, qn, qs, zo, zb, zp, zk, rfl, rfl, hR, hQ, hF⟩ := I
  have J : i_Rel (k + 6) (md, nI w, K, N, S, P, O, C, U, G, H, R, xw, mv, co, cr, xp, pk, pn, ps, wo, wb, wp, wk) (md, nI w, K, N, E, P, ow, C, H, R, U, gv, ga, gb, yw, vv, f1, r1, f2, r2, yp, qk, qn, qs, zo, zb, zp, zk) := hk_mk hR hQ hF
  obtain ⟨r, hX, hY, h0⟩ := hk_th (md := md) (K := K) (N := N) (S := S) (P := P) (O := O) (C := C) (U := U) (G := G) (H := H) (R := R) (xw := xw) (mv := mv) (co := co) (cr := cr) (xp := xp) (pk := pk) (pn := pn) (ps := ps) (wo := wo) (wb := wb) (wp := wp) (wk := wk) (E := E) (ow := ow) (gv := gv) (ga := ga) (gb := gb) (yw := yw) (vv := vv) (f1 := f1) (r1 := r1) (f2 := f2) (r2 := r2) (yp := yp) (qk := qk) (qn := qn) (qs := qs) (zo := zo) (zb := zb) (zp := zp) (zk := zk) (w := w) hR.1 hR.2.1 v1 v2 2 1 (Or.inr (by decide))
  unfold wpX_load wpX_testCell
  refine hX _ ?_
  by_cases hr : r = 0
  · obtain ⟨a, b, o, ha, hb, ho, rfl, rfl, hu, e, hko, -⟩ := h0 hr
    have hc : (nI (a * 10 + b)).toNatClampNeg = a * 10 + b := nI_clamp (by omega)
    have hv : vp_in (nI (a * 10 + b)) 40 := vp_in_nI (by omega) (by decide)
    refine br_t hr ?_
    have bad : (v3 < 0 ∨ nI 8 ≤ v3) → wpY_load (fun r' => r' = ((-9 : Int32).toInt64 - 10000000000) ∧ i_Rel (k + 6) (md, nI w, K, N, S, P, O, C, U, G, H, R, xw, mv, co, cr, xp, pk, pn, ps, wo, wb, wp, wk) (md, nI w, K, N, E, P, ow, C, H, R, U, gv, ga, gb, yw, vv, f1, r1, f2, r2, yp, qk, qn, qs, zo, zb, zp, zk)) (md, nI w, K, N, E, P, ow, C, H, R, U, gv, ga, gb, yw, vv, f1, r1, f2, r2, yp, qk, qn, qs, zo, zb, zp, zk) (nI a) (nI b) v3 := fun z => by
      unfold wpY_load
      exact hY _ (br_t hr (hk_in0 (n := 7) z (by decide) (br_t rfl (br_f (by decide) ⟨rfl, J⟩))))
    rcases pk_ix v3 (n := 8) (by decide) with z | z | ⟨c, hc8, rfl⟩
    · exact br_t z (br_f (by decide) (bad (Or.inl z)))
    · exact br_f (Int32.not_lt.mpr (Int32.le_trans (by decide) z)) (br_f (Int32.not_lt.mpr z) (br_f (by decide) (bad (Or.inr z))))
    · refine br_f (nI_pos (by omega)) (br_t (nI_lt (b := 8) hc8 (by decide)) (br_t rfl ?_))
      rw [hk_m10, hc, e, hk_m8]
      refine ⟨hv, vp_in_nI (by omega) (by decide), ?_⟩
      unfold wpY_load
      refine hY _ (br_t hr (hk_in1 (n := 7) (by omega) (by decide) (br_f (by decide) (br_t hr ?_))))
      refine hk_yob ha hb ?_
      rw [e]
      dsimp only
      rw [hk_8m]
      exact ⟨vp_in_nI (by omega) (by decide), rfl, J⟩
  · refine br_f hr (br_f hr ?_)
    unfold wpY_load
    exact hY _ (br_f hr (br_f hr ⟨rfl, J⟩))
theorem i_vc_store {k : Nat} {u : SX} {v : SY} (I : i_Rel k u v) (hk : k + 6 ≤ 3072) (v1 : Int32) (v2 : Int32) (v3 : Int32) (v4 : Int32) : wpX_store (fun r u' => wpY_store (fun r' v' => r' = r ∧ i_Rel (k + 6) u' v') v v1 v2 v3 v4) u v1 v2 v3 v4 := by
  obtain ⟨md, w, K, N, S, P, O, C, U, G, H, R, xw, mv, co, cr, xp, pk, pn, ps, wo, wb, wp, wk, E, ow, gv, ga, gb, yw, vv, f1, r1, f2, r2, yp, qk, qn, qs, zo, zb, zp, zk, rfl, rfl, hR, hQ, hF⟩ := I
  obtain ⟨r, hX, hY, h0⟩ := hk_th (md := md) (K := K) (N := N) (S := S) (P := P) (O := O) (C := C) (U := U) (G := G) (H := H) (R := R) (xw := xw) (mv := mv) (co := co) (cr := cr) (xp := xp) (pk := pk) (pn := pn) (ps := ps) (wo := wo) (wb := wb) (wp := wp) (wk := wk) (E := E) (ow := ow) (gv := gv) (ga := ga) (gb := gb) (yw := yw) (vv := vv) (f1 := f1) (r1 := r1) (f2 := f2) (r2 := r2) (yp := yp) (qk := qk) (qn := qn) (qs := qs) (zo := zo) (zb := zb) (zp := zp) (zk := zk) (w := w) hR.1 hR.2.1 v1 v2 2 2 (Or.inr (by decide))
  unfold wpX_store wpX_testCell
  refine hX _ ?_
  by_cases hr : r = 0
  · obtain ⟨a, b, o, ha, hb, ho, rfl, rfl, hu, e, hko, -⟩ := h0 hr
    have hc : (nI (a * 10 + b)).toNatClampNeg = a * 10 + b := nI_clamp (by omega)
    have hv : vp_in (nI (a * 10 + b)) 40 := vp_in_nI (by omega) (by decide)
    refine br_t hr ?_
    have bad : (v3 < 0 ∨ nI 8 ≤ v3) → wpY_store (fun r' v' => r' = -9 ∧ i_Rel (k + 6) (md, nI w, K, N, S, P, O, C, U, G, H, R, xw, mv, co, cr, xp, pk, pn, ps, wo, wb, wp, wk) v') (md, nI w, K, N, E, P, ow, C, H, R, U, gv, ga, gb, yw, vv, f1, r1, f2, r2, yp, qk, qn, qs, zo, zb, zp, zk) (nI a) (nI b) v3 v4 := fun z => by
      unfold wpY_store
      exact hY _ (br_t hr (hk_in0 (n := 7) z (by decide) (br_t rfl ⟨rfl, hk_mk hR hQ hF⟩)))
    rcases pk_ix v3 (n := 8) (by decide) with z | z | ⟨c, hc8, rfl⟩
    · exact br_t z (br_f (by decide) (bad (Or.inl z)))
    · exact br_f (Int32.not_lt.mpr (Int32.le_trans (by decide) z)) (br_f (Int32.not_lt.mpr z) (br_f (by decide) (bad (Or.inr z))))
    · refine br_f (nI_pos (by omega)) (br_t (nI_lt (b := 8) hc8 (by decide)) (br_t rfl ?_))
      rw [hk_m10, hc, e, hk_m8]
      refine ⟨hv, vp_in_nI (by omega) (by decide), nm_e ?_⟩
      unfold wpY_store
      refine hY _ (br_t hr (hk_in1 (n := 7) (by omega) (by decide) (br_f (by decide) ?_)))
      refine hk_yob ha hb ?_
      rw [e]
      dsimp only
      rw [hk_8m]
      exact ⟨vp_in_nI (by omega) (by decide), nm_e ⟨rfl, hk_mk hR hQ hF⟩⟩
  · refine br_f hr (br_f hr ?_)
    unfold wpY_store
    exact hY _ (br_f hr ⟨rfl, hk_mk hR hQ hF⟩)
def hk_cp (C : Nat → Int32) (f t : Nat) : Nat → Nat → Int32
  | 0 => C
  | n + 1 => upd (hk_cp C f t n) (t * 8 + n) (hk_cp C f t n (f * 8 + n))
section
variable {md : Int32} {w : Nat} {K N S P O C U G H R xw mv co cr xp pk pn ps wo wb wp wk : Nat → Int32} {E ow gv ga gb yw vv f1 r1 f2 r2 yp qk qn qs zo zb zp zk : Nat → Int32}
theorem hk_xtw {a b f t : Nat} (ha : a < 4) (hb : b < 10) (hf : f < 16) (ht : t < 16) (g1 : H (a * 10 + b) = -1) (g2 : ∀ j, j < b → H (a * 10 + j) ≠ -1) {post : Int32 → SX → Prop} (hp : post (nI b) (md, nI w, K, N, S, P, O, hk_cp C f t 8, U, G, upd H (a * 10 + b) (nI t), upd R (a * 10 + b) 63, xw, mv, co, cr, xp, pk, pn, ps, wo, wb, wp, wk)) : ∀ d c, c + d = 8 → wX_twin_61 post (nI a) (nI f) (nI t) md (nI w) (d + 1) (nI c) K N S P O (hk_cp C f t c) U G H R xw mv co cr xp pk pn ps wo wb wp wk := by
  intro d
  induction d with
  | zero =>
    intro c hc
    obtain rfl : c = 8 := by omega
    exact br_t (nI_le (a := 8) (by omega) (by omega)) (hk_xnh ha hb (nI t) 63 g1 g2 hp)
  | succ d ih =>
    intro c hc
    have e1 : (nI f * 8 + nI c).toNatClampNeg = f * 8 + c := by rw [hk_m8]; exact nI_clamp (by omega)
    have e2 : (nI t * 8 + nI c).toNatClampNeg = t * 8 + c := by rw [hk_m8]; exact nI_clamp (by omega)
    refine br_f (nI_ge (b := 8) (by omega) (by decide)) ⟨by rw [hk_m8]; exact vp_in_nI (by omega) (by decide), by rw [hk_m8]; exact vp_in_nI (by omega) (by decide), ?_⟩
    rw [e1, e2]
    exact nm_e (nm_r (nI_1 c) (ih (c + 1) (by omega)))
theorem hk_ytw (hH : hk_H K H) {a b f t : Nat} (ha : a < 4) (hb : b < 10) (hf : f < 16) (ht : t < 16) (g1 : H (a * 10 + b) = -1) (g2 : ∀ j, j < b → H (a * 10 + j) ≠ -1) {post : Int32 → SY → Prop} (hp : post (nI b) (md, nI w, K, N, E, P, ow, hk_cp C f t 8, upd H (a * 10 + b) (nI t), upd R (a * 10 + b) 63, U, gv, ga, gb, yw, vv, f1, r1, f2, r2, yp, qk, qn, qs, zo, zb, zp, zk)) : ∀ d c, c + d = 8 → wY_twin_56 post (nI a) (nI f) (nI t) md (nI w) (d + 1) (nI c) K N E P ow (hk_cp C f t c) H R U gv ga gb yw vv f1 r1 f2 r2 yp qk qn qs zo zb zp zk := by
  intro d
  induction d with
  | zero =>
    intro c hc
    obtain rfl : c = 8 := by omega
    exact br_t (nI_le (a := 8) (by omega) (by omega)) (hk_ynh hH ha hb (nI t) 63 g1 g2 hp)
  | succ d ih =>
    intro c hc
    have e1 : (8 * nI f + nI c).toNatClampNeg = f * 8 + c := by rw [hk_8m]; exact nI_clamp (by omega)
    have e2 : (8 * nI t + nI c).toNatClampNeg = t * 8 + c := by rw [hk_8m]; exact nI_clamp (by omega)
    refine br_f (nI_ge (b := 8) (by omega) (by decide)) ⟨by rw [hk_8m]; exact vp_in_nI (by omega) (by decide), by rw [hk_8m]; exact vp_in_nI (by omega) (by decide), ?_⟩
    rw [e1, e2]
    exact nm_e (nm_r (nI_1 c) (ih (c + 1) (by omega)))
end
theorem i_vc_twin {k : Nat} {u : SX} {v : SY} (I : i_Rel k u v) (hk : k + 6 ≤ 3072) (v1 : Int32) (v2 : Int32) : wpX_twin (fun r u' => wpY_twin (fun r' v' => r' = r ∧ i_Rel (k + 6) u' v') v v1 v2) u v1 v2 := by
  obtain ⟨md, w, K, N, S, P, O, C, U, G, H, R, xw, mv, co, cr, xp, pk, pn, ps, wo, wb, wp, wk, E, ow, gv, ga, gb, yw, vv, f1, r1, f2, r2, yp, qk, qn, qs, zo, zb, zp, zk, rfl, rfl, hR, hQ, hF⟩ := I
  have hK := hR.1
  have hH := hR.2.1
  obtain ⟨r, hX, hY, h0⟩ := hk_th (md := md) (K := K) (N := N) (S := S) (P := P) (O := O) (C := C) (U := U) (G := G) (H := H) (R := R) (xw := xw) (mv := mv) (co := co) (cr := cr) (xp := xp) (pk := pk) (pn := pn) (ps := ps) (wo := wo) (wb := wb) (wp := wp) (wk := wk) (E := E) (ow := ow) (gv := gv) (ga := ga) (gb := gb) (yw := yw) (vv := vv) (f1 := f1) (r1 := r1) (f2 := f2) (r2 := r2) (yp := yp) (qk := qk) (qn := qn) (qs := qs) (zo := zo) (zb := zb) (zp := zp) (zk := zk) (w := w) hK hH v1 v2 2 5 (Or.inr (by decide))
  unfold wpX_twin
  refine hX _ ?_
  by_cases hr : r = 0
  · obtain ⟨a, b, o, ha, hb, ho, rfl, rfl, hu, e, hko, -⟩ := h0 hr
    have hc : (nI (a * 10 + b)).toNatClampNeg = a * 10 + b := nI_clamp (by omega)
    have hv : vp_in (nI (a * 10 + b)) 40 := vp_in_nI (by omega) (by decide)
    have hn16 := hk_cnle (hk_lv K) 16
    have hn10 := hk_cnle (hk_fp H a) 10
    refine br_t hr ?_
    by_cases h1 : hk_cn (hk_lv K) 16 < 16
    · refine hk_xoc (br_t (nI_lt (b := 16) h1 (by decide)) ?_)
      have y1 : ¬ nI (hk_cn (hk_lv K) 16) = 16 := fun z => by have := (nI_eq (b := 16) (by omega) (by decide)).mp z; omega
      by_cases h2 : hk_cn (hk_fp H a) 10 = 0
      · have z2 : nI (hk_cn (hk_fp H a) 10) = 0 := by rw [h2]; rfl
        refine hk_xfc ha (br_t z2 ?_)
        unfold wpY_twin
        refine hY _ (br_t hr ?_)
        refine hk_yoc hK (br_f y1 ?_)
        exact hk_yfc hH ha (br_t z2 ⟨rfl, hk_mk hR hQ hF⟩)
      · have z2 : ¬ nI (hk_cn (hk_fp H a) 10) = 0 := nI_ne0 (by omega) (by omega)
        refine hk_xfc ha (br_f z2 ?_)
        obtain ⟨t, ht, t1, t2⟩ := hk_slot h1
        obtain ⟨d, hd, d1, d2⟩ := hk_room h2
        obtain ⟨⟨q1, q2, q3⟩, q4⟩ := hk_cre1 hR hQ ht t1 (k := 2) (Or.inr (Or.inl rfl))
        have hHt : hk_H (upd K t 2) (upd H (a * 10 + d) (nI t)) := hk_plH q2 (Or.inr ⟨t, ht, rfl, by rw [pk_us]; decide⟩)
        dsimp only
        rw [hk_m10, hc, e]
        refine ⟨hv, nm_e ?_⟩
        refine hk_xno ht 2 t1 t2 ?_
        dsimp only
        refine ⟨_, hk_xtw (f := o) (t := t) ha hd ho ht d1 d2 ?_ 8 0 rfl⟩
        unfold wpY_twin
        refine hY _ (br_t hr ?_)
        refine hk_yoc hK (br_f y1 ?_)
        refine hk_yfc hH ha (br_f z2 ?_)
        refine hk_yob ha hb ?_
        rw [e]
        refine hk_ycr hK ht 2 t1 t2 ?_
        dsimp only
        refine ⟨_, hk_ytw q2 (f := o) (t := t) ha hd ho ht d1 d2 ?_ 8 0 rfl⟩
        exact ⟨rfl, hk_mk ⟨q1, hHt, q3⟩ q4 (hk_plF ha hd hF hu)⟩
    · refine hk_xoc (br_f (nI_nlt (b := 16) (by omega) (by omega)) ?_)
      have y1 : nI (hk_cn (hk_lv K) 16) = 16 := by rw [show hk_cn (hk_lv K) 16 = 16 by omega]; rfl
      unfold wpY_twin
      refine hY _ (br_t hr ?_)
      exact hk_yoc hK (br_t y1 ⟨rfl, hk_mk hR hQ hF⟩)
  · refine br_f hr ?_
    unfold wpY_twin
    exact hY _ (br_f hr ⟨rfl, hk_mk hR hQ hF⟩)
