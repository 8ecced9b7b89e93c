theorem i_vc_close {k : Nat} {u : SX} {v : SY} (I : i_Rel k u v) (hk : k + 6 ≤ 3072) (v1 : Int32) (v2 : Int32) : wpX_close (fun r u' => wpY_close (fun r' v' => r' = r ∧ i_Rel (k + 6) u' v') v v1 v2) u v1 v2 := by
  obtain ⟨md, w, K, N, S, P, O, C, U, G, H, R, xw, mv, co, cr, xp, pk, pn, ps, wo, wb, wp, wk, E, ow, gv, ga, gb, yw, vv, f1, r1, f2, r2, yp, qk, qn, qs, zo, zb, zp, zk, rfl, rfl, hR, hQ, hF⟩ := I
  obtain ⟨r, hX, hY, h0⟩ := hk_th (md := md) (K := K) (N := N) (S := S) (P := P) (O := O) (C := C) (U := U) (G := G) (H := H) (R := R) (xw := xw) (mv := mv) (co := co) (cr := cr) (xp := xp) (pk := pk) (pn := pn) (ps := ps) (wo := wo) (wb := wb) (wp := wp) (wk := wk) (E := E) (ow := ow) (gv := gv) (ga := ga) (gb := gb) (yw := yw) (vv := vv) (f1 := f1) (r1 := r1) (f2 := f2) (r2 := r2) (yp := yp) (qk := qk) (qn := qn) (qs := qs) (zo := zo) (zb := zb) (zp := zp) (zk := zk) (w := w) hR.1 hR.2.1 v1 v2 (-1) 0 (Or.inl rfl)
  unfold wpX_close
  refine hX _ ?_
  by_cases hr : r = 0
  · obtain ⟨a, b, o, ha, hb, ho, rfl, rfl, hu, e, hko, -⟩ := h0 hr
    have hc : (nI (a * 10 + b)).toNatClampNeg = a * 10 + b := nI_clamp (by omega)
    have hv : vp_in (nI (a * 10 + b)) 40 := vp_in_nI (by omega) (by decide)
    have R1 : (hk_K K ∧ hk_H K (upd H (a * 10 + b) (-1)) ∧ hk_X K xw xp ∧ hk_M K xw mv co cr yw vv f1 r1 f2 r2 ∧ hk_P K xp pk pn ps yp qk qn qs ∧ hk_E K P ∧ hk_O K O ow ∧ hk_S K P S E ow U yw yp ∧ hk_W K w wo wb wp wk zo zb zp zk ∧ hk_G G gv ga gb) := ⟨hR.1, hk_plH hR.2.1 (Or.inl rfl), hR.2.2⟩
    obtain ⟨w', S', xp', pk', pn', ps', wo', wb', wp', wk', yp', qk', qn', qs', zo', zb', zp', zk', K', P', xw', R', Q', X', Y'⟩ := hk_sw (md := md) (N := N) (C := C) (R := R) R1 hQ
    refine br_t hr ?_
    rw [hk_m10, hc]
    refine ⟨hv, nm_e ?_⟩
    refine X' _ ?_
    unfold wpY_close
    refine hY _ (br_t hr ?_)
    rw [hk_10m, hc]
    refine ⟨hv, nm_e ?_⟩
    refine Y' _ ?_
    exact ⟨rfl, hk_mk R' Q' (hk_clF hF)⟩
  · refine br_f hr ?_
    unfold wpY_close
    exact hY _ (br_f hr ⟨rfl, hk_mk hR hQ hF⟩)
section
variable {md : Int32} {w : Nat} {K N S P O C U G H R xw mv co cr xp pk pn ps wo wb wp wk : Nat → Int32} {E ow gv ga gb yw vv f1 r1 f2 r2 yp qk qn qs zo zb zp zk : Nat → Int32}
theorem hk_ynt (hR : (hk_K K ∧ hk_H K H ∧ hk_X K xw xp ∧ hk_M K xw mv co cr yw vv f1 r1 f2 r2 ∧ hk_P K xp pk pn ps yp qk qn qs ∧ hk_E K P ∧ hk_O K O ow ∧ hk_S K P S E ow U yw yp ∧ hk_W K w wo wb wp wk zo zb zp zk ∧ hk_G G gv ga gb)) (hQ : hk_Q w S wo wb) {post : SY → Prop} (hp : post (md, nI w, K, N, E, P, ow, C, H, R, U, gv, ga, gb, yw, vv, f1, r1, f2, r2, yp, qk, qn, qs, zo, zb, zp, zk)) : wpY_tell post (md, nI w, K, N, E, P, ow, C, H, R, U, gv, ga, gb, yw, vv, f1, r1, f2, r2, yp, qk, qn, qs, zo, zb, zp, zk) := by
  obtain ⟨hK, hH, hX, hM, hP, hE, hO, hS, hW, hG⟩ := hR
  exact ⟨_, hk_ytl hK hO hS hW (Nat.le_refl w) hQ (n := 1) (br_t (Int32.le_refl _) hp) w 0 (by omega)⟩
theorem hk_ev {o : Nat} {y : Int32} (hR : (hk_K K ∧ hk_H K H ∧ hk_X K xw xp ∧ hk_M K xw mv co cr yw vv f1 r1 f2 r2 ∧ hk_P K xp pk pn ps yp qk qn qs ∧ hk_E K P ∧ hk_O K O ow ∧ hk_S K P S E ow U yw yp ∧ hk_W K w wo wb wp wk zo zb zp zk ∧ hk_G G gv ga gb)) (hko : K o = 0) : (hk_K K ∧ hk_H K H ∧ hk_X K xw xp ∧ hk_M K xw mv co cr yw vv f1 r1 f2 r2 ∧ hk_P K xp pk pn ps yp qk qn qs ∧ hk_E K P ∧ hk_O K O ow ∧ hk_S K P (upd S o y) (upd E o y) ow U yw yp ∧ hk_W K w wo wb wp wk zo zb zp zk ∧ hk_G G gv ga gb) := by
  obtain ⟨hK, hH, hX, hM, hP, hE, hO, hS, hW, hG⟩ := hR
  refine ⟨hK, hH, hX, hM, hP, hE, hO, fun e he h1 => ?_, hW, hG⟩
  by_cases z : e = o
  · subst z
    rw [pk_us]
    unfold hk_sg
    rw [if_pos hko, pk_us]
  · rw [pk_un z, hS e he h1]
    unfold hk_sg
    rw [pk_un z]
theorem hk_evs {o : Nat} (hS : hk_S K P S E ow U yw yp) (ho : o < 16) (hko : K o = 0) : S o = E o := by
  rw [hS o ho (by rw [hko]; decide)]
  unfold hk_sg
  rw [if_pos hko]
theorem hk_Qand {o : Nat} {m : Int32} (hQ : hk_Q w S wo wb) : hk_Q w (upd S o (S o &&& m)) wo wb := by
  intro i hi
  by_cases z : (wo i).toNatClampNeg = o
  · rw [z, pk_us]
    have := hQ i hi
    rw [z] at this
    exact hk_andw this
  · rw [pk_un z]; exact hQ i hi
end
theorem i_vc_signal {k : Nat} {u : SX} {v : SY} (I : i_Rel k u v) (hk : k + 6 ≤ 3072) (v1 : Int32) (v2 : Int32) (v3 : Int32) (v4 : Int32) : wpX_signal (fun r u' => wpY_signal (fun r' v' => r' = r ∧ i_Rel (k + 6) u' v') v v1 v2 v3 (lw_bz v4)) u v1 v2 v3 (lw_bz v4) := by
  obtain ⟨md, w, K, N, S, P, O, C, U, G, H, R, xw, mv, co, cr, xp, pk, pn, ps, wo, wb, wp, wk, E, ow, gv, ga, gb, yw, vv, f1, r1, f2, r2, yp, qk, qn, qs, zo, zb, zp, zk, rfl, rfl, hR, hQ, hF⟩ := I
  obtain ⟨r, hX, hY, h0⟩ := hk_th (md := md) (K := K) (N := N) (S := S) (P := P) (O := O) (C := C) (U := U) (G := G) (H := H) (R := R) (xw := xw) (mv := mv) (co := co) (cr := cr) (xp := xp) (pk := pk) (pn := pn) (ps := ps) (wo := wo) (wb := wb) (wp := wp) (wk := wk) (E := E) (ow := ow) (gv := gv) (ga := ga) (gb := gb) (yw := yw) (vv := vv) (f1 := f1) (r1 := r1) (f2 := f2) (r2 := r2) (yp := yp) (qk := qk) (qn := qn) (qs := qs) (zo := zo) (zb := zb) (zp := zp) (zk := zk) (w := w) hR.1 hR.2.1 v1 v2 0 2 (Or.inr (by decide))
  generalize lw_bz v4 = on
  unfold wpX_signal
  refine hX _ ?_
  by_cases hr : r = 0
  · obtain ⟨a, b, o, ha, hb, ho, rfl, rfl, hu, e, hko, hk0⟩ := h0 hr
    have hk0 : K o = 0 := by
      rcases hk0 with z | z
      · exact absurd z (by decide)
      · exact z
    have hc : (nI (a * 10 + b)).toNatClampNeg = a * 10 + b := nI_clamp (by omega)
    have hv : vp_in (nI (a * 10 + b)) 40 := vp_in_nI (by omega) (by decide)
    have hco : (nI o).toNatClampNeg = o := nI_clamp (by omega)
    have hvo : vp_in (nI o) 16 := vp_in_nI ho (by decide)
    have hse : S o = E o := hk_evs hR.2.2.2.2.2.2.2.1 ho hk0
    refine br_t hr ?_
    have bad : (v3 < 0 ∨ nI 8 ≤ v3) → wpY_signal (fun r' v' => r' = -9 ∧ i_Rel (k + 6) (md, nI w, K, N, S, P, O, C, U, G, H, R, xw, mv, co, cr, xp, pk, pn, ps, wo, wb, wp, wk) v') (md, nI w, K, N, E, P, ow, C, H, R, U, gv, ga, gb, yw, vv, f1, r1, f2, r2, yp, qk, qn, qs, zo, zb, zp, zk) (nI a) (nI b) v3 on := fun z => by
      unfold wpY_signal
      exact hY _ (br_t hr (hk_in0 (n := 7) z (by decide) (br_t rfl ⟨rfl, hk_mk hR hQ hF⟩)))
    rcases pk_ix v3 (n := 8) (by decide) with z | z | ⟨c, hc8, rfl⟩
    · exact br_t z (bad (Or.inl z))
    · exact br_f (Int32.not_lt.mpr (Int32.le_trans (by decide) z)) (br_f (Int32.not_lt.mpr z) (bad (Or.inr z)))
    · refine br_f (nI_pos (by omega)) (br_t (nI_lt (b := 8) hc8 (by decide)) ?_)
      rw [hk_m10, hc, e]
      refine ⟨hv, nm_e ?_⟩
      by_cases hon : on = 0
      · refine br_t hon ⟨hvo, hvo, ?_⟩
        rw [hco]
        refine nm_e ⟨hvo, ?_⟩
        unfold wpY_signal
        refine hY _ (br_t hr (hk_in1 (n := 7) (by omega) (by decide) (br_f (by decide) ?_)))
        refine hk_yob ha hb ?_
        rw [e]
        refine br_t hon ⟨hvo, ?_⟩
        unfold wY_signal_77
        rw [hco, ← hse]
        refine ⟨hvo, nm_e ?_⟩
        have R1 := hk_ev (y := S o &&& ((1 : Int32) <<< (nI c &&& 31) ^^^ -1)) hR hk0
        have Q1 := hk_Qand (o := o) (m := ((1 : Int32) <<< (nI c &&& 31) ^^^ -1)) hQ
        refine hk_ynt R1 Q1 ?_
        exact ⟨hvo, by rw [pk_us, pk_us], hk_mk R1 Q1 hF⟩
      · refine br_f hon ⟨hvo, hvo, ?_⟩
        rw [hco]
        refine nm_e ?_
        have R1 := hk_ev (y := S o ||| ((1 : Int32) <<< (nI c &&& 31))) hR hk0
        obtain ⟨w', S', xp', pk', pn', ps', wo', wb', wp', wk', yp', qk', qn', qs', zo', zb', zp', zk', R', Q', X', Y'⟩ := hk_tl (md := md) (N := N) (C := C) (R := R) R1
        refine X' K xw _ ?_
        refine ⟨hvo, ?_⟩
        unfold wpY_signal
        refine hY _ (br_t hr (hk_in1 (n := 7) (by omega) (by decide) (br_f (by decide) ?_)))
        refine hk_yob ha hb ?_
        rw [e]
        refine br_f hon ⟨hvo, ?_⟩
        unfold wY_signal_77
        rw [hco, ← hse]
        refine ⟨hvo, nm_e ?_⟩
        refine Y' _ ?_
        exact ⟨hvo, (hk_evs R'.2.2.2.2.2.2.2.1 ho hk0).symm, hk_mk R' Q' hF⟩
  · refine br_f hr ?_
    unfold wpY_signal
    exact hY _ (br_f hr ⟨rfl, hk_mk hR hQ hF⟩)
theorem i_vc_watch {k : Nat} {u : SX} {v : SY} (I : i_Rel k u v) (hk : k + 6 ≤ 3072) (v1 : Int32) (v2 : Int32) (v3 : Int32) (v4 : Int32) (v5 : Int32) : wpX_watch (fun r u' => wpY_watch (fun r' v' => r' = r ∧ i_Rel (k + 6) u' v') v v1 v2 v3 v4 v5) u v1 v2 v3 v4 v5 := by
  obtain ⟨md, w, K, N, S, P, O, C, U, G, H, R, xw, mv, co, cr, xp, pk, pn, ps, wo, wb, wp, wk, E, ow, gv, ga, gb, yw, vv, f1, r1, f2, r2, yp, qk, qn, qs, zo, zb, zp, zk, rfl, rfl, hR, hQ, hF⟩ := I
  obtain ⟨r, hX, hY, h0⟩ := hk_th (md := md) (K := K) (N := N) (S := S) (P := P) (O := O) (C := C) (U := U) (G := G) (H := H) (R := R) (xw := xw) (mv := mv) (co := co) (cr := cr) (xp := xp) (pk := pk) (pn := pn) (ps := ps) (wo := wo) (wb := wb) (wp := wp) (wk := wk) (E := E) (ow := ow) (gv := gv) (ga := ga) (gb := gb) (yw := yw) (vv := vv) (f1 := f1) (r1 := r1) (f2 := f2) (r2 := r2) (yp := yp) (qk := qk) (qn := qn) (qs := qs) (zo := zo) (zb := zb) (zp := zp) (zk := zk) (w := w) hR.1 hR.2.1 v1 v2 (-1) 16 (Or.inl rfl)
  unfold wpX_watch
  refine hX _ ?_
  by_cases hr : r = 0
  · obtain ⟨a, b, o, ha, hb, ho, rfl, rfl, hu, e, hko, -⟩ := h0 hr
    obtain ⟨s, sX, sY, s0⟩ := hk_th1 (md := md) (K := K) (N := N) (S := S) (P := P) (O := O) (C := C) (U := U) (G := G) (H := H) (R := R) (xw := xw) (mv := mv) (co := co) (cr := cr) (xp := xp) (pk := pk) (pn := pn) (ps := ps) (wo := wo) (wb := wb) (wp := wp) (wk := wk) (E := E) (ow := ow) (gv := gv) (ga := ga) (gb := gb) (yw := yw) (vv := vv) (f1 := f1) (r1 := r1) (f2 := f2) (r2 := r2) (yp := yp) (qk := qk) (qn := qn) (qs := qs) (zo := zo) (zb := zb) (zp := zp) (zk := zk) (w := w) hR.1 hR.2.1 ha hu v3 3 2 (Or.inr (by decide))
    have hc : (nI (a * 10 + b)).toNatClampNeg = a * 10 + b := nI_clamp (by omega)
    have hv : vp_in (nI (a * 10 + b)) 40 := vp_in_nI (by omega) (by decide)
    refine br_t hr ?_
    refine sX _ ?_
    by_cases hs : s = 0
    · obtain ⟨d, q, hd, hq, rfl, e2, hkq, hk3⟩ := s0 hs
      have hk3 : K q = 3 := by
        rcases hk3 with z | z
        · exact absurd z (by decide)
        · exact z
      have hcd : (nI (a * 10 + d)).toNatClampNeg = a * 10 + d := nI_clamp (by omega)
      have hvd : vp_in (nI (a * 10 + d)) 40 := vp_in_nI (by omega) (by decide)
      have hW := hR.2.2.2.2.2.2.2.2.1
      have hw := hW.1
      refine br_t hs ?_
      by_cases h12 : w < 12
      · have hcw : (nI w).toNatClampNeg = w := nI_clamp (by omega)
        have hvw : vp_in (nI w) 12 := vp_in_nI h12 (by decide)
        have y12 : ¬ nI w = 12 := fun z => by have := (nI_eq (b := 12) (by omega) (by decide)).mp z; omega
        have R1 : (hk_K K ∧ hk_H K H ∧ hk_X K xw xp ∧ hk_M K xw mv co cr yw vv f1 r1 f2 r2 ∧ hk_P K xp pk pn ps yp qk qn qs ∧ hk_E K P ∧ hk_O K O ow ∧ hk_S K P S E ow U yw yp ∧ hk_W K (w + 1) (upd wo w (nI o)) (upd wb w (v4 &&& 2047)) (upd wp w (nI q)) (upd wk w v5) (upd zo w (nI o)) (upd zb w (v4 &&& 2047)) (upd zp w (nI q)) (upd zk w v5) ∧ hk_G G gv ga gb) := by
          obtain ⟨hK, hH, hX, hM, hP, hE, hO, hS, hW, hG⟩ := hR
          refine ⟨hK, hH, hX, hM, hP, hE, hO, hS, ⟨by omega, fun i hi => ?_⟩, hG⟩
          unfold hk_w1
          by_cases z : i = w
          · rw [z, pk_us, pk_us, pk_us, pk_us, pk_us, pk_us, pk_us, pk_us]
            exact ⟨rfl, rfl, rfl, rfl, ⟨o, ho, rfl, hko⟩, q, hq, rfl, hk3⟩
          · rw [pk_un z, pk_un z, pk_un z, pk_un z, pk_un z, pk_un z, pk_un z, pk_un z]
            exact hW.2 i (by omega)
        obtain ⟨w', S', xp', pk', pn', ps', wo', wb', wp', wk', yp', qk', qn', qs', zo', zb', zp', zk', R', Q', X', Y'⟩ := hk_tl (md := md) (N := N) (C := C) (R := R) R1
        refine br_t (nI_lt (b := 12) h12 (by decide)) ?_
        rw [hk_m10, hk_m10, hc, hcd, hcw, e, e2]
        refine ⟨hv, hvw, nm_e ⟨hvd, hvw, nm_e ⟨hvw, nm_e ⟨hvw, nm_e (nm_r (nI_1 w) ?_)⟩⟩⟩⟩
        refine X' K xw _ ?_
        unfold wpY_watch
        refine hY _ (br_t hr ?_)
        refine sY _ ?_
        refine br_t hs (br_f y12 ?_)
        refine hk_yob ha hb ?_
        rw [e, hcw]
        refine ⟨hvw, nm_e ⟨hvw, nm_e ?_⟩⟩
        refine hk_yob ha hd ?_
        rw [e2]
        refine ⟨hvw, nm_e ⟨hvw, nm_e (nm_r (nI_1 w) ?_)⟩⟩
        refine Y' _ ?_
        exact ⟨rfl, hk_mk R' Q' hF⟩
      · have y12 : nI w = 12 := by rw [show w = 12 by omega]; rfl
        refine br_f (nI_nlt (b := 12) (by omega) (by omega)) ?_
        unfold wpY_watch
        refine hY _ (br_t hr ?_)
        refine sY _ ?_
        exact br_t hs (br_t y12 ⟨rfl, hk_mk hR hQ hF⟩)
    · refine br_f hs ?_
      unfold wpY_watch
      refine hY _ (br_t hr ?_)
      refine sY _ ?_
      exact br_f hs ⟨rfl, hk_mk hR hQ hF⟩
  · refine br_f hr ?_
    unfold wpY_watch
    exact hY _ (br_f hr (br_f hr ⟨rfl, hk_mk hR hQ hF⟩))
