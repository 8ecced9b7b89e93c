section
variable {md : Int32} {w : Nat} {K N S P O C U G H R xw mv co cr xp pk pn ps wo wb wp wk : Nat → Int32} {E ow gv ga gb yw vv f1 r1 f2 r2 yp qk qn qs zo zb zp zk : Nat → Int32}
theorem hk_xdpl {o n : Nat} (ho : o < 16) (hn : n < 6) (e : xp o = nI (n + 1)) {post : SX → Prop} (hp : post (md, nI w, K, N, if n = 0 then upd S o (S o &&& -257) else S, P, O, C, U, G, H, R, xw, mv, co, cr, upd xp o (nI n), hk_sh pk (o * 6) (o * 6 + 5), hk_sh pn (o * 6) (o * 6 + 5), hk_sh ps (o * 6) (o * 6 + 5), wo, wb, wp, wk)) : ∀ d j, j + d = 5 → wX_dropFirstPacket_7 post (nI o) (nI (o * 6)) md (nI w) (d + 1) (nI (o * 6 + j)) K N S P O C U G H R xw mv co cr xp (hk_sh pk (o * 6) (o * 6 + j)) (hk_sh pn (o * 6) (o * 6 + j)) (hk_sh ps (o * 6) (o * 6 + j)) wo wb wp wk := by
  have hco : (nI o).toNatClampNeg = o := nI_clamp (by omega)
  have hvo : vp_in (nI o) 16 := vp_in_nI ho (by decide)
  have e5 : nI (o * 6) + 6 - 1 = nI (o * 6 + 5) := by
    rw [show nI (o * 6) + 6 = nI (o * 6 + 5 + 1) from nI_add (o * 6) 6, nI_pred]
  intro d
  induction d with
  | zero =>
    intro j hj
    obtain rfl : j = 5 := by omega
    refine br_t (by rw [e5]; exact Int32.le_refl _) ?_
    rw [hco, e, nI_pred]
    refine ⟨hvo, hvo, nm_e ⟨hvo, ?_⟩⟩
    rw [pk_us]
    by_cases z : n = 0
    · rw [if_pos z] at hp
      exact br_t (by rw [z]; rfl) ⟨hvo, hvo, nm_e hp⟩
    · rw [if_neg z] at hp
      exact br_f (nI_ne0 (by omega) (by omega)) hp
  | succ d ih =>
    intro j hj
    have c1 : (nI (o * 6 + j + 1)).toNatClampNeg = o * 6 + j + 1 := nI_clamp (by omega)
    have c0 : (nI (o * 6 + j)).toNatClampNeg = o * 6 + j := nI_clamp (by omega)
    have v1 : vp_in (nI (o * 6 + j + 1)) 96 := vp_in_nI (by omega) (by decide)
    have v0 : vp_in (nI (o * 6 + j)) 96 := vp_in_nI (by omega) (by decide)
    have hij : o * 6 ≤ o * 6 + j := by omega
    refine br_f (by rw [e5]; exact nI_ge (by omega) (by omega)) ?_
    rw [nI_1, c1, c0, hk_shs pk hij, hk_shs pn hij, hk_shs ps hij]
    exact ⟨v1, v0, nm_e ⟨v1, v0, nm_e ⟨v1, v0, nm_e (nm_e (ih (j + 1) (by omega)))⟩⟩⟩
theorem hk_xdp {o n : Nat} (ho : o < 16) (hn : n < 6) (e : xp o = nI (n + 1)) {post : SX → Prop} (hp : post (md, nI w, K, N, if n = 0 then upd S o (S o &&& -257) else S, P, O, C, U, G, H, R, xw, mv, co, cr, upd xp o (nI n), hk_sh pk (o * 6) (o * 6 + 5), hk_sh pn (o * 6) (o * 6 + 5), hk_sh ps (o * 6) (o * 6 + 5), wo, wb, wp, wk)) : wpX_dropFirstPacket post (md, nI w, K, N, S, P, O, C, U, G, H, R, xw, mv, co, cr, xp, pk, pn, ps, wo, wb, wp, wk) (nI o) := by
  unfold wpX_dropFirstPacket
  have := hk_xdpl ho hn e hp 5 0 rfl
  rw [show hk_sh pk (o * 6) (o * 6 + 0) = pk from hk_sh0 _ _, show hk_sh pn (o * 6) (o * 6 + 0) = pn from hk_sh0 _ _, show hk_sh ps (o * 6) (o * 6 + 0) = ps from hk_sh0 _ _] at this
  exact nm_r (hk_m6 o) ⟨_, this⟩
theorem hk_ydpl {o n : Nat} (ho : o < 16) (hn : n < 6) (e : yp o = nI n) {x : Int64} {post : Int64 → SY → Prop} (hp : post x (md, nI w, K, N, E, P, ow, C, H, R, U, gv, ga, gb, yw, vv, f1, r1, f2, r2, yp, hk_sh qk (o * 6) (o * 6 + n), hk_sh qn (o * 6) (o * 6 + n), hk_sh qs (o * 6) (o * 6 + n), zo, zb, zp, zk)) : ∀ d j, j + d = n → wY_packet_140 post (nI o) (nI (o * 6)) x md (nI w) (d + 1) (nI (o * 6 + j)) K N E P ow C H R U gv ga gb yw vv f1 r1 f2 r2 yp (hk_sh qk (o * 6) (o * 6 + j)) (hk_sh qn (o * 6) (o * 6 + j)) (hk_sh qs (o * 6) (o * 6 + j)) zo zb zp zk := by
  have hco : (nI o).toNatClampNeg = o := nI_clamp (by omega)
  have hvo : vp_in (nI o) 16 := vp_in_nI ho (by decide)
  have e5 : nI (o * 6) + yp (nI o).toNatClampNeg = nI (o * 6 + n) := by rw [hco, e, nI_add]
  intro d
  induction d with
  | zero =>
    intro j hj
    obtain rfl : j = n := by omega
    exact ⟨hvo, br_t (by rw [e5]; exact Int32.le_refl _) hp⟩
  | succ d ih =>
    intro j hj
    have c1 : (nI (o * 6 + j + 1)).toNatClampNeg = o * 6 + j + 1 := nI_clamp (by omega)
    have c0 : (nI (o * 6 + j)).toNatClampNeg = o * 6 + j := nI_clamp (by omega)
    have v1 : vp_in (nI (o * 6 + j + 1)) 96 := vp_in_nI (by omega) (by decide)
    have v0 : vp_in (nI (o * 6 + j)) 96 := vp_in_nI (by omega) (by decide)
    have hij : o * 6 ≤ o * 6 + j := by omega
    refine ⟨hvo, br_f (by rw [e5]; exact nI_ge (by omega) (by omega)) ?_⟩
    rw [nI_1, c1, c0, hk_shs qk hij, hk_shs qn hij, hk_shs qs hij]
    exact ⟨v1, v0, nm_e ⟨v1, v0, nm_e ⟨v1, v0, nm_e (nm_e (ih (j + 1) (by omega)))⟩⟩⟩
theorem hk_ydp {o n : Nat} (ho : o < 16) (hn : n < 6) (e : yp o = nI (n + 1)) {x : Int64} {post : Int64 → SY → Prop} (hp : post x (md, nI w, K, N, E, P, ow, C, H, R, U, gv, ga, gb, yw, vv, f1, r1, f2, r2, upd yp o (nI n), hk_sh qk (o * 6) (o * 6 + n), hk_sh qn (o * 6) (o * 6 + n), hk_sh qs (o * 6) (o * 6 + n), zo, zb, zp, zk)) : wY_packet_123 post (nI o) (nI (o * 6)) x md (nI w) K N E P ow C H R U gv ga gb yw vv f1 r1 f2 r2 yp qk qn qs zo zb zp zk := by
  have hco : (nI o).toNatClampNeg = o := nI_clamp (by omega)
  have hvo : vp_in (nI o) 16 := vp_in_nI ho (by decide)
  have := hk_ydpl (md := md) (K := K) (N := N) (E := E) (P := P) (ow := ow) (C := C) (H := H) (R := R) (U := U) (gv := gv) (ga := ga) (gb := gb) (yw := yw) (vv := vv) (f1 := f1) (r1 := r1) (f2 := f2) (r2 := r2) (yp := upd yp o (nI n)) (qk := qk) (qn := qn) (qs := qs) (zo := zo) (zb := zb) (zp := zp) (zk := zk) (w := w) ho hn pk_us hp n 0 (by omega)
  rw [show hk_sh qk (o * 6) (o * 6 + 0) = qk from hk_sh0 _ _, show hk_sh qn (o * 6) (o * 6 + 0) = qn from hk_sh0 _ _, show hk_sh qs (o * 6) (o * 6 + 0) = qs from hk_sh0 _ _] at this
  unfold wY_packet_123
  rw [hco, e, nI_pred]
  exact ⟨hvo, hvo, nm_e ⟨_, this⟩⟩
theorem hk_dpR {o n : Nat} (hR : (hk_K K ∧ hk_H K H ∧ hk_X K xw xp ∧ hk_M K xw mv co cr yw vv f1 r1 f2 r2 ∧ hk_P K xp pk pn ps yp qk qn qs ∧ hk_E K P ∧ hk_O K O ow ∧ hk_S K P S E ow U yw yp ∧ hk_W K w wo wb wp wk zo zb zp zk ∧ hk_G G gv ga gb)) (hQ : hk_Q w S wo wb) (ho : o < 16) (hn : n < 6) (hk3 : K o = 3) (e1 : xp o = nI (n + 1)) (e2 : yp o = nI (n + 1)) : (hk_K K ∧ hk_H K H ∧ hk_X K xw (upd xp o (nI n)) ∧ hk_M K xw mv co cr yw vv f1 r1 f2 r2 ∧ hk_P K (upd xp o (nI n)) (hk_sh pk (o * 6) (o * 6 + 5)) (hk_sh pn (o * 6) (o * 6 + 5)) (hk_sh ps (o * 6) (o * 6 + 5)) (upd yp o (nI n)) (hk_sh qk (o * 6) (o * 6 + n)) (hk_sh qn (o * 6) (o * 6 + n)) (hk_sh qs (o * 6) (o * 6 + n)) ∧ hk_E K P ∧ hk_O K O ow ∧ hk_S K P (if n = 0 then upd S o (S o &&& -257) else S) E ow U yw (upd yp o (nI n)) ∧ hk_W K w wo wb wp wk zo zb zp zk ∧ hk_G G gv ga gb) ∧ hk_Q w (if n = 0 then upd S o (S o &&& -257) else S) wo wb := by
  obtain ⟨hK, hH, hX, hM, hP, hE, hO, hS, hW, hG⟩ := hR
  refine ⟨⟨hK, hH, ?_, hM, ?_, hE, hO, ?_, hW, hG⟩, ?_⟩
  · intro e he
    refine ⟨(hX e he).1, fun z => ?_⟩
    have : e ≠ o := fun y => z (by rw [y]; exact hk3)
    rw [pk_un this]
    exact (hX e he).2 z
  · intro e he hke
    obtain ⟨m, hm, a1, a2, a3⟩ := hP e he hke
    by_cases z : e = o
    · subst z
      have hmn : m = n + 1 := (nI_eq (by omega) (by omega)).mp (a1.symm.trans e1)
      subst hmn
      refine ⟨n, by omega, pk_us, pk_us, fun j hj => ?_⟩
      unfold hk_sh
      rw [hk_gm (by omega) (by omega), hk_gm (by omega) (by omega)]
      exact a3 (j + 1) (by omega)
    · refine ⟨m, hm, by rw [pk_un z]; exact a1, by rw [pk_un z]; exact a2, fun j hj => ?_⟩
      have g : ∀ n, n ≤ 5 → hk_g (o * 6) (o * 6 + n) (e * 6 + j) = e * 6 + j := fun n hn => by
        unfold hk_g
        rw [if_neg (by omega)]
      unfold hk_sh
      rw [g 5 (by omega), g n (by omega)]
      exact a3 j hj
  · intro e he hke
    by_cases z : e = o
    · subst z
      have s0 := hS e he hke
      unfold hk_sg at s0 ⊢
      have n0 : ¬ K e = 0 := by rw [hk3]; decide
      have n1 : ¬ K e = 1 := by rw [hk3]; decide
      have y1 : ¬ yp e ≤ 0 := by rw [e2]; exact nI_nle (by omega) (by omega)
      rw [if_neg n0, if_neg n1, if_pos hk3] at s0 ⊢
      rw [if_neg y1] at s0
      rw [pk_us]
      by_cases y : n = 0
      · rw [if_pos y, pk_us, s0, y]; decide
      · rw [if_neg y, s0, if_neg (nI_nle (by omega) (by omega))]
    · have hs : (if n = 0 then upd S o (S o &&& -257) else S) e = S e := by
        by_cases y : n = 0
        · rw [if_pos y, pk_un z]
        · rw [if_neg y]
      rw [hs, hS e he hke]
      unfold hk_sg
      rw [pk_un z]
  · by_cases y : n = 0
    · rw [if_pos y]; exact hk_Qand hQ
    · rw [if_neg y]; exact hQ
end
theorem i_vc_packet {k : Nat} {u : SX} {v : SY} (I : i_Rel k u v) (hk : k + 6 ≤ 3072) (v1 : Int32) (v2 : Int32) (v3 : Int32) : wpX_packet (fun r u' => wpY_packet (fun r' v' => r' = r ∧ i_Rel (k + 6) u' v') v v1 v2 v3) u v1 v2 v3 := by
  obtain ⟨md, w, K, N, S, P, O, C, U, G, H, R, xw, mv, co, cr, xp, pk, pn, ps, wo, wb, wp, wk, E, ow, gv, ga, gb, yw, vv, f1, r1, f2, r2, yp, qk, qn, qs, zo, zb, zp, zk, rfl, rfl, hR, hQ, hF⟩ := I
  obtain ⟨r, hX, hY, h0⟩ := hk_th (md := md) (K := K) (N := N) (S := S) (P := P) (O := O) (C := C) (U := U) (G := G) (H := H) (R := R) (xw := xw) (mv := mv) (co := co) (cr := cr) (xp := xp) (pk := pk) (pn := pn) (ps := ps) (wo := wo) (wb := wb) (wp := wp) (wk := wk) (E := E) (ow := ow) (gv := gv) (ga := ga) (gb := gb) (yw := yw) (vv := vv) (f1 := f1) (r1 := r1) (f2 := f2) (r2 := r2) (yp := yp) (qk := qk) (qn := qn) (qs := qs) (zo := zo) (zb := zb) (zp := zp) (zk := zk) (w := w) hR.1 hR.2.1 v1 v2 3 1 (Or.inr (by decide))
  unfold wpX_packet
  refine hX _ ?_
  by_cases hr : r = 0
  · obtain ⟨a, b, o, ha, hb, ho, rfl, rfl, hu, e, hko, hk3⟩ := h0 hr
    have hk3 : K o = 3 := by
      rcases hk3 with z | z
      · exact absurd z (by decide)
      · exact z
    have hc : (nI (a * 10 + b)).toNatClampNeg = a * 10 + b := nI_clamp (by omega)
    have hv : vp_in (nI (a * 10 + b)) 40 := vp_in_nI (by omega) (by decide)
    have hco : (nI o).toNatClampNeg = o := nI_clamp (by omega)
    have hvo : vp_in (nI o) 16 := vp_in_nI ho (by decide)
    have hc6 : (nI (o * 6)).toNatClampNeg = o * 6 := nI_clamp (by omega)
    have hv6 : vp_in (nI (o * 6)) 96 := vp_in_nI (by omega) (by decide)
    refine br_t hr ?_
    have bad : (v3 < 0 ∨ nI 4 ≤ v3) → wpY_packet (fun r' v' => r' = -10000000009 ∧ i_Rel (k + 6) (md, nI w, K, N, S, P, O, C, U, G, H, R, xw, mv, co, cr, xp, pk, pn, ps, wo, wb, wp, wk) v') (md, nI w, K, N, E, P, ow, C, H, R, U, gv, ga, gb, yw, vv, f1, r1, f2, r2, yp, qk, qn, qs, zo, zb, zp, zk) (nI a) (nI b) v3 := fun z => by
      unfold wpY_packet
      exact hY _ (br_t hr (hk_in0 (n := 3) z (by decide) (br_t rfl (br_f (by decide) ⟨by decide, hk_mk hR hQ hF⟩))))
    rcases pk_ix v3 (n := 4) (by decide) with z | z | ⟨c, hc4, rfl⟩
    · exact br_t z (bad (Or.inl z))
    · exact br_f (Int32.not_lt.mpr (Int32.le_trans (by decide) z)) (br_f (Int32.not_le.mpr (Int32.lt_of_lt_of_le (by decide) z)) (bad (Or.inr z)))
    · have HY : ∀ post : Int64 → SY → Prop, ((nI c = 3 → post (yp o).toInt64 (md, nI w, K, N, E, P, ow, C, H, R, U, gv, ga, gb, yw, vv, f1, r1, f2, r2, yp, qk, qn, qs, zo, zb, zp, zk)) ∧ (¬ nI c = 3 → (yp o = 0 → post (-10000000008) (md, nI w, K, N, E, P, ow, C, H, R, U, gv, ga, gb, yw, vv, f1, r1, f2, r2, yp, qk, qn, qs, zo, zb, zp, zk)) ∧ (¬ yp o = 0 → (nI c = 0 → wY_packet_123 post (nI o) (nI (o * 6)) (qk (o * 6)).toInt64 md (nI w) K N E P ow C H R U gv ga gb yw vv f1 r1 f2 r2 yp qk qn qs zo zb zp zk) ∧ (¬ nI c = 0 → (nI c = 1 → wY_packet_123 post (nI o) (nI (o * 6)) (qn (o * 6)).toInt64 md (nI w) K N E P ow C H R U gv ga gb yw vv f1 r1 f2 r2 yp qk qn qs zo zb zp zk) ∧ (¬ nI c = 1 → wY_packet_123 post (nI o) (nI (o * 6)) (qs (o * 6)).toInt64 md (nI w) K N E P ow C H R U gv ga gb yw vv f1 r1 f2 r2 yp qk qn qs zo zb zp zk))))) → wpY_packet post (md, nI w, K, N, E, P, ow, C, H, R, U, gv, ga, gb, yw, vv, f1, r1, f2, r2, yp, qk, qn, qs, zo, zb, zp, zk) (nI a) (nI b) (nI c) := fun post hp => by
        unfold wpY_packet
        refine hY _ (br_t hr (hk_in1 (n := 3) (by omega) (by decide) (br_f (by decide) (br_t hr ?_))))
        refine hk_yob ha hb ?_
        rw [e]
        refine nm_r (hk_6m o) ?_
        rw [hco, hc6]
        exact ⟨fun z => ⟨hvo, hp.1 z⟩, fun z => ⟨hvo, (hp.2 z).1, fun y => ⟨fun x => ⟨hv6, ((hp.2 z).2 y).1 x⟩, fun x => ⟨fun t => ⟨hv6, (((hp.2 z).2 y).2 x).1 t⟩, fun t => ⟨hv6, (((hp.2 z).2 y).2 x).2 t⟩⟩⟩⟩⟩
      obtain ⟨m, hm, x1, y1, hpk⟩ := hR.2.2.2.2.1 o ho hk3
      refine br_f (nI_pos (by omega)) (br_t (nI_le (b := 3) (by omega) (by decide)) ?_)
      rw [hk_m10, hc, e]
      refine ⟨hv, nm_e ?_⟩
      rw [hco]
      by_cases h3 : c = 3
      · subst h3
        refine br_t rfl ⟨hvo, HY _ (br_t rfl ⟨by rw [x1, y1], hk_mk hR hQ hF⟩)⟩
      · have n3 : ¬ nI c = 3 := fun z => h3 ((nI_eq (b := 3) (by omega) (by decide)).mp z)
        refine br_f n3 ⟨hvo, ?_⟩
        by_cases hm0 : m = 0
        · subst hm0
          exact br_t x1 (HY _ (br_f n3 (br_t y1 ⟨rfl, hk_mk hR hQ hF⟩)))
        · obtain ⟨n, rfl⟩ : ∃ n, m = n + 1 := ⟨m - 1, by omega⟩
          have zx : ¬ xp o = 0 := by rw [x1]; exact nI_ne0 (by omega) (by omega)
          have zy : ¬ yp o = 0 := by rw [y1]; exact nI_ne0 (by omega) (by omega)
          obtain ⟨R1, Q1⟩ := hk_dpR hR hQ ho (by omega) hk3 x1 y1
          obtain ⟨g1, g2, g3⟩ := hpk 0 (by omega)
          rw [Nat.add_zero] at g1 g2 g3
          refine br_f zx (nm_r (hk_m6 o) ?_)
          rw [hc6]
          refine ⟨hv6, nm_e ?_⟩
          have FX : ∀ x : Int32, (∀ U' : Unit, wpY_packet (fun r' v' => r' = x.toInt64 ∧ i_Rel (k + 6) (md, nI w, K, N, if n = 0 then upd S o (S o &&& -257) else S, P, O, C, U, G, H, R, xw, mv, co, cr, upd xp o (nI n), hk_sh pk (o * 6) (o * 6 + 5), hk_sh pn (o * 6) (o * 6 + 5), hk_sh ps (o * 6) (o * 6 + 5), wo, wb, wp, wk) v') (md, nI w, K, N, E, P, ow, C, H, R, U, gv, ga, gb, yw, vv, f1, r1, f2, r2, yp, qk, qn, qs, zo, zb, zp, zk) (nI a) (nI b) (nI c)) → wX_packet_124 (fun r u' => wpY_packet (fun r' v' => r' = r ∧ i_Rel (k + 6) u' v') (md, nI w, K, N, E, P, ow, C, H, R, U, gv, ga, gb, yw, vv, f1, r1, f2, r2, yp, qk, qn, qs, zo, zb, zp, zk) (nI a) (nI b) (nI c)) (nI o) x md (nI w) K N S P O C U G H R xw mv co cr xp pk pn ps wo wb wp wk := fun x hx => by
            unfold wX_packet_124
            refine hk_xdp ho (by omega) x1 ?_
            exact hx ()
          by_cases c1 : c = 1
          · subst c1
            refine br_t rfl ⟨hv6, nm_e (FX _ fun _ => HY _ (br_f n3 (br_f zy (br_f (by decide) (br_t rfl ?_)))))⟩
            exact hk_ydp ho (by omega) y1 ⟨by rw [g2], hk_mk R1 Q1 hF⟩
          · have n1 : ¬ nI c = 1 := fun z => c1 ((nI_eq (b := 1) (by omega) (by decide)).mp z)
            refine br_f n1 ?_
            by_cases c2 : c = 2
            · subst c2
              refine br_t rfl ⟨hv6, nm_e (FX _ fun _ => HY _ (br_f n3 (br_f zy (br_f (by decide) (br_f n1 ?_)))))⟩
              exact hk_ydp ho (by omega) y1 ⟨by rw [g3], hk_mk R1 Q1 hF⟩
            · have n2 : ¬ nI c = 2 := fun z => c2 ((nI_eq (b := 2) (by omega) (by decide)).mp z)
              obtain rfl : c = 0 := by omega
              refine br_f n2 (FX _ fun _ => HY _ (br_f n3 (br_f zy (br_t rfl ?_))))
              exact hk_ydp ho (by omega) y1 ⟨by rw [g1], hk_mk R1 Q1 hF⟩
  · refine br_f hr ?_
    unfold wpY_packet
    exact hY _ (br_f hr (br_f hr ⟨rfl, hk_mk hR hQ hF⟩))
