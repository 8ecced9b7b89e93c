/-- what a message takes of the place v: nothing, or its object and its rights -/
def hk_cy (K H R : Nat → Int32) (a : Nat) (v x y : Int32) (H' : Nat → Int32) : Prop := (v = -1 ∧ x = -1 ∧ y = 0 ∧ H' = H) ∨ (∃ b o : Nat, b < 10 ∧ o < 16 ∧ v = nI b ∧ H (a * 10 + b) = nI o ∧ K o ≠ -1 ∧ x = nI o ∧ y = R (a * 10 + b) ∧ H' = upd H (a * 10 + b) (-1))
section
variable {md : Int32} {w : Nat} {K N S P O C U G H R xw mv co cr xp pk pn ps wo wb wp wk : Nat → Int32} {E ow gv ga gb yw vv f1 r1 f2 r2 yp qk qn qs zo zb zp zk : Nat → Int32}
theorem hk_ts (hK : hk_K K) (hH : hk_H K H) {a : Nat} (ha : a < 4) (hu : U a ≠ 0) (v : Int32) : ∃ r : Int32, (∀ post : Int32 → Prop, post r → wpX_testSent post (md, nI w, K, N, S, P, O, C, U, G, H, R, xw, mv, co, cr, xp, pk, pn, ps, wo, wb, wp, wk) (nI a) v) ∧ (∀ post : Int32 → Prop, post r → ((v = -1 → post 0) ∧ (¬ v = -1 → wpY_test (fun r => post r) (md, nI w, K, N, E, P, ow, C, H, R, U, gv, ga, gb, yw, vv, f1, r1, f2, r2, yp, qk, qn, qs, zo, zb, zp, zk) (nI a) v (-1) 8))) ∧ (r = 0 → ∃ x y H', hk_cy K H R a v x y H') := by
  by_cases z : v = -1
  · exact ⟨0, fun post hp => br_t z hp, fun post hp => br_t z hp, fun _ => ⟨-1, 0, H, Or.inl ⟨z, rfl, rfl, rfl⟩⟩⟩
  · obtain ⟨r, h1, h2, h3⟩ := hk_th1 (md := md) (K := K) (N := N) (S := S) (P := P) (O := O) (C := C) (U := U) (G := G) (H := H) (R := R) (xw := xw) (mv := mv) (co := co) (cr := cr) (xp := xp) (pk := pk) (pn := pn) (ps := ps) (wo := wo) (wb := wb) (wp := wp) (wk := wk) (E := E) (ow := ow) (gv := gv) (ga := ga) (gb := gb) (yw := yw) (vv := vv) (f1 := f1) (r1 := r1) (f2 := f2) (r2 := r2) (yp := yp) (qk := qk) (qn := qn) (qs := qs) (zo := zo) (zb := zb) (zp := zp) (zk := zk) (w := w) hK hH ha hu v (-1) 8 (Or.inl rfl)
    refine ⟨r, fun post hp => br_f z (h1 _ hp), fun post hp => br_f z (h2 _ hp), fun y => ?_⟩
    obtain ⟨b, o, hb, ho, e1, e2, e3, -⟩ := h3 y
    exact ⟨_, _, _, Or.inr ⟨b, o, hb, ho, e1, e2, e3, rfl, rfl, rfl⟩⟩
theorem hk_cy2 {a : Nat} {v x y v' x' y' : Int32} {H1 Hz : Nat → Int32} (h : hk_cy K H R a v x y H1) (h' : hk_cy K H R a v' x' y' Hz) (hn : v = v' → v = -1) : ∃ H2, hk_cy K H1 R a v' x' y' H2 := by
  rcases h' with ⟨z1, z2, z3, -⟩ | ⟨b', o', hb', ho', e1', e2', e3', e4', e5', -⟩
  · exact ⟨H1, Or.inl ⟨z1, z2, z3, rfl⟩⟩
  · refine ⟨_, Or.inr ⟨b', o', hb', ho', e1', ?_, e3', e4', e5', rfl⟩⟩
    rcases h with ⟨-, -, -, rfl⟩ | ⟨b, o, hb, ho, e1, e2, e3, e4, e5, rfl⟩
    · exact e2'
    · have : b' ≠ b := fun q => by
        have := hn (by rw [e1, e1', q])
        rw [e1] at this
        exact hk_ne b (by omega) this
      rw [pk_un (by omega)]
      exact e2'
theorem hk_cyH {a : Nat} {v x y : Int32} {H' : Nat → Int32} (h : hk_cy K H R a v x y H') (hH : hk_H K H) : hk_H K H' := by
  rcases h with ⟨-, -, -, rfl⟩ | ⟨b, o, hb, ho, e1, e2, e3, e4, e5, rfl⟩
  · exact hH
  · exact hk_plH hH (Or.inl rfl)
theorem hk_cyF {a : Nat} {v x y : Int32} {H' : Nat → Int32} (h : hk_cy K H R a v x y H') (hF : hk_F U H) : hk_F U H' := by
  rcases h with ⟨-, -, -, rfl⟩ | ⟨b, o, hb, ho, e1, e2, e3, e4, e5, rfl⟩
  · exact hF
  · exact hk_clF hF
theorem hk_cyr {a : Nat} {v x y : Int32} {H' : Nat → Int32} (h : hk_cy K H R a v x y H') : hk_rf K x := by
  rcases h with ⟨-, z, -, -⟩ | ⟨b, o, hb, ho, e1, e2, e3, e4, e5, -⟩
  · exact Or.inl z
  · exact Or.inr ⟨o, ho, e4, e3⟩
theorem hk_cyx {a i : Nat} {v x y : Int32} {H' : Nat → Int32} (h : hk_cy K H R a v x y H') (ha : a < 4) (hi : i < 128) {post : SX → Prop} (hp : post (md, nI w, K, N, S, P, O, C, U, G, H', R, xw, mv, upd co i x, if x = -1 then cr else upd cr i y, xp, pk, pn, ps, wo, wb, wp, wk)) : wpX_putIntoMessage post (md, nI w, K, N, S, P, O, C, U, G, H, R, xw, mv, co, cr, xp, pk, pn, ps, wo, wb, wp, wk) (nI a) v (nI i) := by
  have hci : (nI i).toNatClampNeg = i := nI_clamp (by omega)
  have hvi : vp_in (nI i) 128 := vp_in_nI hi (by decide)
  unfold wpX_putIntoMessage
  dsimp only
  rw [hci]
  rcases h with ⟨z1, z2, -, rfl⟩ | ⟨b, o, hb, ho, e1, e2, e3, e4, e5, rfl⟩
  · rw [if_pos z2, z2] at hp
    exact br_t z1 ⟨hvi, nm_e hp⟩
  · have hc : (nI (a * 10 + b)).toNatClampNeg = a * 10 + b := nI_clamp (by omega)
    have hv : vp_in (nI (a * 10 + b)) 40 := vp_in_nI (by omega) (by decide)
    rw [if_neg (by rw [e4]; exact hk_ne o (by omega)), e4, e5] at hp
    subst e1
    refine br_f (hk_ne b (by omega)) (nm_r (hk_m10 a b) ⟨hv, hvi, ?_⟩)
    rw [hc, e2]
    exact nm_e ⟨hv, hvi, nm_e ⟨hv, nm_e hp⟩⟩
theorem hk_cy_o {a : Nat} {v x y : Int32} {H' : Nat → Int32} (h : hk_cy K H R a v x y H') (ha : a < 4) {F : Int32 → Prop} (hp : F x) : ((0 ≤ v → wpY_object (fun r => F r) (md, nI w, K, N, E, P, ow, C, H, R, U, gv, ga, gb, yw, vv, f1, r1, f2, r2, yp, qk, qn, qs, zo, zb, zp, zk) (nI a) v) ∧ (¬ 0 ≤ v → F (-1))) := by
  rcases h with ⟨z1, z2, -, -⟩ | ⟨b, o, hb, ho, e1, e2, e3, e4, e5, -⟩
  · rw [z2] at hp
    exact br_f (by rw [z1]; decide) hp
  · subst e1
    exact br_t (nI_pos' (by omega)) (hk_yob ha hb (by rw [e2, ← e4]; exact hp))
theorem hk_cy_r {a : Nat} {v x y : Int32} {H' : Nat → Int32} (h : hk_cy K H R a v x y H') (ha : a < 4) {F : Int32 → Prop} (hp : F y) : ((0 ≤ v → vp_in (10 * nI a + v) 40 ∧ F (R (10 * nI a + v).toNatClampNeg)) ∧ (¬ 0 ≤ v → F 0)) := by
  rcases h with ⟨z1, -, z2, -⟩ | ⟨b, o, hb, ho, e1, e2, e3, e4, e5, -⟩
  · rw [z2] at hp
    exact br_f (by rw [z1]; decide) hp
  · subst e1
    refine br_t (nI_pos' (by omega)) ?_
    rw [hk_10m, nI_clamp (by omega)]
    rw [e5] at hp
    exact ⟨vp_in_nI (by omega) (by decide), hp⟩
theorem hk_cy_h {a : Nat} {v x y : Int32} {H' : Nat → Int32} (h : hk_cy K H R a v x y H') (ha : a < 4) {F : (Nat → Int32) → Prop} (hp : F H') : ((v < 0 → F H) ∧ (¬ v < 0 → vp_in (10 * nI a + v) 40 ∧ ∀ z, z = upd H (10 * nI a + v).toNatClampNeg (-1) → F z)) := by
  rcases h with ⟨z1, -, z2, rfl⟩ | ⟨b, o, hb, ho, e1, e2, e3, e4, e5, rfl⟩
  · exact br_t (hk_nn z1) hp
  · subst e1
    refine br_f (nI_pos (by omega)) ?_
    rw [hk_10m, nI_clamp (by omega)]
    exact ⟨vp_in_nI (by omega) (by decide), nm_e hp⟩
theorem hk_snd {f n : Nat} {x1 y1 x2 y2 v3 : Int32} {H' : Nat → Int32} (hR : (hk_K K ∧ hk_H K H ∧ hk_X K xw xp ∧ hk_M K xw mv co cr yw vv f1 r1 f2 r2 ∧ hk_P K xp pk pn ps yp qk qn qs ∧ hk_E K P ∧ hk_O K O ow ∧ hk_S K P S E ow U yw yp ∧ hk_W K w wo wb wp wk zo zb zp zk ∧ hk_G G gv ga gb)) (hf : f < 16) (hn : n < 4) (hkf : K f = 1) (e1 : xw f = nI n) (e2 : yw f = nI n) (hx1 : hk_rf K x1) (hx2 : hk_rf K x2) (hH' : hk_H K H') :
    (hk_K K ∧ hk_H K H' ∧ hk_X K (upd xw f (nI (n + 1))) xp ∧ hk_M K (upd xw f (nI (n + 1))) (upd mv (f * 4 + n) v3) (upd (upd co ((f * 4 + n) * 2) x1) ((f * 4 + n) * 2 + 1) x2) (if x2 = -1 then (if x1 = -1 then cr else upd cr ((f * 4 + n) * 2) y1) else upd (if x1 = -1 then cr else upd cr ((f * 4 + n) * 2) y1) ((f * 4 + n) * 2 + 1) y2) (upd yw f (nI (n + 1))) (upd vv (f * 4 + n) v3) (upd f1 (f * 4 + n) x1) (upd r1 (f * 4 + n) y1) (upd f2 (f * 4 + n) x2) (upd r2 (f * 4 + n) y2) ∧ hk_P K xp pk pn ps yp qk qn qs ∧ hk_E K P ∧ hk_O K O ow ∧ hk_S K P (upd S f (S f ||| 256)) E ow U (upd yw f (nI (n + 1))) yp ∧ hk_W K w wo wb wp wk zo zb zp zk ∧ hk_G G gv ga gb) := by
  obtain ⟨hK, hH, hX, hM, hP, hE, hO, hS, hW, hG⟩ := hR
  have c1 : ∀ i, i ≠ (f * 4 + n) * 2 → (if x1 = -1 then cr else upd cr ((f * 4 + n) * 2) y1) i = cr i := fun i hi => by
    split
    · rfl
    · exact pk_un hi
  have c2 : ∀ i, i ≠ (f * 4 + n) * 2 + 1 → (if x2 = -1 then (if x1 = -1 then cr else upd cr ((f * 4 + n) * 2) y1) else upd (if x1 = -1 then cr else upd cr ((f * 4 + n) * 2) y1) ((f * 4 + n) * 2 + 1) y2) i = (if x1 = -1 then cr else upd cr ((f * 4 + n) * 2) y1) i := fun i hi => by
    by_cases z : x2 = -1
    · rw [if_pos z]
    · rw [if_neg z]; exact pk_un hi
  refine ⟨hK, hH', ?_, ?_, hP, hE, hO, ?_, hW, hG⟩
  · intro e he
    refine ⟨fun z => ?_, (hX e he).2⟩
    have : e ≠ f := fun y => z (by rw [y]; exact hkf)
    rw [pk_un this]
    exact (hX e he).1 z
  · intro e he hke
    obtain ⟨m, hm, a1, a2, a3⟩ := hM e he hke
    have old : ∀ j, j < 4 → e * 4 + j ≠ f * 4 + n → hk_ms K mv co cr vv f1 r1 f2 r2 (e * 4 + j) → hk_ms K (upd mv (f * 4 + n) v3) (upd (upd co ((f * 4 + n) * 2) x1) ((f * 4 + n) * 2 + 1) x2) (if x2 = -1 then (if x1 = -1 then cr else upd cr ((f * 4 + n) * 2) y1) else upd (if x1 = -1 then cr else upd cr ((f * 4 + n) * 2) y1) ((f * 4 + n) * 2 + 1) y2) (upd vv (f * 4 + n) v3) (upd f1 (f * 4 + n) x1) (upd r1 (f * 4 + n) y1) (upd f2 (f * 4 + n) x2) (upd r2 (f * 4 + n) y2) (e * 4 + j) := fun j hj hne h => by
      unfold hk_ms at h ⊢
      rw [c2 _ (by omega), c1 _ (by omega), c2 _ (by omega), c1 _ (by omega), pk_un hne, pk_un hne, pk_un hne, pk_un hne, pk_un hne, pk_un hne]
      have g0 : upd (upd co ((f * 4 + n) * 2) x1) ((f * 4 + n) * 2 + 1) x2 ((e * 4 + j) * 2) = co ((e * 4 + j) * 2) := by
        rw [pk_un (by omega), pk_un (by omega)]
      have g1 : upd (upd co ((f * 4 + n) * 2) x1) ((f * 4 + n) * 2 + 1) x2 ((e * 4 + j) * 2 + 1) = co ((e * 4 + j) * 2 + 1) := by
        rw [pk_un (by omega), pk_un (by omega)]
      rw [g0, g1]
      exact h
    by_cases z : e = f
    · subst z
      have hmn : m = n := (nI_eq (by omega) (by omega)).mp (a1.symm.trans e1)
      subst hmn
      refine ⟨m + 1, by omega, pk_us, pk_us, fun j hj => ?_⟩
      by_cases y : j = m
      · subst y
        unfold hk_ms
        rw [pk_us, pk_us, pk_us, pk_us, pk_us, pk_us, pk_us]
        have g0 : upd (upd co ((e * 4 + j) * 2) x1) ((e * 4 + j) * 2 + 1) x2 ((e * 4 + j) * 2) = x1 := by
          rw [pk_un (by omega), pk_us]
        refine ⟨rfl, g0, rfl, hx1, hx2, fun q => ?_, fun q => ?_⟩
        · rw [c2 _ (by omega), if_neg q, pk_us]
        · rw [if_neg q, pk_us]
      · exact old j (by omega) (by omega) (a3 j (by omega))
    · exact ⟨m, hm, by rw [pk_un z]; exact a1, by rw [pk_un z]; exact a2, fun j hj => old j (by omega) (by omega) (a3 j hj)⟩
  · intro e he hke
    by_cases z : e = f
    · subst z
      rw [pk_us, hS e he hke]
      unfold hk_sg
      have n0 : ¬ K e = 0 := by rw [hkf]; decide
      have y1 : ¬ upd yw e (nI (n + 1)) e ≤ 0 := by rw [pk_us]; exact nI_nle (by omega) (by omega)
      rw [if_neg n0, if_neg n0, if_pos hkf, if_pos hkf, if_neg y1]
      by_cases y : yw e ≤ 0
      · rw [if_pos y]
        by_cases q : 0 ≤ P e
        · rw [if_pos q]; decide
        · rw [if_neg q]; decide
      · rw [if_neg y]
        by_cases q : 0 ≤ P e
        · rw [if_pos q]; decide
        · rw [if_neg q]; decide
    · rw [pk_un z, hS e he hke]
      unfold hk_sg
      rw [pk_un z]
end
theorem i_vc_send {k : Nat} {u : SX} {v : SY} (I : i_Rel k u v) (hk : k + 6 ≤ 3072) (v1 : Int32) (v2 : Int32) (v3 : Int32) (v4 : Int32) (v5 : Int32) : wpX_send (fun r u' => wpY_send (fun r' v' => r' = r ∧ i_Rel (k + 6) u' v') v v1 v2 v3 v4 v5) u v1 v2 v3 v4 v5 := by
  obtain ⟨md, w, K, N, S, P, O, C, U, G, H, R, xw, mv, co, cr, xp, pk, pn, ps, wo, wb, wp, wk, E, ow, gv, ga, gb, yw, vv, f1, r1, f2, r2, yp, qk, qn, qs, zo, zb, zp, zk, rfl, rfl, hR, hQ, hF⟩ := I
  have hK := hR.1
  have hH := hR.2.1
  obtain ⟨r, hX, hY, h0⟩ := hk_th (md := md) (K := K) (N := N) (S := S) (P := P) (O := O) (C := C) (U := U) (G := G) (H := H) (R := R) (xw := xw) (mv := mv) (co := co) (cr := cr) (xp := xp) (pk := pk) (pn := pn) (ps := ps) (wo := wo) (wb := wb) (wp := wp) (wk := wk) (E := E) (ow := ow) (gv := gv) (ga := ga) (gb := gb) (yw := yw) (vv := vv) (f1 := f1) (r1 := r1) (f2 := f2) (r2 := r2) (yp := yp) (qk := qk) (qn := qn) (qs := qs) (zo := zo) (zb := zb) (zp := zp) (zk := zk) (w := w) hK hH v1 v2 1 2 (Or.inr (by decide))
  unfold wpX_send wpX_testSend
  refine hX _ ?_
  by_cases hr : r = 0
  · obtain ⟨a, b, o, ha, hb, ho, rfl, rfl, hu, e, hko, hk1⟩ := h0 hr
    have hk1 : K o = 1 := by
      rcases hk1 with z | z
      · exact absurd z (by decide)
      · exact z
    have hc : (nI (a * 10 + b)).toNatClampNeg = a * 10 + b := nI_clamp (by omega)
    have hv : vp_in (nI (a * 10 + b)) 40 := vp_in_nI (by omega) (by decide)
    have hco : (nI o).toNatClampNeg = o := nI_clamp (by omega)
    have hvo : vp_in (nI o) 16 := vp_in_nI ho (by decide)
    obtain ⟨s, sX, sY, s0⟩ := hk_ts (md := md) (K := K) (N := N) (S := S) (P := P) (O := O) (C := C) (U := U) (G := G) (H := H) (R := R) (xw := xw) (mv := mv) (co := co) (cr := cr) (xp := xp) (pk := pk) (pn := pn) (ps := ps) (wo := wo) (wb := wb) (wp := wp) (wk := wk) (E := E) (ow := ow) (gv := gv) (ga := ga) (gb := gb) (yw := yw) (vv := vv) (f1 := f1) (r1 := r1) (f2 := f2) (r2 := r2) (yp := yp) (qk := qk) (qn := qn) (qs := qs) (zo := zo) (zb := zb) (zp := zp) (zk := zk) (w := w) hK hH ha hu v4
    obtain ⟨t, tX, tY, t0⟩ := hk_ts (md := md) (K := K) (N := N) (S := S) (P := P) (O := O) (C := C) (U := U) (G := G) (H := H) (R := R) (xw := xw) (mv := mv) (co := co) (cr := cr) (xp := xp) (pk := pk) (pn := pn) (ps := ps) (wo := wo) (wb := wb) (wp := wp) (wk := wk) (E := E) (ow := ow) (gv := gv) (ga := ga) (gb := gb) (yw := yw) (vv := vv) (f1 := f1) (r1 := r1) (f2 := f2) (r2 := r2) (yp := yp) (qk := qk) (qn := qn) (qs := qs) (zo := zo) (zb := zb) (zp := zp) (zk := zk) (w := w) hK hH ha hu v5
    have HY33 : ∀ post : Int32 → SY → Prop, wY_send_33 post (nI a) (nI b) v3 v4 v5 s md (nI w) K N E P ow C H R U gv ga gb yw vv f1 r1 f2 r2 yp qk qn qs zo zb zp zk → wpY_send post (md, nI w, K, N, E, P, ow, C, H, R, U, gv, ga, gb, yw, vv, f1, r1, f2, r2, yp, qk, qn, qs, zo, zb, zp, zk) (nI a) (nI b) v3 v4 v5 := fun post hp => by
      unfold wpY_send
      refine hY _ (br_t hr ?_)
      rw [hr]
      exact sY (fun q => wY_send_33 post (nI a) (nI b) v3 v4 v5 q md (nI w) K N E P ow C H R U gv ga gb yw vv f1 r1 f2 r2 yp qk qn qs zo zb zp zk) hp
    refine br_t hr ?_
    refine sX _ ?_
    by_cases hs : s = 0
    · refine br_t hs ?_
      have HY56 : ∀ post : Int32 → SY → Prop, wY_send_56 post (nI a) (nI b) v3 v4 v5 t md (nI w) K N E P ow C H R U gv ga gb yw vv f1 r1 f2 r2 yp qk qn qs zo zb zp zk → wpY_send post (md, nI w, K, N, E, P, ow, C, H, R, U, gv, ga, gb, yw, vv, f1, r1, f2, r2, yp, qk, qn, qs, zo, zb, zp, zk) (nI a) (nI b) v3 v4 v5 := fun post hp => by
        refine HY33 post ?_
        rw [hs]
        exact br_t rfl (tY (fun q => wY_send_56 post (nI a) (nI b) v3 v4 v5 q md (nI w) K N E P ow C H R U gv ga gb yw vv f1 r1 f2 r2 yp qk qn qs zo zb zp zk) hp)
      refine tX _ ?_
      by_cases ht : t = 0
      · refine br_t ht ?_
        obtain ⟨x1, y1, H1, k1⟩ := s0 hs
        obtain ⟨x2, y2, Hz, kz⟩ := t0 ht
        by_cases same : v4 = v5 ∧ v4 ≠ -1
        · refine br_t same.1 (br_f same.2 (br_f (by decide) (br_f (by decide) ?_)))
          exact HY56 _ (br_t ht (br_t same.1 (br_f same.2 ⟨rfl, hk_mk hR hQ hF⟩)))
        · have hn : v4 = v5 → v4 = -1 := fun z => Classical.byContradiction fun y => same ⟨z, y⟩
          have HY77 : ∀ post : Int32 → SY → Prop, wY_send_77 post (nI a) (nI b) v3 v4 v5 md (nI w) K N E P ow C H R U gv ga gb yw vv f1 r1 f2 r2 yp qk qn qs zo zb zp zk → wpY_send post (md, nI w, K, N, E, P, ow, C, H, R, U, gv, ga, gb, yw, vv, f1, r1, f2, r2, yp, qk, qn, qs, zo, zb, zp, zk) (nI a) (nI b) v3 v4 v5 := fun post hp => by
            refine HY56 post (br_t ht ?_)
            by_cases z : v4 = v5
            · exact br_t z (br_t (hn z) hp)
            · exact br_f z hp
          have HX67 : ∀ post : Int32 → Prop, wX_testSend_67 post (nI b) v4 v5 0 md (nI w) K N S P O C U G H R xw mv co cr xp pk pn ps wo wb wp wk → ((v4 = v5 → (v4 = -1 → wX_testSend_66 post (nI b) v4 v5 md (nI w) K N S P O C U G H R xw mv co cr xp pk pn ps wo wb wp wk) ∧ (¬ v4 = -1 → wX_testSend_67 post (nI b) v4 v5 1 md (nI w) K N S P O C U G H R xw mv co cr xp pk pn ps wo wb wp wk)) ∧ (¬ v4 = v5 → wX_testSend_66 post (nI b) v4 v5 md (nI w) K N S P O C U G H R xw mv co cr xp pk pn ps wo wb wp wk)) := fun post hp => by
            by_cases z : v4 = v5
            · exact br_t z (br_t (hn z) hp)
            · exact br_f z hp
          refine HX67 _ (br_t rfl ?_)
          by_cases z4 : v4 = nI b
          · exact br_t z4 (br_f (by decide) (HY77 _ (br_t z4 ⟨rfl, hk_mk hR hQ hF⟩)))
          · refine br_f z4 ?_
            by_cases z5 : v5 = nI b
            · exact br_t z5 (br_f (by decide) (HY77 _ (br_f z4 (br_t z5 ⟨rfl, hk_mk hR hQ hF⟩))))
            · refine br_f z5 (br_t rfl ?_)
              rw [hk_m10, hc, e, hco]
              refine ⟨hv, hvo, ?_⟩
              rcases hR.2.2.2.2.2.1 o ho hko with p0 | ⟨-, f, hf, -, p0, hkf, -⟩
              · refine nm_r p0 (br_t rfl ?_)
                refine HY77 _ (br_f z4 (br_f z5 ?_))
                refine hk_yob ha hb ?_
                rw [e]
                refine ⟨hvo, ?_⟩
                rw [hco, p0]
                exact nm_e (br_f (by decide) ⟨rfl, hk_mk hR hQ hF⟩)
              · have hcf : (nI f).toNatClampNeg = f := nI_clamp (by omega)
                have hvf : vp_in (nI f) 16 := vp_in_nI hf (by decide)
                obtain ⟨n, hn4, w1, w2, -⟩ := hR.2.2.2.1 f hf hkf
                refine nm_r p0 (br_f (hk_ne f (by omega)) ⟨hvf, ?_⟩)
                rw [hcf, w1]
                by_cases hn3 : n < 4
                · obtain ⟨H2, k2⟩ := hk_cy2 k1 kz hn
                  have hH2 := hk_cyH k2 (hk_cyH k1 hH)
                  have hF2 := hk_cyF k2 (hk_cyF k1 hF)
                  have R1 := hk_snd (y1 := y1) (y2 := y2) (v3 := v3) hR hf hn3 hkf w1 w2 (hk_cyr k1) (hk_cyr k2) hH2
                  obtain ⟨w', S', xp', pk', pn', ps', wo', wb', wp', wk', yp', qk', qn', qs', zo', zb', zp', zk', R', Q', X', Y'⟩ := hk_tl (md := md) (N := N) (C := C) (R := R) R1
                  have hix : nI f * 4 + nI n = nI (f * 4 + n) := by rw [hk_m4, nI_add]
                  have hiy : 4 * nI f + nI n = nI (f * 4 + n) := by rw [hk_4m, nI_add]
                  have hci : (nI (f * 4 + n)).toNatClampNeg = f * 4 + n := nI_clamp (by omega)
                  have hvi : vp_in (nI (f * 4 + n)) 64 := vp_in_nI (by omega) (by decide)
                  have i2 : nI (f * 4 + n) * 2 = nI ((f * 4 + n) * 2) := hk_m2 _
                  have i3 : nI ((f * 4 + n) * 2) + 1 = nI ((f * 4 + n) * 2 + 1) := nI_1 _
                  refine br_t (nI_lt (b := 4) hn3 (by decide)) ⟨hvf, nm_r hix ⟨hvi, ?_⟩⟩
                  rw [hci, i2, i3]
                  refine nm_e ?_
                  refine hk_cyx k1 ha (by omega) ?_
                  refine hk_cyx k2 ha (by omega) ?_
                  dsimp only
                  rw [w1, nI_1]
                  refine ⟨hvf, hvf, nm_e ⟨hvf, hvf, nm_e ?_⟩⟩
                  refine X' K (upd xw f (nI (n + 1))) _ ?_
                  refine HY77 _ (br_f z4 (br_f z5 ?_))
                  refine hk_yob ha hb ?_
                  rw [e]
                  refine ⟨hvo, ?_⟩
                  rw [hco]
                  refine nm_r p0 (br_t (nI_pos' (by omega)) ⟨hvf, ?_⟩)
                  rw [hcf, w2]
                  refine br_f (fun z => by have := (nI_eq (b := 4) (by omega) (by decide)).mp z; omega) ⟨hvf, nm_r hiy ⟨hvi, ?_⟩⟩
                  rw [hci]
                  refine nm_e ?_
                  refine hk_cy_o k1 ha ?_
                  unfold wY_send_171
                  rw [hci]
                  refine ⟨hvi, nm_e ?_⟩
                  refine hk_cy_r k1 ha (F := fun q => wY_send_199 _ (nI a) v4 v5 (nI f) (nI (f * 4 + n)) q (nI (f * 4 + n)) md (nI w) K N E P ow C H R U gv ga gb yw (upd vv (f * 4 + n) v3) (upd f1 (f * 4 + n) x1) r1 f2 r2 yp qk qn qs zo zb zp zk) ?_
                  try dsimp only
                  unfold wY_send_199
                  rw [hci]
                  refine ⟨hvi, nm_e ?_⟩
                  refine hk_cy_o kz ha ?_
                  unfold wY_send_222
                  rw [hci]
                  refine ⟨hvi, nm_e ?_⟩
                  refine hk_cy_r kz ha (F := fun q => wY_send_250 _ (nI a) v4 v5 (nI f) q (nI (f * 4 + n)) md (nI w) K N E P ow C H R U gv ga gb yw (upd vv (f * 4 + n) v3) (upd f1 (f * 4 + n) x1) (upd r1 (f * 4 + n) y1) (upd f2 (f * 4 + n) x2) r2 yp qk qn qs zo zb zp zk) ?_
                  try dsimp only
                  unfold wY_send_250
                  rw [hci, hcf, w2, nI_1]
                  refine ⟨hvi, nm_e ⟨hvf, hvf, nm_e ?_⟩⟩
                  refine hk_cy_h k1 ha (F := fun q => wY_send_280 _ (nI a) v5 md (nI w) K N E P ow C q R U gv ga gb (upd yw f (nI (n + 1))) (upd vv (f * 4 + n) v3) (upd f1 (f * 4 + n) x1) (upd r1 (f * 4 + n) y1) (upd f2 (f * 4 + n) x2) (upd r2 (f * 4 + n) y2) yp qk qn qs zo zb zp zk) ?_
                  try dsimp only
                  unfold wY_send_280
                  refine hk_cy_h k2 ha (F := fun q => wY_send_298 _ md (nI w) K N E P ow C q R U gv ga gb (upd yw f (nI (n + 1))) (upd vv (f * 4 + n) v3) (upd f1 (f * 4 + n) x1) (upd r1 (f * 4 + n) y1) (upd f2 (f * 4 + n) x2) (upd r2 (f * 4 + n) y2) yp qk qn qs zo zb zp zk) ?_
                  try dsimp only
                  unfold wY_send_298
                  refine Y' _ ?_
                  exact ⟨rfl, hk_mk R' Q' hF2⟩
                · obtain rfl : n = 4 := by omega
                  refine br_f (by decide) ?_
                  refine HY77 _ (br_f z4 (br_f z5 ?_))
                  refine hk_yob ha hb ?_
                  rw [e]
                  refine ⟨hvo, ?_⟩
                  rw [hco]
                  refine nm_r p0 (br_t (nI_pos' (by omega)) ⟨hvf, ?_⟩)
                  rw [hcf, w2]
                  exact br_t rfl ⟨rfl, hk_mk hR hQ hF⟩
      · refine br_f ht (br_f ht ?_)
        exact HY56 _ (br_f ht ⟨rfl, hk_mk hR hQ hF⟩)
    · refine br_f hs (br_f hs ?_)
      exact HY33 _ (br_f hs (br_f hs ⟨rfl, hk_mk hR hQ hF⟩))
  · refine br_f hr (br_f hr ?_)
    unfold wpY_send
    exact hY _ (br_f hr (br_f hr (br_f hr ⟨rfl, hk_mk hR hQ hF⟩)))
