section
variable {md : Int32} {w : Nat} {K N S P O C U G H R xw mv co cr xp pk pn ps wo wb wp wk : Nat → Int32} {E ow gv ga gb yw vv f1 r1 f2 r2 yp qk qn qs zo zb zp zk : Nat → Int32}
theorem hk_lvdn {o : Nat} (ho : o < 16) (hf : K o ≠ -1) : hk_cn (hk_lv K) 16 = hk_cn (hk_lv (upd K o (-1))) 16 + 1 := by
  refine hk_cnup _ (hk_lv K) o ?_ ?_ (fun i hi => ?_) 16 ho
  · simp [hk_lv, pk_us]
  · simp [hk_lv, hf]
  · simp [hk_lv, pk_un hi]
/-- the relation when the slot o, to which nothing refers, goes -/
theorem hk_des {o : Nat} {P' S' xp' b1 b2 b3 b4 d1 d2 d3 d4 : Nat → Int32} (hR : (hk_K K ∧ hk_H K H ∧ hk_X K xw xp ∧ hk_M K xw mv co cr yw vv f1 r1 f2 r2 ∧ hk_P K xp pk pn ps yp qk qn qs ∧ hk_E K P ∧ hk_O K O ow ∧ hk_S K P S E ow U yw yp ∧ hk_W K w wo wb wp wk zo zb zp zk ∧ hk_G G gv ga gb)) (ho : o < 16) (hko : K o ≠ -1) (hrc : hk_rc H co xw (nI o) = 0)
    (hp : (P o = -1 ∧ P' = P ∧ S' = S) ∨ (∃ f, f < 16 ∧ f ≠ o ∧ K o = 1 ∧ P o = nI f ∧ K f = 1 ∧ P f = nI o ∧ P' = upd P f (-1) ∧ S' = upd S f (S f ||| 512)))
    (hxp : xp' o = 0 ∧ ∀ e, e ≠ o → xp' e = xp e)
    (hb : hk_cmp (hk_kp wo wp (nI o)) w wo b1 ∧ hk_cmp (hk_kp wo wp (nI o)) w wb b2 ∧ hk_cmp (hk_kp wo wp (nI o)) w wp b3 ∧ hk_cmp (hk_kp wo wp (nI o)) w wk b4)
    (hd : hk_cmp (hk_kp wo wp (nI o)) w zo d1 ∧ hk_cmp (hk_kp wo wp (nI o)) w zb d2 ∧ hk_cmp (hk_kp wo wp (nI o)) w zp d3 ∧ hk_cmp (hk_kp wo wp (nI o)) w zk d4) :
    (hk_K (upd K o (-1)) ∧ hk_H (upd K o (-1)) H ∧ hk_X (upd K o (-1)) (upd xw o 0) xp' ∧ hk_M (upd K o (-1)) (upd xw o 0) mv co cr yw vv f1 r1 f2 r2 ∧ hk_P (upd K o (-1)) xp' pk pn ps yp qk qn qs ∧ hk_E (upd K o (-1)) P' ∧ hk_O (upd K o (-1)) O ow ∧ hk_S (upd K o (-1)) P' S' E ow U yw yp ∧ hk_W (upd K o (-1)) (hk_cn (hk_kp wo wp (nI o)) w) b1 b2 b3 b4 d1 d2 d3 d4 ∧ hk_G G gv ga gb) ∧ (S' = S → hk_Q w S wo wb → hk_Q (hk_cn (hk_kp wo wp (nI o)) w) S' b1 b2) := by
  obtain ⟨hK, hH, hX, hM, hP, hE, hO, hS, hW, hG⟩ := hR
  obtain ⟨rh, rm⟩ := hk_rc0 hrc
  have up : ∀ {e : Nat}, e ≠ o → upd K o (-1) e = K e := fun z => pk_un z
  have ne : ∀ {e : Nat} {c : Int32}, c ≠ -1 → upd K o (-1) e = c → e ≠ o := fun hc h z => by
    rw [z, pk_us] at h; exact hc h.symm
  have rf : ∀ x : Int32, x ≠ nI o → hk_rf K x → hk_rf (upd K o (-1)) x := fun x hx h => by
    rcases h with z | ⟨t, ht, e, z⟩
    · exact Or.inl z
    · refine Or.inr ⟨t, ht, e, ?_⟩
      rw [up (fun y => hx (by rw [e, y]))]; exact z
  refine ⟨⟨?_, ?_, ?_, ?_, ?_, ?_, ?_, ?_, ?_, hG⟩, ?_⟩
  · intro i hi
    by_cases z : i = o
    · rw [z, pk_us]; exact Or.inl rfl
    · rw [up z]; exact hK i hi
  · intro i hi
    exact rf _ (rh i hi) (hH i hi)
  · intro e he
    by_cases z : e = o
    · subst z
      exact ⟨fun _ => pk_us, fun _ => hxp.1⟩
    · rw [up z, pk_un z, hxp.2 e z]; exact hX e he
  · intro e he h1
    have z : e ≠ o := ne (by decide) h1
    rw [up z] at h1
    obtain ⟨n, hn, e1, e2, h⟩ := hM e he h1
    refine ⟨n, hn, by rw [pk_un z]; exact e1, e2, fun j hj => ?_⟩
    obtain ⟨c1, c2, c3, c4, c5, c6, c7⟩ := h j hj
    have hcl : (xw e).toNatClampNeg = n := by rw [e1]; exact nI_clamp (by omega)
    have m1 := rm e he (j * 2) (by omega)
    have m2 := rm e he (j * 2 + 1) (by omega)
    rw [show e * 8 + j * 2 = (e * 4 + j) * 2 by omega, c2] at m1
    rw [show e * 8 + (j * 2 + 1) = (e * 4 + j) * 2 + 1 by omega, c3] at m2
    exact ⟨c1, c2, c3, rf _ m1 c4, rf _ m2 c5, c6, c7⟩
  · intro e he h1
    have z : e ≠ o := ne (by decide) h1
    rw [up z] at h1
    rw [hxp.2 e z]
    exact hP e he h1
  · intro e he h1
    have z : e ≠ o := fun y => h1 (by rw [y, pk_us])
    rw [up z] at h1
    rw [up z]
    rcases hp with ⟨p1, rfl, -⟩ | ⟨f, hf, hfo, k1, p1, k2, p2, rfl, -⟩
    · rcases hE e he h1 with y | ⟨y1, g, hg, hge, y2, y3, y4⟩
      · exact Or.inl y
      · have hgo : g ≠ o := fun q => by rw [q, p1] at y4; exact hk_ne e (by omega) y4.symm
        exact Or.inr ⟨y1, g, hg, hge, y2, by rw [up hgo]; exact y3, y4⟩
    · by_cases ef : e = f
      · subst ef
        exact Or.inl pk_us
      · rw [pk_un ef]
        rcases hE e he h1 with y | ⟨y1, g, hg, hge, y2, y3, y4⟩
        · exact Or.inl y
        · have hgo : g ≠ o := fun q => by
            rw [q, p1] at y4
            exact ef ((nI_eq (by omega) (by omega)).mp y4).symm
          have hgf : g ≠ f := fun q => by
            rw [q, p2] at y4
            exact z ((nI_eq (by omega) (by omega)).mp y4).symm
          exact Or.inr ⟨y1, g, hg, hge, y2, by rw [up hgo]; exact y3, by rw [pk_un hgf]; exact y4⟩
  · refine ⟨fun e he h1 => ?_, fun e e' he he' h1 h2 h3 => ?_⟩
    · have z : e ≠ o := ne (by decide) h1
      rw [up z] at h1
      exact hO.1 e he h1
    · have z : e ≠ o := ne (by decide) h1
      have z' : e' ≠ o := ne (by decide) h2
      rw [up z] at h1
      rw [up z'] at h2
      exact hO.2 e e' he he' h1 h2 h3
  · intro e he h1
    have z : e ≠ o := fun y => h1 (by rw [y, pk_us])
    rw [up z] at h1
    rcases hp with ⟨p1, rfl, rfl⟩ | ⟨f, hf, hfo, k1, p1, k2, p2, rfl, rfl⟩
    · rw [hS e he h1]
      unfold hk_sg
      rw [up z]
    · by_cases ef : e = f
      · subst ef
        rw [pk_us, hS e he h1]
        unfold hk_sg
        have n0 : ¬ K e = 0 := by rw [k2]; decide
        have g1 : 0 ≤ P e := by rw [p2]; exact nI_pos' (by omega)
        have g2 : ¬ 0 ≤ upd P e (-1) e := by rw [pk_us]; decide
        rw [up z, if_neg n0, if_neg n0, if_pos k2, if_pos k2, if_pos g1, if_neg g2]
        by_cases y : yw e ≤ 0
        · rw [if_pos y]; decide
        · rw [if_neg y]; decide
      · rw [pk_un ef, hS e he h1]
        unfold hk_sg
        rw [up z, pk_un ef]
  · refine ⟨Nat.le_trans (hk_cnle _ _) hW.1, fun t ht => ?_⟩
    obtain ⟨i, hi, fi, rfl⟩ := hk_cnsur _ _ _ ht
    obtain ⟨c1, c2, c3, c4, ⟨x, hx, e1, e2⟩, q, hq, e3, e4⟩ := hW.2 i hi
    have ki : wo i ≠ nI o ∧ wp i ≠ nI o := by simpa [hk_kp] using fi
    have xo : x ≠ o := fun y => ki.1 (by rw [c1, e1, y])
    have qo : q ≠ o := fun y => ki.2 (by rw [c3, e3, y])
    unfold hk_w1
    rw [hb.1 i hi fi, hb.2.1 i hi fi, hb.2.2.1 i hi fi, hb.2.2.2 i hi fi, hd.1 i hi fi, hd.2.1 i hi fi, hd.2.2.1 i hi fi, hd.2.2.2 i hi fi]
    exact ⟨c1, c2, c3, c4, ⟨x, hx, e1, by rw [up xo]; exact e2⟩, q, hq, e3, by rw [up qo]; exact e4⟩
  · intro hs hQ t ht
    obtain ⟨i, hi, fi, rfl⟩ := hk_cnsur _ _ _ ht
    rw [hs, hb.1 i hi fi, hb.2.1 i hi fi]
    exact hQ i hi
theorem hk_updz {f : Nat → Int32} {o : Nat} (h : f o = 0) : upd f o 0 = f := by
  funext j
  by_cases e : j = o
  · rw [e, pk_us, h]
  · rw [pk_un e]
theorem hk_dst {o : Nat} (hR : (hk_K K ∧ hk_H K H ∧ hk_X K xw xp ∧ hk_M K xw mv co cr yw vv f1 r1 f2 r2 ∧ hk_P K xp pk pn ps yp qk qn qs ∧ hk_E K P ∧ hk_O K O ow ∧ hk_S K P S E ow U yw yp ∧ hk_W K w wo wb wp wk zo zb zp zk ∧ hk_G G gv ga gb)) (hQ : hk_Q w S wo wb) (ho : o < 16) (hko : K o ≠ -1) (hrc : hk_rc H co xw (nI o) = 0) : ∃ (w' : Nat) (S' xp' pk' pn' ps' wo' wb' wp' wk' yp' qk' qn' qs' zo' zb' zp' zk' K' P' xw' : Nat → Int32), (hk_K K' ∧ hk_H K' H ∧ hk_X K' xw' xp' ∧ hk_M K' xw' mv co cr yw vv f1 r1 f2 r2 ∧ hk_P K' xp' pk' pn' ps' yp' qk' qn' qs' ∧ hk_E K' P' ∧ hk_O K' O ow ∧ hk_S K' P' S' E ow U yw yp' ∧ hk_W K' w' wo' wb' wp' wk' zo' zb' zp' zk' ∧ hk_G G gv ga gb) ∧ hk_Q w' S' wo' wb' ∧ K' = upd K o (-1) ∧ (∀ post : SX → Prop, post (md, nI w', K', N, S', P', O, C, U, G, H, R, xw', mv, co, cr, xp', pk', pn', ps', wo', wb', wp', wk') → wpX_destroy post (md, nI w, K, N, S, P, O, C, U, G, H, R, xw, mv, co, cr, xp, pk, pn, ps, wo, wb, wp, wk) (nI o)) ∧ (∀ (post : SY → Prop) J5, wpY_unused (fun r => J5 r md (nI w') K' N E P' ow C H R U gv ga gb yw vv f1 r1 f2 r2 yp' qk' qn' qs' zo' zb' zp' zk') (md, nI w', K', N, E, P', ow, C, H, R, U, gv, ga, gb, yw, vv, f1, r1, f2, r2, yp', qk', qn', qs', zo', zb', zp', zk') → ∃ n, wY_sweep_16 post J5 (nI o) n (nI w - 1) md (nI w) K N E P ow C H R U gv ga gb yw vv f1 r1 f2 r2 yp qk qn qs zo zb zp zk) := by
  have hco : (nI o).toNatClampNeg = o := nI_clamp (by omega)
  have hvo : vp_in (nI o) 16 := vp_in_nI ho (by decide)
  have hR0 := hR
  obtain ⟨hK, hH, hX, hM, hP, hE, hO, hS, hW, hG⟩ := hR
  have hw := hW.1
  have hf : ∀ i, i < w → (hk_kp wo wp (nI o) i = true ↔ zo i ≠ nI o ∧ zp i ≠ nI o) := fun i hi => by
    obtain ⟨c1, c2, c3, c4, -, -⟩ := hW.2 i hi
    simp [hk_kp, c1, c3]
  obtain ⟨b1, b2, b3, b4, hb1, hb2, hb3, hb4, HX⟩ := hk_xdww (md := md) (K := K) (N := N) (S := S) (P := P) (O := O) (C := C) (U := U) (G := G) (H := H) (R := R) (xw := xw) (mv := mv) (co := co) (cr := cr) (xp := xp) (pk := pk) (pn := pn) (ps := ps) (wo := wo) (wb := wb) (wp := wp) (wk := wk) (w := w) (x := nI o) hw
  obtain ⟨d1, d2, d3, d4, hd1, hd2, hd3, hd4, HY⟩ := hk_ydw (md := md) (K := K) (N := N) (E := E) (P := P) (ow := ow) (C := C) (H := H) (R := R) (U := U) (gv := gv) (ga := ga) (gb := gb) (yw := yw) (vv := vv) (f1 := f1) (r1 := r1) (f2 := f2) (r2 := r2) (yp := yp) (qk := qk) (qn := qn) (qs := qs) (zo := zo) (zb := zb) (zp := zp) (zk := zk) (w := w) ho hw hf
  rcases hE o ho hko with p1 | ⟨k1, f, hf16, hfo, p1, k2, p2⟩
  · obtain ⟨R1, Q1⟩ := hk_des (xp' := upd xp o 0) hR0 ho hko hrc (Or.inl ⟨p1, rfl, rfl⟩) ⟨pk_us, fun e he => pk_un he⟩ ⟨hb1, hb2, hb3, hb4⟩ ⟨hd1, hd2, hd3, hd4⟩
    refine ⟨hk_cn (hk_kp wo wp (nI o)) w, S, upd xp o 0, pk, pn, ps, b1, b2, b3, b4, yp, qk, qn, qs, d1, d2, d3, d4, upd K o (-1), P, upd xw o 0, R1, Q1 rfl hQ, rfl, fun post hp => ?_, fun post J5 hp => ?_⟩
    · unfold wpX_destroy
      refine HX _ ?_
      dsimp only
      refine ⟨hvo, nm_r (e' := -1) (by rw [hco]; exact p1) (br_t rfl ?_)⟩
      unfold wX_destroy_40
      rw [hco]
      exact ⟨hvo, nm_e ⟨hvo, nm_e ⟨hvo, nm_e hp⟩⟩⟩
    · have fin : wY_sweep_71 post J5 (nI o) (-1) md (nI (hk_cn (hk_kp wo wp (nI o)) w)) K N E P ow C H R U gv ga gb yw vv f1 r1 f2 r2 yp qk qn qs d1 d2 d3 d4 := by
        unfold wY_sweep_71
        rw [hco]
        exact ⟨hvo, nm_e (br_t (by decide) hp)⟩
      exact HY post J5 ⟨fun _ => by rw [p1]; exact fin, fun _ => fin⟩
  · have hx0 : xp o = 0 := (hX o ho).2 (by rw [k1]; decide)
    obtain ⟨R1, -⟩ := hk_des (P' := upd P f (-1)) (S' := upd S f (S f ||| 512)) (xp' := xp) hR0 ho hko hrc (Or.inr ⟨f, hf16, hfo, k1, p1, k2, p2, rfl, rfl⟩) ⟨hx0, fun e he => rfl⟩ ⟨hb1, hb2, hb3, hb4⟩ ⟨hd1, hd2, hd3, hd4⟩
    obtain ⟨w', S', xp', pk', pn', ps', wo', wb', wp', wk', yp', qk', qn', qs', zo', zb', zp', zk', R', Q', X', Y'⟩ := hk_tl (md := md) (N := N) (C := C) (R := R) R1
    have hcf : (nI f).toNatClampNeg = f := nI_clamp (by omega)
    have hvf : vp_in (nI f) 16 := vp_in_nI hf16 (by decide)
    refine ⟨w', S', xp', pk', pn', ps', wo', wb', wp', wk', yp', qk', qn', qs', zo', zb', zp', zk', upd K o (-1), upd P f (-1), upd xw o 0, R', Q', rfl, fun post hp => ?_, fun post J5 hp => ?_⟩
    · unfold wpX_destroy
      refine HX _ ?_
      dsimp only
      refine ⟨hvo, nm_r (e' := nI f) (by rw [hco]; exact p1) (br_f (hk_ne f (by omega)) ⟨hvf, ?_⟩)⟩
      rw [hcf]
      refine nm_e ⟨hvf, hvf, nm_e ?_⟩
      refine X' K xw _ ?_
      have hz : upd xp' o 0 = xp' := hk_updz ((R'.2.2.1 o ho).2 (by rw [pk_us]; decide))
      dsimp only
      unfold wX_destroy_40
      rw [hco, hz]
      exact ⟨hvo, nm_e ⟨hvo, nm_e ⟨hvo, nm_e hp⟩⟩⟩
    · refine HY post J5 ⟨fun _ => ?_, fun z => absurd k1 z⟩
      unfold wY_sweep_71
      rw [hco, p1, hcf]
      refine ⟨hvo, nm_e (br_f (nI_pos (by omega)) ⟨hvf, nm_e ?_⟩)⟩
      exact Y' _ hp
end
section
variable {md : Int32} {N O C U G H R mv co cr E ow gv ga gb yw vv f1 r1 f2 r2 : Nat → Int32}
theorem hk_swl : ∀ (c : Nat) (w : Nat) (S xp pk pn ps wo wb wp wk yp qk qn qs zo zb zp zk K P xw : Nat → Int32), hk_cn (hk_lv K) 16 = c → (hk_K K ∧ hk_H K H ∧ hk_X K xw xp ∧ hk_M K xw mv co cr yw vv f1 r1 f2 r2 ∧ hk_P K xp pk pn ps yp qk qn qs ∧ hk_E K P ∧ hk_O K O ow ∧ hk_S K P S E ow U yw yp ∧ hk_W K w wo wb wp wk zo zb zp zk ∧ hk_G G gv ga gb) → hk_Q w S wo wb → ∃ (w' : Nat) (S' xp' pk' pn' ps' wo' wb' wp' wk' yp' qk' qn' qs' zo' zb' zp' zk' K' P' xw' : Nat → Int32), (hk_K K' ∧ hk_H K' H ∧ hk_X K' xw' xp' ∧ hk_M K' xw' mv co cr yw vv f1 r1 f2 r2 ∧ hk_P K' xp' pk' pn' ps' yp' qk' qn' qs' ∧ hk_E K' P' ∧ hk_O K' O ow ∧ hk_S K' P' S' E ow U yw yp' ∧ hk_W K' w' wo' wb' wp' wk' zo' zb' zp' zk' ∧ hk_G G gv ga gb) ∧ hk_Q w' S' wo' wb' ∧ (∀ t, t + c ≤ 16 → ∃ n, ∀ post : SX → Prop, post (md, nI w', K', N, S', P', O, C, U, G, H, R, xw', mv, co, cr, xp', pk', pn', ps', wo', wb', wp', wk') → wX_destroyUnreferenced_2 post n (nI t) md (nI w) K N S P O C U G H R xw mv co cr xp pk pn ps wo wb wp wk) ∧ (∃ r n, (∀ post : Int32 → Prop, post r → wpY_unused post (md, nI w, K, N, E, P, ow, C, H, R, U, gv, ga, gb, yw, vv, f1, r1, f2, r2, yp, qk, qn, qs, zo, zb, zp, zk)) ∧ ∀ post : SY → Prop, post (md, nI w', K', N, E, P', ow, C, H, R, U, gv, ga, gb, yw, vv, f1, r1, f2, r2, yp', qk', qn', qs', zo', zb', zp', zk') → wY_sweep_5 post n r md (nI w) K N E P ow C H R U gv ga gb yw vv f1 r1 f2 r2 yp qk qn qs zo zb zp zk) := by
  intro c
  induction c with
  | zero =>
    intro w S xp pk pn ps wo wb wp wk yp qk qn qs zo zb zp zk K P xw hc hR hQ
    obtain ⟨r, h1, h2, h3⟩ := hk_unu (md := md) (K := K) (N := N) (S := S) (P := P) (O := O) (C := C) (U := U) (G := G) (H := H) (R := R) (xw := xw) (mv := mv) (co := co) (cr := cr) (xp := xp) (pk := pk) (pn := pn) (ps := ps) (wo := wo) (wb := wb) (wp := wp) (wk := wk) (E := E) (ow := ow) (gv := gv) (ga := ga) (gb := gb) (yw := yw) (vv := vv) (f1 := f1) (r1 := r1) (f2 := f2) (r2 := r2) (yp := yp) (qk := qk) (qn := qn) (qs := qs) (zo := zo) (zb := zb) (zp := zp) (zk := zk) (w := w) hR.1 (hk_ctm hR.2.2.1 hR.2.2.2.1)
    have hr : r = -1 := by
      rcases h1 with z | ⟨o, ho, -, z, -⟩
      · exact z
      · have := hk_cn0 (hk_lv K) 16 hc o ho
        simp [hk_lv, z] at this
    refine ⟨w, S, xp, pk, pn, ps, wo, wb, wp, wk, yp, qk, qn, qs, zo, zb, zp, zk, K, P, xw, hR, hQ, fun t ht => ⟨1, fun post hp => ?_⟩, r, 1, h3, fun post hp => br_t (hk_nn hr) hp⟩
    by_cases z : t = 16
    · subst z
      exact br_t (by decide) hp
    · refine br_f (nI_ge (b := 16) (by omega) (by decide)) ?_
      exact h2 _ (br_t hr hp)
  | succ c ih =>
    intro w S xp pk pn ps wo wb wp wk yp qk qn qs zo zb zp zk K P xw hc hR hQ
    obtain ⟨r, h1, h2, h3⟩ := hk_unu (md := md) (K := K) (N := N) (S := S) (P := P) (O := O) (C := C) (U := U) (G := G) (H := H) (R := R) (xw := xw) (mv := mv) (co := co) (cr := cr) (xp := xp) (pk := pk) (pn := pn) (ps := ps) (wo := wo) (wb := wb) (wp := wp) (wk := wk) (E := E) (ow := ow) (gv := gv) (ga := ga) (gb := gb) (yw := yw) (vv := vv) (f1 := f1) (r1 := r1) (f2 := f2) (r2 := r2) (yp := yp) (qk := qk) (qn := qn) (qs := qs) (zo := zo) (zb := zb) (zp := zp) (zk := zk) (w := w) hR.1 (hk_ctm hR.2.2.1 hR.2.2.2.1)
    rcases h1 with hr | ⟨o, ho, rfl, hko, hrc⟩
    · refine ⟨w, S, xp, pk, pn, ps, wo, wb, wp, wk, yp, qk, qn, qs, zo, zb, zp, zk, K, P, xw, hR, hQ, fun t ht => ⟨1, fun post hp => ?_⟩, r, 1, h3, fun post hp => br_t (hk_nn hr) hp⟩
      refine br_f (nI_ge (b := 16) (by omega) (by decide)) ?_
      exact h2 _ (br_t hr hp)
    · obtain ⟨w1, S1, xp1, pk1, pn1, ps1, wo1, wb1, wp1, wk1, yp1, qk1, qn1, qs1, zo1, zb1, zp1, zk1, K1, P1, xw1, R1, Q1, K1e, X1, Y1⟩ := hk_dst (md := md) (K := K) (N := N) (S := S) (P := P) (O := O) (C := C) (U := U) (G := G) (H := H) (R := R) (xw := xw) (mv := mv) (co := co) (cr := cr) (xp := xp) (pk := pk) (pn := pn) (ps := ps) (wo := wo) (wb := wb) (wp := wp) (wk := wk) (E := E) (ow := ow) (gv := gv) (ga := ga) (gb := gb) (yw := yw) (vv := vv) (f1 := f1) (r1 := r1) (f2 := f2) (r2 := r2) (yp := yp) (qk := qk) (qn := qn) (qs := qs) (zo := zo) (zb := zb) (zp := zp) (zk := zk) (w := w) hR hQ ho hko hrc
      have hc1 : hk_cn (hk_lv K1) 16 = c := by
        have := hk_lvdn (K := K) ho hko
        rw [K1e]; omega
      obtain ⟨w', S', xp', pk', pn', ps', wo', wb', wp', wk', yp', qk', qn', qs', zo', zb', zp', zk', K', P', xw', R', Q', X', r', n', U', Y'⟩ := ih w1 S1 xp1 pk1 pn1 ps1 wo1 wb1 wp1 wk1 yp1 qk1 qn1 qs1 zo1 zb1 zp1 zk1 K1 P1 xw1 hc1 R1 Q1
      refine ⟨w', S', xp', pk', pn', ps', wo', wb', wp', wk', yp', qk', qn', qs', zo', zb', zp', zk', K', P', xw', R', Q', fun t ht => ?_, nI o, n' + 1, h3, fun post hp => ?_⟩
      · obtain ⟨nx, X''⟩ := X' (t + 1) (by omega)
        refine ⟨nx + 1, fun post hp => ?_⟩
        refine br_f (nI_ge (b := 16) (by omega) (by decide)) ?_
        refine h2 _ (br_f (hk_ne o (by omega)) ?_)
        refine X1 _ ?_
        exact nm_r (nI_1 t) (X'' post hp)
      · refine br_f (nI_pos (by omega)) (nm_e ?_)
        refine Y1 post _ ?_
        exact U' _ (Y' post hp)
theorem hk_sw {w : Nat} {S xp pk pn ps wo wb wp wk yp qk qn qs zo zb zp zk K P xw : Nat → Int32} (hR : (hk_K K ∧ hk_H K H ∧ hk_X K xw xp ∧ hk_M K xw mv co cr yw vv f1 r1 f2 r2 ∧ hk_P K xp pk pn ps yp qk qn qs ∧ hk_E K P ∧ hk_O K O ow ∧ hk_S K P S E ow U yw yp ∧ hk_W K w wo wb wp wk zo zb zp zk ∧ hk_G G gv ga gb)) (hQ : hk_Q w S wo wb) : ∃ (w' : Nat) (S' xp' pk' pn' ps' wo' wb' wp' wk' yp' qk' qn' qs' zo' zb' zp' zk' K' P' xw' : Nat → Int32), (hk_K K' ∧ hk_H K' H ∧ hk_X K' xw' xp' ∧ hk_M K' xw' mv co cr yw vv f1 r1 f2 r2 ∧ hk_P K' xp' pk' pn' ps' yp' qk' qn' qs' ∧ hk_E K' P' ∧ hk_O K' O ow ∧ hk_S K' P' S' E ow U yw yp' ∧ hk_W K' w' wo' wb' wp' wk' zo' zb' zp' zk' ∧ hk_G G gv ga gb) ∧ hk_Q w' S' wo' wb' ∧ (∀ post : SX → Prop, post (md, nI w', K', N, S', P', O, C, U, G, H, R, xw', mv, co, cr, xp', pk', pn', ps', wo', wb', wp', wk') → wpX_destroyUnreferenced post (md, nI w, K, N, S, P, O, C, U, G, H, R, xw, mv, co, cr, xp, pk, pn, ps, wo, wb, wp, wk)) ∧ (∀ post : SY → Prop, post (md, nI w', K', N, E, P', ow, C, H, R, U, gv, ga, gb, yw, vv, f1, r1, f2, r2, yp', qk', qn', qs', zo', zb', zp', zk') → wpY_sweep post (md, nI w, K, N, E, P, ow, C, H, R, U, gv, ga, gb, yw, vv, f1, r1, f2, r2, yp, qk, qn, qs, zo, zb, zp, zk)) := by
  have hc := hk_cnle (hk_lv K) 16
  obtain ⟨w', S', xp', pk', pn', ps', wo', wb', wp', wk', yp', qk', qn', qs', zo', zb', zp', zk', K', P', xw', R', Q', X', r', n', U', Y'⟩ := hk_swl (md := md) (N := N) (C := C) (R := R) _ w S xp pk pn ps wo wb wp wk yp qk qn qs zo zb zp zk K P xw rfl hR hQ
  obtain ⟨nx, X''⟩ := X' 0 (by omega)
  refine ⟨w', S', xp', pk', pn', ps', wo', wb', wp', wk', yp', qk', qn', qs', zo', zb', zp', zk', K', P', xw', R', Q', fun post hp => ⟨nx, X'' post hp⟩, fun post hp => ?_⟩
  unfold wpY_sweep
  exact U' _ ⟨n', Y' post hp⟩
end
