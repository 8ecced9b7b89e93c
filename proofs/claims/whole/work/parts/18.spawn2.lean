theorem hk_updc {f : Nat → Int32} {i j : Nat} {x y : Int32} (h : i ≠ j) : upd (upd f i x) j y = upd (upd f j y) i x := by
  funext t
  unfold upd
  by_cases e1 : t = j
  · rw [if_pos e1, if_neg (fun q => h (by rw [← q, e1])), if_pos e1]
  · rw [if_neg e1]
    by_cases e2 : t = i
    · rw [if_pos e2, if_pos e2]
    · rw [if_neg e2, if_neg e2, if_neg e1]
section
variable {md : Int32} {w : Nat} {K N S P O C U G H R xw mv co cr xp pk pn ps wo wb wp wk : Nat → Int32} {E ow gv ga gb yw vv f1 r1 f2 r2 yp qk qn qs zo zb zp zk : Nat → Int32}
/-- the last steps of spawn, once H' and R' stand: the new process object and its handle -/
theorem hk_spF {k a c o : Nat} {x : Int32} (hR : (hk_K K ∧ hk_H K H ∧ hk_X K xw xp ∧ hk_M K xw mv co cr yw vv f1 r1 f2 r2 ∧ hk_P K xp pk pn ps yp qk qn qs ∧ hk_E K P ∧ hk_O K O ow ∧ hk_S K P S E ow U yw yp ∧ hk_W K w wo wb wp wk zo zb zp zk ∧ hk_G G gv ga gb)) (hQ : hk_Q w S wo wb) (ha : a < 4) (hu : U a ≠ 0) (hc : c < 4) (hac : a ≠ c) (ho : o < 16) (o1 : K o = -1) (o2 : ∀ j, j < o → K j ≠ -1) (hx : x ≠ 0) (hno : ∀ e, e < 16 → K e = 4 → ow e ≠ nI c) (hF : ∀ e, e < 4 → e ≠ c → U e = 0 → ∀ j, j < 10 → H (e * 10 + j) = -1) (hroom : hk_cn (hk_fp H a) 10 ≠ 0) (post : Int32 → SX → Prop) (PY : (Int32 → SY → Prop) → Prop) (hpost : ∀ r u', (PY fun r' v' => r' = r ∧ i_Rel k u' v') → post r u') (hPY : ∀ py : Int32 → SY → Prop, wY_spawn_140 py (nI a) (nI c) md (nI w) K N E P ow C H R (upd U c x) gv ga gb yw vv f1 r1 f2 r2 yp qk qn qs zo zb zp zk → PY py) : wX_spawn_122 post (nI a) (nI c) md (nI w) K N S P O C (upd U c x) G H R xw mv co cr xp pk pn ps wo wb wp wk := by
  obtain ⟨d, hd, d1, d2⟩ := hk_room hroom
  obtain ⟨⟨q1, q2, q3⟩, q4⟩ := hk_spR hR hQ hc ho o1 hx hno
  refine hk_x122 ha ho hd o1 o2 d1 d2 ?_
  refine hpost _ _ (hPY _ ?_)
  refine hk_y140 hR.1 q2 ha ho hd o1 o2 d1 d2 ?_
  refine ⟨rfl, hk_mk ⟨q1, hk_plH q2 (Or.inr ⟨o, ho, rfl, by rw [pk_us]; decide⟩), q3⟩ q4 ?_⟩
  intro e he hez j hj
  have hec : e ≠ c := fun z => hx (by rw [← hez, z, pk_us])
  rw [pk_un hec] at hez
  have hea : e ≠ a := fun z => hu (by rw [← z]; exact hez)
  rw [pk_un (by omega)]
  exact hF e he hec hez j hj
end
theorem i_vc_spawn {k : Nat} {u : SX} {v : SY} (I : i_Rel k u v) (hk : k + 6 ≤ 3072) (v1 : Int32) (v2 : Int32) : wpX_spawn (fun r u' => wpY_spawn (fun r' v' => r' = r ∧ i_Rel (k + 6) u' v') v v1 v2) u v1 v2 := by
  obtain ⟨md, w, K, N, S, P, O, C, U, G, H, R, xw, mv, co, cr, xp, pk, pn, ps, wo, wb, wp, wk, E, ow, gv, ga, gb, yw, vv, f1, r1, f2, r2, yp, qk, qn, qs, zo, zb, zp, zk, rfl, rfl, hR, hQ, hF⟩ := I
  have hK := hR.1
  have hH := hR.2.1
  unfold wpX_spawn
  by_cases hr : hk_run U v1
  · obtain ⟨a, ha, rfl, hu⟩ := hr
    refine hk_xr1 ha hu (br_f (by decide) ?_)
    obtain ⟨t, tX, tY, t0⟩ := hk_ts (md := md) (K := K) (N := N) (S := S) (P := P) (O := O) (C := C) (U := U) (G := G) (H := H) (R := R) (xw := xw) (mv := mv) (co := co) (cr := cr) (xp := xp) (pk := pk) (pn := pn) (ps := ps) (wo := wo) (wb := wb) (wp := wp) (wk := wk) (E := E) (ow := ow) (gv := gv) (ga := ga) (gb := gb) (yw := yw) (vv := vv) (f1 := f1) (r1 := r1) (f2 := f2) (r2 := r2) (yp := yp) (qk := qk) (qn := qn) (qs := qs) (zo := zo) (zb := zb) (zp := zp) (zk := zk) (w := w) hK hH ha hu v2
    have HY33 : ∀ post : Int32 → SY → Prop, wY_spawn_33 post (nI a) v2 t md (nI w) K N E P ow C H R U gv ga gb yw vv f1 r1 f2 r2 yp qk qn qs zo zb zp zk → wpY_spawn post (md, nI w, K, N, E, P, ow, C, H, R, U, gv, ga, gb, yw, vv, f1, r1, f2, r2, yp, qk, qn, qs, zo, zb, zp, zk) (nI a) v2 := fun post hp => by
      unfold wpY_spawn
      refine hk_yr1 ha hu (br_f (by decide) ?_)
      exact br_t rfl (tY (fun q => wY_spawn_33 post (nI a) v2 q md (nI w) K N E P ow C H R U gv ga gb yw vv f1 r1 f2 r2 yp qk qn qs zo zb zp zk) hp)
    refine tX _ ?_
    by_cases ht : t = 0
    · refine br_t ht ?_
      obtain ⟨x1, y1, H1, k1⟩ := t0 ht
      obtain ⟨f, hf, fX, fY⟩ := hk_fpr (md := md) (K := K) (N := N) (S := S) (P := P) (O := O) (C := C) (U := U) (G := G) (H := H) (R := R) (xw := xw) (mv := mv) (co := co) (cr := cr) (xp := xp) (pk := pk) (pn := pn) (ps := ps) (wo := wo) (wb := wb) (wp := wp) (wk := wk) (E := E) (ow := ow) (gv := gv) (ga := ga) (gb := gb) (yw := yw) (vv := vv) (f1 := f1) (r1 := r1) (f2 := f2) (r2 := r2) (yp := yp) (qk := qk) (qn := qn) (qs := qs) (zo := zo) (zb := zb) (zp := zp) (zk := zk) (w := w) hR.2.2.2.2.2.2.1 4 0 rfl
      refine ⟨_, fX _ ?_⟩
      have HYf : ∀ post : Int32 → SY → Prop, ((0 ≤ f → (wpY_objects (fun r_63 => (((r_63 = 16 → (post (-5) (md, nI w, K, N, E, P, ow, C, H, R, U, gv, ga, gb, yw, vv, f1, r1, f2, r2, yp, qk, qn, qs, zo, zb, zp, zk))) ∧ (¬ r_63 = 16 → (wpY_room (fun r_93 => (((r_93 = 0 → (((v2 = (-1) → (post (-6) (md, nI w, K, N, E, P, ow, C, H, R, U, gv, ga, gb, yw, vv, f1, r1, f2, r2, yp, qk, qn, qs, zo, zb, zp, zk))) ∧ (¬ v2 = (-1) → (wY_spawn_81 post (nI a) v2 f md (nI w) K N E P ow C H R U gv ga gb yw vv f1 r1 f2 r2 yp qk qn qs zo zb zp zk))))) ∧ (¬ r_93 = 0 → (wY_spawn_81 post (nI a) v2 f md (nI w) K N E P ow C H R U gv ga gb yw vv f1 r1 f2 r2 yp qk qn qs zo zb zp zk))))) (md, nI w, K, N, E, P, ow, C, H, R, U, gv, ga, gb, yw, vv, f1, r1, f2, r2, yp, qk, qn, qs, zo, zb, zp, zk) (nI a)))))) (md, nI w, K, N, E, P, ow, C, H, R, U, gv, ga, gb, yw, vv, f1, r1, f2, r2, yp, qk, qn, qs, zo, zb, zp, zk))) ∧ (¬ 0 ≤ f → (post (-9) (md, nI w, K, N, E, P, ow, C, H, R, U, gv, ga, gb, yw, vv, f1, r1, f2, r2, yp, qk, qn, qs, zo, zb, zp, zk)))) → wpY_spawn post (md, nI w, K, N, E, P, ow, C, H, R, U, gv, ga, gb, yw, vv, f1, r1, f2, r2, yp, qk, qn, qs, zo, zb, zp, zk) (nI a) v2 := fun post hp => by
        refine HY33 post (br_t ht ?_)
        exact ⟨_, fY _ hp⟩
      rcases hf with hf | ⟨c, hc, rfl, hcz, hno⟩
      · refine br_t hf ?_
        exact HYf _ (br_f (by rw [hf]; decide) ⟨rfl, hk_mk hR hQ hF⟩)
      · have hcc : (nI c).toNatClampNeg = c := nI_clamp (by omega)
        have hvc : vp_in (nI c) 4 := vp_in_nI hc (by decide)
        have h0c : 0 ≤ nI c := nI_pos' (by omega)
        have hac : a ≠ c := fun z => hu (by rw [z]; exact hcz)
        have hn16 := hk_cnle (hk_lv K) 16
        have hn10 := hk_cnle (hk_fp H a) 10
        refine br_f (hk_ne c (by omega)) ?_
        refine hk_xoc ?_
        by_cases h16 : hk_cn (hk_lv K) 16 < 16
        · have y16 : ¬ nI (hk_cn (hk_lv K) 16) = 16 := fun z => by have := (nI_eq (b := 16) (by omega) (by decide)).mp z; omega
          obtain ⟨o, ho, o1, o2⟩ := hk_slot h16
          refine br_t (nI_lt (b := 16) h16 (by decide)) ?_
          rcases k1 with ⟨z1, -, -, -⟩ | ⟨b, q, hb, hq, z1, e2, e3, e4, e5, -⟩
          · refine br_t z1 ?_
            refine hk_xfc ha ?_
            by_cases h2 : hk_cn (hk_fp H a) 10 = 0
            · have w2 : nI (hk_cn (hk_fp H a) 10) = 0 := by rw [h2]; rfl
              refine br_t w2 ?_
              refine HYf _ (br_t h0c ?_)
              refine hk_yoc hK (br_f y16 ?_)
              exact hk_yfc hH ha (br_t w2 (br_t z1 ⟨rfl, hk_mk hR hQ hF⟩))
            · have w2 : ¬ nI (hk_cn (hk_fp H a) 10) = 0 := nI_ne0 (by omega) (by omega)
              refine br_f w2 ?_
              unfold wX_spawn_66
              rw [hcc]
              refine ⟨hvc, nm_e ?_⟩
              refine hk_xfg hc (br_t z1 ?_)
              obtain ⟨p1, p2, p3, p4, p5, p6, p7, p8, p9, p10⟩ := hR
              have RG : (hk_K K ∧ hk_H K H ∧ hk_X K xw xp ∧ hk_M K xw mv co cr yw vv f1 r1 f2 r2 ∧ hk_P K xp pk pn ps yp qk qn qs ∧ hk_E K P ∧ hk_O K O ow ∧ hk_S K P S E ow U yw yp ∧ hk_W K w wo wb wp wk zo zb zp zk ∧ hk_G (upd (upd (upd G (c * 3) 0) (c * 3 + 1) (-1)) (c * 3 + 2) (-1)) (upd gv c 0) (upd ga c (-1)) (upd gb c (-1))) := ⟨p1, p2, p3, p4, p5, p6, p7, p8, p9, hk_gG p10⟩
              refine hk_spF (k := k + 6) RG hQ ha hu hc hac ho o1 o2 hk_b1 hno (fun e he _ hez => hF e he hez) h2 _ (fun py => wpY_spawn py (md, nI w, K, N, E, P, ow, C, H, R, U, gv, ga, gb, yw, vv, f1, r1, f2, r2, yp, qk, qn, qs, zo, zb, zp, zk) (nI a) v2) (fun r u' h => h) (fun py hpy => ?_)
              refine HYf _ (br_t h0c ?_)
              refine hk_yoc hK (br_f y16 ?_)
              refine hk_yfc hH ha (br_f w2 ?_)
              unfold wY_spawn_81
              rw [hcc]
              refine ⟨hvc, nm_e ?_⟩
              exact hk_yfg hc (br_t z1 hpy)
          · subst z1
            have hne : ¬ nI b = -1 := hk_ne b (by omega)
            have hci : (nI (a * 10 + b)).toNatClampNeg = a * 10 + b := nI_clamp (by omega)
            have hvi : vp_in (nI (a * 10 + b)) 40 := vp_in_nI (by omega) (by decide)
            have hfc := hF c hc hcz
            have hcm : upd (upd H (c * 10 + 0) (nI q)) (a * 10 + b) (-1) = upd (upd H (a * 10 + b) (-1)) (c * 10 + 0) (nI q) := hk_updc (by omega)
            refine br_f hne ?_
            unfold wX_spawn_66
            rw [hcc]
            refine ⟨hvc, nm_e ?_⟩
            refine hk_xfg hc (br_f hne (nm_r (hk_m10 a b) ⟨hvi, hvi, ?_⟩))
            rw [hci, e2]
            refine hk_xnh hc (b := 0) (by omega) (nI q) (R (a * 10 + b)) (hfc 0 (by omega)) (fun j hj => absurd hj (Nat.not_lt_zero _)) ?_
            refine ⟨hvi, nm_e ?_⟩
            have hH2 : hk_H K (upd (upd H (c * 10 + 0) (nI q)) (a * 10 + b) (-1)) := hk_plH (hk_plH hH (Or.inr ⟨q, hq, rfl, e3⟩)) (Or.inl rfl)
            have hHY : hk_H K (upd H (a * 10 + b) (-1)) := hk_plH hH (Or.inl rfl)
            obtain ⟨p1, p2, p3, p4, p5, p6, p7, p8, p9, p10⟩ := hR
            have RG : (hk_K K ∧ hk_H K (upd (upd H (c * 10 + 0) (nI q)) (a * 10 + b) (-1)) ∧ hk_X K xw xp ∧ hk_M K xw mv co cr yw vv f1 r1 f2 r2 ∧ hk_P K xp pk pn ps yp qk qn qs ∧ hk_E K P ∧ hk_O K O ow ∧ hk_S K P S E ow U yw yp ∧ hk_W K w wo wb wp wk zo zb zp zk ∧ hk_G (upd (upd (upd G (c * 3) 0) (c * 3 + 1) (-1)) (c * 3 + 2) (-1)) (upd gv c 0) (upd ga c (-1)) (upd gb c (-1))) := ⟨p1, hH2, p3, p4, p5, p6, p7, p8, p9, hk_gG p10⟩
            have hroom : hk_cn (hk_fp (upd (upd H (c * 10 + 0) (nI q)) (a * 10 + b) (-1)) a) 10 ≠ 0 := fun z => by
              have := hk_noroom z b hb
              rw [pk_us] at this
              exact this rfl
            refine hk_spF (k := k + 6) RG hQ ha hu hc hac ho o1 o2 hk_b1 hno (fun e he hec hez j hj => ?_) hroom _ (fun py => wpY_spawn py (md, nI w, K, N, E, P, ow, C, H, R, U, gv, ga, gb, yw, vv, f1, r1, f2, r2, yp, qk, qn, qs, zo, zb, zp, zk) (nI a) (nI b)) (fun r u' h => h) (fun py hpy => ?_)
            · by_cases y : e * 10 + j = a * 10 + b
              · rw [y, pk_us]
              · rw [pk_un y, pk_un (by omega)]
                exact hF e he hez j hj
            · have HY81 : wY_spawn_81 py (nI a) (nI b) (nI c) md (nI w) K N E P ow C H R U gv ga gb yw vv f1 r1 f2 r2 yp qk qn qs zo zb zp zk := by
                unfold wY_spawn_81
                rw [hcc]
                refine ⟨hvc, nm_e ?_⟩
                refine hk_yfg hc (br_f hne ?_)
                refine hk_yob ha hb ?_
                dsimp only
                rw [hk_10m, hci, e2]
                refine ⟨hvi, nm_e ⟨hvi, ?_⟩⟩
                refine hk_ynh hHY hc (b := 0) (by omega) (nI q) (R (a * 10 + b)) ?_ (fun j hj => absurd hj (Nat.not_lt_zero _)) ?_
                · rw [pk_un (by omega)]; exact hfc 0 (by omega)
                · rw [hcm] at hpy
                  exact hpy
              refine HYf _ (br_t h0c ?_)
              refine hk_yoc hK (br_f y16 ?_)
              refine hk_yfc hH ha ?_
              by_cases w2 : nI (hk_cn (hk_fp H a) 10) = 0
              · exact br_t w2 (br_f hne HY81)
              · exact br_f w2 HY81
        · have y16 : nI (hk_cn (hk_lv K) 16) = 16 := by rw [show hk_cn (hk_lv K) 16 = 16 by omega]; rfl
          refine br_f (nI_nlt (b := 16) (by omega) (by omega)) ?_
          refine HYf _ (br_t h0c ?_)
          exact hk_yoc hK (br_t y16 ⟨rfl, hk_mk hR hQ hF⟩)
    · refine br_f ht ?_
      exact HY33 _ (br_f ht ⟨rfl, hk_mk hR hQ hF⟩)
  · refine hk_xr0 hr (br_t rfl ?_)
    unfold wpY_spawn
    exact hk_yr0 hr (br_t rfl (br_f (by decide) (br_f (by decide) ⟨rfl, hk_mk hR hQ hF⟩)))
