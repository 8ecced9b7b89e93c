section
variable {md : Int32} {w : Nat} {K N S P O C U G H R xw mv co cr xp pk pn ps wo wb wp wk : Nat → Int32} {E ow gv ga gb yw vv f1 r1 f2 r2 yp qk qn qs zo zb zp zk : Nat → Int32}
/-- one new object that is no end: the relation afterwards -/
theorem hk_cre1 (hR : (hk_K K ∧ hk_H K H ∧ hk_X K xw xp ∧ hk_M K xw mv co cr yw vv f1 r1 f2 r2 ∧ hk_P K xp pk pn ps yp qk qn qs ∧ hk_E K P ∧ hk_O K O ow ∧ hk_S K P S E ow U yw yp ∧ hk_W K w wo wb wp wk zo zb zp zk ∧ hk_G G gv ga gb)) (hQ : hk_Q w S wo wb) {o : Nat} (ho : o < 16) (hf : K o = -1) {k : Int32} (hk : k = 0 ∨ k = 2 ∨ k = 3) :
    (hk_K (upd K o k) ∧ hk_H (upd K o k) H ∧ hk_X (upd K o k) xw xp ∧ hk_M (upd K o k) xw mv co cr (upd yw o 0) vv f1 r1 f2 r2 ∧ hk_P (upd K o k) xp pk pn ps (upd yp o 0) qk qn qs ∧ hk_E (upd K o k) (upd P o (-1)) ∧ hk_O (upd K o k) O (upd ow o (-1)) ∧ hk_S (upd K o k) (upd P o (-1)) (upd S o 0) (upd E o 0) (upd ow o (-1)) U (upd yw o 0) (upd yp o 0) ∧ hk_W (upd K o k) w wo wb wp wk zo zb zp zk ∧ hk_G G gv ga gb) ∧ hk_Q w (upd S o 0) wo wb := by
  refine hk_cre (fun e => e = o) hR hQ (fun e z => by rw [z]; exact hf) (fun e z => ?_) (fun e he z => ?_) (fun e he z => rfl)
  · exact ⟨pk_un z, pk_un z, pk_un z, pk_un z, rfl, pk_un z, pk_un z, pk_un z⟩
  · obtain rfl := z
    refine ⟨?_, ?_, pk_us, pk_us, ?_, Or.inl pk_us, ?_⟩
    · rw [pk_us]; unfold hk_kd; rcases hk with rfl | rfl | rfl <;> simp
    · rw [pk_us]; rcases hk with rfl | rfl | rfl <;> decide
    · unfold hk_sg
      rcases hk with rfl | rfl | rfl <;> simp [upd]
    · rw [pk_us]; intro h; rcases hk with rfl | rfl | rfl <;> exact absurd h (by decide)
theorem hk_make1 (hR : (hk_K K ∧ hk_H K H ∧ hk_X K xw xp ∧ hk_M K xw mv co cr yw vv f1 r1 f2 r2 ∧ hk_P K xp pk pn ps yp qk qn qs ∧ hk_E K P ∧ hk_O K O ow ∧ hk_S K P S E ow U yw yp ∧ hk_W K w wo wb wp wk zo zb zp zk ∧ hk_G G gv ga gb)) (hQ : hk_Q w S wo wb) (hF : hk_F U H) {k a c : Nat} (ha : a < 4) (hu : U a ≠ 0) (hc : c < 4) (hc1 : c ≠ 1) :
    wX_make_42 (fun r u' => wpY_make (fun r' v' => r' = r ∧ i_Rel k u' v') (md, nI w, K, N, E, P, ow, C, H, R, U, gv, ga, gb, yw, vv, f1, r1, f2, r2, yp, qk, qn, qs, zo, zb, zp, zk) (nI a) (nI c)) (nI a) (nI c) 1 md (nI w) K N S P O C U G H R xw mv co cr xp pk pn ps wo wb wp wk := by
  have hK := hR.1
  have hH := hR.2.1
  have hn : ¬ nI c = 1 := fun z => hc1 ((nI_eq (b := 1) (by omega) (by decide)).mp z)
  have HY : ∀ post : Int32 → SY → Prop, wY_make_32 post (nI a) (nI c) 1 md (nI w) K N E P ow C H R U gv ga gb yw vv f1 r1 f2 r2 yp qk qn qs zo zb zp zk → wpY_make post (md, nI w, K, N, E, P, ow, C, H, R, U, gv, ga, gb, yw, vv, f1, r1, f2, r2, yp, qk, qn, qs, zo, zb, zp, zk) (nI a) (nI c) := fun post h => by
    unfold wpY_make
    exact hk_yr1 ha hu (br_f (by decide) (hk_in1 (n := 3) (by omega) (by decide) (br_f (by decide) (br_f hn h))))
  have hn16 := hk_cnle (hk_lv K) 16
  have hn10 := hk_cnle (hk_fp H a) 10
  by_cases h1 : hk_cn (hk_lv K) 16 + 1 ≤ 16
  · have e1 : nI (hk_cn (hk_lv K) 16) + 1 ≤ 16 := by rw [nI_1]; exact nI_le (b := 16) h1 (by decide)
    by_cases h2 : 1 ≤ hk_cn (hk_fp H a) 10
    · have e2 : 1 ≤ nI (hk_cn (hk_fp H a) 10) := nI_le (a := 1) h2 (by omega)
      obtain ⟨o, ho, f1', f2'⟩ := hk_slot (K := K) (by omega)
      obtain ⟨b, hb, g1, g2⟩ := hk_room (H := H) (a := a) (by omega)
      have hkc : nI c = 0 ∨ nI c = 2 ∨ nI c = 3 := by
        obtain rfl | rfl | rfl : c = 0 ∨ c = 2 ∨ c = 3 := by omega
        · exact Or.inl rfl
        · exact Or.inr (Or.inl rfl)
        · exact Or.inr (Or.inr rfl)
      obtain ⟨⟨q1, q2, q3⟩, q4⟩ := hk_cre1 hR hQ ho f1' hkc
      unfold wX_make_42
      refine hk_xoc (br_t e1 ?_)
      refine hk_xfc ha (br_t e2 ?_)
      refine hk_xno ho (nI c) f1' f2' ?_
      refine hk_xnh ha hb (nI o) 63 g1 g2 (br_f hn ?_)
      refine HY _ ?_
      unfold wY_make_32
      refine hk_yoc hK (br_t e1 ?_)
      refine hk_yfc hH ha (br_t e2 ?_)
      refine hk_ycr hK ho (nI c) f1' f2' ?_
      refine hk_ynh q2 ha hb (nI o) 63 g1 g2 (br_f hn ?_)
      refine ⟨rfl, hk_mk ⟨q1, hk_plH q2 (Or.inr ⟨o, ho, rfl, ?_⟩), q3⟩ q4 (hk_plF ha hb hF hu)⟩
      rw [pk_us]
      rcases hkc with z | z | z <;> (rw [z]; decide)
    · have e2 : ¬ 1 ≤ nI (hk_cn (hk_fp H a) 10) := nI_ge (b := 1) (by omega) (by decide)
      unfold wX_make_42
      refine hk_xoc (br_t e1 ?_)
      refine hk_xfc ha (br_f e2 ?_)
      refine HY _ ?_
      unfold wY_make_32
      refine hk_yoc hK (br_t e1 ?_)
      exact hk_yfc hH ha (br_f e2 ⟨rfl, hk_mk hR hQ hF⟩)
  · have e1 : ¬ nI (hk_cn (hk_lv K) 16) + 1 ≤ 16 := by rw [nI_1]; exact nI_ge (a := 16) (by omega) (by omega)
    unfold wX_make_42
    refine hk_xoc (br_f e1 ?_)
    refine HY _ ?_
    unfold wY_make_32
    exact hk_yoc hK (br_f e1 ⟨rfl, hk_mk hR hQ hF⟩)
theorem hk_cre2 (hR : (hk_K K ∧ hk_H K H ∧ hk_X K xw xp ∧ hk_M K xw mv co cr yw vv f1 r1 f2 r2 ∧ hk_P K xp pk pn ps yp qk qn qs ∧ hk_E K P ∧ hk_O K O ow ∧ hk_S K P S E ow U yw yp ∧ hk_W K w wo wb wp wk zo zb zp zk ∧ hk_G G gv ga gb)) (hQ : hk_Q w S wo wb) {o t : Nat} (ho : o < 16) (ht : t < 16) (hot : o ≠ t) (hf : K o = -1) (hg : K t = -1) :
    (hk_K (upd (upd K o 1) t 1) ∧ hk_H (upd (upd K o 1) t 1) H ∧ hk_X (upd (upd K o 1) t 1) xw xp ∧ hk_M (upd (upd K o 1) t 1) xw mv co cr (upd (upd yw o 0) t 0) vv f1 r1 f2 r2 ∧ hk_P (upd (upd K o 1) t 1) xp pk pn ps (upd (upd yp o 0) t 0) qk qn qs ∧ hk_E (upd (upd K o 1) t 1) (upd (upd (upd (upd P o (-1)) t (-1)) o (nI t)) t (nI o)) ∧ hk_O (upd (upd K o 1) t 1) O (upd (upd ow o (-1)) t (-1)) ∧ hk_S (upd (upd K o 1) t 1) (upd (upd (upd (upd P o (-1)) t (-1)) o (nI t)) t (nI o)) (upd (upd S o 0) t 0) (upd (upd E o 0) t 0) (upd (upd ow o (-1)) t (-1)) U (upd (upd yw o 0) t 0) (upd (upd yp o 0) t 0) ∧ hk_W (upd (upd K o 1) t 1) w wo wb wp wk zo zb zp zk ∧ hk_G G gv ga gb) ∧ hk_Q w (upd (upd S o 0) t 0) wo wb := by
  have hto : t ≠ o := fun e => hot e.symm
  refine hk_cre (fun e => e = o ∨ e = t) hR hQ (fun e z => by rcases z with rfl | rfl; exact hf; exact hg) (fun e z => ?_) (fun e he z => ?_) (fun e he z => rfl)
  · have z1 : e ≠ o := fun y => z (Or.inl y)
    have z2 : e ≠ t := fun y => z (Or.inr y)
    refine ⟨?_, ?_, ?_, ?_, rfl, ?_, ?_, ?_⟩ <;> simp [upd, z1, z2]
  · rcases z with rfl | rfl
    · refine ⟨?_, ?_, ?_, ?_, ?_, Or.inr ⟨?_, t, ht, hto, ?_, ?_, ?_⟩, ?_⟩
      · simp [upd, hot, hto, hk_kd]
      · simp [upd, hot, hto]
      · simp [upd, hot, hto]
      · simp [upd, hot, hto]
      · unfold hk_sg
        have : 0 ≤ nI t := nI_pos' (by omega)
        simp [upd, hot, hto, this]
      · simp [upd, hot, hto]
      · simp [upd, hot, hto]
      · simp [upd, hot, hto]
      · simp [upd, hot, hto]
      · simp [upd, hot, hto]
    · refine ⟨?_, ?_, ?_, ?_, ?_, Or.inr ⟨?_, o, ho, hot, ?_, ?_, ?_⟩, ?_⟩
      · simp [upd, hot, hto, hk_kd]
      · simp [upd, hot, hto]
      · simp [upd, hot, hto]
      · simp [upd, hot, hto]
      · unfold hk_sg
        have : 0 ≤ nI o := nI_pos' (by omega)
        simp [upd, hot, hto, this]
      · simp [upd, hot, hto]
      · simp [upd, hot, hto]
      · simp [upd, hot, hto]
      · simp [upd, hot, hto]
      · simp [upd, hot, hto]
theorem hk_lvup {o : Nat} {k : Int32} (ho : o < 16) (hf : K o = -1) (hk : k ≠ -1) : hk_cn (hk_lv (upd K o k)) 16 = hk_cn (hk_lv K) 16 + 1 := by
  refine hk_cnup (hk_lv K) _ o ?_ ?_ (fun i hi => ?_) 16 ho
  · simp [hk_lv, hf]
  · simp [hk_lv, pk_us, hk]
  · simp [hk_lv, pk_un hi]
theorem hk_fpdn {a b : Nat} {x : Int32} (hb : b < 10) (hf : H (a * 10 + b) = -1) (hx : x ≠ -1) : hk_cn (hk_fp H a) 10 = hk_cn (hk_fp (upd H (a * 10 + b) x) a) 10 + 1 := by
  refine hk_cnup _ (hk_fp H a) b ?_ ?_ (fun i hi => ?_) 10 hb
  · simp [hk_fp, pk_us, hx]
  · simp [hk_fp, hf]
  · have : a * 10 + i ≠ a * 10 + b := by omega
    simp [hk_fp, pk_un this]
theorem hk_make2 (hR : (hk_K K ∧ hk_H K H ∧ hk_X K xw xp ∧ hk_M K xw mv co cr yw vv f1 r1 f2 r2 ∧ hk_P K xp pk pn ps yp qk qn qs ∧ hk_E K P ∧ hk_O K O ow ∧ hk_S K P S E ow U yw yp ∧ hk_W K w wo wb wp wk zo zb zp zk ∧ hk_G G gv ga gb)) (hQ : hk_Q w S wo wb) (hF : hk_F U H) {k a : Nat} (ha : a < 4) (hu : U a ≠ 0) :
    wX_make_42 (fun r u' => wpY_make (fun r' v' => r' = r ∧ i_Rel k u' v') (md, nI w, K, N, E, P, ow, C, H, R, U, gv, ga, gb, yw, vv, f1, r1, f2, r2, yp, qk, qn, qs, zo, zb, zp, zk) (nI a) 1) (nI a) 1 2 md (nI w) K N S P O C U G H R xw mv co cr xp pk pn ps wo wb wp wk := by
  have hK := hR.1
  have hH := hR.2.1
  have HY : ∀ post : Int32 → SY → Prop, wY_make_32 post (nI a) 1 2 md (nI w) K N E P ow C H R U gv ga gb yw vv f1 r1 f2 r2 yp qk qn qs zo zb zp zk → wpY_make post (md, nI w, K, N, E, P, ow, C, H, R, U, gv, ga, gb, yw, vv, f1, r1, f2, r2, yp, qk, qn, qs, zo, zb, zp, zk) (nI a) 1 := fun post h => by
    unfold wpY_make
    exact hk_yr1 ha hu (br_f (by decide) (hk_in1 (j := 1) (n := 3) (by omega) (by decide) (br_f (by decide) (br_t rfl h))))
  have hn16 := hk_cnle (hk_lv K) 16
  have hn10 := hk_cnle (hk_fp H a) 10
  by_cases h1 : hk_cn (hk_lv K) 16 + 2 ≤ 16
  · have e1 : nI (hk_cn (hk_lv K) 16) + 2 ≤ 16 := by rw [show nI (hk_cn (hk_lv K) 16) + 2 = nI (hk_cn (hk_lv K) 16 + 2) from nI_add _ 2]; exact nI_le (b := 16) h1 (by decide)
    by_cases h2 : 2 ≤ hk_cn (hk_fp H a) 10
    · have e2 : 2 ≤ nI (hk_cn (hk_fp H a) 10) := nI_le (a := 2) h2 (by omega)
      obtain ⟨o, ho, f1', f2'⟩ := hk_slot (K := K) (by omega)
      obtain ⟨b, hb, g1, g2⟩ := hk_room (H := H) (a := a) (by omega)
      have hK1 : hk_K (upd K o 1) := fun i hi => by
        by_cases e : i = o
        · rw [e, pk_us]; unfold hk_kd; simp
        · rw [pk_un e]; exact hK i hi
      have hm1 : ∀ e, K e ≠ -1 → upd K o 1 e ≠ -1 := fun e z => by
        by_cases y : e = o
        · rw [y, pk_us]; decide
        · rw [pk_un y]; exact z
      have hH1 : hk_H (upd K o 1) H := fun i hi => hk_rfm hm1 (hH i hi)
      have hH2 : hk_H (upd K o 1) (upd H (a * 10 + b) (nI o)) := hk_plH hH1 (Or.inr ⟨o, ho, rfl, by rw [pk_us]; decide⟩)
      obtain ⟨t, ht, t1, t2⟩ := hk_slot (K := upd K o 1) (by rw [hk_lvup ho f1' (by decide)]; omega)
      have hot : o ≠ t := fun e => by rw [← e, pk_us] at t1; exact absurd t1 (by decide)
      have hgt : K t = -1 := by rw [pk_un (fun e => hot e.symm)] at t1; exact t1
      obtain ⟨d, hd, d1, d2⟩ := hk_room (H := upd H (a * 10 + b) (nI o)) (a := a) (by have := hk_fpdn (H := H) (a := a) hb g1 (hk_ne o (by omega)); omega)
      obtain ⟨⟨q1, q2, q3⟩, q4⟩ := hk_cre2 hR hQ ho ht hot f1' hgt
      have hm2 : ∀ e, upd K o 1 e ≠ -1 → upd (upd K o 1) t 1 e ≠ -1 := fun e z => by
        by_cases y : e = t
        · rw [y, pk_us]; decide
        · rw [pk_un y]; exact z
      have hH3 : hk_H (upd (upd K o 1) t 1) (upd H (a * 10 + b) (nI o)) := fun i hi => hk_rfm hm2 (hH2 i hi)
      have hvo : vp_in (nI o) 16 := vp_in_nI ho (by decide)
      have hvt : vp_in (nI t) 16 := vp_in_nI ht (by decide)
      have hco : (nI o).toNatClampNeg = o := nI_clamp (by omega)
      have hct : (nI t).toNatClampNeg = t := nI_clamp (by omega)
      unfold wX_make_42
      refine hk_xoc (br_t e1 ?_)
      refine hk_xfc ha (br_t e2 ?_)
      refine hk_xno ho 1 f1' f2' ?_
      refine hk_xnh ha hb (nI o) 63 g1 g2 (br_t rfl ?_)
      refine hk_xno ht 1 t1 t2 ?_
      refine hk_xnh ha hd (nI t) 63 d1 d2 ?_
      refine ⟨hvo, nm_r (hk_u hco) ⟨hvt, nm_r (hk_u hct) ?_⟩⟩
      refine HY _ ?_
      unfold wY_make_32
      refine hk_yoc hK (br_t e1 ?_)
      refine hk_yfc hH ha (br_t e2 ?_)
      refine hk_ycr hK ho 1 f1' f2' ?_
      refine hk_ynh hH1 ha hb (nI o) 63 g1 g2 (br_t rfl ?_)
      refine hk_ycr hK1 ht 1 t1 t2 ?_
      refine hk_ynh hH3 ha hd (nI t) 63 d1 d2 ?_
      refine ⟨hvo, nm_r (hk_u hco) ⟨hvt, nm_r (hk_u hct) ?_⟩⟩
      exact ⟨rfl, hk_mk ⟨q1, hk_plH hH3 (Or.inr ⟨t, ht, rfl, by rw [pk_us]; decide⟩), q3⟩ q4 (hk_plF ha hd (hk_plF ha hb hF hu) hu)⟩
    · have e2 : ¬ 2 ≤ nI (hk_cn (hk_fp H a) 10) := nI_ge (b := 2) (by omega) (by decide)
      unfold wX_make_42
      refine hk_xoc (br_t e1 ?_)
      refine hk_xfc ha (br_f e2 ?_)
      refine HY _ ?_
      unfold wY_make_32
      refine hk_yoc hK (br_t e1 ?_)
      exact hk_yfc hH ha (br_f e2 ⟨rfl, hk_mk hR hQ hF⟩)
  · have e1 : ¬ nI (hk_cn (hk_lv K) 16) + 2 ≤ 16 := by rw [show nI (hk_cn (hk_lv K) 16) + 2 = nI (hk_cn (hk_lv K) 16 + 2) from nI_add _ 2]; exact nI_ge (a := 16) (by omega) (by omega)
    unfold wX_make_42
    refine hk_xoc (br_f e1 ?_)
    refine HY _ ?_
    unfold wY_make_32
    exact hk_yoc hK (br_f e1 ⟨rfl, hk_mk hR hQ hF⟩)
end
theorem i_vc_make {k : Nat} {u : SX} {v : SY} (I : i_Rel k u v) (hk : k + 6 ≤ 3072) (v1 : Int32) (v2 : Int32) : wpX_make (fun r u' => wpY_make (fun r' v' => r' = r ∧ i_Rel (k + 6) u' v') v v1 v2) u v1 v2 := by
  obtain ⟨md, w, K, N, S, P, O, C, U, G, H, R, xw, mv, co, cr, xp, pk, pn, ps, wo, wb, wp, wk, E, ow, gv, ga, gb, yw, vv, f1, r1, f2, r2, yp, qk, qn, qs, zo, zb, zp, zk, rfl, rfl, hR, hQ, hF⟩ := I
  unfold wpX_make
  by_cases hr : hk_run U v1
  · obtain ⟨a, ha, rfl, hu⟩ := hr
    refine hk_xr1 ha hu (br_f (by decide) ?_)
    have bad : (v2 < 0 ∨ nI 4 ≤ v2) → ∀ c : Nat, c < 4 → ¬ v2 = nI c := fun z c hc e => by
      subst e
      rcases z with z | z
      · exact nI_pos (by omega) z
      · exact nI_ge hc (by decide) z
    rcases pk_ix v2 (n := 4) (by decide) with z | z | ⟨c, hc, rfl⟩
    · refine br_f (bad (Or.inl z) 0 (by omega)) (br_f (bad (Or.inl z) 1 (by omega)) (br_f (bad (Or.inl z) 2 (by omega)) (br_f (bad (Or.inl z) 3 (by omega)) ?_)))
      unfold wpY_make
      exact hk_yr1 ha hu (br_f (by decide) (hk_in0 (n := 3) (Or.inl z) (by decide) (br_t rfl ⟨rfl, hk_mk hR hQ hF⟩)))
    · refine br_f (bad (Or.inr z) 0 (by omega)) (br_f (bad (Or.inr z) 1 (by omega)) (br_f (bad (Or.inr z) 2 (by omega)) (br_f (bad (Or.inr z) 3 (by omega)) ?_)))
      unfold wpY_make
      exact hk_yr1 ha hu (br_f (by decide) (hk_in0 (n := 3) (Or.inr z) (by decide) (br_t rfl ⟨rfl, hk_mk hR hQ hF⟩)))
    · have key : wX_make_32 (fun r u' => wpY_make (fun r' v' => r' = r ∧ i_Rel (k + 6) u' v') (md, nI w, K, N, E, P, ow, C, H, R, U, gv, ga, gb, yw, vv, f1, r1, f2, r2, yp, qk, qn, qs, zo, zb, zp, zk) (nI a) (nI c)) (nI a) (nI c) md (nI w) K N S P O C U G H R xw mv co cr xp pk pn ps wo wb wp wk := by
        by_cases hc1 : c = 1
        · subst hc1
          exact br_t rfl (hk_make2 hR hQ hF ha hu)
        · exact br_f (fun z => hc1 ((nI_eq (b := 1) (by omega) (by decide)).mp z)) (hk_make1 hR hQ hF ha hu hc hc1)
      refine br_c (fun _ => key) fun y0 => br_c (fun _ => key) fun y1 => br_c (fun _ => key) fun y2 => br_c (fun _ => key) fun y3 => ?_
      obtain rfl | rfl | rfl | rfl : c = 0 ∨ c = 1 ∨ c = 2 ∨ c = 3 := by omega
      · exact absurd rfl y0
      · exact absurd rfl y1
      · exact absurd rfl y2
      · exact absurd rfl y3
  · refine hk_xr0 hr (br_t rfl ?_)
    unfold wpY_make
    exact hk_yr0 hr (br_t rfl ⟨rfl, hk_mk hR hQ hF⟩)
