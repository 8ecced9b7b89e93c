def hk_s2 (a : Nat → Int32) (lo n : Nat) : Nat → Int32 := fun j => if lo ≤ j ∧ j < n then a (j + 2) else a j
theorem hk_s20 (a : Nat → Int32) (lo : Nat) : hk_s2 a lo lo = a := by
  funext j
  unfold hk_s2
  rw [if_neg (by omega)]
theorem hk_s2s (a : Nat → Int32) {lo n : Nat} (h : lo ≤ n) : upd (hk_s2 a lo n) n (hk_s2 a lo n (n + 2)) = hk_s2 a lo (n + 1) := by
  funext j
  show (if j = n then (if lo ≤ n + 2 ∧ n + 2 < n then a (n + 2 + 2) else a (n + 2)) else (if lo ≤ j ∧ j < n then a (j + 2) else a j)) = (if lo ≤ j ∧ j < n + 1 then a (j + 2) else a j)
  by_cases e : j = n
  · subst e
    rw [if_pos rfl, if_neg (by omega), if_pos (by omega)]
  · rw [if_neg e]
    by_cases e2 : lo ≤ j ∧ j < n
    · rw [if_pos e2, if_pos (by omega)]
    · rw [if_neg e2, if_neg (by omega)]
/-- what one side's taking of a carried handle does: nothing, or a handle at the least free place -/
def hk_tk (K H R : Nat → Int32) (a : Nat) (x rr : Int32) (H' R' : Nat → Int32) (r : Int32) : Prop := (x = -1 ∧ H' = H ∧ R' = R ∧ r = -1) ∨ (∃ b o : Nat, b < 10 ∧ o < 16 ∧ x = nI o ∧ K o ≠ -1 ∧ H (a * 10 + b) = -1 ∧ (∀ j, j < b → H (a * 10 + j) ≠ -1) ∧ H' = upd H (a * 10 + b) x ∧ R' = upd R (a * 10 + b) rr ∧ r = nI b)
def hk_c1 (x : Int32) : Nat := if x = -1 then 0 else 1
section
variable {md : Int32} {w : Nat} {K N S P O C U G H R xw mv co cr xp pk pn ps wo wb wp wk : Nat → Int32} {E ow gv ga gb yw vv f1 r1 f2 r2 yp qk qn qs zo zb zp zk : Nat → Int32}
theorem hk_tke {a : Nat} {x rr : Int32} (hx : hk_rf K x) (hm : hk_c1 x ≤ hk_cn (hk_fp H a) 10) : ∃ H' R' r, hk_tk K H R a x rr H' R' r ∧ hk_cn (hk_fp H a) 10 = hk_cn (hk_fp H' a) 10 + hk_c1 x := by
  rcases hx with z | ⟨o, ho, e, z⟩
  · exact ⟨H, R, -1, Or.inl ⟨z, rfl, rfl, rfl⟩, by unfold hk_c1; rw [if_pos z]; rfl⟩
  · have hne : x ≠ -1 := by rw [e]; exact hk_ne o (by omega)
    unfold hk_c1 at hm ⊢
    rw [if_neg hne] at hm ⊢
    obtain ⟨b, hb, g1, g2⟩ := hk_room (H := H) (a := a) (by omega)
    exact ⟨_, _, _, Or.inr ⟨b, o, hb, ho, e, z, g1, g2, rfl, rfl, rfl⟩, hk_fpdn hb g1 hne⟩
theorem hk_tkH {a : Nat} {x rr r : Int32} {H' R' : Nat → Int32} (h : hk_tk K H R a x rr H' R' r) (hH : hk_H K H) : hk_H K H' := by
  rcases h with ⟨-, rfl, -, -⟩ | ⟨b, o, hb, ho, e, z, g1, g2, rfl, -, -⟩
  · exact hH
  · exact hk_plH hH (Or.inr ⟨o, ho, e, z⟩)
theorem hk_tkF {a : Nat} {x rr r : Int32} {H' R' : Nat → Int32} (h : hk_tk K H R a x rr H' R' r) (ha : a < 4) (hu : U a ≠ 0) (hF : hk_F U H) : hk_F U H' := by
  rcases h with ⟨-, rfl, -, -⟩ | ⟨b, o, hb, ho, e, z, g1, g2, rfl, -, -⟩
  · exact hF
  · exact hk_plF ha hb hF hu
theorem hk_tkx {a i : Nat} {x rr r : Int32} {H' R' : Nat → Int32} (h : hk_tk K H R a x rr H' R' r) (ha : a < 4) (hi : i < 128) (hco : co i = x) (hcr : x ≠ -1 → cr i = rr) {post : Int32 → SX → Prop} (hp : post r (md, nI w, K, N, S, P, O, C, U, G, H', R', xw, mv, co, cr, xp, pk, pn, ps, wo, wb, wp, wk)) : wpX_takeFromMessage post (md, nI w, K, N, S, P, O, C, U, G, H, R, xw, mv, co, cr, xp, pk, pn, ps, wo, wb, wp, wk) (nI a) (nI i) := by
  have hc : (nI i).toNatClampNeg = i := nI_clamp (by omega)
  have hv : vp_in (nI i) 128 := vp_in_nI hi (by decide)
  unfold wpX_takeFromMessage
  dsimp only
  rw [hc, hco]
  rcases h with ⟨z, rfl, rfl, rfl⟩ | ⟨b, o, hb, ho, e, z, g1, g2, rfl, rfl, rfl⟩
  · exact ⟨hv, br_t z hp⟩
  · have hne : x ≠ -1 := by rw [e]; exact hk_ne o (by omega)
    rw [hcr hne]
    exact ⟨hv, br_f hne ⟨hv, hv, hk_xnh ha hb _ _ g1 g2 hp⟩⟩
theorem hk_tky {a : Nat} {x rr r : Int32} {H' R' : Nat → Int32} (h : hk_tk K H R a x rr H' R' r) (hH : hk_H K H) (ha : a < 4) {m : Int32} (hv : vp_in m 64) {F : Int32 → SY → Prop} (hp : F r (md, nI w, K, N, E, P, ow, C, H', R', U, gv, ga, gb, yw, vv, f1, r1, f2, r2, yp, qk, qn, qs, zo, zb, zp, zk)) : ((0 ≤ x → (vp_in m 64 ∧ (vp_in m 64 ∧ wpY_place F (md, nI w, K, N, E, P, ow, C, H, R, U, gv, ga, gb, yw, vv, f1, r1, f2, r2, yp, qk, qn, qs, zo, zb, zp, zk) (nI a) x rr))) ∧ (¬ 0 ≤ x → F (-1) (md, nI w, K, N, E, P, ow, C, H, R, U, gv, ga, gb, yw, vv, f1, r1, f2, r2, yp, qk, qn, qs, zo, zb, zp, zk))) := by
  rcases h with ⟨z, rfl, rfl, rfl⟩ | ⟨b, o, hb, ho, e, z, g1, g2, rfl, rfl, rfl⟩
  · exact br_f (by rw [z]; decide) hp
  · exact br_t (by rw [e]; exact nI_pos' (by omega)) ⟨hv, hv, hk_ynh hH ha hb _ _ g1 g2 hp⟩
theorem hk_xcc {o : Nat} {x y : Int32} (ho : o < 16) (e1 : co (o * 8) = x) (e2 : co (o * 8 + 1) = y) {post : Int32 → Prop} (hp : post (nI (hk_c1 x + hk_c1 y))) : wpX_carriedCount post (md, nI w, K, N, S, P, O, C, U, G, H, R, xw, mv, co, cr, xp, pk, pn, ps, wo, wb, wp, wk) (nI (o * 4)) := by
  have i0 : nI (o * 4) * 2 + 0 = nI (o * 8) := by
    rw [hk_m2, show (0 : Int32) = nI 0 from rfl, nI_add]; exact congrArg nI (by omega)
  have i1 : nI (o * 4) * 2 + 1 = nI (o * 8 + 1) := by
    rw [hk_m2, show (1 : Int32) = nI 1 from rfl, nI_add]; exact congrArg nI (by omega)
  have c0 : (nI (o * 8)).toNatClampNeg = o * 8 := nI_clamp (by omega)
  have c1 : (nI (o * 8 + 1)).toNatClampNeg = o * 8 + 1 := nI_clamp (by omega)
  have v0 : vp_in (nI (o * 8)) 128 := vp_in_nI (by omega) (by decide)
  have v1 : vp_in (nI (o * 8 + 1)) 128 := vp_in_nI (by omega) (by decide)
  unfold hk_c1 at hp
  refine ⟨3, br_f (by decide) ?_⟩
  rw [i0, c0, e1]
  refine ⟨v0, ?_⟩
  have one : (0 : Int32) + 1 = 1 := by decide
  have two : (1 : Int32) + 1 = 2 := by decide
  by_cases z1 : x = -1
  · refine br_t z1 (nm_r one (br_f (by decide) ?_))
    rw [if_pos z1] at hp
    rw [i1, c1, e2]
    refine ⟨v1, ?_⟩
    by_cases z2 : y = -1
    · rw [if_pos z2] at hp
      exact br_t z2 (nm_r two (br_t (by decide) hp))
    · rw [if_neg z2] at hp
      exact br_f z2 (nm_r one (nm_r two (br_t (by decide) hp)))
  · refine br_f z1 (nm_r one (nm_r one (br_f (by decide) ?_)))
    rw [if_neg z1] at hp
    rw [i1, c1, e2]
    refine ⟨v1, ?_⟩
    by_cases z2 : y = -1
    · rw [if_pos z2] at hp
      exact br_t z2 (nm_r two (br_t (by decide) hp))
    · rw [if_neg z2] at hp
      exact br_f z2 (nm_r two (nm_r two (br_t (by decide) hp)))
theorem hk_xdm42 {o n : Nat} (ho : o < 16) (hn : n < 4) (e : xw o = nI (n + 1)) {post : SX → Prop} (hp : post (md, nI w, K, N, if n = 0 then upd S o (S o &&& -257) else S, P, O, C, U, G, H, R, upd xw o (nI n), mv, hk_s2 co (o * 8) (o * 8 + 6), hk_s2 cr (o * 8) (o * 8 + 6), xp, pk, pn, ps, wo, wb, wp, wk)) : ∀ d j, j + d = 6 → wX_dropFirstMessage_42 post (nI o) (nI (o * 8)) md (nI w) (d + 1) (nI (o * 8 + j)) K N S P O C U G H R xw mv (hk_s2 co (o * 8) (o * 8 + j)) (hk_s2 cr (o * 8) (o * 8 + j)) xp pk pn ps wo wb wp wk := by
  have hco : (nI o).toNatClampNeg = o := nI_clamp (by omega)
  have hvo : vp_in (nI o) 16 := vp_in_nI ho (by decide)
  have e6 : nI (o * 8) + 6 = nI (o * 8 + 6) := nI_add (o * 8) 6
  intro d
  induction d with
  | zero =>
    intro j hj
    obtain rfl : j = 6 := by omega
    refine br_t (by rw [e6]; exact Int32.le_refl _) ?_
    rw [hco, e, nI_pred]
    refine ⟨hvo, hvo, nm_e ⟨hvo, ?_⟩⟩
    rw [pk_us]
    by_cases z : n = 0
    · rw [if_pos z] at hp
      exact br_t (by rw [z]; rfl) ⟨hvo, hvo, nm_e hp⟩
    · rw [if_neg z] at hp
      exact br_f (nI_ne0 (by omega) (by omega)) hp
  | succ d ih =>
    intro j hj
    have i2 : nI (o * 8 + j) + 2 = nI (o * 8 + j + 2) := nI_add (o * 8 + j) 2
    have c1 : (nI (o * 8 + j + 2)).toNatClampNeg = o * 8 + j + 2 := nI_clamp (by omega)
    have c0 : (nI (o * 8 + j)).toNatClampNeg = o * 8 + j := nI_clamp (by omega)
    have v1 : vp_in (nI (o * 8 + j + 2)) 128 := vp_in_nI (by omega) (by decide)
    have v0 : vp_in (nI (o * 8 + j)) 128 := vp_in_nI (by omega) (by decide)
    have hij : o * 8 ≤ o * 8 + j := by omega
    refine br_f (by rw [e6]; exact nI_ge (by omega) (by omega)) ?_
    rw [i2, c1, c0, hk_s2s co hij, hk_s2s cr hij]
    exact ⟨v1, v0, nm_e ⟨v1, v0, nm_e (nm_r (nI_1 _) (ih (j + 1) (by omega)))⟩⟩
theorem hk_xdm6 {o n : Nat} (ho : o < 16) (hn : n < 4) (e : xw o = nI (n + 1)) {post : SX → Prop} (hp : post (md, nI w, K, N, if n = 0 then upd S o (S o &&& -257) else S, P, O, C, U, G, H, R, upd xw o (nI n), hk_sh mv (o * 4) (o * 4 + 3), hk_s2 co (o * 8) (o * 8 + 6), hk_s2 cr (o * 8) (o * 8 + 6), xp, pk, pn, ps, wo, wb, wp, wk)) : ∀ d j, j + d = 3 → wX_dropFirstMessage_6 post (nI o) (nI (o * 4)) md (nI w) (d + 1) (nI (o * 4 + j)) K N S P O C U G H R xw (hk_sh mv (o * 4) (o * 4 + j)) co cr xp pk pn ps wo wb wp wk := by
  have e3 : nI (o * 4) + 4 - 1 = nI (o * 4 + 3) := by
    rw [show nI (o * 4) + 4 = nI (o * 4 + 3 + 1) from nI_add (o * 4) 4, nI_pred]
  have e8 : nI (o * 4) * 2 = nI (o * 8) := by rw [hk_m2]; exact congrArg nI (by omega)
  intro d
  induction d with
  | zero =>
    intro j hj
    obtain rfl : j = 3 := by omega
    refine br_t (by rw [e3]; exact Int32.le_refl _) (nm_r e8 ?_)
    have := hk_xdm42 (md := md) (K := K) (N := N) (S := S) (P := P) (O := O) (C := C) (U := U) (G := G) (H := H) (R := R) (xw := xw) (mv := hk_sh mv (o * 4) (o * 4 + 3)) (co := co) (cr := cr) (xp := xp) (pk := pk) (pn := pn) (ps := ps) (wo := wo) (wb := wb) (wp := wp) (wk := wk) (w := w) ho hn e hp 6 0 rfl
    rw [show hk_s2 co (o * 8) (o * 8 + 0) = co from hk_s20 _ _, show hk_s2 cr (o * 8) (o * 8 + 0) = cr from hk_s20 _ _] at this
    exact ⟨_, this⟩
  | succ d ih =>
    intro j hj
    have c1 : (nI (o * 4 + j + 1)).toNatClampNeg = o * 4 + j + 1 := nI_clamp (by omega)
    have c0 : (nI (o * 4 + j)).toNatClampNeg = o * 4 + j := nI_clamp (by omega)
    have v1 : vp_in (nI (o * 4 + j + 1)) 64 := vp_in_nI (by omega) (by decide)
    have v0 : vp_in (nI (o * 4 + j)) 64 := vp_in_nI (by omega) (by decide)
    have hij : o * 4 ≤ o * 4 + j := by omega
    refine br_f (by rw [e3]; exact nI_ge (by omega) (by omega)) ?_
    rw [nI_1, c1, c0, hk_shs mv hij]
    exact ⟨v1, v0, nm_e (nm_e (ih (j + 1) (by omega)))⟩
theorem hk_xdm {o n : Nat} (ho : o < 16) (hn : n < 4) (e : xw o = nI (n + 1)) {post : SX → Prop} (hp : post (md, nI w, K, N, if n = 0 then upd S o (S o &&& -257) else S, P, O, C, U, G, H, R, upd xw o (nI n), hk_sh mv (o * 4) (o * 4 + 3), hk_s2 co (o * 8) (o * 8 + 6), hk_s2 cr (o * 8) (o * 8 + 6), xp, pk, pn, ps, wo, wb, wp, wk)) : wpX_dropFirstMessage post (md, nI w, K, N, S, P, O, C, U, G, H, R, xw, mv, co, cr, xp, pk, pn, ps, wo, wb, wp, wk) (nI o) := by
  unfold wpX_dropFirstMessage
  have := hk_xdm6 ho hn e hp 3 0 rfl
  rw [show hk_sh mv (o * 4) (o * 4 + 0) = mv from hk_sh0 _ _] at this
  exact nm_r (hk_m4 o) ⟨_, this⟩
theorem hk_yrc {o n : Nat} (ho : o < 16) (hn : n < 4) (e : yw o = nI n) {x : Int32} {post : Int32 → SY → Prop} (hp : post x (md, nI w, K, N, E, P, ow, C, H, R, U, gv, ga, gb, yw, hk_sh vv (o * 4) (o * 4 + n), hk_sh f1 (o * 4) (o * 4 + n), hk_sh r1 (o * 4) (o * 4 + n), hk_sh f2 (o * 4) (o * 4 + n), hk_sh r2 (o * 4) (o * 4 + n), yp, qk, qn, qs, zo, zb, zp, zk)) : ∀ d j, j + d = n → wY_receive_205 post (nI o) (nI (o * 4)) x md (nI w) (d + 1) (nI (o * 4 + j)) K N E P ow C H R U gv ga gb yw (hk_sh vv (o * 4) (o * 4 + j)) (hk_sh f1 (o * 4) (o * 4 + j)) (hk_sh r1 (o * 4) (o * 4 + j)) (hk_sh f2 (o * 4) (o * 4 + j)) (hk_sh r2 (o * 4) (o * 4 + j)) yp qk qn qs zo zb zp zk := by
  have hco : (nI o).toNatClampNeg = o := nI_clamp (by omega)
  have hvo : vp_in (nI o) 16 := vp_in_nI ho (by decide)
  have e5 : nI (o * 4) + yw (nI o).toNatClampNeg = nI (o * 4 + n) := by rw [hco, e, nI_add]
  intro d
  induction d with
  | zero =>
    intro j hj
    obtain rfl : j = n := by omega
    exact ⟨hvo, br_t (by rw [e5]; exact Int32.le_refl _) hp⟩
  | succ d ih =>
    intro j hj
    have c1 : (nI (o * 4 + j + 1)).toNatClampNeg = o * 4 + j + 1 := nI_clamp (by omega)
    have c0 : (nI (o * 4 + j)).toNatClampNeg = o * 4 + j := nI_clamp (by omega)
    have v1 : vp_in (nI (o * 4 + j + 1)) 64 := vp_in_nI (by omega) (by decide)
    have v0 : vp_in (nI (o * 4 + j)) 64 := vp_in_nI (by omega) (by decide)
    have hij : o * 4 ≤ o * 4 + j := by omega
    refine ⟨hvo, br_f (by rw [e5]; exact nI_ge (by omega) (by omega)) ?_⟩
    rw [nI_1, c1, c0, hk_shs vv hij, hk_shs f1 hij, hk_shs r1 hij, hk_shs f2 hij, hk_shs r2 hij]
    exact ⟨v1, v0, nm_e ⟨v1, v0, nm_e ⟨v1, v0, nm_e ⟨v1, v0, nm_e ⟨v1, v0, nm_e (nm_e (ih (j + 1) (by omega)))⟩⟩⟩⟩⟩
theorem hk_yrd {o n : Nat} (ho : o < 16) (hn : n < 4) (e : yw o = nI (n + 1)) {a : Nat} (ha : a < 4) {x z : Int32} {post : Int32 → SY → Prop} (hp : post x (md, nI w, K, N, E, P, ow, C, H, R, U, gv, ga, upd gb a z, upd yw o (nI n), hk_sh vv (o * 4) (o * 4 + n), hk_sh f1 (o * 4) (o * 4 + n), hk_sh r1 (o * 4) (o * 4 + n), hk_sh f2 (o * 4) (o * 4 + n), hk_sh r2 (o * 4) (o * 4 + n), yp, qk, qn, qs, zo, zb, zp, zk)) : wY_receive_189 post (nI o) (nI (o * 4)) x z (nI a) md (nI w) K N E P ow C H R U gv ga gb yw vv f1 r1 f2 r2 yp qk qn qs zo zb zp zk := by
  have hco : (nI o).toNatClampNeg = o := nI_clamp (by omega)
  have hvo : vp_in (nI o) 16 := vp_in_nI ho (by decide)
  have hca : (nI a).toNatClampNeg = a := nI_clamp (by omega)
  have hva : vp_in (nI a) 4 := vp_in_nI ha (by decide)
  have := hk_yrc (md := md) (K := K) (N := N) (E := E) (P := P) (ow := ow) (C := C) (H := H) (R := R) (U := U) (gv := gv) (ga := ga) (gb := upd gb a z) (yw := upd yw o (nI n)) (vv := vv) (f1 := f1) (r1 := r1) (f2 := f2) (r2 := r2) (yp := yp) (qk := qk) (qn := qn) (qs := qs) (zo := zo) (zb := zb) (zp := zp) (zk := zk) (w := w) ho hn pk_us hp n 0 (by omega)
  rw [show hk_sh vv (o * 4) (o * 4 + 0) = vv from hk_sh0 _ _, show hk_sh f1 (o * 4) (o * 4 + 0) = f1 from hk_sh0 _ _, show hk_sh r1 (o * 4) (o * 4 + 0) = r1 from hk_sh0 _ _, show hk_sh f2 (o * 4) (o * 4 + 0) = f2 from hk_sh0 _ _, show hk_sh r2 (o * 4) (o * 4 + 0) = r2 from hk_sh0 _ _] at this
  unfold wY_receive_189
  rw [hca, hco, e, nI_pred]
  exact ⟨hva, nm_e ⟨hvo, hvo, nm_e ⟨_, this⟩⟩⟩
theorem hk_rcR {o n : Nat} (hR : (hk_K K ∧ hk_H K H ∧ hk_X K xw xp ∧ hk_M K xw mv co cr yw vv f1 r1 f2 r2 ∧ hk_P K xp pk pn ps yp qk qn qs ∧ hk_E K P ∧ hk_O K O ow ∧ hk_S K P S E ow U yw yp ∧ hk_W K w wo wb wp wk zo zb zp zk ∧ hk_G G gv ga gb)) (hQ : hk_Q w S wo wb) (ho : o < 16) (hn : n < 4) (hk1 : K o = 1) (e1 : xw o = nI (n + 1)) (e2 : yw o = nI (n + 1)) : (hk_K K ∧ hk_H K H ∧ hk_X K (upd xw o (nI n)) xp ∧ hk_M K (upd xw o (nI n)) (hk_sh mv (o * 4) (o * 4 + 3)) (hk_s2 co (o * 8) (o * 8 + 6)) (hk_s2 cr (o * 8) (o * 8 + 6)) (upd yw o (nI n)) (hk_sh vv (o * 4) (o * 4 + n)) (hk_sh f1 (o * 4) (o * 4 + n)) (hk_sh r1 (o * 4) (o * 4 + n)) (hk_sh f2 (o * 4) (o * 4 + n)) (hk_sh r2 (o * 4) (o * 4 + n)) ∧ hk_P K xp pk pn ps yp qk qn qs ∧ hk_E K P ∧ hk_O K O ow ∧ hk_S K P (if n = 0 then upd S o (S o &&& -257) else S) E ow U (upd yw o (nI n)) yp ∧ hk_W K w wo wb wp wk zo zb zp zk ∧ hk_G G gv ga gb) ∧ hk_Q w (if n = 0 then upd S o (S o &&& -257) else S) wo wb := by
  obtain ⟨hK, hH, hX, hM, hP, hE, hO, hS, hW, hG⟩ := hR
  refine ⟨⟨hK, hH, ?_, ?_, hP, hE, hO, ?_, hW, hG⟩, ?_⟩
  · intro e he
    refine ⟨fun z => ?_, (hX e he).2⟩
    have : e ≠ o := fun y => z (by rw [y]; exact hk1)
    rw [pk_un this]
    exact (hX e he).1 z
  · intro e he hke
    obtain ⟨m, hm, a1, a2, a3⟩ := hM e he hke
    by_cases z : e = o
    · subst z
      have hmn : m = n + 1 := (nI_eq (by omega) (by omega)).mp (a1.symm.trans e1)
      subst hmn
      refine ⟨n, by omega, pk_us, pk_us, fun j hj => ?_⟩
      have g3 : hk_g (e * 4) (e * 4 + 3) (e * 4 + j) = e * 4 + (j + 1) := hk_gm (by omega) (by omega)
      have gn : hk_g (e * 4) (e * 4 + n) (e * 4 + j) = e * 4 + (j + 1) := hk_gm (by omega) (by omega)
      have s0 : ∀ a : Nat → Int32, hk_s2 a (e * 8) (e * 8 + 6) ((e * 4 + j) * 2) = a ((e * 4 + (j + 1)) * 2) := fun a => by
        unfold hk_s2
        rw [if_pos (by omega)]; exact congrArg a (by omega)
      have s1 : ∀ a : Nat → Int32, hk_s2 a (e * 8) (e * 8 + 6) ((e * 4 + j) * 2 + 1) = a ((e * 4 + (j + 1)) * 2 + 1) := fun a => by
        unfold hk_s2
        rw [if_pos (by omega)]; exact congrArg a (by omega)
      have := a3 (j + 1) (by omega)
      unfold hk_ms at this ⊢
      unfold hk_sh
      rw [g3, gn, s0, s1, s0, s1]
      exact this
    · refine ⟨m, hm, by rw [pk_un z]; exact a1, by rw [pk_un z]; exact a2, fun j hj => ?_⟩
      have g : ∀ n, n ≤ 4 → hk_g (o * 4) (o * 4 + n) (e * 4 + j) = e * 4 + j := fun n hn => by
        unfold hk_g
        rw [if_neg (by omega)]
      have s0 : ∀ a : Nat → Int32, hk_s2 a (o * 8) (o * 8 + 6) ((e * 4 + j) * 2) = a ((e * 4 + j) * 2) := fun a => by
        unfold hk_s2
        rw [if_neg (by omega)]
      have s1 : ∀ a : Nat → Int32, hk_s2 a (o * 8) (o * 8 + 6) ((e * 4 + j) * 2 + 1) = a ((e * 4 + j) * 2 + 1) := fun a => by
        unfold hk_s2
        rw [if_neg (by omega)]
      have := a3 j hj
      unfold hk_ms at this ⊢
      unfold hk_sh
      rw [g 3 (by omega), g n (by omega), s0, s1, s0, s1]
      exact this
  · intro e he hke
    by_cases z : e = o
    · subst z
      have s0 := hS e he hke
      unfold hk_sg at s0 ⊢
      have n0 : ¬ K e = 0 := by rw [hk1]; decide
      have y1 : ¬ yw e ≤ 0 := by rw [e2]; exact nI_nle (by omega) (by omega)
      rw [if_neg n0, if_pos hk1] at s0 ⊢
      rw [if_neg y1] at s0
      rw [pk_us]
      by_cases y : n = 0
      · rw [if_pos y, pk_us, s0, y]
        by_cases q : 0 ≤ P e
        · rw [if_pos q]; decide
        · rw [if_neg q]; decide
      · rw [if_neg y, s0, if_neg (nI_nle (by omega) (by omega))]
    · have hs : (if n = 0 then upd S o (S o &&& -257) else S) e = S e := by
        by_cases y : n = 0
        · rw [if_pos y, pk_un z]
        · rw [if_neg y]
      rw [hs, hS e he hke]
      unfold hk_sg
      rw [pk_un z]
  · by_cases y : n = 0
    · rw [if_pos y]; exact hk_Qand hQ
    · rw [if_neg y]; exact hQ
theorem hk_gG {a : Nat} {x y z : Int32} (hG : hk_G G gv ga gb) : hk_G (upd (upd (upd G (a * 3) x) (a * 3 + 1) y) (a * 3 + 2) z) (upd gv a x) (upd ga a y) (upd gb a z) := by
  intro p hp
  by_cases e : p = a
  · subst e
    refine ⟨?_, ?_, ?_⟩
    · rw [pk_un (by omega), pk_un (by omega), pk_us, pk_us]
    · rw [pk_un (by omega), pk_us, pk_us]
    · rw [pk_us, pk_us]
  · obtain ⟨h1, h2, h3⟩ := hG p hp
    refine ⟨?_, ?_, ?_⟩
    · rw [pk_un e, pk_un (by omega), pk_un (by omega), pk_un (by omega)]; exact h1
    · rw [pk_un e, pk_un (by omega), pk_un (by omega), pk_un (by omega)]; exact h2
    · rw [pk_un e, pk_un (by omega), pk_un (by omega), pk_un (by omega)]; exact h3
end
theorem i_vc_receive {k : Nat} {u : SX} {v : SY} (I : i_Rel k u v) (hk : k + 6 ≤ 3072) (v1 : Int32) (v2 : Int32) : wpX_receive (fun r u' => wpY_receive (fun r' v' => r' = r ∧ i_Rel (k + 6) u' v') v v1 v2) u v1 v2 := by
  obtain ⟨md, w, K, N, S, P, O, C, U, G, H, R, xw, mv, co, cr, xp, pk, pn, ps, wo, wb, wp, wk, E, ow, gv, ga, gb, yw, vv, f1, r1, f2, r2, yp, qk, qn, qs, zo, zb, zp, zk, rfl, rfl, hR, hQ, hF⟩ := I
  obtain ⟨r, hX, hY, h0⟩ := hk_th (md := md) (K := K) (N := N) (S := S) (P := P) (O := O) (C := C) (U := U) (G := G) (H := H) (R := R) (xw := xw) (mv := mv) (co := co) (cr := cr) (xp := xp) (pk := pk) (pn := pn) (ps := ps) (wo := wo) (wb := wb) (wp := wp) (wk := wk) (E := E) (ow := ow) (gv := gv) (ga := ga) (gb := gb) (yw := yw) (vv := vv) (f1 := f1) (r1 := r1) (f2 := f2) (r2 := r2) (yp := yp) (qk := qk) (qn := qn) (qs := qs) (zo := zo) (zb := zb) (zp := zp) (zk := zk) (w := w) hR.1 hR.2.1 v1 v2 1 1 (Or.inr (by decide))
  unfold wpX_receive
  refine hX _ ?_
  by_cases hr : r = 0
  · obtain ⟨a, b, o, ha, hb, ho, rfl, rfl, hu, e, hko, hk1⟩ := h0 hr
    have hk1 : K o = 1 := by
      rcases hk1 with z | z
      · exact absurd z (by decide)
      · exact z
    have hH := hR.2.1
    have hc : (nI (a * 10 + b)).toNatClampNeg = a * 10 + b := nI_clamp (by omega)
    have hv : vp_in (nI (a * 10 + b)) 40 := vp_in_nI (by omega) (by decide)
    have hco : (nI o).toNatClampNeg = o := nI_clamp (by omega)
    have hvo : vp_in (nI o) 16 := vp_in_nI ho (by decide)
    have hc4 : (nI (o * 4)).toNatClampNeg = o * 4 := nI_clamp (by omega)
    have hv4 : vp_in (nI (o * 4)) 64 := vp_in_nI (by omega) (by decide)
    have hca : (nI a).toNatClampNeg = a := nI_clamp (by omega)
    have hva : vp_in (nI a) 4 := vp_in_nI ha (by decide)
    obtain ⟨m, hm, x1, y1, hms⟩ := hR.2.2.2.1 o ho hk1
    refine br_t hr ?_
    rw [hk_m10, hc, e]
    refine ⟨hv, nm_e ⟨hvo, ?_⟩⟩
    rw [hco]
    have HY : ∀ post : Int32 → SY → Prop, ((yw o = 0 → (0 ≤ P o → post (-8) (md, nI w, K, N, E, P, ow, C, H, R, U, gv, ga, gb, yw, vv, f1, r1, f2, r2, yp, qk, qn, qs, zo, zb, zp, zk)) ∧ (¬ 0 ≤ P o → post (-7) (md, nI w, K, N, E, P, ow, C, H, R, U, gv, ga, gb, yw, vv, f1, r1, f2, r2, yp, qk, qn, qs, zo, zb, zp, zk))) ∧ (¬ yw o = 0 → (f1 (o * 4) < 0 → wY_receive_73 post (nI a) (nI o) (nI (o * 4)) 0 md (nI w) K N E P ow C H R U gv ga gb yw vv f1 r1 f2 r2 yp qk qn qs zo zb zp zk) ∧ (¬ f1 (o * 4) < 0 → wY_receive_73 post (nI a) (nI o) (nI (o * 4)) 1 md (nI w) K N E P ow C H R U gv ga gb yw vv f1 r1 f2 r2 yp qk qn qs zo zb zp zk))) → wpY_receive post (md, nI w, K, N, E, P, ow, C, H, R, U, gv, ga, gb, yw, vv, f1, r1, f2, r2, yp, qk, qn, qs, zo, zb, zp, zk) (nI a) (nI b) := fun post hp => by
      unfold wpY_receive
      refine hY _ (br_t hr ?_)
      refine hk_yob ha hb ?_
      rw [e]
      refine nm_r (hk_4m o) ⟨hvo, ?_⟩
      rw [hco, hc4]
      exact ⟨fun z => ⟨hvo, hp.1 z⟩, fun z => ⟨hv4, (hp.2 z).1, fun y => nm_r (e' := 1) (by decide) ((hp.2 z).2 y)⟩⟩
    by_cases hm0 : m = 0
    · subst hm0
      refine br_t x1 ⟨hvo, ?_⟩
      rcases hR.2.2.2.2.2.1 o ho hko with z | ⟨-, f, hf, -, z, -⟩
      · exact br_t z (HY _ (br_t y1 (br_f (by rw [z]; decide) ⟨rfl, hk_mk hR hQ hF⟩)))
      · exact br_f (by rw [z]; exact hk_ne f (by omega)) (HY _ (br_t y1 (br_t (by rw [z]; exact nI_pos' (by omega)) ⟨rfl, hk_mk hR hQ hF⟩)))
    · obtain ⟨n, rfl⟩ : ∃ n, m = n + 1 := ⟨m - 1, by omega⟩
      have zx : ¬ xw o = 0 := by rw [x1]; exact nI_ne0 (by omega) (by omega)
      have zy : ¬ yw o = 0 := by rw [y1]; exact nI_ne0 (by omega) (by omega)
      have hm00 := hms 0 (by omega)
      unfold hk_ms at hm00
      rw [show o * 4 + 0 = o * 4 from rfl, show o * 4 * 2 = o * 8 by omega] at hm00
      obtain ⟨g1, g2, g3, g4, g5, g6, g7⟩ := hm00
      have hn10 := hk_cnle (hk_fp H a) 10
      have c1le : hk_c1 (f1 (o * 4)) ≤ 1 := by unfold hk_c1; split <;> omega
      have c2le : hk_c1 (f2 (o * 4)) ≤ 1 := by unfold hk_c1; split <;> omega
      have HZ : ∀ post : Int32 → SY → Prop, wY_receive_86 post (nI a) (nI o) (nI (o * 4)) (nI (hk_c1 (f1 (o * 4)) + hk_c1 (f2 (o * 4)))) md (nI w) K N E P ow C H R U gv ga gb yw vv f1 r1 f2 r2 yp qk qn qs zo zb zp zk → wpY_receive post (md, nI w, K, N, E, P, ow, C, H, R, U, gv, ga, gb, yw, vv, f1, r1, f2, r2, yp, qk, qn, qs, zo, zb, zp, zk) (nI a) (nI b) := fun post hp => by
        refine HY _ (br_f zy ?_)
        have two : (1 : Int32) + 1 = nI 2 := by decide
        have one : (0 : Int32) + 1 = nI 1 := by decide
        unfold hk_c1 at hp
        rcases g4 with z1 | ⟨p, hp16, z1, -⟩
        · rw [if_pos z1] at hp
          refine br_t (hk_nn z1) ⟨hv4, ?_⟩
          rw [hc4]
          rcases g5 with z2 | ⟨q, hq16, z2, -⟩
          · rw [if_pos z2] at hp
            exact br_t (hk_nn z2) hp
          · rw [if_neg (by rw [z2]; exact hk_ne q (by omega))] at hp
            exact br_f (by rw [z2]; exact nI_pos (by omega)) (nm_r one hp)
        · rw [if_neg (by rw [z1]; exact hk_ne p (by omega))] at hp
          refine br_f (by rw [z1]; exact nI_pos (by omega)) ⟨hv4, ?_⟩
          rw [hc4]
          rcases g5 with z2 | ⟨q, hq16, z2, -⟩
          · rw [if_pos z2] at hp
            exact br_t (hk_nn z2) hp
          · rw [if_neg (by rw [z2]; exact hk_ne q (by omega))] at hp
            exact br_f (by rw [z2]; exact nI_pos (by omega)) (nm_r two hp)
      refine br_f zx (nm_r (hk_m4 o) ?_)
      refine hk_xcc ho g2 g3 ?_
      refine hk_xfc ha ?_
      by_cases hroom : hk_c1 (f1 (o * 4)) + hk_c1 (f2 (o * 4)) ≤ hk_cn (hk_fp H a) 10
      · have hle : nI (hk_c1 (f1 (o * 4)) + hk_c1 (f2 (o * 4))) ≤ nI (hk_cn (hk_fp H a) 10) := nI_le hroom (by omega)
        obtain ⟨H1, R1, t1, k1, n1⟩ := hk_tke (K := K) (H := H) (R := R) (a := a) (rr := r1 (o * 4)) g4 (by omega)
        obtain ⟨H2, R2, t2, k2, n2⟩ := hk_tke (K := K) (H := H1) (R := R1) (a := a) (rr := r2 (o * 4)) g5 (by omega)
        have hH1 := hk_tkH k1 hH
        have hH2 := hk_tkH k2 hH1
        have hF2 := hk_tkF k2 ha hu (hk_tkF k1 ha hu hF)
        obtain ⟨RR, QQ⟩ := hk_rcR hR hQ ho (by omega) hk1 x1 y1
        refine br_t hle (nm_r (hk_m3 a) ⟨hv4, vp_in_nI (by omega) (by decide), ?_⟩)
        have w1 : nI (a * 3) + 1 = nI (a * 3 + 1) := nI_1 _
        have w2 : nI (a * 3) + 2 = nI (a * 3 + 2) := nI_add _ 2
        have j0 : nI (o * 4) * 2 = nI (o * 8) := by rw [hk_m2]; exact congrArg nI (by omega)
        have j1 : nI (o * 8) + 1 = nI (o * 8 + 1) := nI_1 _
        rw [hc4, nI_clamp (n := a * 3) (by omega), w1, w2, j0, j1, nI_clamp (n := a * 3 + 1) (by omega), nI_clamp (n := a * 3 + 2) (by omega)]
        refine nm_e ?_
        refine hk_tkx k1 ha (by omega) g2 g6 ?_
        refine ⟨vp_in_nI (by omega) (by decide), nm_e ?_⟩
        refine hk_tkx k2 ha (by omega) g3 g7 ?_
        refine ⟨vp_in_nI (by omega) (by decide), nm_e ?_⟩
        refine hk_xdm ho (by omega) x1 ?_
        refine HZ _ ?_
        unfold wY_receive_86
        refine hk_yfc hH ha (br_t hle ⟨hv4, hva, ?_⟩)
        rw [hc4, hca]
        refine nm_e ⟨hv4, ?_⟩
        refine hk_tky k1 hH ha hv4 ?_
        unfold wY_receive_150
        rw [hc4, hca]
        refine ⟨hva, nm_e ⟨hv4, ?_⟩⟩
        refine hk_tky k2 hH1 ha hv4 ?_
        refine hk_yrd ho (by omega) y1 ha ?_
        obtain ⟨p1, p2, p3, p4, p5, p6, p7, p8, p9, p10⟩ := RR
        refine ⟨rfl, hk_mk ⟨p1, hH2, p3, p4, p5, p6, p7, p8, p9, ?_⟩ QQ hF2⟩
        rw [g1]
        exact hk_gG p10
      · have hle : ¬ nI (hk_c1 (f1 (o * 4)) + hk_c1 (f2 (o * 4))) ≤ nI (hk_cn (hk_fp H a) 10) := nI_ge (by omega) (by omega)
        refine br_f hle ?_
        refine HZ _ ?_
        unfold wY_receive_86
        exact hk_yfc hH ha (br_f hle ⟨rfl, hk_mk hR hQ hF⟩)
  · refine br_f hr ?_
    unfold wpY_receive
    exact hY _ (br_f hr ⟨rfl, hk_mk hR hQ hF⟩)
