section
variable {md : Int32} {w : Nat} {K N S P O C U G H R xw mv co cr xp pk pn ps wo wb wp wk : Nat → Int32} {E ow gv ga gb yw vv f1 r1 f2 r2 yp qk qn qs zo zb zp zk : Nat → Int32}
theorem hk_xnhl {a b : Nat} (ha : a < 4) (hb : b < 10) (x r : Int32) (hf : H (a * 10 + b) = -1) (hl : ∀ j, j < b → H (a * 10 + j) ≠ -1) {post : Int32 → SX → Prop} (hp : post (nI b) (md, nI w, K, N, S, P, O, C, U, G, upd H (a * 10 + b) x, upd R (a * 10 + b) r, xw, mv, co, cr, xp, pk, pn, ps, wo, wb, wp, wk)) : ∀ d j, j + d = b → wX_newHandle_3 post (nI a) x r md (nI w) K N S P O C U G H R xw mv co cr xp pk pn ps wo wb wp wk (d + 1) (nI j) := by
  intro d
  induction d with
  | zero =>
    intro j hj
    obtain rfl : j = b := by omega
    have hc : (nI (a * 10 + j)).toNatClampNeg = a * 10 + j := nI_clamp (by omega)
    have hv : vp_in (nI (a * 10 + j)) 40 := vp_in_nI (by omega) (by decide)
    exact br_f (nI_ge (b := 10) (by omega) (by decide)) (nm_r (hk_m10 a j) ⟨hv, br_t (by rw [hc]; exact hf) ⟨hv, nm_r (hk_u hc) ⟨hv, nm_r (hk_u hc) hp⟩⟩⟩)
  | succ d ih =>
    intro j hj
    have hc : (nI (a * 10 + j)).toNatClampNeg = a * 10 + j := nI_clamp (by omega)
    have hv : vp_in (nI (a * 10 + j)) 40 := vp_in_nI (by omega) (by decide)
    exact br_f (nI_ge (b := 10) (by omega) (by decide)) (nm_r (hk_m10 a j) ⟨hv, br_f (by rw [hc]; exact hl j (by omega)) (nm_r (nI_1 j) (ih (j + 1) (by omega)))⟩)
theorem hk_xnh {a b : Nat} (ha : a < 4) (hb : b < 10) (x r : Int32) (hf : H (a * 10 + b) = -1) (hl : ∀ j, j < b → H (a * 10 + j) ≠ -1) {post : Int32 → SX → Prop} (hp : post (nI b) (md, nI w, K, N, S, P, O, C, U, G, upd H (a * 10 + b) x, upd R (a * 10 + b) r, xw, mv, co, cr, xp, pk, pn, ps, wo, wb, wp, wk)) : wpX_newHandle post (md, nI w, K, N, S, P, O, C, U, G, H, R, xw, mv, co, cr, xp, pk, pn, ps, wo, wb, wp, wk) (nI a) x r :=
  ⟨_, hk_xnhl ha hb x r hf hl hp b 0 (by omega)⟩
theorem hk_xnfl {a : Nat} (ha : a < 4) (x r : Int32) (hl : ∀ j, j < 10 → H (a * 10 + j) ≠ -1) {post : Int32 → SX → Prop} (hp : post (-6) (md, nI w, K, N, S, P, O, C, U, G, H, R, xw, mv, co, cr, xp, pk, pn, ps, wo, wb, wp, wk)) : ∀ d j, j + d = 10 → wX_newHandle_3 post (nI a) x r md (nI w) K N S P O C U G H R xw mv co cr xp pk pn ps wo wb wp wk (d + 1) (nI j) := by
  intro d
  induction d with
  | zero =>
    intro j hj
    exact br_t (nI_le (a := 10) (by omega) (by omega)) hp
  | succ d ih =>
    intro j hj
    have hc : (nI (a * 10 + j)).toNatClampNeg = a * 10 + j := nI_clamp (by omega)
    have hv : vp_in (nI (a * 10 + j)) 40 := vp_in_nI (by omega) (by decide)
    exact br_f (nI_ge (b := 10) (by omega) (by decide)) (nm_r (hk_m10 a j) ⟨hv, br_f (by rw [hc]; exact hl j (by omega)) (nm_r (nI_1 j) (ih (j + 1) (by omega)))⟩)
theorem hk_xnf {a : Nat} (ha : a < 4) (x r : Int32) (hl : ∀ j, j < 10 → H (a * 10 + j) ≠ -1) {post : Int32 → SX → Prop} (hp : post (-6) (md, nI w, K, N, S, P, O, C, U, G, H, R, xw, mv, co, cr, xp, pk, pn, ps, wo, wb, wp, wk)) : wpX_newHandle post (md, nI w, K, N, S, P, O, C, U, G, H, R, xw, mv, co, cr, xp, pk, pn, ps, wo, wb, wp, wk) (nI a) x r :=
  ⟨_, hk_xnfl ha x r hl hp 10 0 (by omega)⟩
theorem hk_ynhl (hH : hk_H K H) {a b : Nat} (ha : a < 4) (hb : b < 10) (x r : Int32) (hf : H (a * 10 + b) = -1) (hl : ∀ j, j < b → H (a * 10 + j) ≠ -1) {post : Int32 → SY → Prop} (hp : post (nI b) (md, nI w, K, N, E, P, ow, C, upd H (a * 10 + b) x, upd R (a * 10 + b) r, U, gv, ga, gb, yw, vv, f1, r1, f2, r2, yp, qk, qn, qs, zo, zb, zp, zk)) : ∀ d j, j + d = b → wY_place_3 post (nI a) x r md (nI w) K N E P ow C H R U gv ga gb yw vv f1 r1 f2 r2 yp qk qn qs zo zb zp zk (d + 1) (nI j) := by
  intro d
  induction d with
  | zero =>
    intro j hj
    obtain rfl : j = b := by omega
    have hc : (10 * nI a + nI j).toNatClampNeg = a * 10 + j := by rw [hk_10m]; exact nI_clamp (by omega)
    have hv : vp_in (10 * nI a + nI j) 40 := by rw [hk_10m]; exact vp_in_nI (by omega) (by decide)
    exact ⟨hv, br_t (by rw [hc, hf]; decide) ⟨hv, nm_r (hk_u hc) ⟨hv, nm_r (hk_u hc) hp⟩⟩⟩
  | succ d ih =>
    intro j hj
    have hc : (10 * nI a + nI j).toNatClampNeg = a * 10 + j := by rw [hk_10m]; exact nI_clamp (by omega)
    have hv : vp_in (10 * nI a + nI j) 40 := by rw [hk_10m]; exact vp_in_nI (by omega) (by decide)
    obtain ⟨o, ho, e, -⟩ := hk_rfn (hH (a * 10 + j) (by omega)) (hl j (by omega))
    exact ⟨hv, br_f (by rw [hc, e]; exact nI_pos (by omega)) (nm_r (nI_1 j) (ih (j + 1) (by omega)))⟩
theorem hk_ynh (hH : hk_H K H) {a b : Nat} (ha : a < 4) (hb : b < 10) (x r : Int32) (hf : H (a * 10 + b) = -1) (hl : ∀ j, j < b → H (a * 10 + j) ≠ -1) {post : Int32 → SY → Prop} (hp : post (nI b) (md, nI w, K, N, E, P, ow, C, upd H (a * 10 + b) x, upd R (a * 10 + b) r, U, gv, ga, gb, yw, vv, f1, r1, f2, r2, yp, qk, qn, qs, zo, zb, zp, zk)) : wpY_place post (md, nI w, K, N, E, P, ow, C, H, R, U, gv, ga, gb, yw, vv, f1, r1, f2, r2, yp, qk, qn, qs, zo, zb, zp, zk) (nI a) x r :=
  ⟨_, hk_ynhl hH ha hb x r hf hl hp b 0 (by omega)⟩
theorem hk_room {a : Nat} (h : hk_cn (hk_fp H a) 10 ≠ 0) : ∃ b, b < 10 ∧ H (a * 10 + b) = -1 ∧ ∀ j, j < b → H (a * 10 + j) ≠ -1 := by
  obtain ⟨i, hi, e⟩ := hk_cnpos _ 10 (Nat.pos_of_ne_zero h)
  obtain ⟨b, ⟨h1, h2⟩, h3⟩ := hk_least (fun j => j < 10 ∧ H (a * 10 + j) = -1) ⟨i, hi, by simpa [hk_fp] using e⟩
  exact ⟨b, h1, h2, fun j hj z => h3 j hj ⟨by omega, z⟩⟩
theorem hk_noroom {a : Nat} (h : hk_cn (hk_fp H a) 10 = 0) : ∀ j, j < 10 → H (a * 10 + j) ≠ -1 := by
  intro j hj z
  have := hk_cn0 _ 10 h j hj
  simp [hk_fp, z] at this
theorem hk_slot (h : hk_cn (hk_lv K) 16 < 16) : ∃ o, o < 16 ∧ K o = -1 ∧ ∀ j, j < o → K j ≠ -1 := by
  obtain ⟨i, hi, e⟩ := hk_cnlt _ 16 h
  obtain ⟨b, ⟨h1, h2⟩, h3⟩ := hk_least (fun j => j < 16 ∧ K j = -1) ⟨i, hi, by simpa [hk_lv] using e⟩
  exact ⟨b, h1, h2, fun j hj z => h3 j hj ⟨by omega, z⟩⟩
theorem hk_xnoc {o : Nat} (ho : o < 16) {post : Int32 → SX → Prop} (hp : post (nI o) (md + 1, nI w, K, N, S, P, O, hk_cz C (o * 8) (o * 8 + 8), U, G, H, R, xw, mv, co, cr, xp, pk, pn, ps, wo, wb, wp, wk)) : ∀ d c, c + d = 8 → wX_newObject_60 post (nI o) md (nI w) (d + 1) (nI c) K N S P O (hk_cz C (o * 8) (o * 8 + c)) U G H R xw mv co cr xp pk pn ps wo wb wp wk := by
  intro d
  induction d with
  | zero =>
    intro c hc
    obtain rfl : c = 8 := by omega
    exact br_t (nI_le (a := 8) (by omega) (by omega)) (nm_e hp)
  | succ d ih =>
    intro c hc
    have h1 : (nI o * 8 + nI c).toNatClampNeg = o * 8 + c := by rw [hk_m8]; exact nI_clamp (by omega)
    refine br_f (nI_ge (b := 8) (by omega) (by decide)) ⟨by rw [hk_m8]; exact vp_in_nI (by omega) (by decide), nm_r ((hk_u h1).trans (hk_czs C (by omega))) (nm_r (nI_1 c) (ih (c + 1) (by omega)))⟩
theorem hk_xno5 {o : Nat} (ho : o < 16) (k : Int32) (hf : K o = -1) (hl : ∀ j, j < o → K j ≠ -1) {post : Int32 → SX → Prop} (hp : post (nI o) (md + 1, nI w, upd K o k, upd N o md, upd S o 0, upd P o (-1), O, hk_cz C (o * 8) (o * 8 + 8), U, G, H, R, xw, mv, co, cr, xp, pk, pn, ps, wo, wb, wp, wk)) : ∀ t x, t ≤ 16 → (t ≤ o → x = nI o) → wX_newObject_5 post k md (nI w) K N S P O C U G H R xw mv co cr xp pk pn ps wo wb wp wk (t + 1) x (nI t + (-1)) := by
  intro t
  induction t with
  | zero =>
    intro x _ hx
    obtain rfl := hx (by omega)
    have hc : (nI o).toNatClampNeg = o := nI_clamp (by omega)
    have hv : vp_in (nI o) 16 := vp_in_nI (by omega) (by decide)
    have := hk_xnoc (md := md) (K := upd K o k) (N := upd N o md) (S := upd S o 0) (P := upd P o (-1)) (O := O) (C := C) (U := U) (G := G) (H := H) (R := R) (xw := xw) (mv := mv) (co := co) (cr := cr) (xp := xp) (pk := pk) (pn := pn) (ps := ps) (wo := wo) (wb := wb) (wp := wp) (wk := wk) (w := w) ho hp 8 0 rfl
    rw [show hk_cz C (o * 8) (o * 8 + 0) = C from hk_cz0 C (o * 8)] at this
    exact br_t (by decide) ⟨hv, nm_r (hk_u hc) ⟨hv, nm_r (hk_u hc) ⟨hv, nm_r (hk_u hc) ⟨hv, nm_r (hk_u hc) ⟨_, this⟩⟩⟩⟩⟩
  | succ t ih =>
    intro x ht hx
    rw [pk_m1]
    have hc : (nI t).toNatClampNeg = t := nI_clamp (by omega)
    refine br_f (nI_pos (by omega)) ⟨vp_in_nI (by omega) (by decide), ?_⟩
    by_cases z : K t = -1
    · refine br_t (by rw [hc]; exact z) (nm_e (ih (nI t) (by omega) fun h => ?_))
      by_cases e : t = o
      · rw [e]
      · exact absurd z (hl t (by omega))
    · refine br_f (by rw [hc]; exact z) (nm_e (ih x (by omega) fun h => hx ?_))
      have : t ≠ o := fun e => z (by rw [e]; exact hf)
      omega
theorem hk_xno {o : Nat} (ho : o < 16) (k : Int32) (hf : K o = -1) (hl : ∀ j, j < o → K j ≠ -1) {post : Int32 → SX → Prop} (hp : post (nI o) (md + 1, nI w, upd K o k, upd N o md, upd S o 0, upd P o (-1), O, hk_cz C (o * 8) (o * 8 + 8), U, G, H, R, xw, mv, co, cr, xp, pk, pn, ps, wo, wb, wp, wk)) : wpX_newObject post (md, nI w, K, N, S, P, O, C, U, G, H, R, xw, mv, co, cr, xp, pk, pn, ps, wo, wb, wp, wk) k :=
  ⟨_, hk_xno5 ho k hf hl hp 16 0 (by omega) (fun h => by omega)⟩
theorem hk_ycrc {o : Nat} (ho : o < 16) {post : Int32 → SY → Prop} (hp : post (nI o) (md, nI w, K, N, E, P, ow, hk_cz C (o * 8) (o * 8 + 8), H, R, U, gv, ga, gb, yw, vv, f1, r1, f2, r2, yp, qk, qn, qs, zo, zb, zp, zk)) : ∀ d c, c + d = 8 → wY_create_84 post (nI o) md (nI w) (d + 1) (nI (o * 8 + c)) K N E P ow (hk_cz C (o * 8) (o * 8 + c)) H R U gv ga gb yw vv f1 r1 f2 r2 yp qk qn qs zo zb zp zk := by
  have e8 : 8 * nI o + 8 = nI (o * 8 + 8) := hk_8m o 8
  intro d
  induction d with
  | zero =>
    intro c hc
    obtain rfl : c = 8 := by omega
    exact br_t (by rw [e8]; exact Int32.le_refl _) hp
  | succ d ih =>
    intro c hc
    have h1 : (nI (o * 8 + c)).toNatClampNeg = o * 8 + c := nI_clamp (by omega)
    refine br_f (by rw [e8]; exact nI_ge (by omega) (by omega)) ⟨vp_in_nI (by omega) (by decide), nm_r ((hk_u h1).trans (hk_czs C (by omega))) (nm_r (nI_1 _) (ih (c + 1) (by omega)))⟩
theorem hk_ycr2 (hK : hk_K K) {o : Nat} (ho : o < 16) (k : Int32) (hf : K o = -1) (hl : ∀ j, j < o → K j ≠ -1) {post : Int32 → SY → Prop} (hp : post (nI o) (md + 1, nI w, upd K o k, upd N o md, upd E o 0, upd P o (-1), upd ow o (-1), hk_cz C (o * 8) (o * 8 + 8), H, R, U, gv, ga, gb, upd yw o 0, vv, f1, r1, f2, r2, upd yp o 0, qk, qn, qs, zo, zb, zp, zk)) : ∀ d j, j + d = o → wY_create_2 post k md (nI w) K N E P ow C H R U gv ga gb yw vv f1 r1 f2 r2 yp qk qn qs zo zb zp zk (d + 1) (nI j) := by
  intro d
  induction d with
  | zero =>
    intro j hj
    obtain rfl : j = o := by omega
    have hc : (nI j).toNatClampNeg = j := nI_clamp (by omega)
    have hv : vp_in (nI j) 16 := vp_in_nI (by omega) (by decide)
    have := hk_ycrc (md := md + 1) (K := upd K j k) (N := upd N j md) (E := upd E j 0) (P := upd P j (-1)) (ow := upd ow j (-1)) (C := C) (H := H) (R := R) (U := U) (gv := gv) (ga := ga) (gb := gb) (yw := upd yw j 0) (vv := vv) (f1 := f1) (r1 := r1) (f2 := f2) (r2 := r2) (yp := upd yp j 0) (qk := qk) (qn := qn) (qs := qs) (zo := zo) (zb := zb) (zp := zp) (zk := zk) (w := w) ho hp 8 0 rfl
    rw [show hk_cz C (j * 8) (j * 8 + 0) = C from hk_cz0 C (j * 8)] at this
    exact ⟨hv, br_t (by rw [hc, hf]; decide) ⟨hv, nm_r (hk_u hc) ⟨hv, nm_r (hk_u hc) (nm_e ⟨hv, nm_r (hk_u hc) ⟨hv, nm_r (hk_u hc) ⟨hv, nm_r (hk_u hc) ⟨hv, nm_r (hk_u hc) ⟨hv, nm_r (hk_u hc) (nm_r (hk_8m' j) ⟨_, this⟩)⟩⟩⟩⟩⟩)⟩⟩⟩
  | succ d ih =>
    intro j hj
    have hc : (nI j).toNatClampNeg = j := nI_clamp (by omega)
    have hv : vp_in (nI j) 16 := vp_in_nI (by omega) (by decide)
    exact ⟨hv, br_f (by rw [hc]; exact hk_kdn (hK j (by omega)) (hl j (by omega))) (nm_r (nI_1 j) (ih (j + 1) (by omega)))⟩
theorem hk_ycr (hK : hk_K K) {o : Nat} (ho : o < 16) (k : Int32) (hf : K o = -1) (hl : ∀ j, j < o → K j ≠ -1) {post : Int32 → SY → Prop} (hp : post (nI o) (md + 1, nI w, upd K o k, upd N o md, upd E o 0, upd P o (-1), upd ow o (-1), hk_cz C (o * 8) (o * 8 + 8), H, R, U, gv, ga, gb, upd yw o 0, vv, f1, r1, f2, r2, upd yp o 0, qk, qn, qs, zo, zb, zp, zk)) : wpY_create post (md, nI w, K, N, E, P, ow, C, H, R, U, gv, ga, gb, yw, vv, f1, r1, f2, r2, yp, qk, qn, qs, zo, zb, zp, zk) k :=
  ⟨_, hk_ycr2 hK ho k hf hl hp o 0 (by omega)⟩
end
