section
variable {md : Int32} {w : Nat} {K N S P O C U G H R xw mv co cr xp pk pn ps wo wb wp wk : Nat → Int32} {E ow gv ga gb yw vv f1 r1 f2 r2 yp qk qn qs zo zb zp zk : Nat → Int32}
theorem hk_ysS (hK : hk_K K) (hO : hk_O K O ow) (hS : hk_S K P S E ow U yw yp) {o : Nat} (ho : o < 16) (hko : K o ≠ -1) {post : Int32 → Prop} (hp : post (S o)) : wpY_signals post (md, nI w, K, N, E, P, ow, C, H, R, U, gv, ga, gb, yw, vv, f1, r1, f2, r2, yp, qk, qn, qs, zo, zb, zp, zk) (nI o) :=
  hk_ysg hK hO ho hko (by rw [← hS o ho hko]; exact hp)
theorem hk_xfmg (hw : w ≤ 12) (hv : ∀ i, i < w → ∃ o, o < 16 ∧ wo i = nI o) {i : Nat} (hi : i ≤ w) (hu : ∀ j, j < i → wb j &&& S (wo j).toNatClampNeg = 0) {post : Int32 → Prop} {n : Nat} (hp : wX_firstMetWatch_2 post md (nI w) K N S P O C U G H R xw mv co cr xp pk pn ps wo wb wp wk n (nI i)) : ∀ d j, j + d = i → wX_firstMetWatch_2 post md (nI w) K N S P O C U G H R xw mv co cr xp pk pn ps wo wb wp wk (n + d) (nI j) := by
  intro d
  induction d with
  | zero =>
    intro j hj
    obtain rfl : j = i := by omega
    exact hp
  | succ d ih =>
    intro j hj
    have hc : (nI j).toNatClampNeg = j := nI_clamp (by omega)
    have hvj : vp_in (nI j) 12 := vp_in_nI (by omega) (by decide)
    obtain ⟨o, ho, e⟩ := hv j (by omega)
    refine br_f (nI_ge (by omega) (by omega)) ⟨hvj, hvj, ?_⟩
    rw [hc]
    exact ⟨by rw [e]; exact vp_in_nI ho (by decide), br_t (hu j (by omega)) (nm_r (nI_1 j) (ih (j + 1) (by omega)))⟩
theorem hk_xfn (hw : w ≤ 12) (hv : ∀ i, i < w → ∃ o, o < 16 ∧ wo i = nI o) (hu : ∀ j, j < w → wb j &&& S (wo j).toNatClampNeg = 0) {post : Int32 → Prop} (hp : post (-1)) : wpX_firstMetWatch post (md, nI w, K, N, S, P, O, C, U, G, H, R, xw, mv, co, cr, xp, pk, pn, ps, wo, wb, wp, wk) :=
  ⟨_, hk_xfmg hw hv (Nat.le_refl w) hu (n := 1) (br_t (Int32.le_refl _) hp) w 0 (by omega)⟩
theorem hk_xfm (hw : w ≤ 12) (hv : ∀ i, i < w → ∃ o, o < 16 ∧ wo i = nI o) {i : Nat} (hi : i < w) (hm : ¬ wb i &&& S (wo i).toNatClampNeg = 0) (hu : ∀ j, j < i → wb j &&& S (wo j).toNatClampNeg = 0) {post : Int32 → Prop} (hp : post (nI i)) : wpX_firstMetWatch post (md, nI w, K, N, S, P, O, C, U, G, H, R, xw, mv, co, cr, xp, pk, pn, ps, wo, wb, wp, wk) := by
  refine ⟨_, hk_xfmg hw hv (Nat.le_of_lt hi) hu (n := 1) ?_ i 0 (by omega)⟩
  have hc : (nI i).toNatClampNeg = i := nI_clamp (by omega)
  have hvj : vp_in (nI i) 12 := vp_in_nI (by omega) (by decide)
  obtain ⟨o, ho, e⟩ := hv i hi
  refine br_f (nI_ge (by omega) (by omega)) ⟨hvj, hvj, ?_⟩
  rw [hc]
  exact ⟨by rw [e]; exact vp_in_nI ho (by decide), br_f hm hp⟩
theorem hk_xpp1 {q o n : Nat} (hq : q < 16) (ho : o < 16) (hn : n < 6) (e : xp q = nI n) (key : Int32) {post : SX → Prop} (hp : post (md, nI w, K, N, upd S q (S q ||| 256), P, O, C, U, G, H, R, xw, mv, co, cr, upd xp q (nI (n + 1)), upd pk (q * 6 + n) key, upd pn (q * 6 + n) (N o), upd ps (q * 6 + n) (S o), wo, wb, wp, wk)) : wpX_putPacket post (md, nI w, K, N, S, P, O, C, U, G, H, R, xw, mv, co, cr, xp, pk, pn, ps, wo, wb, wp, wk) (nI q) key (nI o) := by
  have hcq : (nI q).toNatClampNeg = q := nI_clamp (by omega)
  have hvq : vp_in (nI q) 16 := vp_in_nI hq (by decide)
  have hco : (nI o).toNatClampNeg = o := nI_clamp (by omega)
  have hvo : vp_in (nI o) 16 := vp_in_nI ho (by decide)
  have hx : nI q * 6 + nI n = nI (q * 6 + n) := by rw [hk_m6, nI_add]
  have hcx : (nI (q * 6 + n)).toNatClampNeg = q * 6 + n := nI_clamp (by omega)
  have hvx : vp_in (nI (q * 6 + n)) 96 := vp_in_nI (by omega) (by decide)
  unfold wpX_putPacket
  dsimp only
  rw [hcq, hco, e]
  refine ⟨hvq, br_t (nI_lt (b := 6) hn (by decide)) ⟨hvq, nm_r hx ?_⟩⟩
  rw [hcx, nI_1]
  exact ⟨hvx, nm_e ⟨hvo, hvx, nm_e ⟨hvo, hvx, nm_e ⟨hvq, hvq, nm_e ⟨hvq, hvq, nm_e hp⟩⟩⟩⟩⟩
theorem hk_xpp0 {q o : Nat} (hq : q < 16) (e : xp q = nI 6) (key : Int32) {post : SX → Prop} (hp : post (md, nI w, K, N, S, P, O, C, U, G, H, R, xw, mv, co, cr, xp, pk, pn, ps, wo, wb, wp, wk)) : wpX_putPacket post (md, nI w, K, N, S, P, O, C, U, G, H, R, xw, mv, co, cr, xp, pk, pn, ps, wo, wb, wp, wk) (nI q) key (nI o) := by
  have hcq : (nI q).toNatClampNeg = q := nI_clamp (by omega)
  have hvq : vp_in (nI q) 16 := vp_in_nI hq (by decide)
  unfold wpX_putPacket
  exact ⟨hvq, br_f (by rw [hcq, e]; decide) hp⟩
theorem hk_xdwl {i : Nat} (hw : w < 12) {post : SX → Prop} (hp : post (md, nI w, K, N, S, P, O, C, U, G, H, R, xw, mv, co, cr, xp, pk, pn, ps, hk_sh wo i w, hk_sh wb i w, hk_sh wp i w, hk_sh wk i w)) : ∀ d j, i ≤ j → j + d = w → wX_dropWatch_4 post (d + 1) (nI (j + 1)) md (nI (w + 1)) K N S P O C U G H R xw mv co cr xp pk pn ps (hk_sh wo i j) (hk_sh wb i j) (hk_sh wp i j) (hk_sh wk i j) := by
  intro d
  induction d with
  | zero =>
    intro j hij hj
    obtain rfl : j = w := by omega
    exact br_t (Int32.le_refl _) (nm_r (nI_pred j) hp)
  | succ d ih =>
    intro j hij hj
    have c1 : (nI (j + 1)).toNatClampNeg = j + 1 := nI_clamp (by omega)
    have c0 : (nI j).toNatClampNeg = j := nI_clamp (by omega)
    have v1 : vp_in (nI (j + 1)) 12 := vp_in_nI (by omega) (by decide)
    have v0 : vp_in (nI j) 12 := vp_in_nI (by omega) (by decide)
    refine br_f (nI_ge (by omega) (by omega)) ?_
    rw [nI_pred]
    unfold wpX_moveWatch
    dsimp only
    rw [c1, c0, hk_shs wo hij, hk_shs wb hij, hk_shs wp hij, hk_shs wk hij]
    exact ⟨v1, v0, nm_e ⟨v1, v0, nm_e ⟨v1, v0, nm_e ⟨v1, v0, nm_e (nm_r (nI_1 _) (ih (j + 1) (by omega) (by omega)))⟩⟩⟩⟩
theorem hk_xdw {i : Nat} (hw : w < 12) (hi : i ≤ w) {post : SX → Prop} (hp : post (md, nI w, K, N, S, P, O, C, U, G, H, R, xw, mv, co, cr, xp, pk, pn, ps, hk_sh wo i w, hk_sh wb i w, hk_sh wp i w, hk_sh wk i w)) : wpX_dropWatch post (md, nI (w + 1), K, N, S, P, O, C, U, G, H, R, xw, mv, co, cr, xp, pk, pn, ps, wo, wb, wp, wk) (nI i) := by
  unfold wpX_dropWatch
  have := hk_xdwl (i := i) hw hp (w - i) i (Nat.le_refl i) (by omega)
  rw [hk_sh0, hk_sh0, hk_sh0, hk_sh0] at this
  exact nm_r (nI_1 i) ⟨_, this⟩
theorem hk_yuwl {i : Nat} (hw : w < 12) {post : SY → Prop} (hp : post (md, nI w, K, N, E, P, ow, C, H, R, U, gv, ga, gb, yw, vv, f1, r1, f2, r2, yp, qk, qn, qs, hk_sh zo i w, hk_sh zb i w, hk_sh zp i w, hk_sh zk i w)) : ∀ d j, i ≤ j → j + d = w → wY_unwatch_12 post md (nI w) (d + 1) (nI j) K N E P ow C H R U gv ga gb yw vv f1 r1 f2 r2 yp qk qn qs (hk_sh zo i j) (hk_sh zb i j) (hk_sh zp i j) (hk_sh zk i j) := by
  intro d
  induction d with
  | zero =>
    intro j hij hj
    obtain rfl : j = w := by omega
    exact br_t (Int32.le_refl _) hp
  | succ d ih =>
    intro j hij hj
    have c1 : (nI (j + 1)).toNatClampNeg = j + 1 := nI_clamp (by omega)
    have c0 : (nI j).toNatClampNeg = j := nI_clamp (by omega)
    have v1 : vp_in (nI (j + 1)) 12 := vp_in_nI (by omega) (by decide)
    have v0 : vp_in (nI j) 12 := vp_in_nI (by omega) (by decide)
    refine br_f (nI_ge (by omega) (by omega)) ?_
    rw [nI_1, c1, c0, hk_shs zo hij, hk_shs zb hij, hk_shs zp hij, hk_shs zk hij]
    exact ⟨v1, v0, nm_e ⟨v1, v0, nm_e ⟨v1, v0, nm_e ⟨v1, v0, nm_e (nm_e (ih (j + 1) (by omega) (by omega)))⟩⟩⟩⟩
theorem hk_yuw {i : Nat} (hw : w < 12) (hi : i ≤ w) {post : SY → Prop} (hp : post (md, nI w, K, N, E, P, ow, C, H, R, U, gv, ga, gb, yw, vv, f1, r1, f2, r2, yp, qk, qn, qs, hk_sh zo i w, hk_sh zb i w, hk_sh zp i w, hk_sh zk i w)) : wpY_unwatch post (md, nI (w + 1), K, N, E, P, ow, C, H, R, U, gv, ga, gb, yw, vv, f1, r1, f2, r2, yp, qk, qn, qs, zo, zb, zp, zk) (nI i) := by
  unfold wpY_unwatch
  have := hk_yuwl (i := i) hw hp (w - i) i (Nat.le_refl i) (by omega)
  rw [hk_sh0, hk_sh0, hk_sh0, hk_sh0] at this
  exact nm_r (nI_pred w) ⟨_, this⟩
theorem hk_ytl (hK : hk_K K) (hO : hk_O K O ow) (hS : hk_S K P S E ow U yw yp) (hW : hk_W K w wo wb wp wk zo zb zp zk) {i : Nat} (hi : i ≤ w) (hu : ∀ j, j < i → wb j &&& S (wo j).toNatClampNeg = 0) {post : SY → Prop} {n : Nat} (hp : wY_tell_2 post n (nI i) md (nI w) K N E P ow C H R U gv ga gb yw vv f1 r1 f2 r2 yp qk qn qs zo zb zp zk) : ∀ d j, j + d = i → wY_tell_2 post (n + d) (nI j) md (nI w) K N E P ow C H R U gv ga gb yw vv f1 r1 f2 r2 yp qk qn qs zo zb zp zk := by
  intro d
  induction d with
  | zero =>
    intro j hj
    obtain rfl : j = i := by omega
    exact hp
  | succ d ih =>
    intro j hj
    have hw := hW.1
    have hc : (nI j).toNatClampNeg = j := nI_clamp (by omega)
    have hvj : vp_in (nI j) 12 := vp_in_nI (by omega) (by decide)
    obtain ⟨c1, c2, c3, c4, ⟨o, ho, e1, e2⟩, q, hq, e3, e4⟩ := hW.2 j (by omega)
    have hco : (nI o).toNatClampNeg = o := nI_clamp (by omega)
    refine br_f (nI_ge (by omega) (by omega)) ⟨hvj, nm_r (e' := nI o) (by rw [hc]; exact e1) ?_⟩
    refine hk_ysS hK hO hS ho e2 ?_
    refine ⟨hvj, nm_e ⟨hvj, nm_e ⟨hvj, br_t ?_ (nm_r (nI_1 j) (ih (j + 1) (by omega)))⟩⟩⟩
    have := hu j (by omega)
    rw [hc, ← c2, Int32.and_comm]
    rw [c1, e1, hco] at this
    exact this
theorem hk_Wsh {i : Nat} (hi : i ≤ w) (hW : hk_W K (w + 1) wo wb wp wk zo zb zp zk) : hk_W K w (hk_sh wo i w) (hk_sh wb i w) (hk_sh wp i w) (hk_sh wk i w) (hk_sh zo i w) (hk_sh zb i w) (hk_sh zp i w) (hk_sh zk i w) := by
  refine ⟨by have := hW.1; omega, fun j hj => hW.2 (hk_g i w j) ?_⟩
  unfold hk_g
  by_cases z : i ≤ j ∧ j < w
  · rw [if_pos z]; omega
  · rw [if_neg z]; omega
/-- the relation's port rows after a packet -/
theorem hk_pput {q n : Nat} (hR : (hk_K K ∧ hk_H K H ∧ hk_X K xw xp ∧ hk_M K xw mv co cr yw vv f1 r1 f2 r2 ∧ hk_P K xp pk pn ps yp qk qn qs ∧ hk_E K P ∧ hk_O K O ow ∧ hk_S K P S E ow U yw yp ∧ hk_W K w wo wb wp wk zo zb zp zk ∧ hk_G G gv ga gb)) (hq : q < 16) (hn : n < 6) (hkq : K q = 3) (e1 : xp q = nI n) (e2 : yp q = nI n) (key nu si : Int32) :
    (hk_K K ∧ hk_H K H ∧ hk_X K xw (upd xp q (nI (n + 1))) ∧ hk_M K xw mv co cr yw vv f1 r1 f2 r2 ∧ hk_P K (upd xp q (nI (n + 1))) (upd pk (q * 6 + n) key) (upd pn (q * 6 + n) nu) (upd ps (q * 6 + n) si) (upd yp q (nI (n + 1))) (upd qk (q * 6 + n) key) (upd qn (q * 6 + n) nu) (upd qs (q * 6 + n) si) ∧ hk_E K P ∧ hk_O K O ow ∧ hk_S K P (upd S q (S q ||| 256)) E ow U yw (upd yp q (nI (n + 1))) ∧ hk_W K w wo wb wp wk zo zb zp zk ∧ hk_G G gv ga gb) := by
  obtain ⟨hK, hH, hX, hM, hP, hE, hO, hS, hW, hG⟩ := hR
  refine ⟨hK, hH, ?_, hM, ?_, hE, hO, ?_, hW, hG⟩
  · intro e he
    refine ⟨(hX e he).1, fun z => ?_⟩
    have : e ≠ q := fun y => z (by rw [y]; exact hkq)
    rw [pk_un this]
    exact (hX e he).2 z
  · intro e he hke
    obtain ⟨m, hm, a1, a2, a3⟩ := hP e he hke
    by_cases z : e = q
    · subst z
      have hmn : m = n := (nI_eq (by omega) (by omega)).mp (a1.symm.trans e1)
      subst hmn
      refine ⟨m + 1, by omega, pk_us, pk_us, fun j hj => ?_⟩
      by_cases y : j = m
      · subst y
        rw [pk_us, pk_us, pk_us, pk_us, pk_us, pk_us]
        exact ⟨rfl, rfl, rfl⟩
      · have : e * 6 + j ≠ e * 6 + m := by omega
        rw [pk_un this, pk_un this, pk_un this, pk_un this, pk_un this, pk_un this]
        exact a3 j (by omega)
    · refine ⟨m, hm, by rw [pk_un z]; exact a1, by rw [pk_un z]; exact a2, fun j hj => ?_⟩
      have : e * 6 + j ≠ q * 6 + n := by omega
      rw [pk_un this, pk_un this, pk_un this, pk_un this, pk_un this, pk_un this]
      exact a3 j hj
  · intro e he hke
    by_cases z : e = q
    · subst z
      rw [pk_us, hS e he hke]
      unfold hk_sg
      have n0 : ¬ K e = 0 := by rw [hkq]; decide
      have n1 : ¬ K e = 1 := by rw [hkq]; decide
      have y1 : ¬ upd yp e (nI (n + 1)) e ≤ 0 := by rw [pk_us]; exact nI_nle (by omega) (by omega)
      rw [if_neg n0, if_neg n0, if_neg n1, if_neg n1, if_pos hkq, if_pos hkq, if_neg y1]
      by_cases y : yp e ≤ 0
      · rw [if_pos y]; decide
      · rw [if_neg y]; decide
    · rw [pk_un z, hS e he hke]
      unfold hk_sg
      rw [pk_un z]
end
section
variable {md : Int32} {K N P O C U G H R xw mv co cr E ow gv ga gb yw vv f1 r1 f2 r2 : Nat → Int32}
theorem hk_tell : ∀ (w : Nat) (S xp pk pn ps wo wb wp wk yp qk qn qs zo zb zp zk : Nat → Int32), (hk_K K ∧ hk_H K H ∧ hk_X K xw xp ∧ hk_M K xw mv co cr yw vv f1 r1 f2 r2 ∧ hk_P K xp pk pn ps yp qk qn qs ∧ hk_E K P ∧ hk_O K O ow ∧ hk_S K P S E ow U yw yp ∧ hk_W K w wo wb wp wk zo zb zp zk ∧ hk_G G gv ga gb) → ∃ (w' : Nat) (S' xp' pk' pn' ps' wo' wb' wp' wk' yp' qk' qn' qs' zo' zb' zp' zk' : Nat → Int32), (hk_K K ∧ hk_H K H ∧ hk_X K xw xp' ∧ hk_M K xw mv co cr yw vv f1 r1 f2 r2 ∧ hk_P K xp' pk' pn' ps' yp' qk' qn' qs' ∧ hk_E K P ∧ hk_O K O ow ∧ hk_S K P S' E ow U yw yp' ∧ hk_W K w' wo' wb' wp' wk' zo' zb' zp' zk' ∧ hk_G G gv ga gb) ∧ hk_Q w' S' wo' wb' ∧ (∀ t, t + w ≤ 12 → ∃ n, ∀ (Kx xwx : Nat → Int32) (post : SX → Prop), post (md, nI w', Kx, N, S', P, O, C, U, G, H, R, xwx, mv, co, cr, xp', pk', pn', ps', wo', wb', wp', wk') → wX_endMetWatches_2 post n (nI t) md (nI w) Kx N S P O C U G H R xwx mv co cr xp pk pn ps wo wb wp wk) ∧ (∃ n, ∀ post : SY → Prop, post (md, nI w', K, N, E, P, ow, C, H, R, U, gv, ga, gb, yw, vv, f1, r1, f2, r2, yp', qk', qn', qs', zo', zb', zp', zk') → wY_tell_2 post n 0 md (nI w) K N E P ow C H R U gv ga gb yw vv f1 r1 f2 r2 yp qk qn qs zo zb zp zk) := by
  intro w
  induction w with
  | zero =>
    intro S xp pk pn ps wo wb wp wk yp qk qn qs zo zb zp zk hR
    refine ⟨0, S, xp, pk, pn, ps, wo, wb, wp, wk, yp, qk, qn, qs, zo, zb, zp, zk, hR, fun i hi => absurd hi (Nat.not_lt_zero _), fun t ht => ⟨1, fun Kx xwx post hp => ?_⟩, ⟨1, fun post hp => br_t (by decide) hp⟩⟩
    by_cases z : t = 12
    · subst z
      exact br_t (by decide) hp
    · refine br_f (nI_ge (b := 12) (by omega) (by decide)) ?_
      exact hk_xfn (w := 0) (by omega) (fun i hi => absurd hi (Nat.not_lt_zero _)) (fun i hi => absurd hi (Nat.not_lt_zero _)) (br_t rfl hp)
  | succ w ih =>
    intro S xp pk pn ps wo wb wp wk yp qk qn qs zo zb zp zk hR
    obtain ⟨hK, hH, hX, hM, hP, hE, hO, hS, hW, hG⟩ := hR
    have hw := hW.1
    have hv : ∀ i, i < w + 1 → ∃ o, o < 16 ∧ wo i = nI o := fun i hi => by
      obtain ⟨c1, c2, c3, c4, ⟨o, ho, e1, e2⟩, -⟩ := hW.2 i hi
      exact ⟨o, ho, c1.trans e1⟩
    by_cases hm : ∃ i, i < w + 1 ∧ ¬ wb i &&& S (wo i).toNatClampNeg = 0
    · obtain ⟨i, ⟨hi, hmi⟩, hl⟩ := hk_least _ hm
      have hu : ∀ j, j < i → wb j &&& S (wo j).toNatClampNeg = 0 := fun j hj => Classical.byContradiction fun z => hl j hj ⟨by omega, z⟩
      obtain ⟨c1, c2, c3, c4, ⟨o, ho, e1, e2⟩, q, hq, e3, e4⟩ := hW.2 i hi
      obtain ⟨n, hn, x1, y1, -⟩ := hP q hq e4
      have hci : (nI i).toNatClampNeg = i := nI_clamp (by omega)
      have hvi : vp_in (nI i) 12 := vp_in_nI (by omega) (by decide)
      have hco : (nI o).toNatClampNeg = o := nI_clamp (by omega)
      have hvo : vp_in (nI o) 16 := vp_in_nI ho (by decide)
      have hcq : (nI q).toNatClampNeg = q := nI_clamp (by omega)
      have hvq : vp_in (nI q) 16 := vp_in_nI hq (by decide)
      have hmy : ¬ S o &&& zb i = 0 := fun z => hmi (by rw [c1, e1, hco, c2, Int32.and_comm]; exact z)
      have R0 : (hk_K K ∧ hk_H K H ∧ hk_X K xw xp ∧ hk_M K xw mv co cr yw vv f1 r1 f2 r2 ∧ hk_P K xp pk pn ps yp qk qn qs ∧ hk_E K P ∧ hk_O K O ow ∧ hk_S K P S E ow U yw yp ∧ hk_W K w (hk_sh wo i w) (hk_sh wb i w) (hk_sh wp i w) (hk_sh wk i w) (hk_sh zo i w) (hk_sh zb i w) (hk_sh zp i w) (hk_sh zk i w) ∧ hk_G G gv ga gb) := ⟨hK, hH, hX, hM, hP, hE, hO, hS, hk_Wsh (by omega) hW, hG⟩
      by_cases hn6 : n < 6
      · have R1 := hk_pput R0 hq hn6 e4 x1 y1 (zk i) (N o) (S o)
        obtain ⟨w', S', xp', pk', pn', ps', wo', wb', wp', wk', yp', qk', qn', qs', zo', zb', zp', zk', R', Q', X', ⟨ny, Y'⟩⟩ := ih _ _ _ _ _ _ _ _ _ _ _ _ _ _ _ _ _ R1
        refine ⟨w', S', xp', pk', pn', ps', wo', wb', wp', wk', yp', qk', qn', qs', zo', zb', zp', zk', R', Q', fun t ht => ?_, ⟨ny + 1 + i, fun post hp => ?_⟩⟩
        · obtain ⟨nx, X''⟩ := X' (t + 1) (by omega)
          refine ⟨nx + 1, fun Kx xwx post hp => ?_⟩
          refine br_f (nI_ge (b := 12) (by omega) (by decide)) ?_
          refine hk_xfm hw hv hi hmi hu (br_f (hk_ne i (by omega)) ⟨hvi, hvi, hvi, ?_⟩)
          rw [hci, c1, c3, c4, e1, e3]
          refine hk_xpp1 hq ho hn6 x1 (zk i) ?_
          refine hk_xdw (w := w) (by omega) (by omega) ?_
          exact nm_r (nI_1 t) (X'' Kx xwx post hp)
        · refine hk_ytl hK hO hS hW (i := i) (by omega) hu ?_ i 0 (by omega)
          refine br_f (nI_ge (by omega) (by omega)) ⟨hvi, nm_r (e' := nI o) (by rw [hci]; exact e1) ?_⟩
          refine hk_ysS hK hO hS ho e2 ?_
          dsimp only
          rw [hci]
          refine ⟨hvi, nm_r e3 ⟨hvi, nm_e ⟨hvi, br_f hmy ?_⟩⟩⟩
          refine hk_yuw (w := w) (by omega) (by omega) ?_
          dsimp only
          have hx : 6 * nI q + nI n = nI (q * 6 + n) := by rw [hk_6m, nI_add]
          have hcx : (nI (q * 6 + n)).toNatClampNeg = q * 6 + n := nI_clamp (by omega)
          have hvx : vp_in (nI (q * 6 + n)) 96 := vp_in_nI (by omega) (by decide)
          rw [hcq, hco, y1]
          refine ⟨hvq, br_f (nI_ge (b := 6) hn6 (by decide)) ⟨hvq, nm_r hx ?_⟩⟩
          rw [hcx, nI_1]
          exact ⟨hvx, nm_e ⟨hvo, hvx, nm_e ⟨hvx, nm_e ⟨hvq, hvq, nm_e (Y' post hp)⟩⟩⟩⟩
      · obtain rfl : n = 6 := by omega
        obtain ⟨w', S', xp', pk', pn', ps', wo', wb', wp', wk', yp', qk', qn', qs', zo', zb', zp', zk', R', Q', X', ⟨ny, Y'⟩⟩ := ih _ _ _ _ _ _ _ _ _ _ _ _ _ _ _ _ _ R0
        refine ⟨w', S', xp', pk', pn', ps', wo', wb', wp', wk', yp', qk', qn', qs', zo', zb', zp', zk', R', Q', fun t ht => ?_, ⟨ny + 1 + i, fun post hp => ?_⟩⟩
        · obtain ⟨nx, X''⟩ := X' (t + 1) (by omega)
          refine ⟨nx + 1, fun Kx xwx post hp => ?_⟩
          refine br_f (nI_ge (b := 12) (by omega) (by decide)) ?_
          refine hk_xfm hw hv hi hmi hu (br_f (hk_ne i (by omega)) ⟨hvi, hvi, hvi, ?_⟩)
          rw [hci, c1, c3, c4, e1, e3]
          refine hk_xpp0 hq x1 (zk i) ?_
          refine hk_xdw (w := w) (by omega) (by omega) ?_
          exact nm_r (nI_1 t) (X'' Kx xwx post hp)
        · refine hk_ytl hK hO hS hW (i := i) (by omega) hu ?_ i 0 (by omega)
          refine br_f (nI_ge (by omega) (by omega)) ⟨hvi, nm_r (e' := nI o) (by rw [hci]; exact e1) ?_⟩
          refine hk_ysS hK hO hS ho e2 ?_
          dsimp only
          rw [hci]
          refine ⟨hvi, nm_r e3 ⟨hvi, nm_e ⟨hvi, br_f hmy ?_⟩⟩⟩
          refine hk_yuw (w := w) (by omega) (by omega) ?_
          dsimp only
          rw [hcq, y1]
          exact ⟨hvq, br_t (by decide) (Y' post hp)⟩
    · have hu : ∀ j, j < w + 1 → wb j &&& S (wo j).toNatClampNeg = 0 := fun j hj => Classical.byContradiction fun z => hm ⟨j, hj, z⟩
      refine ⟨w + 1, S, xp, pk, pn, ps, wo, wb, wp, wk, yp, qk, qn, qs, zo, zb, zp, zk, ⟨hK, hH, hX, hM, hP, hE, hO, hS, hW, hG⟩, hu, fun t ht => ⟨1, fun Kx xwx post hp => ?_⟩, ⟨1 + (w + 1), fun post hp => ?_⟩⟩
      · refine br_f (nI_ge (b := 12) (by omega) (by decide)) ?_
        exact hk_xfn hw hv hu (br_t rfl hp)
      · exact hk_ytl hK hO hS hW (Nat.le_refl _) hu (n := 1) (br_t (Int32.le_refl _) hp) (w + 1) 0 (by omega)
/-- the same at the methods' own names -/
theorem hk_tl {w : Nat} {S xp pk pn ps wo wb wp wk yp qk qn qs zo zb zp zk : Nat → Int32} (hR : (hk_K K ∧ hk_H K H ∧ hk_X K xw xp ∧ hk_M K xw mv co cr yw vv f1 r1 f2 r2 ∧ hk_P K xp pk pn ps yp qk qn qs ∧ hk_E K P ∧ hk_O K O ow ∧ hk_S K P S E ow U yw yp ∧ hk_W K w wo wb wp wk zo zb zp zk ∧ hk_G G gv ga gb)) : ∃ (w' : Nat) (S' xp' pk' pn' ps' wo' wb' wp' wk' yp' qk' qn' qs' zo' zb' zp' zk' : Nat → Int32), (hk_K K ∧ hk_H K H ∧ hk_X K xw xp' ∧ hk_M K xw mv co cr yw vv f1 r1 f2 r2 ∧ hk_P K xp' pk' pn' ps' yp' qk' qn' qs' ∧ hk_E K P ∧ hk_O K O ow ∧ hk_S K P S' E ow U yw yp' ∧ hk_W K w' wo' wb' wp' wk' zo' zb' zp' zk' ∧ hk_G G gv ga gb) ∧ hk_Q w' S' wo' wb' ∧ (∀ (Kx xwx : Nat → Int32) (post : SX → Prop), post (md, nI w', Kx, N, S', P, O, C, U, G, H, R, xwx, mv, co, cr, xp', pk', pn', ps', wo', wb', wp', wk') → wpX_endMetWatches post (md, nI w, Kx, N, S, P, O, C, U, G, H, R, xwx, mv, co, cr, xp, pk, pn, ps, wo, wb, wp, wk)) ∧ (∀ post : SY → Prop, post (md, nI w', K, N, E, P, ow, C, H, R, U, gv, ga, gb, yw, vv, f1, r1, f2, r2, yp', qk', qn', qs', zo', zb', zp', zk') → wpY_tell post (md, nI w, K, N, E, P, ow, C, H, R, U, gv, ga, gb, yw, vv, f1, r1, f2, r2, yp, qk, qn, qs, zo, zb, zp, zk)) := by
  have hw : w ≤ 12 := hR.2.2.2.2.2.2.2.2.1.1
  obtain ⟨w', S', xp', pk', pn', ps', wo', wb', wp', wk', yp', qk', qn', qs', zo', zb', zp', zk', R', Q', X', ⟨ny, Y'⟩⟩ := hk_tell (md := md) (N := N) (C := C) (R := R) w S xp pk pn ps wo wb wp wk yp qk qn qs zo zb zp zk hR
  obtain ⟨nx, X''⟩ := X' 0 (by omega)
  exact ⟨w', S', xp', pk', pn', ps', wo', wb', wp', wk', yp', qk', qn', qs', zo', zb', zp', zk', R', Q', fun Kx xwx post hp => ⟨nx, X'' Kx xwx post hp⟩, fun post hp => ⟨ny, Y' post hp⟩⟩
end
