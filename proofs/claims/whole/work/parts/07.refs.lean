/-- handles that refer to x; what the messages carry of x -/
def hk_hc (H : Nat → Int32) (x : Int32) : Nat → Bool := fun i => decide (H i = x)
def hk_mc (co : Nat → Int32) (x : Int32) (e : Nat) : Nat → Bool := fun i => decide (co (e * 8 + i) = x)
def hk_r2 (co xw : Nat → Int32) (x : Int32) : Nat → Nat
  | 0 => 0
  | e + 1 => hk_r2 co xw x e + hk_cn (hk_mc co x e) ((xw e).toNatClampNeg * 2)
def hk_rc (H co xw : Nat → Int32) (x : Int32) : Nat := hk_cn (hk_hc H x) 40 + hk_r2 co xw x 16
theorem hk_r2le {co xw : Nat → Int32} {x : Int32} (h : ∀ e, e < 16 → (xw e).toNatClampNeg ≤ 4) : ∀ e, e ≤ 16 → hk_r2 co xw x e ≤ e * 8
  | 0, _ => Nat.le_refl 0
  | e + 1, he => by
    have h1 := hk_r2le (co := co) (x := x) h e (by omega)
    have h2 := hk_cnle (hk_mc co x e) ((xw e).toNatClampNeg * 2)
    have h3 := h e (by omega)
    show hk_r2 co xw x e + hk_cn (hk_mc co x e) ((xw e).toNatClampNeg * 2) ≤ (e + 1) * 8
    omega
theorem hk_r20 {co xw : Nat → Int32} {x : Int32} : ∀ n, hk_r2 co xw x n = 0 → ∀ e, e < n → ∀ i, i < (xw e).toNatClampNeg * 2 → co (e * 8 + i) ≠ x
  | 0, _, e, he, _, _ => absurd he (Nat.not_lt_zero _)
  | n + 1, h, e, he, i, hi => by
    have h' : hk_r2 co xw x n + hk_cn (hk_mc co x n) ((xw n).toNatClampNeg * 2) = 0 := h
    by_cases z : e = n
    · subst z
      have := hk_cn0 (hk_mc co x e) _ (by omega) i hi
      simpa [hk_mc] using this
    · exact hk_r20 n (by omega) e (by omega) i hi
theorem hk_rc0 {H co xw : Nat → Int32} {x : Int32} (h : hk_rc H co xw x = 0) : (∀ i, i < 40 → H i ≠ x) ∧ ∀ e, e < 16 → ∀ i, i < (xw e).toNatClampNeg * 2 → co (e * 8 + i) ≠ x := by
  unfold hk_rc at h
  refine ⟨fun i hi => ?_, hk_r20 16 (by omega)⟩
  have := hk_cn0 (hk_hc H x) 40 (by omega) i hi
  simpa [hk_hc] using this
/-- what the messages' rows say to the counting -/
def hk_ct (K co xw yw f1 f2 : Nat → Int32) : Prop := ∀ e, e < 16 → (K e ≠ 1 ∧ xw e = 0) ∨ (K e = 1 ∧ ∃ n, n ≤ 4 ∧ xw e = nI n ∧ yw e = nI n ∧ ∀ j, j < n → co ((e * 4 + j) * 2) = f1 (e * 4 + j) ∧ co ((e * 4 + j) * 2 + 1) = f2 (e * 4 + j))
theorem hk_ctm {K xw xp mv co cr yw vv f1 r1 f2 r2 : Nat → Int32} (hX : hk_X K xw xp) (hM : hk_M K xw mv co cr yw vv f1 r1 f2 r2) : hk_ct K co xw yw f1 f2 := fun e he => by
  by_cases z : K e = 1
  · obtain ⟨n, hn, e1, e2, h⟩ := hM e he z
    exact Or.inr ⟨z, n, hn, e1, e2, fun j hj => ⟨(h j hj).2.1, (h j hj).2.2.1⟩⟩
  · exact Or.inl ⟨z, (hX e he).1 z⟩
theorem hk_ctn {K co xw yw f1 f2 : Nat → Int32} (h : hk_ct K co xw yw f1 f2) : ∀ e, e < 16 → ∃ n, n ≤ 4 ∧ xw e = nI n := fun e he => by
  rcases h e he with ⟨-, z⟩ | ⟨-, n, hn, e1, -⟩
  · exact ⟨0, by omega, z⟩
  · exact ⟨n, hn, e1⟩
theorem hk_ctl {K co xw yw f1 f2 : Nat → Int32} (h : hk_ct K co xw yw f1 f2) : ∀ e, e < 16 → (xw e).toNatClampNeg ≤ 4 := fun e he => by
  obtain ⟨n, hn, e1⟩ := hk_ctn h e he
  rw [e1, nI_clamp (by omega)]; exact hn
section
variable {md : Int32} {w : Nat} {K N S P O C U G H R xw mv co cr xp pk pn ps wo wb wp wk : Nat → Int32} {E ow gv ga gb yw vv f1 r1 f2 r2 yp qk qn qs zo zb zp zk : Nat → Int32}
theorem hk_xr47 {x : Int32} {e n : Nat} (he : e < 16) (hn : n ≤ 4) (hx : xw e = nI n) {post : Int32 → Prop} {J : Int32 → Int32 → Prop} {c : Nat} (hJ : J (nI (c + hk_cn (hk_mc co x e) (n * 2))) (nI (e + 1))) : ∀ d i, i + d = n * 2 → wX_references_47 post J x (nI e) (nI (e * 8)) md (nI w) K N S P O C U G H R xw mv co cr xp pk pn ps wo wb wp wk (d + 1) (nI (c + hk_cn (hk_mc co x e) i)) (nI i) := by
  have hc : (nI e).toNatClampNeg = e := nI_clamp (by omega)
  intro d
  induction d with
  | zero =>
    intro i hi
    obtain rfl : i = n * 2 := by omega
    refine ⟨vp_in_nI he (by decide), br_t ?_ (nm_r (nI_1 e) hJ)⟩
    rw [hc, hx, hk_m2]; exact Int32.le_refl _
  | succ d ih =>
    intro i hi
    have hci : (nI (e * 8) + nI i).toNatClampNeg = e * 8 + i := by rw [nI_add]; exact nI_clamp (by omega)
    refine ⟨vp_in_nI he (by decide), br_f ?_ ⟨?_, ?_⟩⟩
    · rw [hc, hx, hk_m2]; exact nI_ge (by omega) (by omega)
    · rw [nI_add]; exact vp_in_nI (by omega) (by decide)
    · by_cases z : co (e * 8 + i) = x
      · refine br_t (by rw [hci]; exact z) (nm_r (nI_1 _) (nm_r (nI_1 i) ?_))
        have := ih (i + 1) (by omega)
        rw [hk_cnt (by simp [hk_mc, z])] at this
        exact this
      · refine br_f (by rw [hci]; exact z) (nm_r (nI_1 i) ?_)
        have := ih (i + 1) (by omega)
        rw [hk_cnf (by simp [hk_mc, z])] at this
        exact this
theorem hk_xr31 (hC : hk_ct K co xw yw f1 f2) {x : Int32} {post : Int32 → Prop} {c : Nat} (hp : post (nI (c + hk_r2 co xw x 16))) : ∀ d e, e + d = 16 → wX_references_31 post x md (nI w) K N S P O C U G H R xw mv co cr xp pk pn ps wo wb wp wk (d + 1) (nI (c + hk_r2 co xw x e)) (nI e) := by
  intro d
  induction d with
  | zero =>
    intro e he
    obtain rfl : e = 16 := by omega
    exact br_t (nI_le (a := 16) (b := 16) (by omega) (by decide)) hp
  | succ d ih =>
    intro e he
    obtain ⟨n, hn, e1⟩ := hk_ctn hC e (by omega)
    have e8 : nI e * 4 * 2 = nI (e * 8) := by rw [hk_m4, hk_m2]; exact congrArg nI (by omega)
    refine br_f (nI_ge (b := 16) (by omega) (by decide)) (nm_r e8 ⟨n * 2 + 1, ?_⟩)
    refine hk_xr47 (c := c + hk_r2 co xw x e) (by omega) hn e1 ?_ (n * 2) 0 (by omega)
    have := ih (e + 1) (by omega)
    have h2 : c + hk_r2 co xw x (e + 1) = c + hk_r2 co xw x e + hk_cn (hk_mc co x e) (n * 2) := by
      show c + (hk_r2 co xw x e + hk_cn (hk_mc co x e) ((xw e).toNatClampNeg * 2)) = _
      rw [e1, nI_clamp (by omega), Nat.add_assoc]
    rw [h2] at this
    exact this
theorem hk_xr4 (hC : hk_ct K co xw yw f1 f2) {x : Int32} {post : Int32 → Prop} (hp : post (nI (hk_rc H co xw x))) : ∀ d j, j + d = 40 → wX_references_4 post x md (nI w) K N S P O C U G H R xw mv co cr xp pk pn ps wo wb wp wk (d + 1) (nI (hk_cn (hk_hc H x) j)) (nI j) := by
  intro d
  induction d with
  | zero =>
    intro j hj
    obtain rfl : j = 40 := by omega
    exact br_t (nI_le (a := 40) (b := 40) (by omega) (by decide)) ⟨_, hk_xr31 hC (c := hk_cn (hk_hc H x) 40) hp 16 0 rfl⟩
  | succ d ih =>
    intro j hj
    have hc : (nI j).toNatClampNeg = j := nI_clamp (by omega)
    refine br_f (nI_ge (b := 40) (by omega) (by decide)) ⟨vp_in_nI (by omega) (by decide), ?_⟩
    by_cases z : H j = x
    · refine br_t (by rw [hc]; exact z) (nm_r (nI_1 _) (nm_r (nI_1 j) ?_))
      have := ih (j + 1) (by omega)
      rw [hk_cnt (by simp [hk_hc, z])] at this
      exact this
    · refine br_f (by rw [hc]; exact z) (nm_r (nI_1 j) ?_)
      have := ih (j + 1) (by omega)
      rw [hk_cnf (by simp [hk_hc, z])] at this
      exact this
theorem hk_xrf (hC : hk_ct K co xw yw f1 f2) {x : Int32} {post : Int32 → Prop} (hp : post (nI (hk_rc H co xw x))) : wpX_references post (md, nI w, K, N, S, P, O, C, U, G, H, R, xw, mv, co, cr, xp, pk, pn, ps, wo, wb, wp, wk) x := ⟨41, hk_xr4 hC hp 40 0 rfl⟩
theorem hk_yr42 {x : Int32} {e n : Nat} (he : e < 16) (hn : n ≤ 4) (hk1 : K e = 1) (hy : yw e = nI n) (hf : ∀ j, j < n → co ((e * 4 + j) * 2) = f1 (e * 4 + j) ∧ co ((e * 4 + j) * 2 + 1) = f2 (e * 4 + j)) {post : Int32 → Prop} {J : Int32 → Int32 → Prop} {c : Nat} (hJ : J (nI (c + hk_cn (hk_mc co x e) (n * 2))) (nI (e + 1))) : ∀ d j, j + d = n → wY_references_42 post J x (nI e) md (nI w) K N E P ow C H R U gv ga gb yw vv f1 r1 f2 r2 yp qk qn qs zo zb zp zk (d + 1) (nI (c + hk_cn (hk_mc co x e) (j * 2))) (nI (e * 4 + j)) := by
  have hc : (nI e).toNatClampNeg = e := nI_clamp (by omega)
  have hv : vp_in (nI e) 16 := vp_in_nI he (by decide)
  have hs : 4 * nI e + yw (nI e).toNatClampNeg = nI (e * 4 + n) := by rw [hc, hy, hk_4m, nI_add]
  intro d
  induction d with
  | zero =>
    intro j hj
    obtain rfl : j = n := by omega
    exact ⟨hv, br_t (by rw [hc]; exact hk1) ⟨hv, br_t (by rw [hs]; exact Int32.le_refl _) (nm_r (nI_1 e) hJ)⟩⟩
  | succ d ih =>
    intro j hj
    have hci : (nI (e * 4 + j)).toNatClampNeg = e * 4 + j := nI_clamp (by omega)
    have hvi : vp_in (nI (e * 4 + j)) 64 := vp_in_nI (by omega) (by decide)
    refine ⟨hv, br_t (by rw [hc]; exact hk1) ⟨hv, br_f (by rw [hs]; exact nI_ge (by omega) (by omega)) ⟨hvi, ?_⟩⟩⟩
    have IH := ih (j + 1) (by omega)
    obtain ⟨g1, g2⟩ := hf j (by omega)
    have i1 : hk_mc co x e (j * 2) = decide (f1 (e * 4 + j) = x) := by
      unfold hk_mc; rw [show e * 8 + j * 2 = (e * 4 + j) * 2 by omega, g1]
    have i2 : hk_mc co x e (j * 2 + 1) = decide (f2 (e * 4 + j) = x) := by
      unfold hk_mc; rw [show e * 8 + (j * 2 + 1) = (e * 4 + j) * 2 + 1 by omega, g2]
    have hj2 : (j + 1) * 2 = j * 2 + 1 + 1 := by omega
    rw [hj2, hk_cns, hk_cns, i1, i2] at IH
    have e11 : (1 : Int32) + 1 = nI 2 := by decide
    have e10 : (1 : Int32) + 0 = nI 1 := by decide
    have e01 : (0 : Int32) + 1 = nI 1 := by decide
    have e00 : (0 : Int32) + 0 = nI 0 := by decide
    by_cases z1 : f1 (e * 4 + j) = x
    · refine br_t (by rw [hci]; exact z1) ⟨hvi, ?_⟩
      by_cases z2 : f2 (e * 4 + j) = x
      · simp only [z1, z2, decide_true, if_true] at IH
        exact br_t (by rw [hci]; exact z2) (nm_r (by rw [e11, nI_add]; exact congrArg nI (by omega)) (nm_r (nI_1 _) IH))
      · simp only [z1, z2, decide_true, decide_false, if_true, if_false, Bool.false_eq_true] at IH
        exact br_f (by rw [hci]; exact z2) (nm_r (by rw [e10, nI_add]; exact congrArg nI (by omega)) (nm_r (nI_1 _) IH))
    · refine br_f (by rw [hci]; exact z1) ⟨hvi, ?_⟩
      by_cases z2 : f2 (e * 4 + j) = x
      · simp only [z1, z2, decide_true, decide_false, if_true, if_false, Bool.false_eq_true] at IH
        exact br_t (by rw [hci]; exact z2) (nm_r (by rw [e01, nI_add]; exact congrArg nI (by omega)) (nm_r (nI_1 _) IH))
      · simp only [z1, z2, decide_false, if_false, Bool.false_eq_true] at IH
        exact br_f (by rw [hci]; exact z2) (nm_r (by rw [e00, nI_add]; exact congrArg nI (by omega)) (nm_r (nI_1 _) IH))
theorem hk_yr31 (hC : hk_ct K co xw yw f1 f2) {x : Int32} {post : Int32 → Prop} {c : Nat} (hp : post (nI (c + hk_r2 co xw x 16))) : ∀ d e, e + d = 16 → wY_references_31 post x md (nI w) K N E P ow C H R U gv ga gb yw vv f1 r1 f2 r2 yp qk qn qs zo zb zp zk (d + 1) (nI (c + hk_r2 co xw x e)) (nI e) := by
  intro d
  induction d with
  | zero =>
    intro e he
    obtain rfl : e = 16 := by omega
    exact br_t (nI_le (a := 16) (b := 16) (by omega) (by decide)) hp
  | succ d ih =>
    intro e he
    have hc : (nI e).toNatClampNeg = e := nI_clamp (by omega)
    have hv : vp_in (nI e) 16 := vp_in_nI (by omega) (by decide)
    have IH := ih (e + 1) (by omega)
    rcases hC e (by omega) with ⟨z, e1⟩ | ⟨z, n, hn, e1, e2, hf⟩
    · have h2 : c + hk_r2 co xw x (e + 1) = c + hk_r2 co xw x e := by
        show c + (hk_r2 co xw x e + hk_cn (hk_mc co x e) ((xw e).toNatClampNeg * 2)) = _
        rw [e1]; rfl
      rw [h2] at IH
      exact br_f (nI_ge (b := 16) (by omega) (by decide)) (nm_r (hk_4m e) ⟨1, hv, br_f (by rw [hc]; exact z) (nm_r (nI_1 e) IH)⟩)
    · have h2 : c + hk_r2 co xw x (e + 1) = c + hk_r2 co xw x e + hk_cn (hk_mc co x e) (n * 2) := by
        show c + (hk_r2 co xw x e + hk_cn (hk_mc co x e) ((xw e).toNatClampNeg * 2)) = _
        rw [e1, nI_clamp (by omega), Nat.add_assoc]
      rw [h2] at IH
      exact br_f (nI_ge (b := 16) (by omega) (by decide)) (nm_r (hk_4m e) ⟨n + 1, hk_yr42 (c := c + hk_r2 co xw x e) (by omega) hn z e2 hf IH n 0 (by omega)⟩)
theorem hk_yr4 (hC : hk_ct K co xw yw f1 f2) {x : Int32} {post : Int32 → Prop} (hp : post (nI (hk_rc H co xw x))) : ∀ d j, j + d = 40 → wY_references_4 post x md (nI w) K N E P ow C H R U gv ga gb yw vv f1 r1 f2 r2 yp qk qn qs zo zb zp zk (d + 1) (nI (hk_cn (hk_hc H x) j)) (nI j) := by
  intro d
  induction d with
  | zero =>
    intro j hj
    obtain rfl : j = 40 := by omega
    exact br_t (nI_le (a := 40) (b := 40) (by omega) (by decide)) ⟨_, hk_yr31 hC (c := hk_cn (hk_hc H x) 40) hp 16 0 rfl⟩
  | succ d ih =>
    intro j hj
    have hc : (nI j).toNatClampNeg = j := nI_clamp (by omega)
    refine br_f (nI_ge (b := 40) (by omega) (by decide)) ⟨vp_in_nI (by omega) (by decide), ?_⟩
    by_cases z : H j = x
    · refine br_t (by rw [hc]; exact z) (nm_r (nI_1 _) (nm_r (nI_1 j) ?_))
      have := ih (j + 1) (by omega)
      rw [hk_cnt (by simp [hk_hc, z])] at this
      exact this
    · refine br_f (by rw [hc]; exact z) (nm_r (nI_1 j) ?_)
      have := ih (j + 1) (by omega)
      rw [hk_cnf (by simp [hk_hc, z])] at this
      exact this
theorem hk_yrf (hC : hk_ct K co xw yw f1 f2) {x : Int32} {post : Int32 → Prop} (hp : post (nI (hk_rc H co xw x))) : wpY_references post (md, nI w, K, N, E, P, ow, C, H, R, U, gv, ga, gb, yw, vv, f1, r1, f2, r2, yp, qk, qn, qs, zo, zb, zp, zk) x := ⟨41, hk_yr4 hC hp 40 0 rfl⟩
/-- a slot that may go -/
def hk_go (K H co xw : Nat → Int32) (r : Int32) : Prop := ∃ o : Nat, o < 16 ∧ r = nI o ∧ K o ≠ -1 ∧ hk_rc H co xw (nI o) = 0
theorem hk_un (hK : hk_K K) (hC : hk_ct K co xw yw f1 f2) : ∀ d j b, j + d = 16 → (b = -1 ∨ hk_go K H co xw b) → ∃ r : Int32, (r = -1 ∨ hk_go K H co xw r) ∧ (∀ post : Int32 → Prop, post r → wX_leastUnreferenced_4 post md (nI w) K N S P O C U G H R xw mv co cr xp pk pn ps wo wb wp wk (d + 1) b (nI j)) ∧ (∀ post : Int32 → Prop, post r → wY_unused_4 post md (nI w) K N E P ow C H R U gv ga gb yw vv f1 r1 f2 r2 yp qk qn qs zo zb zp zk (d + 1) b (nI j)) := by
  intro d
  induction d with
  | zero =>
    intro j b hj hb
    obtain rfl : j = 16 := by omega
    have h : (16 : Int32) ≤ nI 16 := nI_le (a := 16) (b := 16) (by omega) (by decide)
    exact ⟨b, hb, fun post hp => br_t h hp, fun post hp => br_t h hp⟩
  | succ d ih =>
    intro j b hj hb
    have hc : (nI j).toNatClampNeg = j := nI_clamp (by omega)
    have hv : vp_in (nI j) 16 := vp_in_nI (by omega) (by decide)
    have h : ¬ (16 : Int32) ≤ nI j := nI_ge (b := 16) (by omega) (by decide)
    by_cases z : K j = -1
    · obtain ⟨r, h1, h2, h3⟩ := ih (j + 1) b (by omega) hb
      exact ⟨r, h1, fun post hp => br_f h ⟨hv, br_t (by rw [hc]; exact z) (nm_r (nI_1 j) (h2 post hp))⟩, fun post hp => br_f h ⟨hv, br_t (by rw [hc, z]; decide) (nm_r (nI_1 j) (h3 post hp))⟩⟩
    · have zy : ¬ K (nI j).toNatClampNeg < 0 := by rw [hc]; exact hk_kdn (hK j (by omega)) z
      have zx : ¬ K (nI j).toNatClampNeg = -1 := by rw [hc]; exact z
      have hle : hk_rc H co xw (nI j) < 2 ^ 31 := by
        have h1 := hk_cnle (hk_hc H (nI j)) 40
        have h2 := hk_r2le (co := co) (x := nI j) (hk_ctl hC) 16 (by omega)
        unfold hk_rc
        omega
      by_cases y : hk_rc H co xw (nI j) = 0
      · have yx : nI (hk_rc H co xw (nI j)) = 0 := by rw [y]; rfl
        have gj : hk_go K H co xw (nI j) := ⟨j, by omega, rfl, z, y⟩
        rcases hb with hb | ⟨o, ho, rfl, h4, h5⟩
        · obtain ⟨r, h1, h2, h3⟩ := ih (j + 1) (nI j) (by omega) (Or.inr gj)
          exact ⟨r, h1, fun post hp => br_f h ⟨hv, br_f zx (hk_xrf hC (br_t yx (br_t hb (nm_r (nI_1 j) (h2 post hp)))))⟩, fun post hp => br_f h ⟨hv, br_f zy (hk_yrf hC (br_t yx (br_t (hk_nn hb) (nm_r (nI_1 j) (h3 post hp)))))⟩⟩
        · have hbx : ¬ nI o = -1 := hk_ne o (by omega)
          have hby : ¬ nI o < 0 := nI_pos (by omega)
          have hvo : vp_in (nI o) 16 := vp_in_nI ho (by decide)
          by_cases q : N (nI o).toNatClampNeg ≤ N (nI j).toNatClampNeg
          · obtain ⟨r, h1, h2, h3⟩ := ih (j + 1) (nI o) (by omega) (Or.inr ⟨o, ho, rfl, h4, h5⟩)
            exact ⟨r, h1, fun post hp => br_f h ⟨hv, br_f zx (hk_xrf hC (br_t yx (br_f hbx ⟨hv, hvo, br_t q (nm_r (nI_1 j) (h2 post hp))⟩)))⟩, fun post hp => br_f h ⟨hv, br_f zy (hk_yrf hC (br_t yx (br_f hby ⟨hv, hvo, br_t q (nm_r (nI_1 j) (h3 post hp))⟩)))⟩⟩
          · obtain ⟨r, h1, h2, h3⟩ := ih (j + 1) (nI j) (by omega) (Or.inr gj)
            exact ⟨r, h1, fun post hp => br_f h ⟨hv, br_f zx (hk_xrf hC (br_t yx (br_f hbx ⟨hv, hvo, br_f q (nm_r (nI_1 j) (h2 post hp))⟩)))⟩, fun post hp => br_f h ⟨hv, br_f zy (hk_yrf hC (br_t yx (br_f hby ⟨hv, hvo, br_f q (nm_r (nI_1 j) (h3 post hp))⟩)))⟩⟩
      · have yx : ¬ nI (hk_rc H co xw (nI j)) = 0 := nI_ne0 (by omega) hle
        obtain ⟨r, h1, h2, h3⟩ := ih (j + 1) b (by omega) hb
        exact ⟨r, h1, fun post hp => br_f h ⟨hv, br_f zx (hk_xrf hC (br_f yx (nm_r (nI_1 j) (h2 post hp))))⟩, fun post hp => br_f h ⟨hv, br_f zy (hk_yrf hC (br_f yx (nm_r (nI_1 j) (h3 post hp))))⟩⟩
theorem hk_unu (hK : hk_K K) (hC : hk_ct K co xw yw f1 f2) : ∃ r : Int32, (r = -1 ∨ hk_go K H co xw r) ∧ (∀ post : Int32 → Prop, post r → wpX_leastUnreferenced post (md, nI w, K, N, S, P, O, C, U, G, H, R, xw, mv, co, cr, xp, pk, pn, ps, wo, wb, wp, wk)) ∧ (∀ post : Int32 → Prop, post r → wpY_unused post (md, nI w, K, N, E, P, ow, C, H, R, U, gv, ga, gb, yw, vv, f1, r1, f2, r2, yp, qk, qn, qs, zo, zb, zp, zk)) := by
  obtain ⟨r, h1, h2, h3⟩ := hk_un (md := md) (K := K) (N := N) (S := S) (P := P) (O := O) (C := C) (U := U) (G := G) (H := H) (R := R) (xw := xw) (mv := mv) (co := co) (cr := cr) (xp := xp) (pk := pk) (pn := pn) (ps := ps) (wo := wo) (wb := wb) (wp := wp) (wk := wk) (E := E) (ow := ow) (gv := gv) (ga := ga) (gb := gb) (yw := yw) (vv := vv) (f1 := f1) (r1 := r1) (f2 := f2) (r2 := r2) (yp := yp) (qk := qk) (qn := qn) (qs := qs) (zo := zo) (zb := zb) (zp := zp) (zk := zk) (w := w) hK hC 16 0 (-1) rfl (Or.inl rfl)
  exact ⟨r, h1, fun post hp => ⟨_, h2 post hp⟩, fun post hp => ⟨_, h3 post hp⟩⟩
end
