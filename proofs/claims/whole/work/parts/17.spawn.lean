/-- whether one of the first n slots is the process object of c -/
def hk_bl (K ow : Nat → Int32) (c : Nat) : Nat → Int32
  | 0 => 0
  | n + 1 => if K n = 4 ∧ ow n = nI c then 1 else hk_bl K ow c n
theorem hk_bl01 (K ow : Nat → Int32) (c : Nat) : ∀ n, hk_bl K ow c n = 0 ∨ hk_bl K ow c n = 1
  | 0 => Or.inl rfl
  | n + 1 => by
    show (if K n = 4 ∧ ow n = nI c then (1 : Int32) else hk_bl K ow c n) = 0 ∨ (if K n = 4 ∧ ow n = nI c then (1 : Int32) else hk_bl K ow c n) = 1
    by_cases z : K n = 4 ∧ ow n = nI c
    · rw [if_pos z]; exact Or.inr rfl
    · rw [if_neg z]; exact hk_bl01 K ow c n
theorem hk_bl0 (K ow : Nat → Int32) (c : Nat) : ∀ n, (hk_bl K ow c n = 0 ↔ ∀ o, o < n → K o = 4 → ow o ≠ nI c)
  | 0 => ⟨fun _ o ho => absurd ho (Nat.not_lt_zero _), fun _ => rfl⟩
  | n + 1 => by
    have ih := hk_bl0 K ow c n
    show (if K n = 4 ∧ ow n = nI c then (1 : Int32) else hk_bl K ow c n) = 0 ↔ _
    by_cases z : K n = 4 ∧ ow n = nI c
    · rw [if_pos z]
      exact ⟨fun y => absurd y (by decide), fun y => absurd z.2 (y n (by omega) z.1)⟩
    · rw [if_neg z, ih]
      refine ⟨fun y o ho k4 => ?_, fun y o ho => y o (by omega)⟩
      by_cases e : o = n
      · subst e; exact fun q => z ⟨k4, q⟩
      · exact y o (by omega) k4
section
variable {md : Int32} {w : Nat} {K N S P O C U G H R xw mv co cr xp pk pn ps wo wb wp wk : Nat → Int32} {E ow gv ga gb yw vv f1 r1 f2 r2 yp qk qn qs zo zb zp zk : Nat → Int32}
theorem hk_xho {c : Nat} (hO : hk_O K O ow) {post : Int32 → Prop} (h0 : hk_bl K ow c 16 = 0 → post 0) (h1 : hk_bl K ow c 16 ≠ 0 → post 1) : ∀ d j, j + d = 16 → (∀ o, o < j → K o = 4 → ow o ≠ nI c) → wX_hasObject_2 post (nI c) md (nI w) K N S P O C U G H R xw mv co cr xp pk pn ps wo wb wp wk (d + 1) (nI j) := by
  intro d
  induction d with
  | zero =>
    intro j hj hn
    obtain rfl : j = 16 := by omega
    exact br_t (nI_le (a := 16) (b := 16) (by omega) (by decide)) (h0 ((hk_bl0 K ow c 16).mpr hn))
  | succ d ih =>
    intro j hj hn
    have hc : (nI j).toNatClampNeg = j := nI_clamp (by omega)
    have hv : vp_in (nI j) 16 := vp_in_nI (by omega) (by decide)
    refine br_f (nI_ge (b := 16) (by omega) (by decide)) ⟨hv, ?_⟩
    rw [hc]
    by_cases z : K j = 4
    · refine br_t z ⟨hv, ?_⟩
      obtain ⟨p, hp, e1, e2⟩ := hO.1 j (by omega) z
      by_cases y : O j = nI c
      · exact br_t y (h1 (fun q => (hk_bl0 K ow c 16).mp q j (by omega) z (by rw [e2, ← e1]; exact y)))
      · refine br_f y (nm_r (nI_1 j) (ih (j + 1) (by omega) fun o ho k4 => ?_))
        by_cases e : o = j
        · subst e; rw [e2, ← e1]; exact y
        · exact hn o (by omega) k4
    · refine br_f z (nm_r (nI_1 j) (ih (j + 1) (by omega) fun o ho k4 => ?_))
      by_cases e : o = j
      · subst e; exact absurd k4 z
      · exact hn o (by omega) k4
theorem hk_yho {c : Nat} (hc4 : c < 4) {post J : Int32 → Prop} (h0 : U c = 0 → hk_bl K ow c 16 = 0 → post (nI c)) (h1 : ¬ (U c = 0 ∧ hk_bl K ow c 16 = 0) → J (nI (c + 1))) : ∀ d j, j + d = 16 → wY_freeProcess_11 post J (nI c) md (nI w) K N E P ow C H R U gv ga gb yw vv f1 r1 f2 r2 yp qk qn qs zo zb zp zk (d + 1) (hk_bl K ow c j) (nI j) := by
  have hcc : (nI c).toNatClampNeg = c := nI_clamp (by omega)
  have hvc : vp_in (nI c) 4 := vp_in_nI hc4 (by decide)
  intro d
  induction d with
  | zero =>
    intro j hj
    obtain rfl : j = 16 := by omega
    refine br_t (nI_le (a := 16) (b := 16) (by omega) (by decide)) ⟨hvc, ?_⟩
    rw [hcc]
    by_cases z : U c = 0
    · refine br_t z ?_
      by_cases y : hk_bl K ow c 16 = 0
      · exact br_t y (h0 z y)
      · exact br_f y (nm_r (nI_1 c) (h1 fun q => y q.2))
    · exact br_f z (nm_r (nI_1 c) (h1 fun q => z q.1))
  | succ d ih =>
    intro j hj
    have hc : (nI j).toNatClampNeg = j := nI_clamp (by omega)
    have hv : vp_in (nI j) 16 := vp_in_nI (by omega) (by decide)
    have IH := ih (j + 1) (by omega)
    have hor : hk_bl K ow c j ||| 1 = 1 := by
      rcases hk_bl01 K ow c j with q | q <;> (rw [q]; decide)
    have hoz : hk_bl K ow c j ||| 0 = hk_bl K ow c j := Int32.or_zero
    have hs : hk_bl K ow c (j + 1) = if K j = 4 ∧ ow j = nI c then 1 else hk_bl K ow c j := rfl
    refine br_f (nI_ge (b := 16) (by omega) (by decide)) ⟨hv, ?_⟩
    rw [hc]
    by_cases z : K j = 4
    · refine br_t z ⟨hv, ?_⟩
      by_cases y : ow j = nI c
      · rw [hs, if_pos ⟨z, y⟩] at IH
        exact br_t y (nm_r hor (nm_r (nI_1 j) IH))
      · rw [hs, if_neg (fun q => y q.2)] at IH
        exact br_f y (nm_r hoz (nm_r (nI_1 j) IH))
    · rw [hs, if_neg (fun q => z q.1)] at IH
      exact br_f z (nm_r hoz (nm_r (nI_1 j) IH))
theorem hk_fpr (hO : hk_O K O ow) : ∀ d c, c + d = 4 → ∃ r : Int32, (r = -1 ∨ ∃ q : Nat, q < 4 ∧ r = nI q ∧ U q = 0 ∧ ∀ o, o < 16 → K o = 4 → ow o ≠ nI q) ∧ (∀ post : Int32 → Prop, post r → wX_freeProcess_2 post md (nI w) K N S P O C U G H R xw mv co cr xp pk pn ps wo wb wp wk (d + 1) (nI c)) ∧ (∀ post : Int32 → Prop, post r → wY_freeProcess_2 post md (nI w) K N E P ow C H R U gv ga gb yw vv f1 r1 f2 r2 yp qk qn qs zo zb zp zk (d + 1) (nI c)) := by
  intro d
  induction d with
  | zero =>
    intro c hc
    obtain rfl : c = 4 := by omega
    have h : (4 : Int32) ≤ nI 4 := nI_le (a := 4) (b := 4) (by omega) (by decide)
    exact ⟨-1, Or.inl rfl, fun post hp => br_t h hp, fun post hp => br_t h hp⟩
  | succ d ih =>
    intro c hc
    have hcc : (nI c).toNatClampNeg = c := nI_clamp (by omega)
    have hvc : vp_in (nI c) 4 := vp_in_nI (by omega) (by decide)
    have h : ¬ (4 : Int32) ≤ nI c := nI_ge (b := 4) (by omega) (by decide)
    by_cases z : U c = 0
    · by_cases y : hk_bl K ow c 16 = 0
      · refine ⟨nI c, Or.inr ⟨c, by omega, rfl, z, (hk_bl0 K ow c 16).mp y⟩, fun post hp => br_f h ⟨hvc, br_t (by rw [hcc]; exact z) ?_⟩, fun post hp => br_f h ⟨_, hk_yho (by omega) (fun _ _ => hp) (fun q => absurd ⟨z, y⟩ q) 16 0 rfl⟩⟩
        exact ⟨_, hk_xho hO (fun _ => br_t rfl hp) (fun q => absurd y q) 16 0 rfl (fun o ho => absurd ho (Nat.not_lt_zero _))⟩
      · obtain ⟨r, h1, h2, h3⟩ := ih (c + 1) (by omega)
        refine ⟨r, h1, fun post hp => br_f h ⟨hvc, br_t (by rw [hcc]; exact z) ?_⟩, fun post hp => br_f h ⟨_, hk_yho (by omega) (fun _ q => absurd q y) (fun _ => h3 post hp) 16 0 rfl⟩⟩
        exact ⟨_, hk_xho hO (fun q => absurd q y) (fun _ => br_f (by decide) (nm_r (nI_1 c) (h2 post hp))) 16 0 rfl (fun o ho => absurd ho (Nat.not_lt_zero _))⟩
    · obtain ⟨r, h1, h2, h3⟩ := ih (c + 1) (by omega)
      exact ⟨r, h1, fun post hp => br_f h ⟨hvc, br_f (by rw [hcc]; exact z) (nm_r (nI_1 c) (h2 post hp))⟩, fun post hp => br_f h ⟨_, hk_yho (by omega) (fun q => absurd q z) (fun _ => h3 post hp) 16 0 rfl⟩⟩
theorem hk_xfg {c : Nat} (hc : c < 4) {post : SX → Prop} (hp : post (md, nI w, K, N, S, P, O, C, U, upd (upd (upd G (c * 3) 0) (c * 3 + 1) (-1)) (c * 3 + 2) (-1), H, R, xw, mv, co, cr, xp, pk, pn, ps, wo, wb, wp, wk)) : wpX_forgetGot post (md, nI w, K, N, S, P, O, C, U, G, H, R, xw, mv, co, cr, xp, pk, pn, ps, wo, wb, wp, wk) (nI c) := by
  have w1 : nI (c * 3) + 1 = nI (c * 3 + 1) := nI_1 _
  have w2 : nI (c * 3) + 2 = nI (c * 3 + 2) := nI_add _ 2
  unfold wpX_forgetGot
  dsimp only
  rw [hk_m3, w1, w2, nI_clamp (n := c * 3) (by omega), nI_clamp (n := c * 3 + 1) (by omega), nI_clamp (n := c * 3 + 2) (by omega)]
  exact ⟨vp_in_nI (by omega) (by decide), nm_e ⟨vp_in_nI (by omega) (by decide), nm_e ⟨vp_in_nI (by omega) (by decide), nm_e hp⟩⟩⟩
theorem hk_yfg {c : Nat} (hc : c < 4) {post : SY → Prop} (hp : post (md, nI w, K, N, E, P, ow, C, H, R, U, upd gv c 0, upd ga c (-1), upd gb c (-1), yw, vv, f1, r1, f2, r2, yp, qk, qn, qs, zo, zb, zp, zk)) : wpY_nothing post (md, nI w, K, N, E, P, ow, C, H, R, U, gv, ga, gb, yw, vv, f1, r1, f2, r2, yp, qk, qn, qs, zo, zb, zp, zk) (nI c) := by
  have hcc : (nI c).toNatClampNeg = c := nI_clamp (by omega)
  have hvc : vp_in (nI c) 4 := vp_in_nI hc (by decide)
  unfold wpY_nothing
  dsimp only
  rw [hcc]
  exact ⟨hvc, nm_e ⟨hvc, nm_e ⟨hvc, nm_e hp⟩⟩⟩
theorem hk_x122 {a c o d : Nat} (ha : a < 4) (ho : o < 16) (hd : d < 10) (o1 : K o = -1) (o2 : ∀ j, j < o → K j ≠ -1) (d1 : H (a * 10 + d) = -1) (d2 : ∀ j, j < d → H (a * 10 + j) ≠ -1) {post : Int32 → SX → Prop} (hp : post (nI d) (md + 1, nI w, upd K o 4, upd N o md, upd S o 0, upd P o (-1), upd O o (nI c), hk_cz C (o * 8) (o * 8 + 8), U, G, upd H (a * 10 + d) (nI o), upd R (a * 10 + d) 63, xw, mv, co, cr, xp, pk, pn, ps, wo, wb, wp, wk)) : wX_spawn_122 post (nI a) (nI c) md (nI w) K N S P O C U G H R xw mv co cr xp pk pn ps wo wb wp wk := by
  have hco : (nI o).toNatClampNeg = o := nI_clamp (by omega)
  have hvo : vp_in (nI o) 16 := vp_in_nI ho (by decide)
  unfold wX_spawn_122
  refine hk_xno ho 4 o1 o2 ?_
  refine ⟨hvo, nm_r (hk_u hco) ?_⟩
  exact hk_xnh ha hd (nI o) 63 d1 d2 hp
theorem hk_y140 {a c o d : Nat} (hK : hk_K K) (hH : hk_H (upd K o 4) H) (ha : a < 4) (ho : o < 16) (hd : d < 10) (o1 : K o = -1) (o2 : ∀ j, j < o → K j ≠ -1) (d1 : H (a * 10 + d) = -1) (d2 : ∀ j, j < d → H (a * 10 + j) ≠ -1) {post : Int32 → SY → Prop} (hp : post (nI d) (md + 1, nI w, upd K o 4, upd N o md, upd E o 0, upd P o (-1), upd (upd ow o (-1)) o (nI c), hk_cz C (o * 8) (o * 8 + 8), upd H (a * 10 + d) (nI o), upd R (a * 10 + d) 63, U, gv, ga, gb, upd yw o 0, vv, f1, r1, f2, r2, upd yp o 0, qk, qn, qs, zo, zb, zp, zk)) : wY_spawn_140 post (nI a) (nI c) md (nI w) K N E P ow C H R U gv ga gb yw vv f1 r1 f2 r2 yp qk qn qs zo zb zp zk := by
  have hco : (nI o).toNatClampNeg = o := nI_clamp (by omega)
  have hvo : vp_in (nI o) 16 := vp_in_nI ho (by decide)
  unfold wY_spawn_140
  refine hk_ycr hK ho 4 o1 o2 ?_
  refine ⟨hvo, nm_r (hk_u hco) ?_⟩
  exact hk_ynh hH ha hd (nI o) 63 d1 d2 hp
theorem hk_spR {c o : Nat} {x : Int32} (hR : (hk_K K ∧ hk_H K H ∧ hk_X K xw xp ∧ hk_M K xw mv co cr yw vv f1 r1 f2 r2 ∧ hk_P K xp pk pn ps yp qk qn qs ∧ hk_E K P ∧ hk_O K O ow ∧ hk_S K P S E ow U yw yp ∧ hk_W K w wo wb wp wk zo zb zp zk ∧ hk_G G gv ga gb)) (hQ : hk_Q w S wo wb) (hc : c < 4) (ho : o < 16) (o1 : K o = -1) (hx : x ≠ 0) (hno : ∀ e, e < 16 → K e = 4 → ow e ≠ nI c) : (hk_K (upd K o 4) ∧ hk_H (upd K o 4) H ∧ hk_X (upd K o 4) xw xp ∧ hk_M (upd K o 4) xw mv co cr (upd yw o 0) vv f1 r1 f2 r2 ∧ hk_P (upd K o 4) xp pk pn ps (upd yp o 0) qk qn qs ∧ hk_E (upd K o 4) (upd P o (-1)) ∧ hk_O (upd K o 4) (upd O o (nI c)) (upd (upd ow o (-1)) o (nI c)) ∧ hk_S (upd K o 4) (upd P o (-1)) (upd S o 0) (upd E o 0) (upd (upd ow o (-1)) o (nI c)) (upd U c x) (upd yw o 0) (upd yp o 0) ∧ hk_W (upd K o 4) w wo wb wp wk zo zb zp zk ∧ hk_G G gv ga gb) ∧ hk_Q w (upd S o 0) wo wb := by
  have hcc : (nI c).toNatClampNeg = c := nI_clamp (by omega)
  have hO := hR.2.2.2.2.2.2.1
  refine hk_cre (fun e => e = o) hR hQ (fun e z => by rw [z]; exact o1) (fun e z => ?_) (fun e he z => ?_) (fun e he z => ?_)
  · exact ⟨pk_un z, pk_un z, pk_un z, pk_un z, pk_un z, by rw [pk_un z, pk_un z], pk_un z, pk_un z⟩
  · obtain rfl := z
    refine ⟨?_, ?_, pk_us, pk_us, ?_, Or.inl pk_us, fun _ => ⟨c, hc, pk_us, pk_us, fun i hi hie h4 => ?_⟩⟩
    · rw [pk_us]; unfold hk_kd; simp
    · rw [pk_us]; decide
    · unfold hk_sg
      have g1 : upd (upd ow e (-1)) e (nI c) e = nI c := pk_us
      have g2 : upd K e 4 e = 4 := pk_us
      have g3 : upd S e 0 e = 0 := pk_us
      have g4 : upd U c x c = x := pk_us
      rw [g1, g2, g3, hcc, g4, if_neg (by decide), if_neg (by decide), if_neg (by decide), if_pos rfl, if_neg hx]
    · rw [pk_un hie] at h4
      rw [pk_un hie, pk_un hie]
      exact hno i hi h4
  · obtain ⟨p, hp, -, e2⟩ := hO.1 e he z
    have : p ≠ c := fun q => hno e he z (by rw [e2, q])
    rw [e2, nI_clamp (by omega), pk_un this]
end
