def hk_mb (U : Nat → Int32) : Nat → Int32
  | 0 => 0
  | n + 1 => if U n = 0 then hk_mb U n else hk_mb U n ||| ((1 : Int32) <<< (nI n &&& 31))
section
variable {md : Int32} {w : Nat} {K N S P O C U G H R xw mv co cr xp pk pn ps wo wb wp wk : Nat → Int32} {E ow gv ga gb yw vv f1 r1 f2 r2 yp qk qn qs zo zb zp zk : Nat → Int32}
theorem hk_ysg (hK : hk_K K) (hO : hk_O K O ow) {o : Nat} (ho : o < 16) (hko : K o ≠ -1) {post : Int32 → Prop} (hp : post (hk_sg K P E ow U yw yp o)) : wpY_signals post (md, nI w, K, N, E, P, ow, C, H, R, U, gv, ga, gb, yw, vv, f1, r1, f2, r2, yp, qk, qn, qs, zo, zb, zp, zk) (nI o) := by
  have hc : (nI o).toNatClampNeg = o := nI_clamp (by omega)
  have hv : vp_in (nI o) 16 := vp_in_nI ho (by decide)
  unfold wpY_signals
  unfold hk_sg at hp
  refine ⟨hv, ?_⟩
  rcases hK o ho with e | e | e | e | e | e
  · exact absurd e hko
  · rw [if_pos e] at hp
    exact nm_r (by rw [hc]; exact e) (br_f (by decide) (br_f (by decide) (br_t rfl ⟨hv, by rw [hc]; exact hp⟩)))
  · rw [if_neg (by rw [e]; decide), if_pos e] at hp
    refine nm_r (by rw [hc]; exact e) (br_f (by decide) (br_f (by decide) (br_f (by decide) (br_t rfl ⟨hv, ?_⟩))))
    rw [hc]
    by_cases z : yw o ≤ 0
    · rw [if_pos z] at hp
      refine br_t z ⟨hv, ?_⟩
      rw [hc]
      by_cases y : 0 ≤ P o
      · rw [if_pos y] at hp
        exact br_t y hp
      · rw [if_neg y] at hp
        exact br_f y hp
    · rw [if_neg z] at hp
      refine br_f z ⟨hv, ?_⟩
      rw [hc]
      by_cases y : 0 ≤ P o
      · rw [if_pos y] at hp
        exact br_t y hp
      · rw [if_neg y] at hp
        exact br_f y hp
  · rw [if_neg (by rw [e]; decide), if_neg (by rw [e]; decide), if_neg (by rw [e]; decide), if_neg (by rw [e]; decide)] at hp
    exact nm_r (by rw [hc]; exact e) (br_f (by decide) (br_f (by decide) (br_f (by decide) (br_f (by decide) (br_t rfl hp)))))
  · rw [if_neg (by rw [e]; decide), if_neg (by rw [e]; decide), if_pos e] at hp
    refine nm_r (by rw [hc]; exact e) (br_f (by decide) (br_f (by decide) (br_f (by decide) (br_f (by decide) (br_f (by decide) (br_t rfl ⟨hv, ?_⟩))))))
    rw [hc]
    by_cases z : yp o ≤ 0
    · rw [if_pos z] at hp
      exact br_t z hp
    · rw [if_neg z] at hp
      exact br_f z hp
  · rw [if_neg (by rw [e]; decide), if_neg (by rw [e]; decide), if_neg (by rw [e]; decide), if_pos e] at hp
    obtain ⟨p, hp4, -, e2⟩ := hO.1 o ho e
    refine nm_r (by rw [hc]; exact e) (br_f (by decide) (br_f (by decide) (br_f (by decide) (br_f (by decide) (br_f (by decide) (br_f (by decide) (br_t rfl ⟨hv, ?_⟩)))))))
    rw [hc]
    refine br_f (by rw [e2]; exact nI_pos (by omega)) ⟨hv, by rw [e2]; exact vp_in_nI hp4 (by decide), ?_⟩
    by_cases z : U (ow o).toNatClampNeg = 0
    · rw [if_pos z] at hp
      exact br_t z hp
    · rw [if_neg z] at hp
      exact br_f z hp
theorem hk_xrb {post : Int32 → Prop} (hp : post (hk_mb U 4)) : ∀ d j, j + d = 4 → wX_runningBits_4 post md (nI w) K N S P O C U G H R xw mv co cr xp pk pn ps wo wb wp wk (d + 1) (hk_mb U j) (nI j) := by
  intro d
  induction d with
  | zero =>
    intro j hj
    obtain rfl : j = 4 := by omega
    exact br_t (nI_le (a := 4) (b := 4) (by omega) (by decide)) hp
  | succ d ih =>
    intro j hj
    have hc : (nI j).toNatClampNeg = j := nI_clamp (by omega)
    have IH := ih (j + 1) (by omega)
    refine br_f (nI_ge (b := 4) (by omega) (by decide)) ⟨vp_in_nI (by omega) (by decide), ?_⟩
    by_cases z : U j = 0
    · rw [show hk_mb U (j + 1) = hk_mb U j from if_pos z] at IH
      exact br_t (by rw [hc]; exact z) (nm_r (nI_1 j) IH)
    · rw [show hk_mb U (j + 1) = _ from if_neg z] at IH
      exact br_f (by rw [hc]; exact z) (nm_e (nm_r (nI_1 j) IH))
theorem hk_yrb {post : Int32 → Prop} {x : Int32} (hp : ((x = 0 → (wpY_objects (fun r => (post r)) (md, nI w, K, N, E, P, ow, C, H, R, U, gv, ga, gb, yw, vv, f1, r1, f2, r2, yp, qk, qn, qs, zo, zb, zp, zk))) ∧ (¬ x = 0 → (((x = 1 → (post (nI w))) ∧ (¬ x = 1 → (((x = 2 → (post (hk_mb U 4))) ∧ (¬ x = 2 → (((x = 3 → (post md)) ∧ (¬ x = 3 → (post (-9)))))))))))))) : ∀ d j, j + d = 4 → wY_info_21 post x md (nI w) K N E P ow C H R U gv ga gb yw vv f1 r1 f2 r2 yp qk qn qs zo zb zp zk (d + 1) (hk_mb U j) (nI j) := by
  intro d
  induction d with
  | zero =>
    intro j hj
    obtain rfl : j = 4 := by omega
    exact br_t (nI_le (a := 4) (b := 4) (by omega) (by decide)) hp
  | succ d ih =>
    intro j hj
    have hc : (nI j).toNatClampNeg = j := nI_clamp (by omega)
    have IH := ih (j + 1) (by omega)
    refine br_f (nI_ge (b := 4) (by omega) (by decide)) ⟨vp_in_nI (by omega) (by decide), ?_⟩
    by_cases z : U j = 0
    · rw [show hk_mb U (j + 1) = hk_mb U j from if_pos z] at IH
      exact br_t (by rw [hc]; exact z) (nm_r (nI_1 j) IH)
    · rw [show hk_mb U (j + 1) = _ from if_neg z] at IH
      exact br_f (by rw [hc]; exact z) (nm_e (nm_r (nI_1 j) IH))
theorem hk_nc {x : Int32} {n : Nat} (hn : n < 2 ^ 31) (z : x < 0 ∨ nI n ≤ x) (c : Nat) (hc : c < n) : ¬ x = nI c := fun e => by
  subst e
  rcases z with z | z
  · exact nI_pos (by omega) z
  · exact nI_ge hc hn z
end
theorem i_vc_info {k : Nat} {u : SX} {v : SY} (I : i_Rel k u v) (hk : k + 6 ≤ 3072) (v1 : Int32) (v2 : Int32) (v3 : Int32) : wpX_info (fun r => wpY_info (fun r' => r' = r ∧ i_Rel (k + 6) u v) v v1 v2 v3) u v1 v2 v3 := by
  obtain ⟨md, w, K, N, S, P, O, C, U, G, H, R, xw, mv, co, cr, xp, pk, pn, ps, wo, wb, wp, wk, E, ow, gv, ga, gb, yw, vv, f1, r1, f2, r2, yp, qk, qn, qs, zo, zb, zp, zk, rfl, rfl, hR, hQ, hF⟩ := I
  have J : i_Rel (k + 6) (md, nI w, K, N, S, P, O, C, U, G, H, R, xw, mv, co, cr, xp, pk, pn, ps, wo, wb, wp, wk) (md, nI w, K, N, E, P, ow, C, H, R, U, gv, ga, gb, yw, vv, f1, r1, f2, r2, yp, qk, qn, qs, zo, zb, zp, zk) := hk_mk hR hQ hF
  obtain ⟨hK, hH, hX, hM, hP, hE, hO, hS, hW, hG⟩ := hR
  unfold wpX_info
  by_cases hr : hk_run U v1
  · obtain ⟨a, ha, rfl, hu⟩ := hr
    refine hk_xr1 ha hu (br_f (by decide) ?_)
    by_cases h2 : v2 = -1
    · have HY : ∀ post : Int32 → Prop, ((v3 = 0 → (wpY_objects (fun r => (post r)) (md, nI w, K, N, E, P, ow, C, H, R, U, gv, ga, gb, yw, vv, f1, r1, f2, r2, yp, qk, qn, qs, zo, zb, zp, zk))) ∧ (¬ v3 = 0 → (((v3 = 1 → (post (nI w))) ∧ (¬ v3 = 1 → (((v3 = 2 → (post (hk_mb U 4))) ∧ (¬ v3 = 2 → (((v3 = 3 → (post md)) ∧ (¬ v3 = 3 → (post (-9))))))))))))) → wpY_info post (md, nI w, K, N, E, P, ow, C, H, R, U, gv, ga, gb, yw, vv, f1, r1, f2, r2, yp, qk, qn, qs, zo, zb, zp, zk) (nI a) v2 v3 := fun post hp => by
        unfold wpY_info
        exact hk_yr1 ha hu (br_f (by decide) (br_t h2 ⟨_, hk_yrb hp 4 0 rfl⟩))
      refine br_t h2 ?_
      unfold wpX_infoOfAll
      rcases pk_ix v3 (n := 4) (by decide) with z | z | ⟨c, hc, rfl⟩
      · have n := hk_nc (n := 4) (by decide) (Or.inl z)
        exact br_t z (HY _ (br_f (n 0 (by omega)) (br_f (n 1 (by omega)) (br_f (n 2 (by omega)) (br_f (n 3 (by omega)) ⟨rfl, J⟩)))))
      · have n := hk_nc (n := 4) (by decide) (Or.inr z)
        have h3 : (3 : Int32) < v3 := Int32.lt_of_lt_of_le (by decide) z
        exact br_f (Int32.not_lt.mpr (Int32.le_trans (by decide) z)) (br_t h3 (HY _ (br_f (n 0 (by omega)) (br_f (n 1 (by omega)) (br_f (n 2 (by omega)) (br_f (n 3 (by omega)) ⟨rfl, J⟩))))))
      · refine br_f (nI_pos (by omega)) (br_f (nI_nlt (a := 3) (by omega) (by decide)) ?_)
        obtain rfl | rfl | rfl | rfl : c = 0 ∨ c = 1 ∨ c = 2 ∨ c = 3 := by omega
        · refine br_t rfl ?_
          refine hk_xoc ?_
          refine HY _ (br_t rfl ?_)
          exact hk_yoc hK ⟨rfl, J⟩
        · exact br_f (by decide) (br_t rfl (HY _ (br_f (by decide) (br_t rfl ⟨rfl, J⟩))))
        · refine br_f (by decide) (br_f (by decide) (br_t rfl ?_))
          refine ⟨_, hk_xrb ?_ 4 0 rfl⟩
          exact HY _ (br_f (by decide) (br_f (by decide) (br_t rfl ⟨rfl, J⟩)))
        · exact br_f (by decide) (br_f (by decide) (br_f (by decide) (br_t rfl (HY _ (br_f (by decide) (br_f (by decide) (br_f (by decide) (br_t rfl ⟨rfl, J⟩))))))))
    · refine br_f h2 ?_
      obtain ⟨r, xt, yt, h0⟩ := hk_th1 (md := md) (K := K) (N := N) (S := S) (P := P) (O := O) (C := C) (U := U) (G := G) (H := H) (R := R) (xw := xw) (mv := mv) (co := co) (cr := cr) (xp := xp) (pk := pk) (pn := pn) (ps := ps) (wo := wo) (wb := wb) (wp := wp) (wk := wk) (E := E) (ow := ow) (gv := gv) (ga := ga) (gb := gb) (yw := yw) (vv := vv) (f1 := f1) (r1 := r1) (f2 := f2) (r2 := r2) (yp := yp) (qk := qk) (qn := qn) (qs := qs) (zo := zo) (zb := zb) (zp := zp) (zk := zk) (w := w) hK hH ha hu v2 (-1) 0 (Or.inl rfl)
      refine xt _ ?_
      by_cases hr : r = 0
      · obtain ⟨b, o, hb, ho, rfl, e, hko, -⟩ := h0 hr
        have hc : (nI (a * 10 + b)).toNatClampNeg = a * 10 + b := nI_clamp (by omega)
        have hv : vp_in (nI (a * 10 + b)) 40 := vp_in_nI (by omega) (by decide)
        have hco : (nI o).toNatClampNeg = o := nI_clamp (by omega)
        have hvo : vp_in (nI o) 16 := vp_in_nI ho (by decide)
        refine br_t hr (nm_r (hk_m10 a b) ⟨hv, nm_r (e' := nI o) (by rw [hc]; exact e) ?_⟩)
        rcases pk_ix v3 (n := 6) (by decide) with z | z | ⟨c, hc6, rfl⟩
        · refine br_t z ?_
          unfold wpY_info
          refine hk_yr1 ha hu (br_f (by decide) (br_f h2 ?_))
          refine yt _ (br_t hr ?_)
          exact hk_yob ha hb (br_t z ⟨rfl, J⟩)
        · have h3 : (5 : Int32) < v3 := Int32.lt_of_lt_of_le (by decide) z
          have h4 : ¬ v3 < 0 := Int32.not_lt.mpr (Int32.le_trans (by decide) z)
          refine br_f h4 (br_t h3 ?_)
          unfold wpY_info
          refine hk_yr1 ha hu (br_f (by decide) (br_f h2 ?_))
          refine yt _ (br_t hr ?_)
          exact hk_yob ha hb (br_f h4 (br_t h3 ⟨rfl, J⟩))
        · have h4 : ¬ nI c < 0 := nI_pos (by omega)
          have h3 : ¬ 5 < nI c := nI_nlt (a := 5) (by omega) (by decide)
          refine br_f h4 (br_f h3 ?_)
          obtain rfl | rfl | rfl | rfl | rfl | rfl : c = 0 ∨ c = 1 ∨ c = 2 ∨ c = 3 ∨ c = 4 ∨ c = 5 := by omega
          · refine br_t rfl ⟨hvo, ?_⟩
            unfold wpY_info
            refine hk_yr1 ha hu (br_f (by decide) (br_f h2 ?_))
            refine yt _ (br_t hr ?_)
            refine hk_yob ha hb (br_f h4 (br_f h3 ?_))
            rw [e]
            exact br_t rfl ⟨hvo, rfl, J⟩
          · refine br_f (by decide) (br_t rfl ⟨hvo, ?_⟩)
            unfold wpY_info
            refine hk_yr1 ha hu (br_f (by decide) (br_f h2 ?_))
            refine yt _ (br_t hr ?_)
            refine hk_yob ha hb (br_f h4 (br_f h3 ?_))
            rw [e]
            exact br_f (by decide) (br_t rfl ⟨hvo, rfl, J⟩)
          · refine br_f (by decide) (br_f (by decide) (br_t rfl ⟨hv, ?_⟩))
            unfold wpY_info
            refine hk_yr1 ha hu (br_f (by decide) (br_f h2 ?_))
            refine yt _ (br_t hr ?_)
            refine hk_yob ha hb (br_f h4 (br_f h3 ?_))
            refine br_f (by decide) (br_f (by decide) (br_t rfl ?_))
            rw [hk_10m]
            exact ⟨hv, rfl, J⟩
          · refine br_f (by decide) (br_f (by decide) (br_f (by decide) (br_t rfl ⟨hvo, ?_⟩)))
            unfold wpY_info
            refine hk_yr1 ha hu (br_f (by decide) (br_f h2 ?_))
            refine yt _ (br_t hr ?_)
            refine hk_yob ha hb (br_f h4 (br_f h3 ?_))
            rw [e]
            refine br_f (by decide) (br_f (by decide) (br_f (by decide) (br_t rfl ?_)))
            exact hk_ysg hK hO ho hko ⟨by rw [hco]; exact (hS o ho hko).symm, J⟩
          · refine br_f (by decide) (br_f (by decide) (br_f (by decide) (br_f (by decide) (br_t rfl ?_))))
            refine hk_xrf (hk_ctm hX hM) ?_
            unfold wpY_info
            refine hk_yr1 ha hu (br_f (by decide) (br_f h2 ?_))
            refine yt _ (br_t hr ?_)
            refine hk_yob ha hb (br_f h4 (br_f h3 ?_))
            rw [e]
            refine br_f (by decide) (br_f (by decide) (br_f (by decide) (br_f (by decide) (br_t rfl ?_))))
            exact hk_yrf (hk_ctm hX hM) ⟨rfl, J⟩
          · refine br_f (by decide) (br_f (by decide) (br_f (by decide) (br_f (by decide) (br_f (by decide) (br_t rfl ⟨hvo, ?_⟩)))))
            have HY : ∀ q : Int32, ((K o = 1 → (P o < 0 → q = -1) ∧ (¬ P o < 0 → vp_in (P o) 16 ∧ N (P o).toNatClampNeg = q)) ∧ (¬ K o = 1 → q = -1)) → wpY_info (fun r' => r' = q ∧ i_Rel (k + 6) (md, nI w, K, N, S, P, O, C, U, G, H, R, xw, mv, co, cr, xp, pk, pn, ps, wo, wb, wp, wk) (md, nI w, K, N, E, P, ow, C, H, R, U, gv, ga, gb, yw, vv, f1, r1, f2, r2, yp, qk, qn, qs, zo, zb, zp, zk)) (md, nI w, K, N, E, P, ow, C, H, R, U, gv, ga, gb, yw, vv, f1, r1, f2, r2, yp, qk, qn, qs, zo, zb, zp, zk) (nI a) (nI b) (nI 5) := fun q hq => by
              unfold wpY_info
              refine hk_yr1 ha hu (br_f (by decide) (br_f h2 ?_))
              refine yt _ (br_t hr ?_)
              refine hk_yob ha hb (br_f h4 (br_f h3 ?_))
              rw [e]
              refine br_f (by decide) (br_f (by decide) (br_f (by decide) (br_f (by decide) (br_f (by decide) (br_t rfl ⟨hvo, ?_⟩)))))
              rw [hco]
              exact ⟨fun z => ⟨hvo, fun y => ⟨((hq.1 z).1 y).symm, J⟩, fun y => ⟨hvo, ((hq.1 z).2 y).1, ((hq.1 z).2 y).2, J⟩⟩, fun z => ⟨(hq.2 z).symm, J⟩⟩
            rw [hco]
            rcases hE o ho hko with z | ⟨z, f, hf, -, e1, -⟩
            · refine br_t z (HY _ ⟨fun _ => ⟨fun _ => rfl, fun y => absurd (hk_nn z) y⟩, fun _ => rfl⟩)
            · refine br_f (by rw [e1]; exact hk_ne f (by omega)) ⟨hvo, by rw [e1]; exact vp_in_nI hf (by decide), ?_⟩
              refine HY _ ⟨fun _ => ⟨fun y => ?_, fun y => ⟨by rw [e1]; exact vp_in_nI hf (by decide), rfl⟩⟩, fun y => absurd z y⟩
              rw [e1] at y
              exact absurd y (nI_pos (by omega))
      · refine br_f hr ?_
        unfold wpY_info
        refine hk_yr1 ha hu (br_f (by decide) (br_f h2 ?_))
        exact yt _ (br_f hr ⟨rfl, J⟩)
  · refine hk_xr0 hr (br_t rfl ?_)
    unfold wpY_info
    exact hk_yr0 hr (br_t rfl ⟨rfl, J⟩)
