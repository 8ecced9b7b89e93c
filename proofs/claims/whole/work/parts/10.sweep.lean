theorem hk_cnm (f : Nat → Bool) : ∀ n m, n ≤ m → hk_cn f n ≤ hk_cn f m
  | n, 0, h => by obtain rfl : n = 0 := by omega
                  exact Nat.le_refl _
  | n, m + 1, h => by
    by_cases e : n = m + 1
    · rw [e]; exact Nat.le_refl _
    · have := hk_cnm f n m (by omega)
      rw [hk_cns]
      omega
theorem hk_cnst (f : Nat → Bool) {i n : Nat} (hi : i < n) (hf : f i = true) : hk_cn f i < hk_cn f n := by
  have := hk_cnm f (i + 1) n (by omega)
  rw [hk_cnt hf] at this
  omega
theorem hk_cnsur (f : Nat → Bool) : ∀ n t, t < hk_cn f n → ∃ i, i < n ∧ f i = true ∧ hk_cn f i = t
  | 0, t, h => absurd h (Nat.not_lt_zero _)
  | n + 1, t, h => by
    by_cases hf : f n = true
    · rw [hk_cnt hf] at h
      by_cases e : t = hk_cn f n
      · exact ⟨n, by omega, hf, e.symm⟩
      · obtain ⟨i, h1, h2, h3⟩ := hk_cnsur f n t (by omega)
        exact ⟨i, by omega, h2, h3⟩
    · rw [hk_cnf hf] at h
      obtain ⟨i, h1, h2, h3⟩ := hk_cnsur f n t h
      exact ⟨i, by omega, h2, h3⟩
/-- a' is a, up to n, with the rows out that f leaves out -/
def hk_cmp (f : Nat → Bool) (n : Nat) (a a' : Nat → Int32) : Prop := ∀ i, i < n → f i = true → a' (hk_cn f i) = a i
def hk_ix (f : Nat → Bool) (i : Nat) (a a' : Nat → Int32) : Prop := hk_cmp f i a a' ∧ ∀ j, i ≤ j → a' j = a j
theorem hk_ixk {f : Nat → Bool} {i : Nat} {a a' : Nat → Int32} (h : hk_ix f i a a') (hf : f i = true) : hk_ix f (i + 1) a (upd a' (hk_cn f i) (a' i)) := by
  have hle := hk_cnle f i
  refine ⟨fun j hj hfj => ?_, fun j hj => ?_⟩
  · by_cases e : j = i
    · subst e
      rw [pk_us]; exact h.2 j (Nat.le_refl _)
    · have := hk_cnst f (i := j) (n := i) (by omega) hfj
      rw [pk_un (by omega)]
      exact h.1 j (by omega) hfj
  · rw [pk_un (by omega)]
    exact h.2 j (by omega)
theorem hk_ixd {f : Nat → Bool} {i : Nat} {a a' : Nat → Int32} (h : hk_ix f i a a') (hf : ¬ f i = true) : hk_ix f (i + 1) a a' := by
  refine ⟨fun j hj hfj => ?_, fun j hj => h.2 j (by omega)⟩
  by_cases e : j = i
  · subst e; exact absurd hfj hf
  · exact h.1 j (by omega) hfj
def hk_iy (f : Nat → Bool) (w p : Nat) (a a' : Nat → Int32) : Prop := (∀ j, j < p → a' j = a j) ∧ ∀ j, p ≤ j → j < w → f j = true → a' (p + (hk_cn f j - hk_cn f p)) = a j
theorem hk_iyk {f : Nat → Bool} {w p : Nat} {a a' : Nat → Int32} (h : hk_iy f w (p + 1) a a') (hf : f p = true) : hk_iy f w p a a' := by
  refine ⟨fun j hj => h.1 j (by omega), fun j hj hw hfj => ?_⟩
  by_cases e : j = p
  · subst e
    rw [Nat.sub_self, Nat.add_zero]; exact h.1 j (by omega)
  · have h1 := h.2 j (by omega) hw hfj
    have h2 := hk_cnm f (p + 1) j (by omega)
    rw [hk_cnt hf] at h1 h2
    rw [show p + (hk_cn f j - hk_cn f p) = p + 1 + (hk_cn f j - (hk_cn f p + 1)) by omega]
    exact h1
theorem hk_iyd {f : Nat → Bool} {w p c : Nat} {a a' : Nat → Int32} (hc : c = p + (hk_cn f w - hk_cn f p)) (h : hk_iy f w (p + 1) a a') (hf : ¬ f p = true) : hk_iy f w p a (hk_sh a' p c) := by
  refine ⟨fun j hj => ?_, fun j hj hw hfj => ?_⟩
  · show a' (hk_g p c j) = a j
    rw [hk_gl hj]; exact h.1 j (by omega)
  · have e : j ≠ p := fun z => hf (by rw [← z]; exact hfj)
    have h1 := h.2 j (by omega) hw hfj
    have h2 := hk_cnm f (p + 1) j (by omega)
    have h3 := hk_cnst f hw hfj
    rw [hk_cnf hf] at h1 h2
    show a' (hk_g p c (p + (hk_cn f j - hk_cn f p))) = a j
    rw [hk_gm (by omega) (by omega), show p + (hk_cn f j - hk_cn f p) + 1 = p + 1 + (hk_cn f j - hk_cn f p) by omega]
    exact h1
/-- the watches that stay when x goes -/
def hk_kp (wo wp : Nat → Int32) (x : Int32) : Nat → Bool := fun i => decide (wo i ≠ x ∧ wp i ≠ x)
section
variable {md : Int32} {w : Nat} {K N S P O C U G H R xw mv co cr xp pk pn ps wo wb wp wk : Nat → Int32} {E ow gv ga gb yw vv f1 r1 f2 r2 yp qk qn qs zo zb zp zk : Nat → Int32}
theorem hk_xdwl4 {x : Int32} (hw : w ≤ 12) : ∀ d i a1 a2 a3 a4, i + d = w → hk_ix (hk_kp wo wp x) i wo a1 → hk_ix (hk_kp wo wp x) i wb a2 → hk_ix (hk_kp wo wp x) i wp a3 → hk_ix (hk_kp wo wp x) i wk a4 → ∃ b1 b2 b3 b4 : Nat → Int32, hk_cmp (hk_kp wo wp x) w wo b1 ∧ hk_cmp (hk_kp wo wp x) w wb b2 ∧ hk_cmp (hk_kp wo wp x) w wp b3 ∧ hk_cmp (hk_kp wo wp x) w wk b4 ∧ ∀ post : SX → Prop, post (md, nI (hk_cn (hk_kp wo wp x) w), K, N, S, P, O, C, U, G, H, R, xw, mv, co, cr, xp, pk, pn, ps, b1, b2, b3, b4) → wX_dropWatchesWith_4 post x (d + 1) (nI (hk_cn (hk_kp wo wp x) i)) (nI i) md (nI w) K N S P O C U G H R xw mv co cr xp pk pn ps a1 a2 a3 a4 := by
  intro d
  induction d with
  | zero =>
    intro i a1 a2 a3 a4 hi h1 h2 h3 h4
    obtain rfl : i = w := by omega
    exact ⟨a1, a2, a3, a4, h1.1, h2.1, h3.1, h4.1, fun post hp => br_t (Int32.le_refl _) hp⟩
  | succ d ih =>
    intro i a1 a2 a3 a4 hi h1 h2 h3 h4
    have hc : (nI i).toNatClampNeg = i := nI_clamp (by omega)
    have hv : vp_in (nI i) 12 := vp_in_nI (by omega) (by decide)
    have hle := hk_cnle (hk_kp wo wp x) i
    have hck : (nI (hk_cn (hk_kp wo wp x) i)).toNatClampNeg = hk_cn (hk_kp wo wp x) i := nI_clamp (by omega)
    have hvk : vp_in (nI (hk_cn (hk_kp wo wp x) i)) 12 := vp_in_nI (by omega) (by decide)
    have hlt : ¬ nI w ≤ nI i := nI_ge (by omega) (by omega)
    have q1 : a1 i = wo i := h1.2 i (Nat.le_refl _)
    have q3 : a3 i = wp i := h3.2 i (Nat.le_refl _)
    by_cases z1 : wo i = x
    · have hf : ¬ hk_kp wo wp x i = true := by simp [hk_kp, z1]
      obtain ⟨b1, b2, b3, b4, c1, c2, c3, c4, H'⟩ := ih (i + 1) a1 a2 a3 a4 (by omega) (hk_ixd h1 hf) (hk_ixd h2 hf) (hk_ixd h3 hf) (hk_ixd h4 hf)
      rw [hk_cnf hf] at H'
      exact ⟨b1, b2, b3, b4, c1, c2, c3, c4, fun post hp => br_f hlt ⟨hv, br_t (by rw [hc, q1]; exact z1) (nm_r (nI_1 i) (H' post hp))⟩⟩
    · by_cases z2 : wp i = x
      · have hf : ¬ hk_kp wo wp x i = true := by simp [hk_kp, z2]
        obtain ⟨b1, b2, b3, b4, c1, c2, c3, c4, H'⟩ := ih (i + 1) a1 a2 a3 a4 (by omega) (hk_ixd h1 hf) (hk_ixd h2 hf) (hk_ixd h3 hf) (hk_ixd h4 hf)
        rw [hk_cnf hf] at H'
        exact ⟨b1, b2, b3, b4, c1, c2, c3, c4, fun post hp => br_f hlt ⟨hv, br_f (by rw [hc, q1]; exact z1) ⟨hv, br_t (by rw [hc, q3]; exact z2) (nm_r (nI_1 i) (H' post hp))⟩⟩⟩
      · have hf : hk_kp wo wp x i = true := by simp [hk_kp, z1, z2]
        obtain ⟨b1, b2, b3, b4, c1, c2, c3, c4, H'⟩ := ih (i + 1) _ _ _ _ (by omega) (hk_ixk h1 hf) (hk_ixk h2 hf) (hk_ixk h3 hf) (hk_ixk h4 hf)
        rw [hk_cnt hf] at H'
        refine ⟨b1, b2, b3, b4, c1, c2, c3, c4, fun post hp => br_f hlt ⟨hv, br_f (by rw [hc, q1]; exact z1) ⟨hv, br_f (by rw [hc, q3]; exact z2) ?_⟩⟩⟩
        unfold wpX_moveWatch
        dsimp only
        rw [hc, hck]
        exact ⟨hv, hvk, nm_e ⟨hv, hvk, nm_e ⟨hv, hvk, nm_e ⟨hv, hvk, nm_e (nm_r (nI_1 _) (nm_r (nI_1 i) (H' post hp)))⟩⟩⟩⟩
theorem hk_xdww {x : Int32} (hw : w ≤ 12) : ∃ b1 b2 b3 b4 : Nat → Int32, hk_cmp (hk_kp wo wp x) w wo b1 ∧ hk_cmp (hk_kp wo wp x) w wb b2 ∧ hk_cmp (hk_kp wo wp x) w wp b3 ∧ hk_cmp (hk_kp wo wp x) w wk b4 ∧ ∀ post : SX → Prop, post (md, nI (hk_cn (hk_kp wo wp x) w), K, N, S, P, O, C, U, G, H, R, xw, mv, co, cr, xp, pk, pn, ps, b1, b2, b3, b4) → wpX_dropWatchesWith post (md, nI w, K, N, S, P, O, C, U, G, H, R, xw, mv, co, cr, xp, pk, pn, ps, wo, wb, wp, wk) x := by
  have h0 : ∀ a : Nat → Int32, hk_ix (hk_kp wo wp x) 0 a a := fun a => ⟨fun i hi => absurd hi (Nat.not_lt_zero _), fun _ _ => rfl⟩
  obtain ⟨b1, b2, b3, b4, c1, c2, c3, c4, H'⟩ := hk_xdwl4 (md := md) (K := K) (N := N) (S := S) (P := P) (O := O) (C := C) (U := U) (G := G) (H := H) (R := R) (xw := xw) (mv := mv) (co := co) (cr := cr) (xp := xp) (pk := pk) (pn := pn) (ps := ps) (wo := wo) (wb := wb) (wp := wp) (wk := wk) (w := w) (x := x) hw w 0 wo wb wp wk (by omega) (h0 _) (h0 _) (h0 _) (h0 _)
  exact ⟨b1, b2, b3, b4, c1, c2, c3, c4, fun post hp => ⟨_, H' post hp⟩⟩
theorem hk_ydwl {o : Nat} (ho : o < 16) (hw : w ≤ 12) {f : Nat → Bool} (hf : ∀ i, i < w → (f i = true ↔ zo i ≠ nI o ∧ zp i ≠ nI o)) : ∀ p c a1 a2 a3 a4, p ≤ w → c = p + (hk_cn f w - hk_cn f p) → hk_iy f w p zo a1 → hk_iy f w p zb a2 → hk_iy f w p zp a3 → hk_iy f w p zk a4 → ∃ b1 b2 b3 b4 : Nat → Int32, hk_cmp f w zo b1 ∧ hk_cmp f w zb b2 ∧ hk_cmp f w zp b3 ∧ hk_cmp f w zk b4 ∧ ∀ (post : SY → Prop) J5, ((K o = 1 → wY_sweep_71 post J5 (nI o) (P o) md (nI (hk_cn f w)) K N E P ow C H R U gv ga gb yw vv f1 r1 f2 r2 yp qk qn qs b1 b2 b3 b4) ∧ (¬ K o = 1 → wY_sweep_71 post J5 (nI o) (-1) md (nI (hk_cn f w)) K N E P ow C H R U gv ga gb yw vv f1 r1 f2 r2 yp qk qn qs b1 b2 b3 b4)) → wY_sweep_16 post J5 (nI o) (p + 1) (nI p + (-1)) md (nI c) K N E P ow C H R U gv ga gb yw vv f1 r1 f2 r2 yp qk qn qs a1 a2 a3 a4 := by
  have hco : (nI o).toNatClampNeg = o := nI_clamp (by omega)
  have hvo : vp_in (nI o) 16 := vp_in_nI ho (by decide)
  intro p
  induction p with
  | zero =>
    intro c a1 a2 a3 a4 hp hc h1 h2 h3 h4
    have hcc : c = hk_cn f w := by rw [hc]; show 0 + (hk_cn f w - 0) = _; omega
    subst hcc
    have g : ∀ a a' : Nat → Int32, hk_iy f w 0 a a' → hk_cmp f w a a' := fun a a' h i hi hfi => by
      have := h.2 i (Nat.zero_le _) hi hfi
      rw [show 0 + (hk_cn f i - hk_cn f 0) = hk_cn f i by show 0 + (hk_cn f i - 0) = _; omega] at this
      exact this
    refine ⟨a1, a2, a3, a4, g _ _ h1, g _ _ h2, g _ _ h3, g _ _ h4, fun post J5 hp => br_t (by decide) ⟨hvo, ?_⟩⟩
    rw [hco]
    exact ⟨fun z => ⟨hvo, hp.1 z⟩, hp.2⟩
  | succ p ih =>
    intro c a1 a2 a3 a4 hp hc h1 h2 h3 h4
    have hcp : (nI p).toNatClampNeg = p := nI_clamp (by omega)
    have hv : vp_in (nI p) 12 := vp_in_nI (by omega) (by decide)
    have h0 : ¬ nI p < 0 := nI_pos (by omega)
    have q1 : a1 p = zo p := h1.1 p (by omega)
    have q3 : a3 p = zp p := h3.1 p (by omega)
    have hm := hk_cnm f (p + 1) w (by omega)
    have hle := hk_cnle f w
    have hle2 : hk_cn f w - hk_cn f (p + 1) ≤ w - (p + 1) := by
      have : ∀ d, hk_cn f (p + 1 + d) ≤ hk_cn f (p + 1) + d := fun d => by
        induction d with
        | zero => exact Nat.le_refl _
        | succ d ihd =>
          show hk_cn f (p + 1 + d + 1) ≤ _
          rw [hk_cns]
          by_cases z : f (p + 1 + d) = true
          · rw [if_pos z]; omega
          · rw [if_neg z]; omega
      have := this (w - (p + 1))
      rw [show p + 1 + (w - (p + 1)) = w by omega] at this
      omega
    by_cases hfp : f p = true
    · obtain ⟨z1, z2⟩ := (hf p (by omega)).mp hfp
      rw [hk_cnt hfp] at hc hm
      obtain ⟨b1, b2, b3, b4, c1, c2, c3, c4, H'⟩ := ih c a1 a2 a3 a4 (by omega) (by omega) (hk_iyk h1 hfp) (hk_iyk h2 hfp) (hk_iyk h3 hfp) (hk_iyk h4 hfp)
      refine ⟨b1, b2, b3, b4, c1, c2, c3, c4, fun post J5 hp => ?_⟩
      rw [pk_m1]
      exact br_f h0 ⟨hv, br_f (by rw [hcp, q1]; exact z1) ⟨hv, br_f (by rw [hcp, q3]; exact z2) (nm_e (H' post J5 hp))⟩⟩
    · rw [hk_cnf hfp] at hc hm hle2
      obtain ⟨c', rfl⟩ : ∃ c', c = c' + 1 := ⟨p + (hk_cn f w - hk_cn f p), by omega⟩
      have hc' : c' = p + (hk_cn f w - hk_cn f p) := by omega
      obtain ⟨b1, b2, b3, b4, c1, c2, c3, c4, H'⟩ := ih c' _ _ _ _ (by omega) hc' (hk_iyd hc' h1 hfp) (hk_iyd hc' h2 hfp) (hk_iyd hc' h3 hfp) (hk_iyd hc' h4 hfp)
      have key : ∀ (post : SY → Prop) J5, ((K o = 1 → wY_sweep_71 post J5 (nI o) (P o) md (nI (hk_cn f w)) K N E P ow C H R U gv ga gb yw vv f1 r1 f2 r2 yp qk qn qs b1 b2 b3 b4) ∧ (¬ K o = 1 → wY_sweep_71 post J5 (nI o) (-1) md (nI (hk_cn f w)) K N E P ow C H R U gv ga gb yw vv f1 r1 f2 r2 yp qk qn qs b1 b2 b3 b4)) → wY_sweep_40 post J5 (wY_sweep_16 post J5 (nI o) (p + 1)) (nI o) (nI p) md (nI (c' + 1)) K N E P ow C H R U gv ga gb yw vv f1 r1 f2 r2 yp qk qn qs a1 a2 a3 a4 := fun post J5 hp => by
        unfold wY_sweep_40
        refine hk_yuw (w := c') (by omega) (by omega) ?_
        exact nm_e (H' post J5 hp)
      refine ⟨b1, b2, b3, b4, c1, c2, c3, c4, fun post J5 hp => ?_⟩
      rw [pk_m1]
      refine br_f h0 ⟨hv, ?_⟩
      by_cases z1 : zo p = nI o
      · exact br_t (by rw [hcp, q1]; exact z1) (key post J5 hp)
      · have z2 : zp p = nI o := Classical.byContradiction fun z2 => hfp ((hf p (by omega)).mpr ⟨z1, z2⟩)
        exact br_f (by rw [hcp, q1]; exact z1) ⟨hv, br_t (by rw [hcp, q3]; exact z2) (key post J5 hp)⟩
theorem hk_ydw {o : Nat} (ho : o < 16) (hw : w ≤ 12) {f : Nat → Bool} (hf : ∀ i, i < w → (f i = true ↔ zo i ≠ nI o ∧ zp i ≠ nI o)) : ∃ b1 b2 b3 b4 : Nat → Int32, hk_cmp f w zo b1 ∧ hk_cmp f w zb b2 ∧ hk_cmp f w zp b3 ∧ hk_cmp f w zk b4 ∧ ∀ (post : SY → Prop) J5, ((K o = 1 → wY_sweep_71 post J5 (nI o) (P o) md (nI (hk_cn f w)) K N E P ow C H R U gv ga gb yw vv f1 r1 f2 r2 yp qk qn qs b1 b2 b3 b4) ∧ (¬ K o = 1 → wY_sweep_71 post J5 (nI o) (-1) md (nI (hk_cn f w)) K N E P ow C H R U gv ga gb yw vv f1 r1 f2 r2 yp qk qn qs b1 b2 b3 b4)) → ∃ n, wY_sweep_16 post J5 (nI o) n (nI w - 1) md (nI w) K N E P ow C H R U gv ga gb yw vv f1 r1 f2 r2 yp qk qn qs zo zb zp zk := by
  have h0 : ∀ a : Nat → Int32, hk_iy f w w a a := fun a => ⟨fun _ _ => rfl, fun j h1 h2 => absurd h2 (by omega)⟩
  obtain ⟨b1, b2, b3, b4, c1, c2, c3, c4, H'⟩ := hk_ydwl (md := md) (K := K) (N := N) (E := E) (P := P) (ow := ow) (C := C) (H := H) (R := R) (U := U) (gv := gv) (ga := ga) (gb := gb) (yw := yw) (vv := vv) (f1 := f1) (r1 := r1) (f2 := f2) (r2 := r2) (yp := yp) (qk := qk) (qn := qn) (qs := qs) (zo := zo) (zb := zb) (zp := zp) (zk := zk) (w := w) ho hw hf w w zo zb zp zk (Nat.le_refl _) (by omega) (h0 _) (h0 _) (h0 _) (h0 _)
  refine ⟨b1, b2, b3, b4, c1, c2, c3, c4, fun post J5 hp => ⟨w + 1, ?_⟩⟩
  rw [Int32.sub_eq_add_neg]
  exact H' post J5 hp
end
