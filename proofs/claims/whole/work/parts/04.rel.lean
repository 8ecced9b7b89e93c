/-- a process that does not run has no handle -/
def hk_F (U H : Nat → Int32) : Prop := ∀ c, c < 4 → U c = 0 → ∀ j, j < 10 → H (c * 10 + j) = -1
def i_Rel (_ : Nat) (u : SX) (v : SY) : Prop := ∃ (md : Int32) (w : Nat) (K N S P O C U G H R xw mv co cr xp pk pn ps wo wb wp wk E ow gv ga gb yw vv f1 r1 f2 r2 yp qk qn qs zo zb zp zk : Nat → Int32), u = (md, nI w, K, N, S, P, O, C, U, G, H, R, xw, mv, co, cr, xp, pk, pn, ps, wo, wb, wp, wk) ∧ v = (md, nI w, K, N, E, P, ow, C, H, R, U, gv, ga, gb, yw, vv, f1, r1, f2, r2, yp, qk, qn, qs, zo, zb, zp, zk) ∧ (hk_K K ∧ hk_H K H ∧ hk_X K xw xp ∧ hk_M K xw mv co cr yw vv f1 r1 f2 r2 ∧ hk_P K xp pk pn ps yp qk qn qs ∧ hk_E K P ∧ hk_O K O ow ∧ hk_S K P S E ow U yw yp ∧ hk_W K w wo wb wp wk zo zb zp zk ∧ hk_G G gv ga gb) ∧ hk_Q w S wo wb ∧ hk_F U H
theorem i_up {k : Nat} {u : SX} {v : SY} (h : i_Rel k u v) : i_Rel (k + 6) u v := h
section
variable {md : Int32} {w : Nat} {K N S P O C U G H R xw mv co cr xp pk pn ps wo wb wp wk : Nat → Int32} {E ow gv ga gb yw vv f1 r1 f2 r2 yp qk qn qs zo zb zp zk : Nat → Int32}
theorem hk_mk {k : Nat} (hR : (hk_K K ∧ hk_H K H ∧ hk_X K xw xp ∧ hk_M K xw mv co cr yw vv f1 r1 f2 r2 ∧ hk_P K xp pk pn ps yp qk qn qs ∧ hk_E K P ∧ hk_O K O ow ∧ hk_S K P S E ow U yw yp ∧ hk_W K w wo wb wp wk zo zb zp zk ∧ hk_G G gv ga gb)) (hQ : hk_Q w S wo wb) (hF : hk_F U H) : i_Rel k (md, nI w, K, N, S, P, O, C, U, G, H, R, xw, mv, co, cr, xp, pk, pn, ps, wo, wb, wp, wk) (md, nI w, K, N, E, P, ow, C, H, R, U, gv, ga, gb, yw, vv, f1, r1, f2, r2, yp, qk, qn, qs, zo, zb, zp, zk) := ⟨md, w, K, N, S, P, O, C, U, G, H, R, xw, mv, co, cr, xp, pk, pn, ps, wo, wb, wp, wk, E, ow, gv, ga, gb, yw, vv, f1, r1, f2, r2, yp, qk, qn, qs, zo, zb, zp, zk, rfl, rfl, hR, hQ, hF⟩
theorem hk_plF {a b : Nat} {x : Int32} (ha : a < 4) (hb : b < 10) (hF : hk_F U H) (hu : U a ≠ 0) : hk_F U (upd H (a * 10 + b) x) := by
  intro c hc hz j hj
  have : c ≠ a := fun e => hu (by rw [← e]; exact hz)
  rw [pk_un (by omega)]
  exact hF c hc hz j hj
theorem hk_clF {i : Nat} (hF : hk_F U H) : hk_F U (upd H i (-1)) := by
  intro c hc hz j hj
  by_cases e : c * 10 + j = i
  · rw [e, pk_us]
  · rw [pk_un e]
    exact hF c hc hz j hj
theorem hk_plH {i : Nat} {x : Int32} (hH : hk_H K H) (hx : hk_rf K x) : hk_H K (upd H i x) := by
  intro j hj
  by_cases e : j = i
  · subst e; rw [pk_us]; exact hx
  · rw [pk_un e]; exact hH j hj
theorem hk_rfm {K' : Nat → Int32} (h : ∀ e, K e ≠ -1 → K' e ≠ -1) {x : Int32} (hx : hk_rf K x) : hk_rf K' x := by
  rcases hx with e | ⟨o, ho, e, z⟩
  · exact Or.inl e
  · exact Or.inr ⟨o, ho, e, h o z⟩
theorem hk_cre (D : Nat → Prop) {K' S' P' O' E' ow' U' yw' yp' : Nat → Int32} (hR : (hk_K K ∧ hk_H K H ∧ hk_X K xw xp ∧ hk_M K xw mv co cr yw vv f1 r1 f2 r2 ∧ hk_P K xp pk pn ps yp qk qn qs ∧ hk_E K P ∧ hk_O K O ow ∧ hk_S K P S E ow U yw yp ∧ hk_W K w wo wb wp wk zo zb zp zk ∧ hk_G G gv ga gb)) (hQ : hk_Q w S wo wb)
    (hD : ∀ e, D e → K e = -1)
    (hA : ∀ e, ¬ D e → K' e = K e ∧ P' e = P e ∧ S' e = S e ∧ E' e = E e ∧ O' e = O e ∧ ow' e = ow e ∧ yw' e = yw e ∧ yp' e = yp e)
    (hN : ∀ e, e < 16 → D e → hk_kd (K' e) ∧ K' e ≠ -1 ∧ yw' e = 0 ∧ yp' e = 0 ∧ S' e = hk_sg K' P' E' ow' U' yw' yp' e ∧ (P' e = -1 ∨ (K' e = 1 ∧ ∃ f, f < 16 ∧ f ≠ e ∧ P' e = nI f ∧ K' f = 1 ∧ P' f = nI e)) ∧ (K' e = 4 → ∃ p, p < 4 ∧ O' e = nI p ∧ ow' e = nI p ∧ ∀ i, i < 16 → i ≠ e → K' i = 4 → ow' i ≠ nI p))
    (hU : ∀ e, e < 16 → K e = 4 → U' (ow e).toNatClampNeg = U (ow e).toNatClampNeg) :
    (hk_K K' ∧ hk_H K' H ∧ hk_X K' xw xp ∧ hk_M K' xw mv co cr yw' vv f1 r1 f2 r2 ∧ hk_P K' xp pk pn ps yp' qk qn qs ∧ hk_E K' P' ∧ hk_O K' O' ow' ∧ hk_S K' P' S' E' ow' U' yw' yp' ∧ hk_W K' w wo wb wp wk zo zb zp zk ∧ hk_G G gv ga gb) ∧ hk_Q w S' wo wb := by
  obtain ⟨hK, hH, hX, hM, hP, hE, hO, hS, hW, hG⟩ := hR
  have hm : ∀ e, K e ≠ -1 → K' e ≠ -1 := fun e z => by
    have hd : ¬ D e := fun d => z (hD e d)
    rw [(hA e hd).1]; exact z
  have hd : ∀ e, K e ≠ -1 → ¬ D e := fun e z d => z (hD e d)
  have hk1 : ∀ e, K e = 1 → ¬ D e := fun e z d => by rw [hD e d] at z; exact absurd z (by decide)
  have hk3 : ∀ e, K e = 3 → ¬ D e := fun e z d => by rw [hD e d] at z; exact absurd z (by decide)
  have hk4 : ∀ e, K e = 4 → ¬ D e := fun e z d => by rw [hD e d] at z; exact absurd z (by decide)
  refine ⟨⟨?_, ?_, ?_, ?_, ?_, ?_, ?_, ?_, ?_, hG⟩, ?_⟩
  · intro i hi
    by_cases z : D i
    · exact (hN i hi z).1
    · rw [(hA i z).1]; exact hK i hi
  · intro i hi
    exact hk_rfm hm (hH i hi)
  · intro e he
    by_cases z : D e
    · have h1 := hD e z
      exact ⟨fun _ => (hX e he).1 (by rw [h1]; decide), fun _ => (hX e he).2 (by rw [h1]; decide)⟩
    · rw [(hA e z).1]; exact hX e he
  · intro e he h1
    by_cases z : D e
    · refine ⟨0, by omega, ?_, ?_, fun j hj => absurd hj (by omega)⟩
      · exact (hX e he).1 (by rw [hD e z]; decide)
      · exact (hN e he z).2.2.1
    · rw [(hA e z).1] at h1
      obtain ⟨n, hn, e1, e2, h⟩ := hM e he h1
      refine ⟨n, hn, e1, by rw [(hA e z).2.2.2.2.2.2.1]; exact e2, fun j hj => ?_⟩
      obtain ⟨c1, c2, c3, c4, c5, c6, c7⟩ := h j hj
      exact ⟨c1, c2, c3, hk_rfm hm c4, hk_rfm hm c5, c6, c7⟩
  · intro e he h1
    by_cases z : D e
    · refine ⟨0, by omega, ?_, ?_, fun j hj => absurd hj (by omega)⟩
      · exact (hX e he).2 (by rw [hD e z]; decide)
      · exact (hN e he z).2.2.2.1
    · rw [(hA e z).1] at h1
      obtain ⟨n, hn, e1, e2, h⟩ := hP e he h1
      exact ⟨n, hn, e1, by rw [(hA e z).2.2.2.2.2.2.2]; exact e2, h⟩
  · intro e he h1
    by_cases z : D e
    · exact (hN e he z).2.2.2.2.2.1
    · rw [(hA e z).1] at h1
      rw [(hA e z).1, (hA e z).2.1]
      rcases hE e he h1 with h | ⟨h2, f, hf, hfe, e1, e2, e3⟩
      · exact Or.inl h
      · refine Or.inr ⟨h2, f, hf, hfe, e1, ?_, ?_⟩
        · rw [(hA f (hk1 f e2)).1]; exact e2
        · rw [(hA f (hk1 f e2)).2.1]; exact e3
  · refine ⟨fun e he h1 => ?_, fun e e' he he' h1 h2 h3 => ?_⟩
    · by_cases z : D e
      · obtain ⟨p, hp, e1, e2, -⟩ := (hN e he z).2.2.2.2.2.2 h1
        exact ⟨p, hp, e1, e2⟩
      · rw [(hA e z).1] at h1
        obtain ⟨p, hp, e1, e2⟩ := hO.1 e he h1
        exact ⟨p, hp, by rw [(hA e z).2.2.2.2.1]; exact e1, by rw [(hA e z).2.2.2.2.2.1]; exact e2⟩
    · by_cases z : D e
      · obtain ⟨p, hp, e1, e2, e3⟩ := (hN e he z).2.2.2.2.2.2 h1
        by_cases y : e' = e
        · exact y.symm
        · exact absurd (h3.symm.trans e2) (e3 e' he' y h2)
      · by_cases z' : D e'
        · obtain ⟨p, hp, e1, e2, e3⟩ := (hN e' he' z').2.2.2.2.2.2 h2
          by_cases y : e = e'
          · exact y
          · exact absurd (h3.trans e2) (e3 e he y h1)
        · rw [(hA e z).1] at h1
          rw [(hA e' z').1] at h2
          rw [(hA e z).2.2.2.2.2.1, (hA e' z').2.2.2.2.2.1] at h3
          exact hO.2 e e' he he' h1 h2 h3
  · intro e he h1
    by_cases z : D e
    · exact (hN e he z).2.2.2.2.1
    · obtain ⟨a1, a2, a3, a4, a5, a6, a7, a8⟩ := hA e z
      rw [a1] at h1
      rw [a3, hS e he h1]
      unfold hk_sg
      rw [a1, a2, a4, a6, a7, a8]
      by_cases y : K e = 4
      · rw [hU e he y]
      · rw [if_neg y, if_neg y]
  · refine ⟨hW.1, fun i hi => ?_⟩
    obtain ⟨c1, c2, c3, c4, ⟨o, ho, e1, e2⟩, q, hq, e3, e4⟩ := hW.2 i hi
    exact ⟨c1, c2, c3, c4, ⟨o, ho, e1, hm o e2⟩, q, hq, e3, by rw [(hA q (hk3 q e4)).1]; exact e4⟩
  · intro i hi
    obtain ⟨c1, c2, c3, c4, ⟨o, ho, e1, e2⟩, -⟩ := hW.2 i hi
    have := hQ i hi
    rw [c1, e1, nI_clamp (by omega)] at this ⊢
    rw [(hA o (hd o e2)).2.2.1]
    exact this
end
