section
theorem pk_us {f : Nat → Int32} {k : Nat} {x : Int32} : upd f k x k = x := if_pos rfl
theorem pk_un {f : Nat → Int32} {k j : Nat} {x : Int32} (h : j ≠ k) : upd f k x j = f j := if_neg h
theorem pk_sub {a b : Nat} (h : b ≤ a) : nI a - nI b = nI (a - b) := by
  obtain ⟨c, rfl⟩ : ∃ c, a = c + b := ⟨a - b, by omega⟩
  rw [← nI_add, Int32.add_sub_cancel, Nat.add_sub_cancel]
theorem pk_m1 (n : Nat) : nI (n + 1) + (-1) = nI n := by
  rw [← nI_1, Int32.add_assoc, show (1 : Int32) + (-1) = 0 from rfl, Int32.add_zero]
theorem pk_mul (a b : Nat) : nI a * nI b = nI (a * b) := (Int32.ofNat_mul a b).symm
theorem pk_ix (x : Int32) {n : Nat} (hn : n < 2 ^ 31) : x < 0 ∨ nI n ≤ x ∨ ∃ j : Nat, j < n ∧ x = nI j := by
  by_cases h : x < 0
  · exact Or.inl h
  · obtain ⟨j, hj, rfl⟩ := nI_of h
    by_cases h2 : j < n
    · exact Or.inr (Or.inr ⟨j, h2, rfl⟩)
    · exact Or.inr (Or.inl (nI_le (by omega) hj))
theorem pk_le {x y : Int32} {A B : Prop} (a b : Nat) (f : a ≤ b → A) (g : b < a → B) (hx : x = nI a := by rfl) (hy : y = nI b := by rfl) (ha : a < 2 ^ 31 := by omega) (hb : b < 2 ^ 31 := by omega) : (x ≤ y → A) ∧ (¬ x ≤ y → B) := by
  subst hx hy
  rw [nI_leI ha hb]
  exact ⟨f, fun z => g (by omega)⟩
theorem pk_lt {x y : Int32} {A B : Prop} (a b : Nat) (f : a < b → A) (g : b ≤ a → B) (hx : x = nI a := by rfl) (hy : y = nI b := by rfl) (ha : a < 2 ^ 31 := by omega) (hb : b < 2 ^ 31 := by omega) : (x < y → A) ∧ (¬ x < y → B) := by
  subst hx hy
  rw [nI_ltI ha hb]
  exact ⟨f, fun z => g (by omega)⟩
theorem pk_eq {x y : Int32} {A B : Prop} (a b : Nat) (f : a = b → A) (g : a ≠ b → B) (hx : x = nI a := by rfl) (hy : y = nI b := by rfl) (ha : a < 2 ^ 31 := by omega) (hb : b < 2 ^ 31 := by omega) : (x = y → A) ∧ (¬ x = y → B) := by
  subst hx hy
  rw [nI_eq ha hb]
  exact ⟨f, g⟩
theorem pk_in {x : Int32} (n N : Nat) (h : n < N) (hx : x = nI n := by rfl) (hN : N < 2 ^ 31 := by omega) : vp_in x N := by
  subst hx
  exact vp_in_nI h hN
theorem pk_cl {x : Int32} (n : Nat) (hx : x = nI n := by rfl) (h : n < 2 ^ 31 := by omega) : x.toNatClampNeg = n := by
  subst hx
  exact nI_clamp h

def hk_kd (x : Int32) : Prop := x = -1 ∨ x = 0 ∨ x = 1 ∨ x = 2 ∨ x = 3 ∨ x = 4
def hk_rf (K : Nat → Int32) (x : Int32) : Prop := x = -1 ∨ ∃ o : Nat, o < 16 ∧ x = nI o ∧ K o ≠ -1
def hk_K (K : Nat → Int32) : Prop := ∀ i, i < 16 → hk_kd (K i)
def hk_H (K H : Nat → Int32) : Prop := ∀ i, i < 40 → hk_rf K (H i)
def hk_X (K xw xp : Nat → Int32) : Prop := ∀ e, e < 16 → (K e ≠ 1 → xw e = 0) ∧ (K e ≠ 3 → xp e = 0)
def hk_ms (K mv co cr vv f1 r1 f2 r2 : Nat → Int32) (i : Nat) : Prop := mv i = vv i ∧ co (i * 2) = f1 i ∧ co (i * 2 + 1) = f2 i ∧ hk_rf K (f1 i) ∧ hk_rf K (f2 i) ∧ (f1 i ≠ -1 → cr (i * 2) = r1 i) ∧ (f2 i ≠ -1 → cr (i * 2 + 1) = r2 i)
def hk_M (K xw mv co cr yw vv f1 r1 f2 r2 : Nat → Int32) : Prop := ∀ e, e < 16 → K e = 1 → ∃ n, n ≤ 4 ∧ xw e = nI n ∧ yw e = nI n ∧ ∀ j, j < n → hk_ms K mv co cr vv f1 r1 f2 r2 (e * 4 + j)
def hk_P (K xp pk pn ps yp qk qn qs : Nat → Int32) : Prop := ∀ e, e < 16 → K e = 3 → ∃ n, n ≤ 6 ∧ xp e = nI n ∧ yp e = nI n ∧ ∀ j, j < n → pk (e * 6 + j) = qk (e * 6 + j) ∧ pn (e * 6 + j) = qn (e * 6 + j) ∧ ps (e * 6 + j) = qs (e * 6 + j)
def hk_E (K P : Nat → Int32) : Prop := ∀ e, e < 16 → K e ≠ -1 → P e = -1 ∨ (K e = 1 ∧ ∃ f, f < 16 ∧ f ≠ e ∧ P e = nI f ∧ K f = 1 ∧ P f = nI e)
def hk_O (K O ow : Nat → Int32) : Prop := (∀ o, o < 16 → K o = 4 → ∃ p, p < 4 ∧ O o = nI p ∧ ow o = nI p) ∧ (∀ o o', o < 16 → o' < 16 → K o = 4 → K o' = 4 → ow o = ow o' → o = o')
def hk_sg (K P E ow U yw yp : Nat → Int32) (o : Nat) : Int32 := if K o = 0 then E o else if K o = 1 then (if yw o ≤ 0 then 0 else 256) + (if 0 ≤ P o then 0 else 512) else if K o = 3 then (if yp o ≤ 0 then 0 else 256) else if K o = 4 then (if U (ow o).toNatClampNeg = 0 then 1024 else 0) else 0
def hk_S (K P S E ow U yw yp : Nat → Int32) : Prop := ∀ o, o < 16 → K o ≠ -1 → S o = hk_sg K P E ow U yw yp o
def hk_w1 (K wo wb wp wk zo zb zp zk : Nat → Int32) (i : Nat) : Prop := wo i = zo i ∧ wb i = zb i ∧ wp i = zp i ∧ wk i = zk i ∧ (∃ o, o < 16 ∧ zo i = nI o ∧ K o ≠ -1) ∧ (∃ q, q < 16 ∧ zp i = nI q ∧ K q = 3)
def hk_W (K : Nat → Int32) (w : Nat) (wo wb wp wk zo zb zp zk : Nat → Int32) : Prop := w ≤ 12 ∧ ∀ i, i < w → hk_w1 K wo wb wp wk zo zb zp zk i
def hk_G (G gv ga gb : Nat → Int32) : Prop := ∀ p, p < 4 → G (p * 3) = gv p ∧ G (p * 3 + 1) = ga p ∧ G (p * 3 + 2) = gb p
def hk_Q (w : Nat) (S wo wb : Nat → Int32) : Prop := ∀ i, i < w → wb i &&& S (wo i).toNatClampNeg = 0
def hk_run (U : Nat → Int32) (p : Int32) : Prop := ∃ a : Nat, a < 4 ∧ p = nI a ∧ U a ≠ 0

/-- the shift of a row of cells by one, from i up to n -/
def hk_g (i n j : Nat) : Nat := if i ≤ j ∧ j < n then j + 1 else j
def hk_sh (a : Nat → Int32) (i n : Nat) : Nat → Int32 := fun j => a (hk_g i n j)

theorem hk_m10 (a b : Nat) : nI a * 10 + nI b = nI (a * 10 + b) := by rw [← nI_add, ← pk_mul]; rfl
theorem hk_10m (a b : Nat) : 10 * nI a + nI b = nI (a * 10 + b) := by rw [Int32.mul_comm]; exact hk_m10 a b
theorem hk_m8 (a b : Nat) : nI a * 8 + nI b = nI (a * 8 + b) := by rw [← nI_add, ← pk_mul]; rfl
theorem hk_8m (a b : Nat) : 8 * nI a + nI b = nI (a * 8 + b) := by rw [Int32.mul_comm]; exact hk_m8 a b
theorem hk_m4 (a : Nat) : nI a * 4 = nI (a * 4) := by rw [← pk_mul]; rfl
theorem hk_4m (a : Nat) : 4 * nI a = nI (a * 4) := by rw [Int32.mul_comm]; exact hk_m4 a
theorem hk_m6 (a : Nat) : nI a * 6 = nI (a * 6) := by rw [← pk_mul]; rfl
theorem hk_6m (a : Nat) : 6 * nI a = nI (a * 6) := by rw [Int32.mul_comm]; exact hk_m6 a
theorem hk_m3 (a : Nat) : nI a * 3 = nI (a * 3) := by rw [← pk_mul]; rfl
theorem hk_m2 (a : Nat) : nI a * 2 = nI (a * 2) := by rw [← pk_mul]; rfl
theorem hk_8m' (a : Nat) : 8 * nI a = nI (a * 8) := by rw [Int32.mul_comm, ← pk_mul]; rfl
theorem hk_10m' (a : Nat) : 10 * nI a = nI (a * 10) := by rw [Int32.mul_comm, ← pk_mul]; rfl
theorem hk_ne (o : Nat) (h : o < 2 ^ 31) : nI o ≠ -1 := fun e => by
  have h1 := nI_toInt h
  rw [e] at h1
  have h2 : (-1 : Int32).toInt = -1 := by decide
  omega
theorem hk_nn {x : Int32} (h : x = -1) : x < 0 := by subst h; decide
theorem hk_kdn {x : Int32} (h : hk_kd x) (h1 : x ≠ -1) : ¬ x < 0 := by
  rcases h with e | e | e | e | e | e
  · exact absurd e h1
  all_goals subst e; decide
theorem hk_rfn {K : Nat → Int32} {x : Int32} (h : hk_rf K x) (h1 : x ≠ -1) : ∃ o, o < 16 ∧ x = nI o ∧ K o ≠ -1 := by
  rcases h with e | e
  · exact absurd e h1
  · exact e
theorem hk_gl {i n j : Nat} (h : j < i) : hk_g i n j = j := if_neg (by omega)
theorem hk_gm {i n j : Nat} (h : i ≤ j) (h2 : j < n) : hk_g i n j = j + 1 := if_pos ⟨h, h2⟩
theorem hk_gr {i n j : Nat} (h : n ≤ j) : hk_g i n j = j := if_neg (by omega)
theorem hk_sh0 (a : Nat → Int32) (n : Nat) : hk_sh a n n = a := by
  funext j
  show a (hk_g n n j) = a j
  unfold hk_g
  rw [if_neg (by omega)]
/-- one more step of a shift: the cell n takes what n + 1 held -/
theorem hk_shs (a : Nat → Int32) {i n : Nat} (h : i ≤ n) : upd (hk_sh a i n) n (hk_sh a i n (n + 1)) = hk_sh a i (n + 1) := by
  funext j
  show (if j = n then a (hk_g i n (n + 1)) else a (hk_g i n j)) = a (hk_g i (n + 1) j)
  unfold hk_g
  by_cases e : j = n
  · subst e
    rw [if_pos rfl, if_neg (by omega), if_pos (by omega)]
  · rw [if_neg e]
    by_cases e2 : i ≤ j ∧ j < n
    · rw [if_pos e2, if_pos (by omega)]
    · rw [if_neg e2, if_neg (by omega)]
theorem hk_andw {x m b : Int32} (h : b &&& x = 0) : b &&& (x &&& m) = 0 := by
  rw [← Int32.and_assoc, h]
  exact Int32.zero_and
theorem hk_b1 : vp_nar .boolean 1 ≠ 0 := by decide
theorem hk_b0 : vp_nar .boolean 0 = 0 := by decide
theorem hk_least (P : Nat → Prop) (h : ∃ k, P k) : ∃ k, P k ∧ ∀ j, j < k → ¬ P j := by
  obtain ⟨k, hk⟩ := h
  induction k using Nat.strongRecOn with
  | ind k ih =>
    by_cases z : ∃ j, j < k ∧ P j
    · obtain ⟨j, hj, pj⟩ := z
      exact ih j hj pj
    · exact ⟨k, hk, fun j hj pj => z ⟨j, hj, pj⟩⟩
theorem hk_u {f : Nat → Int32} {i x : Int32} {n : Nat} (h : i.toNatClampNeg = n) : upd f i.toNatClampNeg x = upd f n x := by rw [h]
/-- zeroes from lo up to n -/
def hk_cz (C : Nat → Int32) (lo n : Nat) : Nat → Int32 := fun j => if lo ≤ j ∧ j < n then 0 else C j
theorem hk_cz0 (C : Nat → Int32) (lo : Nat) : hk_cz C lo lo = C := by
  funext j
  unfold hk_cz
  rw [if_neg (by omega)]
theorem hk_czs (C : Nat → Int32) {lo n : Nat} (h : lo ≤ n) : upd (hk_cz C lo n) n 0 = hk_cz C lo (n + 1) := by
  funext j
  unfold hk_cz upd
  by_cases e : j = n
  · subst e
    rw [if_pos rfl, if_pos (by omega)]
  · rw [if_neg e]
    show (if lo ≤ j ∧ j < n then 0 else C j) = _
    by_cases e2 : lo ≤ j ∧ j < n
    · rw [if_pos e2, if_pos (by omega)]
    · rw [if_neg e2, if_neg (by omega)]
end
section
def hk_cn (f : Nat → Bool) : Nat → Nat
  | 0 => 0
  | n + 1 => hk_cn f n + (if f n = true then 1 else 0)
theorem hk_cns {f : Nat → Bool} {n : Nat} : hk_cn f (n + 1) = hk_cn f n + (if f n = true then 1 else 0) := rfl
theorem hk_cnt {f : Nat → Bool} {n : Nat} (h : f n = true) : hk_cn f (n + 1) = hk_cn f n + 1 := by rw [hk_cns, if_pos h]
theorem hk_cnf {f : Nat → Bool} {n : Nat} (h : ¬ f n = true) : hk_cn f (n + 1) = hk_cn f n := by rw [hk_cns, if_neg h]; rfl
theorem hk_cnle (f : Nat → Bool) : ∀ n, hk_cn f n ≤ n
  | 0 => Nat.le_refl 0
  | n + 1 => by
    have := hk_cnle f n
    rw [hk_cns]
    by_cases h : f n = true
    · rw [if_pos h]; omega
    · rw [if_neg h]; omega
theorem hk_cnlt (f : Nat → Bool) : ∀ n, hk_cn f n < n → ∃ i, i < n ∧ f i = false
  | 0, h => absurd h (Nat.not_lt_zero _)
  | n + 1, h => by
    by_cases hf : f n = true
    · rw [hk_cnt hf] at h
      obtain ⟨i, hi, e⟩ := hk_cnlt f n (by omega)
      exact ⟨i, by omega, e⟩
    · exact ⟨n, by omega, by simpa using hf⟩
theorem hk_cnpos (f : Nat → Bool) : ∀ n, 0 < hk_cn f n → ∃ i, i < n ∧ f i = true
  | 0, h => absurd h (Nat.not_lt_zero _)
  | n + 1, h => by
    by_cases hf : f n = true
    · exact ⟨n, by omega, hf⟩
    · rw [hk_cnf hf] at h
      obtain ⟨i, hi, e⟩ := hk_cnpos f n h
      exact ⟨i, by omega, e⟩
theorem hk_cn0 (f : Nat → Bool) : ∀ n, hk_cn f n = 0 → ∀ i, i < n → f i = false
  | 0, _, i, hi => absurd hi (Nat.not_lt_zero _)
  | n + 1, h, i, hi => by
    by_cases hf : f n = true
    · rw [hk_cnt hf] at h; omega
    · rw [hk_cnf hf] at h
      by_cases e : i = n
      · subst e; simpa using hf
      · exact hk_cn0 f n h i (by omega)
theorem hk_cneq (f g : Nat → Bool) : ∀ n, (∀ i, i < n → f i = g i) → hk_cn f n = hk_cn g n
  | 0, _ => rfl
  | n + 1, h => by rw [hk_cns, hk_cns, h n (by omega), hk_cneq f g n (fun i hi => h i (by omega))]
theorem hk_cnup (f g : Nat → Bool) (o : Nat) (h1 : f o = false) (h2 : g o = true) (h : ∀ i, i ≠ o → f i = g i) : ∀ n, o < n → hk_cn g n = hk_cn f n + 1
  | 0, z => absurd z (Nat.not_lt_zero _)
  | n + 1, z => by
    by_cases e : o = n
    · subst e
      rw [hk_cnt h2, hk_cnf (by rw [h1]; decide), hk_cneq f g o (fun i hi => h i (by omega))]
    · rw [hk_cns, hk_cns, hk_cnup f g o h1 h2 h n (by omega), h n (by omega)]
      omega
/-- a live slot; a free place -/
def hk_lv (K : Nat → Int32) : Nat → Bool := fun i => decide (K i ≠ -1)
def hk_fp (H : Nat → Int32) (a : Nat) : Nat → Bool := fun j => decide (H (a * 10 + j) = -1)

section
variable {md : Int32} {w : Nat} {K N S P O C U G H R xw mv co cr xp pk pn ps wo wb wp wk : Nat → Int32} {E ow gv ga gb yw vv f1 r1 f2 r2 yp qk qn qs zo zb zp zk : Nat → Int32}
theorem hk_xr1 {post : Int32 → Prop} {a : Nat} (ha : a < 4) (hu : U a ≠ 0) (h : post 1) : wpX_runs post (md, nI w, K, N, S, P, O, C, U, G, H, R, xw, mv, co, cr, xp, pk, pn, ps, wo, wb, wp, wk) (nI a) :=
  br_f (nI_pos (by omega)) (br_f (nI_ge (b := 4) ha (by decide)) ⟨vp_in_nI ha (by decide), br_f (by rw [nI_clamp (by omega)]; exact hu) h⟩)
theorem hk_xr0 {post : Int32 → Prop} {p : Int32} (hn : ¬ hk_run U p) (h : post 0) : wpX_runs post (md, nI w, K, N, S, P, O, C, U, G, H, R, xw, mv, co, cr, xp, pk, pn, ps, wo, wb, wp, wk) p := by
  rcases pk_ix p (n := 4) (by decide) with h1 | h1 | ⟨a, ha, rfl⟩
  · exact br_t h1 h
  · exact br_f (Int32.not_lt.mpr (Int32.le_trans (by decide) h1)) (br_t h1 h)
  · refine br_f (nI_pos (by omega)) (br_f (nI_ge (b := 4) ha (by decide)) ⟨vp_in_nI ha (by decide), br_t ?_ h⟩)
    rw [nI_clamp (by omega)]
    exact Classical.byContradiction fun z => hn ⟨a, ha, rfl, z⟩
theorem hk_in1 {post : Int32 → Prop} {j n : Nat} (h : j ≤ n) (hn : n < 2 ^ 31) (hp : post 1) : wpY_in post (nI j) 0 (nI n) :=
  br_f (nI_pos (by omega)) (br_f (nI_nlt h hn) hp)
theorem hk_in0 {post : Int32 → Prop} {x : Int32} {n : Nat} (hx : x < 0 ∨ nI (n + 1) ≤ x) (hn : n + 1 < 2 ^ 31) (hp : post 0) : wpY_in post x 0 (nI n) := by
  rcases hx with h | h
  · exact br_t h hp
  · have h2 : nI n < x := Int32.lt_of_lt_of_le (nI_lt (by omega) hn) h
    exact br_f (Int32.not_lt.mpr (Int32.le_trans (nI_pos' hn) h)) (br_t h2 hp)
theorem hk_yr1 {post : Int32 → Prop} {a : Nat} (ha : a < 4) (hu : U a ≠ 0) (h : post 1) : wpY_isRunning post (md, nI w, K, N, E, P, ow, C, H, R, U, gv, ga, gb, yw, vv, f1, r1, f2, r2, yp, qk, qn, qs, zo, zb, zp, zk) (nI a) := by
  unfold wpY_isRunning
  exact hk_in1 (n := 3) (by omega) (by decide) (br_f (by decide) ⟨vp_in_nI ha (by decide), br_f (by rw [nI_clamp (by omega)]; exact hu) h⟩)
theorem hk_yr0 {post : Int32 → Prop} {p : Int32} (hn : ¬ hk_run U p) (h : post 0) : wpY_isRunning post (md, nI w, K, N, E, P, ow, C, H, R, U, gv, ga, gb, yw, vv, f1, r1, f2, r2, yp, qk, qn, qs, zo, zb, zp, zk) p := by
  unfold wpY_isRunning
  rcases pk_ix p (n := 4) (by decide) with h1 | h1 | ⟨a, ha, rfl⟩
  · exact hk_in0 (n := 3) (Or.inl h1) (by decide) (br_t rfl h)
  · exact hk_in0 (n := 3) (Or.inr h1) (by decide) (br_t rfl h)
  · refine hk_in1 (n := 3) (by omega) (by decide) (br_f (by decide) ⟨vp_in_nI ha (by decide), br_t ?_ h⟩)
    rw [nI_clamp (by omega)]
    exact Classical.byContradiction fun z => hn ⟨a, ha, rfl, z⟩
theorem hk_th1 (hK : hk_K K) (hH : hk_H K H) {a : Nat} (ha : a < 4) (hu : U a ≠ 0) (h k rt : Int32) (hk : k = -1 ∨ ¬ k < 0) : ∃ r : Int32, (∀ post : Int32 → Prop, post r → wpX_testHandle post (md, nI w, K, N, S, P, O, C, U, G, H, R, xw, mv, co, cr, xp, pk, pn, ps, wo, wb, wp, wk) (nI a) h k rt) ∧ (∀ post : Int32 → Prop, post r → wpY_test post (md, nI w, K, N, E, P, ow, C, H, R, U, gv, ga, gb, yw, vv, f1, r1, f2, r2, yp, qk, qn, qs, zo, zb, zp, zk) (nI a) h k rt) ∧ (r = 0 → ∃ b o : Nat, b < 10 ∧ o < 16 ∧ h = nI b ∧ H (a * 10 + b) = nI o ∧ K o ≠ -1 ∧ (k = -1 ∨ K o = k)) := by
  rcases pk_ix h (n := 10) (by decide) with h1 | h1 | ⟨b, hb, rfl⟩
  · refine ⟨-2, fun post hp => ?_, fun post hp => ?_, fun z => absurd z (by decide)⟩
    · unfold wpX_testHandle
      exact hk_xr1 ha hu (br_f (by decide) (br_t h1 hp))
    · unfold wpY_test
      exact hk_in0 (n := 9) (Or.inl h1) (by decide) (br_t rfl hp)
  · refine ⟨-2, fun post hp => ?_, fun post hp => ?_, fun z => absurd z (by decide)⟩
    · unfold wpX_testHandle
      exact hk_xr1 ha hu (br_f (by decide) (br_f (Int32.not_lt.mpr (Int32.le_trans (by decide) h1)) (br_f (Int32.not_lt.mpr h1) hp)))
    · unfold wpY_test
      exact hk_in0 (n := 9) (Or.inr h1) (by decide) (br_t rfl hp)
  · have hlt : a * 10 + b < 40 := by omega
    have hc : (nI (a * 10 + b)).toNatClampNeg = a * 10 + b := nI_clamp (by omega)
    have hv : vp_in (nI (a * 10 + b)) 40 := vp_in_nI hlt (by decide)
    have hb0 : ¬ nI b < 0 := nI_pos (by omega)
    have hb1 : nI b < 10 := nI_lt (b := 10) hb (by decide)
    rcases hH (a * 10 + b) hlt with e | ⟨o, ho, e, hko⟩
    · refine ⟨-2, fun post hp => ?_, fun post hp => ?_, fun z => absurd z (by decide)⟩
      · unfold wpX_testHandle
        exact hk_xr1 ha hu (br_f (by decide) (br_f hb0 (br_t hb1 (nm_r (hk_m10 a b) ⟨hv, br_t (by rw [hc]; exact e) hp⟩))))
      · unfold wpY_test
        refine hk_in1 (n := 9) (by omega) (by decide) (br_f (by decide) ?_)
        rw [hk_10m, hc, e]
        exact ⟨hv, br_f (by decide) hp⟩
    · have hne : ¬ H (a * 10 + b) = -1 := by rw [e]; exact hk_ne o (by omega)
      have hge : 0 ≤ H (a * 10 + b) := by rw [e]; exact nI_pos' (by omega)
      have hvo : vp_in (H (a * 10 + b)) 16 := by rw [e]; exact vp_in_nI ho (by decide)
      have hco : (H (a * 10 + b)).toNatClampNeg = o := by rw [e]; exact nI_clamp (by omega)
      have X0 : ∀ post : Int32 → Prop, ((k = -1 → wX_testHandle_69 post rt (nI (a * 10 + b)) md (nI w) K N S P O C U G H R xw mv co cr xp pk pn ps wo wb wp wk) ∧ (¬ k = -1 → (K o = k → wX_testHandle_69 post rt (nI (a * 10 + b)) md (nI w) K N S P O C U G H R xw mv co cr xp pk pn ps wo wb wp wk) ∧ (¬ K o = k → post (-3)))) → wpX_testHandle post (md, nI w, K, N, S, P, O, C, U, G, H, R, xw, mv, co, cr, xp, pk, pn, ps, wo, wb, wp, wk) (nI a) (nI b) k rt := by
        intro post hp
        unfold wpX_testHandle
        refine hk_xr1 ha hu (br_f (by decide) (br_f hb0 (br_t hb1 (nm_r (hk_m10 a b) ⟨hv, br_f (by rw [hc]; exact hne) ?_⟩))))
        refine ⟨hp.1, fun z => ⟨hv, ?_⟩⟩
        rw [hc, hco]
        exact ⟨hvo, hp.2 z⟩
      have Y0 : ∀ post : Int32 → Prop, ((k < 0 → wY_test_58 post rt (nI (a * 10 + b)) md (nI w) K N E P ow C H R U gv ga gb yw vv f1 r1 f2 r2 yp qk qn qs zo zb zp zk) ∧ (¬ k < 0 → (K o = k → wY_test_58 post rt (nI (a * 10 + b)) md (nI w) K N E P ow C H R U gv ga gb yw vv f1 r1 f2 r2 yp qk qn qs zo zb zp zk) ∧ (¬ K o = k → post (-3)))) → wpY_test post (md, nI w, K, N, E, P, ow, C, H, R, U, gv, ga, gb, yw, vv, f1, r1, f2, r2, yp, qk, qn, qs, zo, zb, zp, zk) (nI a) (nI b) k rt := by
        intro post hp
        unfold wpY_test
        refine hk_in1 (n := 9) (by omega) (by decide) (br_f (by decide) ?_)
        rw [hk_10m, hc]
        refine ⟨hv, br_t hge (nm_e ?_)⟩
        refine ⟨hp.1, fun z => ⟨hv, ?_⟩⟩
        rw [hc, hco]
        exact ⟨hvo, hp.2 z⟩
      have fin : (k = -1 ∨ K o = k) → ∃ b' o' : Nat, b' < 10 ∧ o' < 16 ∧ nI b = nI b' ∧ H (a * 10 + b') = nI o' ∧ K o' ≠ -1 ∧ (k = -1 ∨ K o' = k) := fun z => ⟨b, o, hb, ho, rfl, e, hko, z⟩
      by_cases hr : R (a * 10 + b) &&& rt = rt
      · have x1 : ∀ post : Int32 → Prop, post 0 → wX_testHandle_69 post rt (nI (a * 10 + b)) md (nI w) K N S P O C U G H R xw mv co cr xp pk pn ps wo wb wp wk := fun post hp => ⟨hv, br_t (by rw [hc]; exact hr) hp⟩
        have y1 : ∀ post : Int32 → Prop, post 0 → wY_test_58 post rt (nI (a * 10 + b)) md (nI w) K N E P ow C H R U gv ga gb yw vv f1 r1 f2 r2 yp qk qn qs zo zb zp zk := fun post hp => ⟨hv, br_t (by rw [hc]; exact hr) hp⟩
        rcases hk with rfl | hk
        · exact ⟨0, fun post hp => X0 post (br_t rfl (x1 post hp)), fun post hp => Y0 post (br_t (by decide) (y1 post hp)), fun _ => fin (Or.inl rfl)⟩
        · by_cases hkk : K o = k
          · exact ⟨0, fun post hp => X0 post (br_f (fun z => hk (hk_nn z)) (br_t hkk (x1 post hp))), fun post hp => Y0 post (br_f hk (br_t hkk (y1 post hp))), fun _ => fin (Or.inr hkk)⟩
          · exact ⟨-3, fun post hp => X0 post (br_f (fun z => hk (hk_nn z)) (br_f hkk hp)), fun post hp => Y0 post (br_f hk (br_f hkk hp)), fun z => absurd z (by decide)⟩
      · have x1 : ∀ post : Int32 → Prop, post (-4) → wX_testHandle_69 post rt (nI (a * 10 + b)) md (nI w) K N S P O C U G H R xw mv co cr xp pk pn ps wo wb wp wk := fun post hp => ⟨hv, br_f (by rw [hc]; exact hr) hp⟩
        have y1 : ∀ post : Int32 → Prop, post (-4) → wY_test_58 post rt (nI (a * 10 + b)) md (nI w) K N E P ow C H R U gv ga gb yw vv f1 r1 f2 r2 yp qk qn qs zo zb zp zk := fun post hp => ⟨hv, br_f (by rw [hc]; exact hr) hp⟩
        rcases hk with rfl | hk
        · exact ⟨-4, fun post hp => X0 post (br_t rfl (x1 post hp)), fun post hp => Y0 post (br_t (by decide) (y1 post hp)), fun z => absurd z (by decide)⟩
        · by_cases hkk : K o = k
          · exact ⟨-4, fun post hp => X0 post (br_f (fun z => hk (hk_nn z)) (br_t hkk (x1 post hp))), fun post hp => Y0 post (br_f hk (br_t hkk (y1 post hp))), fun z => absurd z (by decide)⟩
          · exact ⟨-3, fun post hp => X0 post (br_f (fun z => hk (hk_nn z)) (br_f hkk hp)), fun post hp => Y0 post (br_f hk (br_f hkk hp)), fun z => absurd z (by decide)⟩
theorem hk_th (hK : hk_K K) (hH : hk_H K H) (p h k rt : Int32) (hk : k = -1 ∨ ¬ k < 0) : ∃ r : Int32, (∀ post : Int32 → Prop, post r → wpX_testHandle post (md, nI w, K, N, S, P, O, C, U, G, H, R, xw, mv, co, cr, xp, pk, pn, ps, wo, wb, wp, wk) p h k rt) ∧ (∀ post : Int32 → Prop, post r → wpY_check post (md, nI w, K, N, E, P, ow, C, H, R, U, gv, ga, gb, yw, vv, f1, r1, f2, r2, yp, qk, qn, qs, zo, zb, zp, zk) p h k rt) ∧ (r = 0 → ∃ a b o : Nat, a < 4 ∧ b < 10 ∧ o < 16 ∧ p = nI a ∧ h = nI b ∧ U a ≠ 0 ∧ H (a * 10 + b) = nI o ∧ K o ≠ -1 ∧ (k = -1 ∨ K o = k)) := by
  by_cases hr : hk_run U p
  · obtain ⟨a, ha, rfl, hu⟩ := hr
    obtain ⟨r, h1, h2, h3⟩ := hk_th1 (md := md) (K := K) (N := N) (S := S) (P := P) (O := O) (C := C) (U := U) (G := G) (H := H) (R := R) (xw := xw) (mv := mv) (co := co) (cr := cr) (xp := xp) (pk := pk) (pn := pn) (ps := ps) (wo := wo) (wb := wb) (wp := wp) (wk := wk) (E := E) (ow := ow) (gv := gv) (ga := ga) (gb := gb) (yw := yw) (vv := vv) (f1 := f1) (r1 := r1) (f2 := f2) (r2 := r2) (yp := yp) (qk := qk) (qn := qn) (qs := qs) (zo := zo) (zb := zb) (zp := zp) (zk := zk) (w := w) hK hH ha hu h k rt hk
    refine ⟨r, h1, fun post hp => ?_, fun z => ?_⟩
    · unfold wpY_check
      exact hk_yr1 ha hu (br_f (by decide) (h2 _ hp))
    · obtain ⟨b, o, hb, ho, e1, e2, e3, e4⟩ := h3 z
      exact ⟨a, b, o, ha, hb, ho, rfl, e1, hu, e2, e3, e4⟩
  · refine ⟨-1, fun post hp => ?_, fun post hp => ?_, fun z => absurd z (by decide)⟩
    · unfold wpX_testHandle
      exact hk_xr0 hr (br_t rfl hp)
    · unfold wpY_check
      exact hk_yr0 hr (br_t rfl hp)
theorem hk_xcnt : ∀ d j, j + d = 16 → ∀ post : Int32 → Prop, post (nI (hk_cn (hk_lv K) 16)) → wX_objectCount_4 post md (nI w) K N S P O C U G H R xw mv co cr xp pk pn ps wo wb wp wk (d + 1) (nI (hk_cn (hk_lv K) j)) (nI j) := by
  intro d
  induction d with
  | zero =>
    intro j hj post hp
    obtain rfl : j = 16 := by omega
    exact br_t (nI_le (a := 16) (b := 16) (by omega) (by decide)) hp
  | succ d ih =>
    intro j hj post hp
    have hc : (nI j).toNatClampNeg = j := nI_clamp (by omega)
    refine br_f (nI_ge (b := 16) (by omega) (by decide)) ⟨vp_in_nI (by omega) (by decide), ?_⟩
    by_cases z : K j = -1
    · refine br_t (by rw [hc]; exact z) (nm_r (nI_1 j) ?_)
      have := ih (j + 1) (by omega) post hp
      rw [hk_cnf (by simp [hk_lv, z])] at this
      exact this
    · refine br_f (by rw [hc]; exact z) (nm_r (nI_1 _) (nm_r (nI_1 j) ?_))
      have := ih (j + 1) (by omega) post hp
      rw [hk_cnt (by simp [hk_lv, z])] at this
      exact this
theorem hk_xoc {post : Int32 → Prop} (hp : post (nI (hk_cn (hk_lv K) 16))) : wpX_objectCount post (md, nI w, K, N, S, P, O, C, U, G, H, R, xw, mv, co, cr, xp, pk, pn, ps, wo, wb, wp, wk) := ⟨17, hk_xcnt 16 0 rfl post hp⟩
theorem hk_ycnt (hK : hk_K K) : ∀ d j, j + d = 16 → ∀ post : Int32 → Prop, post (nI (hk_cn (hk_lv K) 16)) → wY_objects_4 post md (nI w) K N E P ow C H R U gv ga gb yw vv f1 r1 f2 r2 yp qk qn qs zo zb zp zk (d + 1) (nI (hk_cn (hk_lv K) j)) (nI j) := by
  intro d
  induction d with
  | zero =>
    intro j hj post hp
    obtain rfl : j = 16 := by omega
    exact br_t (nI_le (a := 16) (b := 16) (by omega) (by decide)) hp
  | succ d ih =>
    intro j hj post hp
    have hc : (nI j).toNatClampNeg = j := nI_clamp (by omega)
    refine br_f (nI_ge (b := 16) (by omega) (by decide)) ⟨vp_in_nI (by omega) (by decide), ?_⟩
    by_cases z : K j = -1
    · refine br_t (by rw [hc, z]; decide) (nm_r (nI_1 j) ?_)
      have := ih (j + 1) (by omega) post hp
      rw [hk_cnf (by simp [hk_lv, z])] at this
      exact this
    · refine br_f (by rw [hc]; exact hk_kdn (hK j (by omega)) z) (nm_r (nI_1 _) (nm_r (nI_1 j) ?_))
      have := ih (j + 1) (by omega) post hp
      rw [hk_cnt (by simp [hk_lv, z])] at this
      exact this
theorem hk_yoc (hK : hk_K K) {post : Int32 → Prop} (hp : post (nI (hk_cn (hk_lv K) 16))) : wpY_objects post (md, nI w, K, N, E, P, ow, C, H, R, U, gv, ga, gb, yw, vv, f1, r1, f2, r2, yp, qk, qn, qs, zo, zb, zp, zk) := ⟨17, hk_ycnt hK 16 0 rfl post hp⟩
theorem hk_xfpl {a : Nat} (ha : a < 4) : ∀ d j, j + d = 10 → ∀ post : Int32 → Prop, post (nI (hk_cn (hk_fp H a) 10)) → wX_freePlaceCount_4 post (nI a) md (nI w) K N S P O C U G H R xw mv co cr xp pk pn ps wo wb wp wk (d + 1) (nI (hk_cn (hk_fp H a) j)) (nI j) := by
  intro d
  induction d with
  | zero =>
    intro j hj post hp
    obtain rfl : j = 10 := by omega
    exact br_t (nI_le (a := 10) (b := 10) (by omega) (by decide)) hp
  | succ d ih =>
    intro j hj post hp
    have hc : (nI a * 10 + nI j).toNatClampNeg = a * 10 + j := by rw [hk_m10]; exact nI_clamp (by omega)
    refine br_f (nI_ge (b := 10) (by omega) (by decide)) ⟨by rw [hk_m10]; exact vp_in_nI (by omega) (by decide), ?_⟩
    by_cases z : H (a * 10 + j) = -1
    · refine br_t (by rw [hc]; exact z) (nm_r (nI_1 _) (nm_r (nI_1 j) ?_))
      have := ih (j + 1) (by omega) post hp
      rw [hk_cnt (by simp [hk_fp, z])] at this
      exact this
    · refine br_f (by rw [hc]; exact z) (nm_r (nI_1 j) ?_)
      have := ih (j + 1) (by omega) post hp
      rw [hk_cnf (by simp [hk_fp, z])] at this
      exact this
theorem hk_xfc {a : Nat} (ha : a < 4) {post : Int32 → Prop} (hp : post (nI (hk_cn (hk_fp H a) 10))) : wpX_freePlaceCount post (md, nI w, K, N, S, P, O, C, U, G, H, R, xw, mv, co, cr, xp, pk, pn, ps, wo, wb, wp, wk) (nI a) := ⟨11, hk_xfpl ha 10 0 rfl post hp⟩
theorem hk_yfpl (hH : hk_H K H) {a : Nat} (ha : a < 4) : ∀ d j, j + d = 10 → ∀ post : Int32 → Prop, post (nI (hk_cn (hk_fp H a) 10)) → wY_room_4 post (nI a) md (nI w) K N E P ow C H R U gv ga gb yw vv f1 r1 f2 r2 yp qk qn qs zo zb zp zk (d + 1) (nI (hk_cn (hk_fp H a) j)) (nI j) := by
  intro d
  induction d with
  | zero =>
    intro j hj post hp
    obtain rfl : j = 10 := by omega
    exact br_t (nI_le (a := 10) (b := 10) (by omega) (by decide)) hp
  | succ d ih =>
    intro j hj post hp
    have hc : (10 * nI a + nI j).toNatClampNeg = a * 10 + j := by rw [hk_10m]; exact nI_clamp (by omega)
    refine br_f (nI_ge (b := 10) (by omega) (by decide)) ⟨by rw [hk_10m]; exact vp_in_nI (by omega) (by decide), ?_⟩
    rcases hH (a * 10 + j) (by omega) with z | ⟨o, ho, e, -⟩
    · refine br_f (by rw [hc, z]; decide) (nm_r (nI_1 _) (nm_r (nI_1 j) ?_))
      have := ih (j + 1) (by omega) post hp
      rw [hk_cnt (by simp [hk_fp, z])] at this
      exact this
    · refine br_t (by rw [hc, e]; exact nI_pos' (by omega)) (nm_r (nI_1 j) ?_)
      have := ih (j + 1) (by omega) post hp
      rw [hk_cnf (by have := hk_ne o (by omega); simp [hk_fp, e, this])] at this
      exact this
theorem hk_yfc (hH : hk_H K H) {a : Nat} (ha : a < 4) {post : Int32 → Prop} (hp : post (nI (hk_cn (hk_fp H a) 10))) : wpY_room post (md, nI w, K, N, E, P, ow, C, H, R, U, gv, ga, gb, yw, vv, f1, r1, f2, r2, yp, qk, qn, qs, zo, zb, zp, zk) (nI a) := ⟨11, hk_yfpl hH ha 10 0 rfl post hp⟩
theorem hk_yob {a b : Nat} (ha : a < 4) (hb : b < 10) {post : Int32 → Prop} (hp : post (H (a * 10 + b))) : wpY_object post (md, nI w, K, N, E, P, ow, C, H, R, U, gv, ga, gb, yw, vv, f1, r1, f2, r2, yp, qk, qn, qs, zo, zb, zp, zk) (nI a) (nI b) := by
  unfold wpY_object
  dsimp only
  rw [hk_10m, nI_clamp (by omega)]
  exact ⟨vp_in_nI (by omega) (by decide), hp⟩
end
end
section
section
variable {md : Int32} {w : Nat} {K N S P O C U G H R xw mv co cr xp pk pn ps wo wb wp wk : Nat → Int32} {E ow gv ga gb yw vv f1 r1 f2 r2 yp qk qn qs zo zb zp zk : Nat → Int32}
theorem hk_xnhl {a b : Nat} (ha : a < 4) (hb : b < 10) (x r : Int32) (hf : H (a * 10 + b) = -1) (hl : ∀ j, j < b → H (a * 10 + j) ≠ -1) {post : Int32 → SX → Prop} (hp : post (nI b) (md, nI w, K, N, S, P, O, C, U, G, upd H (a * 10 + b) x, upd R (a * 10 + b) r, xw, mv, co, cr, xp, pk, pn, ps, wo, wb, wp, wk)) : ∀ d j, j + d = b → wX_newHandle_3 post (nI a) x r md (nI w) K N S P O C U G H R xw mv co cr xp pk pn ps wo wb wp wk (d + 1) (nI j) := by
  intro d
  induction d with
  | zero =>
    intro j hj
    obtain rfl : j = b := by omega
    have hc : (nI (a * 10 + j)).toNatClampNeg = a * 10 + j := nI_clamp (by omega)
    have hv : vp_in (nI (a * 10 + j)) 40 := vp_in_nI (by omega) (by decide)
    exact br_f (nI_ge (b := 10) (by omega) (by decide)) (nm_r (hk_m10 a j) ⟨hv, br_t (by rw [hc]; exact hf) ⟨hv, nm_r (hk_u hc) ⟨hv, nm_r (hk_u hc) hp⟩⟩⟩)
  | succ d ih =>
    intro j hj
    have hc : (nI (a * 10 + j)).toNatClampNeg = a * 10 + j := nI_clamp (by omega)
    have hv : vp_in (nI (a * 10 + j)) 40 := vp_in_nI (by omega) (by decide)
    exact br_f (nI_ge (b := 10) (by omega) (by decide)) (nm_r (hk_m10 a j) ⟨hv, br_f (by rw [hc]; exact hl j (by omega)) (nm_r (nI_1 j) (ih (j + 1) (by omega)))⟩)
theorem hk_xnh {a b : Nat} (ha : a < 4) (hb : b < 10) (x r : Int32) (hf : H (a * 10 + b) = -1) (hl : ∀ j, j < b → H (a * 10 + j) ≠ -1) {post : Int32 → SX → Prop} (hp : post (nI b) (md, nI w, K, N, S, P, O, C, U, G, upd H (a * 10 + b) x, upd R (a * 10 + b) r, xw, mv, co, cr, xp, pk, pn, ps, wo, wb, wp, wk)) : wpX_newHandle post (md, nI w, K, N, S, P, O, C, U, G, H, R, xw, mv, co, cr, xp, pk, pn, ps, wo, wb, wp, wk) (nI a) x r :=
  ⟨_, hk_xnhl ha hb x r hf hl hp b 0 (by omega)⟩
theorem hk_xnfl {a : Nat} (ha : a < 4) (x r : Int32) (hl : ∀ j, j < 10 → H (a * 10 + j) ≠ -1) {post : Int32 → SX → Prop} (hp : post (-6) (md, nI w, K, N, S, P, O, C, U, G, H, R, xw, mv, co, cr, xp, pk, pn, ps, wo, wb, wp, wk)) : ∀ d j, j + d = 10 → wX_newHandle_3 post (nI a) x r md (nI w) K N S P O C U G H R xw mv co cr xp pk pn ps wo wb wp wk (d + 1) (nI j) := by
  intro d
  induction d with
  | zero =>
    intro j hj
    exact br_t (nI_le (a := 10) (by omega) (by omega)) hp
  | succ d ih =>
    intro j hj
    have hc : (nI (a * 10 + j)).toNatClampNeg = a * 10 + j := nI_clamp (by omega)
    have hv : vp_in (nI (a * 10 + j)) 40 := vp_in_nI (by omega) (by decide)
    exact br_f (nI_ge (b := 10) (by omega) (by decide)) (nm_r (hk_m10 a j) ⟨hv, br_f (by rw [hc]; exact hl j (by omega)) (nm_r (nI_1 j) (ih (j + 1) (by omega)))⟩)
theorem hk_xnf {a : Nat} (ha : a < 4) (x r : Int32) (hl : ∀ j, j < 10 → H (a * 10 + j) ≠ -1) {post : Int32 → SX → Prop} (hp : post (-6) (md, nI w, K, N, S, P, O, C, U, G, H, R, xw, mv, co, cr, xp, pk, pn, ps, wo, wb, wp, wk)) : wpX_newHandle post (md, nI w, K, N, S, P, O, C, U, G, H, R, xw, mv, co, cr, xp, pk, pn, ps, wo, wb, wp, wk) (nI a) x r :=
  ⟨_, hk_xnfl ha x r hl hp 10 0 (by omega)⟩
theorem hk_ynhl (hH : hk_H K H) {a b : Nat} (ha : a < 4) (hb : b < 10) (x r : Int32) (hf : H (a * 10 + b) = -1) (hl : ∀ j, j < b → H (a * 10 + j) ≠ -1) {post : Int32 → SY → Prop} (hp : post (nI b) (md, nI w, K, N, E, P, ow, C, upd H (a * 10 + b) x, upd R (a * 10 + b) r, U, gv, ga, gb, yw, vv, f1, r1, f2, r2, yp, qk, qn, qs, zo, zb, zp, zk)) : ∀ d j, j + d = b → wY_place_3 post (nI a) x r md (nI w) K N E P ow C H R U gv ga gb yw vv f1 r1 f2 r2 yp qk qn qs zo zb zp zk (d + 1) (nI j) := by
  intro d
  induction d with
  | zero =>
    intro j hj
    obtain rfl : j = b := by omega
    have hc : (10 * nI a + nI j).toNatClampNeg = a * 10 + j := by rw [hk_10m]; exact nI_clamp (by omega)
    have hv : vp_in (10 * nI a + nI j) 40 := by rw [hk_10m]; exact vp_in_nI (by omega) (by decide)
    exact ⟨hv, br_t (by rw [hc, hf]; decide) ⟨hv, nm_r (hk_u hc) ⟨hv, nm_r (hk_u hc) hp⟩⟩⟩
  | succ d ih =>
    intro j hj
    have hc : (10 * nI a + nI j).toNatClampNeg = a * 10 + j := by rw [hk_10m]; exact nI_clamp (by omega)
    have hv : vp_in (10 * nI a + nI j) 40 := by rw [hk_10m]; exact vp_in_nI (by omega) (by decide)
    obtain ⟨o, ho, e, -⟩ := hk_rfn (hH (a * 10 + j) (by omega)) (hl j (by omega))
    exact ⟨hv, br_f (by rw [hc, e]; exact nI_pos (by omega)) (nm_r (nI_1 j) (ih (j + 1) (by omega)))⟩
theorem hk_ynh (hH : hk_H K H) {a b : Nat} (ha : a < 4) (hb : b < 10) (x r : Int32) (hf : H (a * 10 + b) = -1) (hl : ∀ j, j < b → H (a * 10 + j) ≠ -1) {post : Int32 → SY → Prop} (hp : post (nI b) (md, nI w, K, N, E, P, ow, C, upd H (a * 10 + b) x, upd R (a * 10 + b) r, U, gv, ga, gb, yw, vv, f1, r1, f2, r2, yp, qk, qn, qs, zo, zb, zp, zk)) : wpY_place post (md, nI w, K, N, E, P, ow, C, H, R, U, gv, ga, gb, yw, vv, f1, r1, f2, r2, yp, qk, qn, qs, zo, zb, zp, zk) (nI a) x r :=
  ⟨_, hk_ynhl hH ha hb x r hf hl hp b 0 (by omega)⟩
theorem hk_room {a : Nat} (h : hk_cn (hk_fp H a) 10 ≠ 0) : ∃ b, b < 10 ∧ H (a * 10 + b) = -1 ∧ ∀ j, j < b → H (a * 10 + j) ≠ -1 := by
  obtain ⟨i, hi, e⟩ := hk_cnpos _ 10 (Nat.pos_of_ne_zero h)
  obtain ⟨b, ⟨h1, h2⟩, h3⟩ := hk_least (fun j => j < 10 ∧ H (a * 10 + j) = -1) ⟨i, hi, by simpa [hk_fp] using e⟩
  exact ⟨b, h1, h2, fun j hj z => h3 j hj ⟨by omega, z⟩⟩
theorem hk_noroom {a : Nat} (h : hk_cn (hk_fp H a) 10 = 0) : ∀ j, j < 10 → H (a * 10 + j) ≠ -1 := by
  intro j hj z
  have := hk_cn0 _ 10 h j hj
  simp [hk_fp, z] at this
theorem hk_slot (h : hk_cn (hk_lv K) 16 < 16) : ∃ o, o < 16 ∧ K o = -1 ∧ ∀ j, j < o → K j ≠ -1 := by
  obtain ⟨i, hi, e⟩ := hk_cnlt _ 16 h
  obtain ⟨b, ⟨h1, h2⟩, h3⟩ := hk_least (fun j => j < 16 ∧ K j = -1) ⟨i, hi, by simpa [hk_lv] using e⟩
  exact ⟨b, h1, h2, fun j hj z => h3 j hj ⟨by omega, z⟩⟩
theorem hk_xnoc {o : Nat} (ho : o < 16) {post : Int32 → SX → Prop} (hp : post (nI o) (md + 1, nI w, K, N, S, P, O, hk_cz C (o * 8) (o * 8 + 8), U, G, H, R, xw, mv, co, cr, xp, pk, pn, ps, wo, wb, wp, wk)) : ∀ d c, c + d = 8 → wX_newObject_60 post (nI o) md (nI w) (d + 1) (nI c) K N S P O (hk_cz C (o * 8) (o * 8 + c)) U G H R xw mv co cr xp pk pn ps wo wb wp wk := by
  intro d
  induction d with
  | zero =>
    intro c hc
    obtain rfl : c = 8 := by omega
    exact br_t (nI_le (a := 8) (by omega) (by omega)) (nm_e hp)
  | succ d ih =>
    intro c hc
    have h1 : (nI o * 8 + nI c).toNatClampNeg = o * 8 + c := by rw [hk_m8]; exact nI_clamp (by omega)
    refine br_f (nI_ge (b := 8) (by omega) (by decide)) ⟨by rw [hk_m8]; exact vp_in_nI (by omega) (by decide), nm_r ((hk_u h1).trans (hk_czs C (by omega))) (nm_r (nI_1 c) (ih (c + 1) (by omega)))⟩
theorem hk_xno5 {o : Nat} (ho : o < 16) (k : Int32) (hf : K o = -1) (hl : ∀ j, j < o → K j ≠ -1) {post : Int32 → SX → Prop} (hp : post (nI o) (md + 1, nI w, upd K o k, upd N o md, upd S o 0, upd P o (-1), O, hk_cz C (o * 8) (o * 8 + 8), U, G, H, R, xw, mv, co, cr, xp, pk, pn, ps, wo, wb, wp, wk)) : ∀ t x, t ≤ 16 → (t ≤ o → x = nI o) → wX_newObject_5 post k md (nI w) K N S P O C U G H R xw mv co cr xp pk pn ps wo wb wp wk (t + 1) x (nI t + (-1)) := by
  intro t
  induction t with
  | zero =>
    intro x _ hx
    obtain rfl := hx (by omega)
    have hc : (nI o).toNatClampNeg = o := nI_clamp (by omega)
    have hv : vp_in (nI o) 16 := vp_in_nI (by omega) (by decide)
    have := hk_xnoc (md := md) (K := upd K o k) (N := upd N o md) (S := upd S o 0) (P := upd P o (-1)) (O := O) (C := C) (U := U) (G := G) (H := H) (R := R) (xw := xw) (mv := mv) (co := co) (cr := cr) (xp := xp) (pk := pk) (pn := pn) (ps := ps) (wo := wo) (wb := wb) (wp := wp) (wk := wk) (w := w) ho hp 8 0 rfl
    rw [show hk_cz C (o * 8) (o * 8 + 0) = C from hk_cz0 C (o * 8)] at this
    exact br_t (by decide) ⟨hv, nm_r (hk_u hc) ⟨hv, nm_r (hk_u hc) ⟨hv, nm_r (hk_u hc) ⟨hv, nm_r (hk_u hc) ⟨_, this⟩⟩⟩⟩⟩
  | succ t ih =>
    intro x ht hx
    rw [pk_m1]
    have hc : (nI t).toNatClampNeg = t := nI_clamp (by omega)
    refine br_f (nI_pos (by omega)) ⟨vp_in_nI (by omega) (by decide), ?_⟩
    by_cases z : K t = -1
    · refine br_t (by rw [hc]; exact z) (nm_e (ih (nI t) (by omega) fun h => ?_))
      by_cases e : t = o
      · rw [e]
      · exact absurd z (hl t (by omega))
    · refine br_f (by rw [hc]; exact z) (nm_e (ih x (by omega) fun h => hx ?_))
      have : t ≠ o := fun e => z (by rw [e]; exact hf)
      omega
theorem hk_xno {o : Nat} (ho : o < 16) (k : Int32) (hf : K o = -1) (hl : ∀ j, j < o → K j ≠ -1) {post : Int32 → SX → Prop} (hp : post (nI o) (md + 1, nI w, upd K o k, upd N o md, upd S o 0, upd P o (-1), O, hk_cz C (o * 8) (o * 8 + 8), U, G, H, R, xw, mv, co, cr, xp, pk, pn, ps, wo, wb, wp, wk)) : wpX_newObject post (md, nI w, K, N, S, P, O, C, U, G, H, R, xw, mv, co, cr, xp, pk, pn, ps, wo, wb, wp, wk) k :=
  ⟨_, hk_xno5 ho k hf hl hp 16 0 (by omega) (fun h => by omega)⟩
theorem hk_ycrc {o : Nat} (ho : o < 16) {post : Int32 → SY → Prop} (hp : post (nI o) (md, nI w, K, N, E, P, ow, hk_cz C (o * 8) (o * 8 + 8), H, R, U, gv, ga, gb, yw, vv, f1, r1, f2, r2, yp, qk, qn, qs, zo, zb, zp, zk)) : ∀ d c, c + d = 8 → wY_create_84 post (nI o) md (nI w) (d + 1) (nI (o * 8 + c)) K N E P ow (hk_cz C (o * 8) (o * 8 + c)) H R U gv ga gb yw vv f1 r1 f2 r2 yp qk qn qs zo zb zp zk := by
  have e8 : 8 * nI o + 8 = nI (o * 8 + 8) := hk_8m o 8
  intro d
  induction d with
  | zero =>
    intro c hc
    obtain rfl : c = 8 := by omega
    exact br_t (by rw [e8]; exact Int32.le_refl _) hp
  | succ d ih =>
    intro c hc
    have h1 : (nI (o * 8 + c)).toNatClampNeg = o * 8 + c := nI_clamp (by omega)
    refine br_f (by rw [e8]; exact nI_ge (by omega) (by omega)) ⟨vp_in_nI (by omega) (by decide), nm_r ((hk_u h1).trans (hk_czs C (by omega))) (nm_r (nI_1 _) (ih (c + 1) (by omega)))⟩
theorem hk_ycr2 (hK : hk_K K) {o : Nat} (ho : o < 16) (k : Int32) (hf : K o = -1) (hl : ∀ j, j < o → K j ≠ -1) {post : Int32 → SY → Prop} (hp : post (nI o) (md + 1, nI w, upd K o k, upd N o md, upd E o 0, upd P o (-1), upd ow o (-1), hk_cz C (o * 8) (o * 8 + 8), H, R, U, gv, ga, gb, upd yw o 0, vv, f1, r1, f2, r2, upd yp o 0, qk, qn, qs, zo, zb, zp, zk)) : ∀ d j, j + d = o → wY_create_2 post k md (nI w) K N E P ow C H R U gv ga gb yw vv f1 r1 f2 r2 yp qk qn qs zo zb zp zk (d + 1) (nI j) := by
  intro d
  induction d with
  | zero =>
    intro j hj
    obtain rfl : j = o := by omega
    have hc : (nI j).toNatClampNeg = j := nI_clamp (by omega)
    have hv : vp_in (nI j) 16 := vp_in_nI (by omega) (by decide)
    have := hk_ycrc (md := md + 1) (K := upd K j k) (N := upd N j md) (E := upd E j 0) (P := upd P j (-1)) (ow := upd ow j (-1)) (C := C) (H := H) (R := R) (U := U) (gv := gv) (ga := ga) (gb := gb) (yw := upd yw j 0) (vv := vv) (f1 := f1) (r1 := r1) (f2 := f2) (r2 := r2) (yp := upd yp j 0) (qk := qk) (qn := qn) (qs := qs) (zo := zo) (zb := zb) (zp := zp) (zk := zk) (w := w) ho hp 8 0 rfl
    rw [show hk_cz C (j * 8) (j * 8 + 0) = C from hk_cz0 C (j * 8)] at this
    exact ⟨hv, br_t (by rw [hc, hf]; decide) ⟨hv, nm_r (hk_u hc) ⟨hv, nm_r (hk_u hc) (nm_e ⟨hv, nm_r (hk_u hc) ⟨hv, nm_r (hk_u hc) ⟨hv, nm_r (hk_u hc) ⟨hv, nm_r (hk_u hc) ⟨hv, nm_r (hk_u hc) (nm_r (hk_8m' j) ⟨_, this⟩)⟩⟩⟩⟩⟩)⟩⟩⟩
  | succ d ih =>
    intro j hj
    have hc : (nI j).toNatClampNeg = j := nI_clamp (by omega)
    have hv : vp_in (nI j) 16 := vp_in_nI (by omega) (by decide)
    exact ⟨hv, br_f (by rw [hc]; exact hk_kdn (hK j (by omega)) (hl j (by omega))) (nm_r (nI_1 j) (ih (j + 1) (by omega)))⟩
theorem hk_ycr (hK : hk_K K) {o : Nat} (ho : o < 16) (k : Int32) (hf : K o = -1) (hl : ∀ j, j < o → K j ≠ -1) {post : Int32 → SY → Prop} (hp : post (nI o) (md + 1, nI w, upd K o k, upd N o md, upd E o 0, upd P o (-1), upd ow o (-1), hk_cz C (o * 8) (o * 8 + 8), H, R, U, gv, ga, gb, upd yw o 0, vv, f1, r1, f2, r2, upd yp o 0, qk, qn, qs, zo, zb, zp, zk)) : wpY_create post (md, nI w, K, N, E, P, ow, C, H, R, U, gv, ga, gb, yw, vv, f1, r1, f2, r2, yp, qk, qn, qs, zo, zb, zp, zk) k :=
  ⟨_, hk_ycr2 hK ho k hf hl hp o 0 (by omega)⟩
end
end
section
/-- a process that does not run has no handle -/
def hk_F (U H : Nat → Int32) : Prop := ∀ c, c < 4 → U c = 0 → ∀ j, j < 10 → H (c * 10 + j) = -1
def i_Rel (_ : Nat) (u : SX) (v : SY) : Prop := ∃ (md : Int32) (w : Nat) (K N S P O C U G H R xw mv co cr xp pk pn ps wo wb wp wk E ow gv ga gb yw vv f1 r1 f2 r2 yp qk qn qs zo zb zp zk : Nat → Int32), u = (md, nI w, K, N, S, P, O, C, U, G, H, R, xw, mv, co, cr, xp, pk, pn, ps, wo, wb, wp, wk) ∧ v = (md, nI w, K, N, E, P, ow, C, H, R, U, gv, ga, gb, yw, vv, f1, r1, f2, r2, yp, qk, qn, qs, zo, zb, zp, zk) ∧ (hk_K K ∧ hk_H K H ∧ hk_X K xw xp ∧ hk_M K xw mv co cr yw vv f1 r1 f2 r2 ∧ hk_P K xp pk pn ps yp qk qn qs ∧ hk_E K P ∧ hk_O K O ow ∧ hk_S K P S E ow U yw yp ∧ hk_W K w wo wb wp wk zo zb zp zk ∧ hk_G G gv ga gb) ∧ hk_Q w S wo wb ∧ hk_F U H
theorem i_up {k : Nat} {u : SX} {v : SY} (h : i_Rel k u v) : i_Rel (k + 6) u v := h
section
variable {md : Int32} {w : Nat} {K N S P O C U G H R xw mv co cr xp pk pn ps wo wb wp wk : Nat → Int32} {E ow gv ga gb yw vv f1 r1 f2 r2 yp qk qn qs zo zb zp zk : Nat → Int32}
theorem hk_mk {k : Nat} (hR : (hk_K K ∧ hk_H K H ∧ hk_X K xw xp ∧ hk_M K xw mv co cr yw vv f1 r1 f2 r2 ∧ hk_P K xp pk pn ps yp qk qn qs ∧ hk_E K P ∧ hk_O K O ow ∧ hk_S K P S E ow U yw yp ∧ hk_W K w wo wb wp wk zo zb zp zk ∧ hk_G G gv ga gb)) (hQ : hk_Q w S wo wb) (hF : hk_F U H) : i_Rel k (md, nI w, K, N, S, P, O, C, U, G, H, R, xw, mv, co, cr, xp, pk, pn, ps, wo, wb, wp, wk) (md, nI w, K, N, E, P, ow, C, H, R, U, gv, ga, gb, yw, vv, f1, r1, f2, r2, yp, qk, qn, qs, zo, zb, zp, zk) := ⟨md, w, K, N, S, P, O, C, U, G, H, R, xw, mv, co, cr, xp, pk, pn, ps, wo, wb, wp, wk, E, ow, gv, ga, gb, yw, vv, f1, r1, f2, r2, yp, qk, qn, qs, zo, zb, zp, zk, rfl, rfl, hR, hQ, hF⟩
theorem hk_plF {a b : Nat} {x : Int32} (ha : a < 4) (hb : b < 10) (hF : hk_F U H) (hu : U a ≠ 0) : hk_F U (upd H (a * 10 + b) x) := by
  intro c hc hz j hj
  have : c ≠ a := fun e => hu (by rw [← e]; exact hz)
  rw [pk_un (by omega)]
  exact hF c hc hz j hj
theorem hk_clF {i : Nat} (hF : hk_F U H) : hk_F U (upd H i (-1)) := by
  intro c hc hz j hj
  by_cases e : c * 10 + j = i
  · rw [e, pk_us]
  · rw [pk_un e]
    exact hF c hc hz j hj
theorem hk_plH {i : Nat} {x : Int32} (hH : hk_H K H) (hx : hk_rf K x) : hk_H K (upd H i x) := by
  intro j hj
  by_cases e : j = i
  · subst e; rw [pk_us]; exact hx
  · rw [pk_un e]; exact hH j hj
theorem hk_rfm {K' : Nat → Int32} (h : ∀ e, K e ≠ -1 → K' e ≠ -1) {x : Int32} (hx : hk_rf K x) : hk_rf K' x := by
  rcases hx with e | ⟨o, ho, e, z⟩
  · exact Or.inl e
  · exact Or.inr ⟨o, ho, e, h o z⟩
theorem hk_cre (D : Nat → Prop) {K' S' P' O' E' ow' U' yw' yp' : Nat → Int32} (hR : (hk_K K ∧ hk_H K H ∧ hk_X K xw xp ∧ hk_M K xw mv co cr yw vv f1 r1 f2 r2 ∧ hk_P K xp pk pn ps yp qk qn qs ∧ hk_E K P ∧ hk_O K O ow ∧ hk_S K P S E ow U yw yp ∧ hk_W K w wo wb wp wk zo zb zp zk ∧ hk_G G gv ga gb)) (hQ : hk_Q w S wo wb)
    (hD : ∀ e, D e → K e = -1)
    (hA : ∀ e, ¬ D e → K' e = K e ∧ P' e = P e ∧ S' e = S e ∧ E' e = E e ∧ O' e = O e ∧ ow' e = ow e ∧ yw' e = yw e ∧ yp' e = yp e)
    (hN : ∀ e, e < 16 → D e → hk_kd (K' e) ∧ K' e ≠ -1 ∧ yw' e = 0 ∧ yp' e = 0 ∧ S' e = hk_sg K' P' E' ow' U' yw' yp' e ∧ (P' e = -1 ∨ (K' e = 1 ∧ ∃ f, f < 16 ∧ f ≠ e ∧ P' e = nI f ∧ K' f = 1 ∧ P' f = nI e)) ∧ (K' e = 4 → ∃ p, p < 4 ∧ O' e = nI p ∧ ow' e = nI p ∧ ∀ i, i < 16 → i ≠ e → K' i = 4 → ow' i ≠ nI p))
    (hU : ∀ e, e < 16 → K e = 4 → U' (ow e).toNatClampNeg = U (ow e).toNatClampNeg) :
    (hk_K K' ∧ hk_H K' H ∧ hk_X K' xw xp ∧ hk_M K' xw mv co cr yw' vv f1 r1 f2 r2 ∧ hk_P K' xp pk pn ps yp' qk qn qs ∧ hk_E K' P' ∧ hk_O K' O' ow' ∧ hk_S K' P' S' E' ow' U' yw' yp' ∧ hk_W K' w wo wb wp wk zo zb zp zk ∧ hk_G G gv ga gb) ∧ hk_Q w S' wo wb := by
  obtain ⟨hK, hH, hX, hM, hP, hE, hO, hS, hW, hG⟩ := hR
  have hm : ∀ e, K e ≠ -1 → K' e ≠ -1 := fun e z => by
    have hd : ¬ D e := fun d => z (hD e d)
    rw [(hA e hd).1]; exact z
  have hd : ∀ e, K e ≠ -1 → ¬ D e := fun e z d => z (hD e d)
  have hk1 : ∀ e, K e = 1 → ¬ D e := fun e z d => by rw [hD e d] at z; exact absurd z (by decide)
  have hk3 : ∀ e, K e = 3 → ¬ D e := fun e z d => by rw [hD e d] at z; exact absurd z (by decide)
  have hk4 : ∀ e, K e = 4 → ¬ D e := fun e z d => by rw [hD e d] at z; exact absurd z (by decide)
  refine ⟨⟨?_, ?_, ?_, ?_, ?_, ?_, ?_, ?_, ?_, hG⟩, ?_⟩
  · intro i hi
    by_cases z : D i
    · exact (hN i hi z).1
    · rw [(hA i z).1]; exact hK i hi
  · intro i hi
    exact hk_rfm hm (hH i hi)
  · intro e he
    by_cases z : D e
    · have h1 := hD e z
      exact ⟨fun _ => (hX e he).1 (by rw [h1]; decide), fun _ => (hX e he).2 (by rw [h1]; decide)⟩
    · rw [(hA e z).1]; exact hX e he
  · intro e he h1
    by_cases z : D e
    · refine ⟨0, by omega, ?_, ?_, fun j hj => absurd hj (by omega)⟩
      · exact (hX e he).1 (by rw [hD e z]; decide)
      · exact (hN e he z).2.2.1
    · rw [(hA e z).1] at h1
      obtain ⟨n, hn, e1, e2, h⟩ := hM e he h1
      refine ⟨n, hn, e1, by rw [(hA e z).2.2.2.2.2.2.1]; exact e2, fun j hj => ?_⟩
      obtain ⟨c1, c2, c3, c4, c5, c6, c7⟩ := h j hj
      exact ⟨c1, c2, c3, hk_rfm hm c4, hk_rfm hm c5, c6, c7⟩
  · intro e he h1
    by_cases z : D e
    · refine ⟨0, by omega, ?_, ?_, fun j hj => absurd hj (by omega)⟩
      · exact (hX e he).2 (by rw [hD e z]; decide)
      · exact (hN e he z).2.2.2.1
    · rw [(hA e z).1] at h1
      obtain ⟨n, hn, e1, e2, h⟩ := hP e he h1
      exact ⟨n, hn, e1, by rw [(hA e z).2.2.2.2.2.2.2]; exact e2, h⟩
  · intro e he h1
    by_cases z : D e
    · exact (hN e he z).2.2.2.2.2.1
    · rw [(hA e z).1] at h1
      rw [(hA e z).1, (hA e z).2.1]
      rcases hE e he h1 with h | ⟨h2, f, hf, hfe, e1, e2, e3⟩
      · exact Or.inl h
      · refine Or.inr ⟨h2, f, hf, hfe, e1, ?_, ?_⟩
        · rw [(hA f (hk1 f e2)).1]; exact e2
        · rw [(hA f (hk1 f e2)).2.1]; exact e3
  · refine ⟨fun e he h1 => ?_, fun e e' he he' h1 h2 h3 => ?_⟩
    · by_cases z : D e
      · obtain ⟨p, hp, e1, e2, -⟩ := (hN e he z).2.2.2.2.2.2 h1
        exact ⟨p, hp, e1, e2⟩
      · rw [(hA e z).1] at h1
        obtain ⟨p, hp, e1, e2⟩ := hO.1 e he h1
        exact ⟨p, hp, by rw [(hA e z).2.2.2.2.1]; exact e1, by rw [(hA e z).2.2.2.2.2.1]; exact e2⟩
    · by_cases z : D e
      · obtain ⟨p, hp, e1, e2, e3⟩ := (hN e he z).2.2.2.2.2.2 h1
        by_cases y : e' = e
        · exact y.symm
        · exact absurd (h3.symm.trans e2) (e3 e' he' y h2)
      · by_cases z' : D e'
        · obtain ⟨p, hp, e1, e2, e3⟩ := (hN e' he' z').2.2.2.2.2.2 h2
          by_cases y : e = e'
          · exact y
          · exact absurd (h3.trans e2) (e3 e he y h1)
        · rw [(hA e z).1] at h1
          rw [(hA e' z').1] at h2
          rw [(hA e z).2.2.2.2.2.1, (hA e' z').2.2.2.2.2.1] at h3
          exact hO.2 e e' he he' h1 h2 h3
  · intro e he h1
    by_cases z : D e
    · exact (hN e he z).2.2.2.2.1
    · obtain ⟨a1, a2, a3, a4, a5, a6, a7, a8⟩ := hA e z
      rw [a1] at h1
      rw [a3, hS e he h1]
      unfold hk_sg
      rw [a1, a2, a4, a6, a7, a8]
      by_cases y : K e = 4
      · rw [hU e he y]
      · rw [if_neg y, if_neg y]
  · refine ⟨hW.1, fun i hi => ?_⟩
    obtain ⟨c1, c2, c3, c4, ⟨o, ho, e1, e2⟩, q, hq, e3, e4⟩ := hW.2 i hi
    exact ⟨c1, c2, c3, c4, ⟨o, ho, e1, hm o e2⟩, q, hq, e3, by rw [(hA q (hk3 q e4)).1]; exact e4⟩
  · intro i hi
    obtain ⟨c1, c2, c3, c4, ⟨o, ho, e1, e2⟩, -⟩ := hW.2 i hi
    have := hQ i hi
    rw [c1, e1, nI_clamp (by omega)] at this ⊢
    rw [(hA o (hd o e2)).2.2.1]
    exact this
end
end
section
section
variable {md : Int32} {w : Nat} {K N S P O C U G H R xw mv co cr xp pk pn ps wo wb wp wk : Nat → Int32} {E ow gv ga gb yw vv f1 r1 f2 r2 yp qk qn qs zo zb zp zk : Nat → Int32}
/-- one new object that is no end: the relation afterwards -/
theorem hk_cre1 (hR : (hk_K K ∧ hk_H K H ∧ hk_X K xw xp ∧ hk_M K xw mv co cr yw vv f1 r1 f2 r2 ∧ hk_P K xp pk pn ps yp qk qn qs ∧ hk_E K P ∧ hk_O K O ow ∧ hk_S K P S E ow U yw yp ∧ hk_W K w wo wb wp wk zo zb zp zk ∧ hk_G G gv ga gb)) (hQ : hk_Q w S wo wb) {o : Nat} (ho : o < 16) (hf : K o = -1) {k : Int32} (hk : k = 0 ∨ k = 2 ∨ k = 3) :
    (hk_K (upd K o k) ∧ hk_H (upd K o k) H ∧ hk_X (upd K o k) xw xp ∧ hk_M (upd K o k) xw mv co cr (upd yw o 0) vv f1 r1 f2 r2 ∧ hk_P (upd K o k) xp pk pn ps (upd yp o 0) qk qn qs ∧ hk_E (upd K o k) (upd P o (-1)) ∧ hk_O (upd K o k) O (upd ow o (-1)) ∧ hk_S (upd K o k) (upd P o (-1)) (upd S o 0) (upd E o 0) (upd ow o (-1)) U (upd yw o 0) (upd yp o 0) ∧ hk_W (upd K o k) w wo wb wp wk zo zb zp zk ∧ hk_G G gv ga gb) ∧ hk_Q w (upd S o 0) wo wb := by
  refine hk_cre (fun e => e = o) hR hQ (fun e z => by rw [z]; exact hf) (fun e z => ?_) (fun e he z => ?_) (fun e he z => rfl)
  · exact ⟨pk_un z, pk_un z, pk_un z, pk_un z, rfl, pk_un z, pk_un z, pk_un z⟩
  · obtain rfl := z
    refine ⟨?_, ?_, pk_us, pk_us, ?_, Or.inl pk_us, ?_⟩
    · rw [pk_us]; unfold hk_kd; rcases hk with rfl | rfl | rfl <;> simp
    · rw [pk_us]; rcases hk with rfl | rfl | rfl <;> decide
    · unfold hk_sg
      rcases hk with rfl | rfl | rfl <;> simp [upd]
    · rw [pk_us]; intro h; rcases hk with rfl | rfl | rfl <;> exact absurd h (by decide)
theorem hk_make1 (hR : (hk_K K ∧ hk_H K H ∧ hk_X K xw xp ∧ hk_M K xw mv co cr yw vv f1 r1 f2 r2 ∧ hk_P K xp pk pn ps yp qk qn qs ∧ hk_E K P ∧ hk_O K O ow ∧ hk_S K P S E ow U yw yp ∧ hk_W K w wo wb wp wk zo zb zp zk ∧ hk_G G gv ga gb)) (hQ : hk_Q w S wo wb) (hF : hk_F U H) {k a c : Nat} (ha : a < 4) (hu : U a ≠ 0) (hc : c < 4) (hc1 : c ≠ 1) :
    wX_make_42 (fun r u' => wpY_make (fun r' v' => r' = r ∧ i_Rel k u' v') (md, nI w, K, N, E, P, ow, C, H, R, U, gv, ga, gb, yw, vv, f1, r1, f2, r2, yp, qk, qn, qs, zo, zb, zp, zk) (nI a) (nI c)) (nI a) (nI c) 1 md (nI w) K N S P O C U G H R xw mv co cr xp pk pn ps wo wb wp wk := by
  have hK := hR.1
  have hH := hR.2.1
  have hn : ¬ nI c = 1 := fun z => hc1 ((nI_eq (b := 1) (by omega) (by decide)).mp z)
  have HY : ∀ post : Int32 → SY → Prop, wY_make_32 post (nI a) (nI c) 1 md (nI w) K N E P ow C H R U gv ga gb yw vv f1 r1 f2 r2 yp qk qn qs zo zb zp zk → wpY_make post (md, nI w, K, N, E, P, ow, C, H, R, U, gv, ga, gb, yw, vv, f1, r1, f2, r2, yp, qk, qn, qs, zo, zb, zp, zk) (nI a) (nI c) := fun post h => by
    unfold wpY_make
    exact hk_yr1 ha hu (br_f (by decide) (hk_in1 (n := 3) (by omega) (by decide) (br_f (by decide) (br_f hn h))))
  have hn16 := hk_cnle (hk_lv K) 16
  have hn10 := hk_cnle (hk_fp H a) 10
  by_cases h1 : hk_cn (hk_lv K) 16 + 1 ≤ 16
  · have e1 : nI (hk_cn (hk_lv K) 16) + 1 ≤ 16 := by rw [nI_1]; exact nI_le (b := 16) h1 (by decide)
    by_cases h2 : 1 ≤ hk_cn (hk_fp H a) 10
    · have e2 : 1 ≤ nI (hk_cn (hk_fp H a) 10) := nI_le (a := 1) h2 (by omega)
      obtain ⟨o, ho, f1', f2'⟩ := hk_slot (K := K) (by omega)
      obtain ⟨b, hb, g1, g2⟩ := hk_room (H := H) (a := a) (by omega)
      have hkc : nI c = 0 ∨ nI c = 2 ∨ nI c = 3 := by
        obtain rfl | rfl | rfl : c = 0 ∨ c = 2 ∨ c = 3 := by omega
        · exact Or.inl rfl
        · exact Or.inr (Or.inl rfl)
        · exact Or.inr (Or.inr rfl)
      obtain ⟨⟨q1, q2, q3⟩, q4⟩ := hk_cre1 hR hQ ho f1' hkc
      unfold wX_make_42
      refine hk_xoc (br_t e1 ?_)
      refine hk_xfc ha (br_t e2 ?_)
      refine hk_xno ho (nI c) f1' f2' ?_
      refine hk_xnh ha hb (nI o) 63 g1 g2 (br_f hn ?_)
      refine HY _ ?_
      unfold wY_make_32
      refine hk_yoc hK (br_t e1 ?_)
      refine hk_yfc hH ha (br_t e2 ?_)
      refine hk_ycr hK ho (nI c) f1' f2' ?_
      refine hk_ynh q2 ha hb (nI o) 63 g1 g2 (br_f hn ?_)
      refine ⟨rfl, hk_mk ⟨q1, hk_plH q2 (Or.inr ⟨o, ho, rfl, ?_⟩), q3⟩ q4 (hk_plF ha hb hF hu)⟩
      rw [pk_us]
      rcases hkc with z | z | z <;> (rw [z]; decide)
    · have e2 : ¬ 1 ≤ nI (hk_cn (hk_fp H a) 10) := nI_ge (b := 1) (by omega) (by decide)
      unfold wX_make_42
      refine hk_xoc (br_t e1 ?_)
      refine hk_xfc ha (br_f e2 ?_)
      refine HY _ ?_
      unfold wY_make_32
      refine hk_yoc hK (br_t e1 ?_)
      exact hk_yfc hH ha (br_f e2 ⟨rfl, hk_mk hR hQ hF⟩)
  · have e1 : ¬ nI (hk_cn (hk_lv K) 16) + 1 ≤ 16 := by rw [nI_1]; exact nI_ge (a := 16) (by omega) (by omega)
    unfold wX_make_42
    refine hk_xoc (br_f e1 ?_)
    refine HY _ ?_
    unfold wY_make_32
    exact hk_yoc hK (br_f e1 ⟨rfl, hk_mk hR hQ hF⟩)
theorem hk_cre2 (hR : (hk_K K ∧ hk_H K H ∧ hk_X K xw xp ∧ hk_M K xw mv co cr yw vv f1 r1 f2 r2 ∧ hk_P K xp pk pn ps yp qk qn qs ∧ hk_E K P ∧ hk_O K O ow ∧ hk_S K P S E ow U yw yp ∧ hk_W K w wo wb wp wk zo zb zp zk ∧ hk_G G gv ga gb)) (hQ : hk_Q w S wo wb) {o t : Nat} (ho : o < 16) (ht : t < 16) (hot : o ≠ t) (hf : K o = -1) (hg : K t = -1) :
    (hk_K (upd (upd K o 1) t 1) ∧ hk_H (upd (upd K o 1) t 1) H ∧ hk_X (upd (upd K o 1) t 1) xw xp ∧ hk_M (upd (upd K o 1) t 1) xw mv co cr (upd (upd yw o 0) t 0) vv f1 r1 f2 r2 ∧ hk_P (upd (upd K o 1) t 1) xp pk pn ps (upd (upd yp o 0) t 0) qk qn qs ∧ hk_E (upd (upd K o 1) t 1) (upd (upd (upd (upd P o (-1)) t (-1)) o (nI t)) t (nI o)) ∧ hk_O (upd (upd K o 1) t 1) O (upd (upd ow o (-1)) t (-1)) ∧ hk_S (upd (upd K o 1) t 1) (upd (upd (upd (upd P o (-1)) t (-1)) o (nI t)) t (nI o)) (upd (upd S o 0) t 0) (upd (upd E o 0) t 0) (upd (upd ow o (-1)) t (-1)) U (upd (upd yw o 0) t 0) (upd (upd yp o 0) t 0) ∧ hk_W (upd (upd K o 1) t 1) w wo wb wp wk zo zb zp zk ∧ hk_G G gv ga gb) ∧ hk_Q w (upd (upd S o 0) t 0) wo wb := by
  have hto : t ≠ o := fun e => hot e.symm
  refine hk_cre (fun e => e = o ∨ e = t) hR hQ (fun e z => by rcases z with rfl | rfl; exact hf; exact hg) (fun e z => ?_) (fun e he z => ?_) (fun e he z => rfl)
  · have z1 : e ≠ o := fun y => z (Or.inl y)
    have z2 : e ≠ t := fun y => z (Or.inr y)
    refine ⟨?_, ?_, ?_, ?_, rfl, ?_, ?_, ?_⟩ <;> simp [upd, z1, z2]
  · rcases z with rfl | rfl
    · refine ⟨?_, ?_, ?_, ?_, ?_, Or.inr ⟨?_, t, ht, hto, ?_, ?_, ?_⟩, ?_⟩
      · simp [upd, hot, hto, hk_kd]
      · simp [upd, hot, hto]
      · simp [upd, hot, hto]
      · simp [upd, hot, hto]
      · unfold hk_sg
        have : 0 ≤ nI t := nI_pos' (by omega)
        simp [upd, hot, hto, this]
      · simp [upd, hot, hto]
      · simp [upd, hot, hto]
      · simp [upd, hot, hto]
      · simp [upd, hot, hto]
      · simp [upd, hot, hto]
    · refine ⟨?_, ?_, ?_, ?_, ?_, Or.inr ⟨?_, o, ho, hot, ?_, ?_, ?_⟩, ?_⟩
      · simp [upd, hot, hto, hk_kd]
      · simp [upd, hot, hto]
      · simp [upd, hot, hto]
      · simp [upd, hot, hto]
      · unfold hk_sg
        have : 0 ≤ nI o := nI_pos' (by omega)
        simp [upd, hot, hto, this]
      · simp [upd, hot, hto]
      · simp [upd, hot, hto]
      · simp [upd, hot, hto]
      · simp [upd, hot, hto]
      · simp [upd, hot, hto]
theorem hk_lvup {o : Nat} {k : Int32} (ho : o < 16) (hf : K o = -1) (hk : k ≠ -1) : hk_cn (hk_lv (upd K o k)) 16 = hk_cn (hk_lv K) 16 + 1 := by
  refine hk_cnup (hk_lv K) _ o ?_ ?_ (fun i hi => ?_) 16 ho
  · simp [hk_lv, hf]
  · simp [hk_lv, pk_us, hk]
  · simp [hk_lv, pk_un hi]
theorem hk_fpdn {a b : Nat} {x : Int32} (hb : b < 10) (hf : H (a * 10 + b) = -1) (hx : x ≠ -1) : hk_cn (hk_fp H a) 10 = hk_cn (hk_fp (upd H (a * 10 + b) x) a) 10 + 1 := by
  refine hk_cnup _ (hk_fp H a) b ?_ ?_ (fun i hi => ?_) 10 hb
  · simp [hk_fp, pk_us, hx]
  · simp [hk_fp, hf]
  · have : a * 10 + i ≠ a * 10 + b := by omega
    simp [hk_fp, pk_un this]
theorem hk_make2 (hR : (hk_K K ∧ hk_H K H ∧ hk_X K xw xp ∧ hk_M K xw mv co cr yw vv f1 r1 f2 r2 ∧ hk_P K xp pk pn ps yp qk qn qs ∧ hk_E K P ∧ hk_O K O ow ∧ hk_S K P S E ow U yw yp ∧ hk_W K w wo wb wp wk zo zb zp zk ∧ hk_G G gv ga gb)) (hQ : hk_Q w S wo wb) (hF : hk_F U H) {k a : Nat} (ha : a < 4) (hu : U a ≠ 0) :
    wX_make_42 (fun r u' => wpY_make (fun r' v' => r' = r ∧ i_Rel k u' v') (md, nI w, K, N, E, P, ow, C, H, R, U, gv, ga, gb, yw, vv, f1, r1, f2, r2, yp, qk, qn, qs, zo, zb, zp, zk) (nI a) 1) (nI a) 1 2 md (nI w) K N S P O C U G H R xw mv co cr xp pk pn ps wo wb wp wk := by
  have hK := hR.1
  have hH := hR.2.1
  have HY : ∀ post : Int32 → SY → Prop, wY_make_32 post (nI a) 1 2 md (nI w) K N E P ow C H R U gv ga gb yw vv f1 r1 f2 r2 yp qk qn qs zo zb zp zk → wpY_make post (md, nI w, K, N, E, P, ow, C, H, R, U, gv, ga, gb, yw, vv, f1, r1, f2, r2, yp, qk, qn, qs, zo, zb, zp, zk) (nI a) 1 := fun post h => by
    unfold wpY_make
    exact hk_yr1 ha hu (br_f (by decide) (hk_in1 (j := 1) (n := 3) (by omega) (by decide) (br_f (by decide) (br_t rfl h))))
  have hn16 := hk_cnle (hk_lv K) 16
  have hn10 := hk_cnle (hk_fp H a) 10
  by_cases h1 : hk_cn (hk_lv K) 16 + 2 ≤ 16
  · have e1 : nI (hk_cn (hk_lv K) 16) + 2 ≤ 16 := by rw [show nI (hk_cn (hk_lv K) 16) + 2 = nI (hk_cn (hk_lv K) 16 + 2) from nI_add _ 2]; exact nI_le (b := 16) h1 (by decide)
    by_cases h2 : 2 ≤ hk_cn (hk_fp H a) 10
    · have e2 : 2 ≤ nI (hk_cn (hk_fp H a) 10) := nI_le (a := 2) h2 (by omega)
      obtain ⟨o, ho, f1', f2'⟩ := hk_slot (K := K) (by omega)
      obtain ⟨b, hb, g1, g2⟩ := hk_room (H := H) (a := a) (by omega)
      have hK1 : hk_K (upd K o 1) := fun i hi => by
        by_cases e : i = o
        · rw [e, pk_us]; unfold hk_kd; simp
        · rw [pk_un e]; exact hK i hi
      have hm1 : ∀ e, K e ≠ -1 → upd K o 1 e ≠ -1 := fun e z => by
        by_cases y : e = o
        · rw [y, pk_us]; decide
        · rw [pk_un y]; exact z
      have hH1 : hk_H (upd K o 1) H := fun i hi => hk_rfm hm1 (hH i hi)
      have hH2 : hk_H (upd K o 1) (upd H (a * 10 + b) (nI o)) := hk_plH hH1 (Or.inr ⟨o, ho, rfl, by rw [pk_us]; decide⟩)
      obtain ⟨t, ht, t1, t2⟩ := hk_slot (K := upd K o 1) (by rw [hk_lvup ho f1' (by decide)]; omega)
      have hot : o ≠ t := fun e => by rw [← e, pk_us] at t1; exact absurd t1 (by decide)
      have hgt : K t = -1 := by rw [pk_un (fun e => hot e.symm)] at t1; exact t1
      obtain ⟨d, hd, d1, d2⟩ := hk_room (H := upd H (a * 10 + b) (nI o)) (a := a) (by have := hk_fpdn (H := H) (a := a) hb g1 (hk_ne o (by omega)); omega)
      obtain ⟨⟨q1, q2, q3⟩, q4⟩ := hk_cre2 hR hQ ho ht hot f1' hgt
      have hm2 : ∀ e, upd K o 1 e ≠ -1 → upd (upd K o 1) t 1 e ≠ -1 := fun e z => by
        by_cases y : e = t
        · rw [y, pk_us]; decide
        · rw [pk_un y]; exact z
      have hH3 : hk_H (upd (upd K o 1) t 1) (upd H (a * 10 + b) (nI o)) := fun i hi => hk_rfm hm2 (hH2 i hi)
      have hvo : vp_in (nI o) 16 := vp_in_nI ho (by decide)
      have hvt : vp_in (nI t) 16 := vp_in_nI ht (by decide)
      have hco : (nI o).toNatClampNeg = o := nI_clamp (by omega)
      have hct : (nI t).toNatClampNeg = t := nI_clamp (by omega)
      unfold wX_make_42
      refine hk_xoc (br_t e1 ?_)
      refine hk_xfc ha (br_t e2 ?_)
      refine hk_xno ho 1 f1' f2' ?_
      refine hk_xnh ha hb (nI o) 63 g1 g2 (br_t rfl ?_)
      refine hk_xno ht 1 t1 t2 ?_
      refine hk_xnh ha hd (nI t) 63 d1 d2 ?_
      refine ⟨hvo, nm_r (hk_u hco) ⟨hvt, nm_r (hk_u hct) ?_⟩⟩
      refine HY _ ?_
      unfold wY_make_32
      refine hk_yoc hK (br_t e1 ?_)
      refine hk_yfc hH ha (br_t e2 ?_)
      refine hk_ycr hK ho 1 f1' f2' ?_
      refine hk_ynh hH1 ha hb (nI o) 63 g1 g2 (br_t rfl ?_)
      refine hk_ycr hK1 ht 1 t1 t2 ?_
      refine hk_ynh hH3 ha hd (nI t) 63 d1 d2 ?_
      refine ⟨hvo, nm_r (hk_u hco) ⟨hvt, nm_r (hk_u hct) ?_⟩⟩
      exact ⟨rfl, hk_mk ⟨q1, hk_plH hH3 (Or.inr ⟨t, ht, rfl, by rw [pk_us]; decide⟩), q3⟩ q4 (hk_plF ha hd (hk_plF ha hb hF hu) hu)⟩
    · have e2 : ¬ 2 ≤ nI (hk_cn (hk_fp H a) 10) := nI_ge (b := 2) (by omega) (by decide)
      unfold wX_make_42
      refine hk_xoc (br_t e1 ?_)
      refine hk_xfc ha (br_f e2 ?_)
      refine HY _ ?_
      unfold wY_make_32
      refine hk_yoc hK (br_t e1 ?_)
      exact hk_yfc hH ha (br_f e2 ⟨rfl, hk_mk hR hQ hF⟩)
  · have e1 : ¬ nI (hk_cn (hk_lv K) 16) + 2 ≤ 16 := by rw [show nI (hk_cn (hk_lv K) 16) + 2 = nI (hk_cn (hk_lv K) 16 + 2) from nI_add _ 2]; exact nI_ge (a := 16) (by omega) (by omega)
    unfold wX_make_42
    refine hk_xoc (br_f e1 ?_)
    refine HY _ ?_
    unfold wY_make_32
    exact hk_yoc hK (br_f e1 ⟨rfl, hk_mk hR hQ hF⟩)
end
theorem i_vc_make {k : Nat} {u : SX} {v : SY} (I : i_Rel k u v) (hk : k + 6 ≤ 3072) (v1 : Int32) (v2 : Int32) : wpX_make (fun r u' => wpY_make (fun r' v' => r' = r ∧ i_Rel (k + 6) u' v') v v1 v2) u v1 v2 := by
  obtain ⟨md, w, K, N, S, P, O, C, U, G, H, R, xw, mv, co, cr, xp, pk, pn, ps, wo, wb, wp, wk, E, ow, gv, ga, gb, yw, vv, f1, r1, f2, r2, yp, qk, qn, qs, zo, zb, zp, zk, rfl, rfl, hR, hQ, hF⟩ := I
  unfold wpX_make
  by_cases hr : hk_run U v1
  · obtain ⟨a, ha, rfl, hu⟩ := hr
    refine hk_xr1 ha hu (br_f (by decide) ?_)
    have bad : (v2 < 0 ∨ nI 4 ≤ v2) → ∀ c : Nat, c < 4 → ¬ v2 = nI c := fun z c hc e => by
      subst e
      rcases z with z | z
      · exact nI_pos (by omega) z
      · exact nI_ge hc (by decide) z
    rcases pk_ix v2 (n := 4) (by decide) with z | z | ⟨c, hc, rfl⟩
    · refine br_f (bad (Or.inl z) 0 (by omega)) (br_f (bad (Or.inl z) 1 (by omega)) (br_f (bad (Or.inl z) 2 (by omega)) (br_f (bad (Or.inl z) 3 (by omega)) ?_)))
      unfold wpY_make
      exact hk_yr1 ha hu (br_f (by decide) (hk_in0 (n := 3) (Or.inl z) (by decide) (br_t rfl ⟨rfl, hk_mk hR hQ hF⟩)))
    · refine br_f (bad (Or.inr z) 0 (by omega)) (br_f (bad (Or.inr z) 1 (by omega)) (br_f (bad (Or.inr z) 2 (by omega)) (br_f (bad (Or.inr z) 3 (by omega)) ?_)))
      unfold wpY_make
      exact hk_yr1 ha hu (br_f (by decide) (hk_in0 (n := 3) (Or.inr z) (by decide) (br_t rfl ⟨rfl, hk_mk hR hQ hF⟩)))
    · have key : wX_make_32 (fun r u' => wpY_make (fun r' v' => r' = r ∧ i_Rel (k + 6) u' v') (md, nI w, K, N, E, P, ow, C, H, R, U, gv, ga, gb, yw, vv, f1, r1, f2, r2, yp, qk, qn, qs, zo, zb, zp, zk) (nI a) (nI c)) (nI a) (nI c) md (nI w) K N S P O C U G H R xw mv co cr xp pk pn ps wo wb wp wk := by
        by_cases hc1 : c = 1
        · subst hc1
          exact br_t rfl (hk_make2 hR hQ hF ha hu)
        · exact br_f (fun z => hc1 ((nI_eq (b := 1) (by omega) (by decide)).mp z)) (hk_make1 hR hQ hF ha hu hc hc1)
      refine br_c (fun _ => key) fun y0 => br_c (fun _ => key) fun y1 => br_c (fun _ => key) fun y2 => br_c (fun _ => key) fun y3 => ?_
      obtain rfl | rfl | rfl | rfl : c = 0 ∨ c = 1 ∨ c = 2 ∨ c = 3 := by omega
      · exact absurd rfl y0
      · exact absurd rfl y1
      · exact absurd rfl y2
      · exact absurd rfl y3
  · refine hk_xr0 hr (br_t rfl ?_)
    unfold wpY_make
    exact hk_yr0 hr (br_t rfl ⟨rfl, hk_mk hR hQ hF⟩)
end
section
theorem i_vc_copy {k : Nat} {u : SX} {v : SY} (I : i_Rel k u v) (hk : k + 6 ≤ 3072) (v1 : Int32) (v2 : Int32) (v3 : Int32) : wpX_copy (fun r u' => wpY_copy (fun r' v' => r' = r ∧ i_Rel (k + 6) u' v') v v1 v2 v3) u v1 v2 v3 := by
  obtain ⟨md, w, K, N, S, P, O, C, U, G, H, R, xw, mv, co, cr, xp, pk, pn, ps, wo, wb, wp, wk, E, ow, gv, ga, gb, yw, vv, f1, r1, f2, r2, yp, qk, qn, qs, zo, zb, zp, zk, rfl, rfl, hR, hQ, hF⟩ := I
  obtain ⟨r, hX, hY, h0⟩ := hk_th (md := md) (K := K) (N := N) (S := S) (P := P) (O := O) (C := C) (U := U) (G := G) (H := H) (R := R) (xw := xw) (mv := mv) (co := co) (cr := cr) (xp := xp) (pk := pk) (pn := pn) (ps := ps) (wo := wo) (wb := wb) (wp := wp) (wk := wk) (E := E) (ow := ow) (gv := gv) (ga := ga) (gb := gb) (yw := yw) (vv := vv) (f1 := f1) (r1 := r1) (f2 := f2) (r2 := r2) (yp := yp) (qk := qk) (qn := qn) (qs := qs) (zo := zo) (zb := zb) (zp := zp) (zk := zk) (w := w) hR.1 hR.2.1 v1 v2 (-1) 4 (Or.inl rfl)
  unfold wpX_copy
  refine hX _ ?_
  by_cases hr : r = 0
  · obtain ⟨a, b, o, ha, hb, ho, rfl, rfl, hu, e, hko, -⟩ := h0 hr
    have hc : (nI (a * 10 + b)).toNatClampNeg = a * 10 + b := nI_clamp (by omega)
    have hv : vp_in (nI (a * 10 + b)) 40 := vp_in_nI (by omega) (by decide)
    have hn10 := hk_cnle (hk_fp H a) 10
    refine br_t hr (nm_r (hk_m10 a b) ⟨hv, hv, ?_⟩)
    rw [hc, e]
    by_cases hm : hk_cn (hk_fp H a) 10 = 0
    · refine hk_xnf ha _ _ (hk_noroom hm) ?_
      unfold wpY_copy
      refine hY _ (br_t hr ?_)
      refine hk_yfc hR.2.1 ha (br_t (by rw [hm]; rfl) ?_)
      exact ⟨rfl, hk_mk hR hQ hF⟩
    · obtain ⟨d, hd, d1, d2⟩ := hk_room hm
      refine hk_xnh ha hd _ _ d1 d2 ?_
      unfold wpY_copy
      refine hY _ (br_t hr ?_)
      refine hk_yfc hR.2.1 ha (br_f (nI_ne0 (by omega) (by omega)) ?_)
      refine hk_yob ha hb ?_
      dsimp only
      rw [hk_10m, hc, e]
      refine ⟨hv, hk_ynh hR.2.1 ha hd _ _ d1 d2 ?_⟩
      exact ⟨rfl, hk_mk ⟨hR.1, hk_plH hR.2.1 (Or.inr ⟨o, ho, rfl, hko⟩), hR.2.2⟩ hQ (hk_plF ha hd hF hu)⟩
  · refine br_f hr ?_
    unfold wpY_copy
    exact hY _ (br_f hr ⟨rfl, hk_mk hR hQ hF⟩)
theorem i_vc_restrict {k : Nat} {u : SX} {v : SY} (I : i_Rel k u v) (hk : k + 6 ≤ 3072) (v1 : Int32) (v2 : Int32) (v3 : Int32) : wpX_restrict (fun r u' => wpY_restrict (fun r' v' => r' = r ∧ i_Rel (k + 6) u' v') v v1 v2 v3) u v1 v2 v3 := by
  obtain ⟨md, w, K, N, S, P, O, C, U, G, H, R, xw, mv, co, cr, xp, pk, pn, ps, wo, wb, wp, wk, E, ow, gv, ga, gb, yw, vv, f1, r1, f2, r2, yp, qk, qn, qs, zo, zb, zp, zk, rfl, rfl, hR, hQ, hF⟩ := I
  obtain ⟨r, hX, hY, h0⟩ := hk_th (md := md) (K := K) (N := N) (S := S) (P := P) (O := O) (C := C) (U := U) (G := G) (H := H) (R := R) (xw := xw) (mv := mv) (co := co) (cr := cr) (xp := xp) (pk := pk) (pn := pn) (ps := ps) (wo := wo) (wb := wb) (wp := wp) (wk := wk) (E := E) (ow := ow) (gv := gv) (ga := ga) (gb := gb) (yw := yw) (vv := vv) (f1 := f1) (r1 := r1) (f2 := f2) (r2 := r2) (yp := yp) (qk := qk) (qn := qn) (qs := qs) (zo := zo) (zb := zb) (zp := zp) (zk := zk) (w := w) hR.1 hR.2.1 v1 v2 (-1) 0 (Or.inl rfl)
  unfold wpX_restrict
  refine hX _ ?_
  by_cases hr : r = 0
  · obtain ⟨a, b, o, ha, hb, ho, rfl, rfl, hu, e, hko, -⟩ := h0 hr
    have hc : (nI (a * 10 + b)).toNatClampNeg = a * 10 + b := nI_clamp (by omega)
    have hv : vp_in (nI (a * 10 + b)) 40 := vp_in_nI (by omega) (by decide)
    refine br_t hr (nm_r (hk_m10 a b) ⟨hv, hv, ?_⟩)
    rw [hc]
    refine nm_e ⟨hv, ?_⟩
    unfold wpY_restrict
    refine hY _ (br_t hr ?_)
    rw [hk_10m, hc]
    exact ⟨hv, hv, nm_e ⟨hv, rfl, hk_mk hR hQ hF⟩⟩
  · refine br_f hr ?_
    unfold wpY_restrict
    exact hY _ (br_f hr ⟨rfl, hk_mk hR hQ hF⟩)
theorem i_vc_got {k : Nat} {u : SX} {v : SY} (I : i_Rel k u v) (hk : k + 6 ≤ 3072) (v1 : Int32) (v2 : Int32) : wpX_got (fun r => wpY_got (fun r' => r' = r ∧ i_Rel (k + 6) u v) v v1 v2) u v1 v2 := by
  obtain ⟨md, w, K, N, S, P, O, C, U, G, H, R, xw, mv, co, cr, xp, pk, pn, ps, wo, wb, wp, wk, E, ow, gv, ga, gb, yw, vv, f1, r1, f2, r2, yp, qk, qn, qs, zo, zb, zp, zk, rfl, rfl, hR, hQ, hF⟩ := I
  have J : i_Rel (k + 6) (md, nI w, K, N, S, P, O, C, U, G, H, R, xw, mv, co, cr, xp, pk, pn, ps, wo, wb, wp, wk) (md, nI w, K, N, E, P, ow, C, H, R, U, gv, ga, gb, yw, vv, f1, r1, f2, r2, yp, qk, qn, qs, zo, zb, zp, zk) := hk_mk hR hQ hF
  have hG := hR.2.2.2.2.2.2.2.2.2
  have bad : (v2 < 0 ∨ nI 3 ≤ v2) → wpY_got (fun r' => r' = 0 ∧ i_Rel (k + 6) (md, nI w, K, N, S, P, O, C, U, G, H, R, xw, mv, co, cr, xp, pk, pn, ps, wo, wb, wp, wk) (md, nI w, K, N, E, P, ow, C, H, R, U, gv, ga, gb, yw, vv, f1, r1, f2, r2, yp, qk, qn, qs, zo, zb, zp, zk)) (md, nI w, K, N, E, P, ow, C, H, R, U, gv, ga, gb, yw, vv, f1, r1, f2, r2, yp, qk, qn, qs, zo, zb, zp, zk) v1 v2 := fun z => by
    have n : ∀ c : Nat, c < 3 → ¬ v2 = nI c := fun c hc e => by
      subst e
      rcases z with z | z
      · exact nI_pos (by omega) z
      · exact nI_ge hc (by decide) z
    unfold wpY_got
    rcases pk_ix v1 (n := 4) (by decide) with y | y | ⟨a, ha, rfl⟩
    · exact hk_in0 (n := 3) (Or.inl y) (by decide) (br_f (n 1 (by omega)) (br_f (n 2 (by omega)) (br_f (n 0 (by omega)) ⟨rfl, J⟩)))
    · exact hk_in0 (n := 3) (Or.inr y) (by decide) (br_f (n 1 (by omega)) (br_f (n 2 (by omega)) (br_f (n 0 (by omega)) ⟨rfl, J⟩)))
    · exact hk_in1 (n := 3) (by omega) (by decide) (br_f (n 1 (by omega)) (br_f (n 2 (by omega)) (br_f (n 0 (by omega)) ⟨rfl, J⟩)))
  have out : (v1 < 0 ∨ nI 4 ≤ v1) → ∀ c : Nat, c < 3 → ∀ S0 : Unit, wX_got_20 (fun r => wpY_got (fun r' => r' = r ∧ i_Rel (k + 6) (md, nI w, K, N, S, P, O, C, U, G, H, R, xw, mv, co, cr, xp, pk, pn, ps, wo, wb, wp, wk) (md, nI w, K, N, E, P, ow, C, H, R, U, gv, ga, gb, yw, vv, f1, r1, f2, r2, yp, qk, qn, qs, zo, zb, zp, zk)) (md, nI w, K, N, E, P, ow, C, H, R, U, gv, ga, gb, yw, vv, f1, r1, f2, r2, yp, qk, qn, qs, zo, zb, zp, zk) v1 (nI c)) (nI c) md (nI w) K N S P O C U G H R xw mv co cr xp pk pn ps wo wb wp wk := fun z c hc _ => by
    obtain rfl | rfl | rfl : c = 0 ∨ c = 1 ∨ c = 2 := by omega
    · refine br_t rfl ?_
      unfold wpY_got
      exact hk_in0 (n := 3) z (by decide) (br_f (by decide) (br_f (by decide) (br_t rfl (br_t rfl ⟨rfl, J⟩))))
    · refine br_f (by decide) ?_
      unfold wpY_got
      exact hk_in0 (n := 3) z (by decide) (br_t rfl (br_t rfl ⟨rfl, J⟩))
    · refine br_f (by decide) ?_
      unfold wpY_got
      exact hk_in0 (n := 3) z (by decide) (br_f (by decide) (br_t rfl (br_t rfl ⟨rfl, J⟩)))
  rcases pk_ix v2 (n := 3) (by decide) with z | z | ⟨c, hc, rfl⟩
  · exact br_t z (bad (Or.inl z))
  · exact br_f (Int32.not_lt.mpr (Int32.le_trans (by decide) z)) (br_f (Int32.not_lt.mpr z) (bad (Or.inr z)))
  · refine br_f (nI_pos (by omega)) (br_t (nI_lt (b := 3) hc (by decide)) ?_)
    rcases pk_ix v1 (n := 4) (by decide) with y | y | ⟨a, ha, rfl⟩
    · exact br_t y (out (Or.inl y) c hc ())
    · exact br_f (Int32.not_lt.mpr (Int32.le_trans (by decide) y)) (br_f (Int32.not_lt.mpr y) (out (Or.inr y) c hc ()))
    · refine br_f (nI_pos (by omega)) (br_t (nI_lt (b := 4) ha (by decide)) ?_)
      obtain ⟨g1, g2, g3⟩ := hG a ha
      have hca : (nI a).toNatClampNeg = a := nI_clamp (by omega)
      have hva : vp_in (nI a) 4 := vp_in_nI ha (by decide)
      have e : nI a * 3 + nI c = nI (a * 3 + c) := by rw [hk_m3, nI_add]
      rw [e, nI_clamp (by omega)]
      refine ⟨vp_in_nI (by omega) (by decide), ?_⟩
      unfold wpY_got
      obtain rfl | rfl | rfl : c = 0 ∨ c = 1 ∨ c = 2 := by omega
      · exact hk_in1 (n := 3) (by omega) (by decide) (br_f (by decide) (br_f (by decide) (br_t rfl (br_f (by decide) ⟨hva, by rw [hca]; exact g1.symm, J⟩))))
      · exact hk_in1 (n := 3) (by omega) (by decide) (br_t rfl (br_f (by decide) (br_t rfl ⟨hva, by rw [hca]; exact g2.symm, J⟩)))
      · exact hk_in1 (n := 3) (by omega) (by decide) (br_f (by decide) (br_t rfl (br_f (by decide) (br_f (by decide) ⟨hva, by rw [hca]; exact g3.symm, J⟩))))
theorem i_vc_load {k : Nat} {u : SX} {v : SY} (I : i_Rel k u v) (hk : k + 6 ≤ 3072) (v1 : Int32) (v2 : Int32) (v3 : Int32) : wpX_load (fun r => wpY_load (fun r' => r' = r ∧ i_Rel (k + 6) u v) v v1 v2 v3) u v1 v2 v3 := by
  obtain ⟨md, w, K, N, S, P, O, C, U, G, H, R, xw, mv, co, cr, xp, pk, pn, ps, wo, wb, wp, wk, E, ow, gv, ga, gb, yw, vv, f1, r1, f2, r2, yp, qk, qn, qs, zo, zb, zp, zk, rfl, rfl, hR, hQ, hF⟩ := I
  have J : i_Rel (k + 6) (md, nI w, K, N, S, P, O, C, U, G, H, R, xw, mv, co, cr, xp, pk, pn, ps, wo, wb, wp, wk) (md, nI w, K, N, E, P, ow, C, H, R, U, gv, ga, gb, yw, vv, f1, r1, f2, r2, yp, qk, qn, qs, zo, zb, zp, zk) := hk_mk hR hQ hF
  obtain ⟨r, hX, hY, h0⟩ := hk_th (md := md) (K := K) (N := N) (S := S) (P := P) (O := O) (C := C) (U := U) (G := G) (H := H) (R := R) (xw := xw) (mv := mv) (co := co) (cr := cr) (xp := xp) (pk := pk) (pn := pn) (ps := ps) (wo := wo) (wb := wb) (wp := wp) (wk := wk) (E := E) (ow := ow) (gv := gv) (ga := ga) (gb := gb) (yw := yw) (vv := vv) (f1 := f1) (r1 := r1) (f2 := f2) (r2 := r2) (yp := yp) (qk := qk) (qn := qn) (qs := qs) (zo := zo) (zb := zb) (zp := zp) (zk := zk) (w := w) hR.1 hR.2.1 v1 v2 2 1 (Or.inr (by decide))
  unfold wpX_load wpX_testCell
  refine hX _ ?_
  by_cases hr : r = 0
  · obtain ⟨a, b, o, ha, hb, ho, rfl, rfl, hu, e, hko, -⟩ := h0 hr
    have hc : (nI (a * 10 + b)).toNatClampNeg = a * 10 + b := nI_clamp (by omega)
    have hv : vp_in (nI (a * 10 + b)) 40 := vp_in_nI (by omega) (by decide)
    refine br_t hr ?_
    have bad : (v3 < 0 ∨ nI 8 ≤ v3) → wpY_load (fun r' => r' = ((-9 : Int32).toInt64 - 10000000000) ∧ i_Rel (k + 6) (md, nI w, K, N, S, P, O, C, U, G, H, R, xw, mv, co, cr, xp, pk, pn, ps, wo, wb, wp, wk) (md, nI w, K, N, E, P, ow, C, H, R, U, gv, ga, gb, yw, vv, f1, r1, f2, r2, yp, qk, qn, qs, zo, zb, zp, zk)) (md, nI w, K, N, E, P, ow, C, H, R, U, gv, ga, gb, yw, vv, f1, r1, f2, r2, yp, qk, qn, qs, zo, zb, zp, zk) (nI a) (nI b) v3 := fun z => by
      unfold wpY_load
      exact hY _ (br_t hr (hk_in0 (n := 7) z (by decide) (br_t rfl (br_f (by decide) ⟨rfl, J⟩))))
    rcases pk_ix v3 (n := 8) (by decide) with z | z | ⟨c, hc8, rfl⟩
    · exact br_t z (br_f (by decide) (bad (Or.inl z)))
    · exact br_f (Int32.not_lt.mpr (Int32.le_trans (by decide) z)) (br_f (Int32.not_lt.mpr z) (br_f (by decide) (bad (Or.inr z))))
    · refine br_f (nI_pos (by omega)) (br_t (nI_lt (b := 8) hc8 (by decide)) (br_t rfl ?_))
      rw [hk_m10, hc, e, hk_m8]
      refine ⟨hv, vp_in_nI (by omega) (by decide), ?_⟩
      unfold wpY_load
      refine hY _ (br_t hr (hk_in1 (n := 7) (by omega) (by decide) (br_f (by decide) (br_t hr ?_))))
      refine hk_yob ha hb ?_
      rw [e]
      dsimp only
      rw [hk_8m]
      exact ⟨vp_in_nI (by omega) (by decide), rfl, J⟩
  · refine br_f hr (br_f hr ?_)
    unfold wpY_load
    exact hY _ (br_f hr (br_f hr ⟨rfl, J⟩))
theorem i_vc_store {k : Nat} {u : SX} {v : SY} (I : i_Rel k u v) (hk : k + 6 ≤ 3072) (v1 : Int32) (v2 : Int32) (v3 : Int32) (v4 : Int32) : wpX_store (fun r u' => wpY_store (fun r' v' => r' = r ∧ i_Rel (k + 6) u' v') v v1 v2 v3 v4) u v1 v2 v3 v4 := by
  obtain ⟨md, w, K, N, S, P, O, C, U, G, H, R, xw, mv, co, cr, xp, pk, pn, ps, wo, wb, wp, wk, E, ow, gv, ga, gb, yw, vv, f1, r1, f2, r2, yp, qk, qn, qs, zo, zb, zp, zk, rfl, rfl, hR, hQ, hF⟩ := I
  obtain ⟨r, hX, hY, h0⟩ := hk_th (md := md) (K := K) (N := N) (S := S) (P := P) (O := O) (C := C) (U := U) (G := G) (H := H) (R := R) (xw := xw) (mv := mv) (co := co) (cr := cr) (xp := xp) (pk := pk) (pn := pn) (ps := ps) (wo := wo) (wb := wb) (wp := wp) (wk := wk) (E := E) (ow := ow) (gv := gv) (ga := ga) (gb := gb) (yw := yw) (vv := vv) (f1 := f1) (r1 := r1) (f2 := f2) (r2 := r2) (yp := yp) (qk := qk) (qn := qn) (qs := qs) (zo := zo) (zb := zb) (zp := zp) (zk := zk) (w := w) hR.1 hR.2.1 v1 v2 2 2 (Or.inr (by decide))
  unfold wpX_store wpX_testCell
  refine hX _ ?_
  by_cases hr : r = 0
  · obtain ⟨a, b, o, ha, hb, ho, rfl, rfl, hu, e, hko, -⟩ := h0 hr
    have hc : (nI (a * 10 + b)).toNatClampNeg = a * 10 + b := nI_clamp (by omega)
    have hv : vp_in (nI (a * 10 + b)) 40 := vp_in_nI (by omega) (by decide)
    refine br_t hr ?_
    have bad : (v3 < 0 ∨ nI 8 ≤ v3) → wpY_store (fun r' v' => r' = -9 ∧ i_Rel (k + 6) (md, nI w, K, N, S, P, O, C, U, G, H, R, xw, mv, co, cr, xp, pk, pn, ps, wo, wb, wp, wk) v') (md, nI w, K, N, E, P, ow, C, H, R, U, gv, ga, gb, yw, vv, f1, r1, f2, r2, yp, qk, qn, qs, zo, zb, zp, zk) (nI a) (nI b) v3 v4 := fun z => by
      unfold wpY_store
      exact hY _ (br_t hr (hk_in0 (n := 7) z (by decide) (br_t rfl ⟨rfl, hk_mk hR hQ hF⟩)))
    rcases pk_ix v3 (n := 8) (by decide) with z | z | ⟨c, hc8, rfl⟩
    · exact br_t z (br_f (by decide) (bad (Or.inl z)))
    · exact br_f (Int32.not_lt.mpr (Int32.le_trans (by decide) z)) (br_f (Int32.not_lt.mpr z) (br_f (by decide) (bad (Or.inr z))))
    · refine br_f (nI_pos (by omega)) (br_t (nI_lt (b := 8) hc8 (by decide)) (br_t rfl ?_))
      rw [hk_m10, hc, e, hk_m8]
      refine ⟨hv, vp_in_nI (by omega) (by decide), nm_e ?_⟩
      unfold wpY_store
      refine hY _ (br_t hr (hk_in1 (n := 7) (by omega) (by decide) (br_f (by decide) ?_)))
      refine hk_yob ha hb ?_
      rw [e]
      dsimp only
      rw [hk_8m]
      exact ⟨vp_in_nI (by omega) (by decide), nm_e ⟨rfl, hk_mk hR hQ hF⟩⟩
  · refine br_f hr (br_f hr ?_)
    unfold wpY_store
    exact hY _ (br_f hr ⟨rfl, hk_mk hR hQ hF⟩)
def hk_cp (C : Nat → Int32) (f t : Nat) : Nat → Nat → Int32
  | 0 => C
  | n + 1 => upd (hk_cp C f t n) (t * 8 + n) (hk_cp C f t n (f * 8 + n))
section
variable {md : Int32} {w : Nat} {K N S P O C U G H R xw mv co cr xp pk pn ps wo wb wp wk : Nat → Int32} {E ow gv ga gb yw vv f1 r1 f2 r2 yp qk qn qs zo zb zp zk : Nat → Int32}
theorem hk_xtw {a b f t : Nat} (ha : a < 4) (hb : b < 10) (hf : f < 16) (ht : t < 16) (g1 : H (a * 10 + b) = -1) (g2 : ∀ j, j < b → H (a * 10 + j) ≠ -1) {post : Int32 → SX → Prop} (hp : post (nI b) (md, nI w, K, N, S, P, O, hk_cp C f t 8, U, G, upd H (a * 10 + b) (nI t), upd R (a * 10 + b) 63, xw, mv, co, cr, xp, pk, pn, ps, wo, wb, wp, wk)) : ∀ d c, c + d = 8 → wX_twin_61 post (nI a) (nI f) (nI t) md (nI w) (d + 1) (nI c) K N S P O (hk_cp C f t c) U G H R xw mv co cr xp pk pn ps wo wb wp wk := by
  intro d
  induction d with
  | zero =>
    intro c hc
    obtain rfl : c = 8 := by omega
    exact br_t (nI_le (a := 8) (by omega) (by omega)) (hk_xnh ha hb (nI t) 63 g1 g2 hp)
  | succ d ih =>
    intro c hc
    have e1 : (nI f * 8 + nI c).toNatClampNeg = f * 8 + c := by rw [hk_m8]; exact nI_clamp (by omega)
    have e2 : (nI t * 8 + nI c).toNatClampNeg = t * 8 + c := by rw [hk_m8]; exact nI_clamp (by omega)
    refine br_f (nI_ge (b := 8) (by omega) (by decide)) ⟨by rw [hk_m8]; exact vp_in_nI (by omega) (by decide), by rw [hk_m8]; exact vp_in_nI (by omega) (by decide), ?_⟩
    rw [e1, e2]
    exact nm_e (nm_r (nI_1 c) (ih (c + 1) (by omega)))
theorem hk_ytw (hH : hk_H K H) {a b f t : Nat} (ha : a < 4) (hb : b < 10) (hf : f < 16) (ht : t < 16) (g1 : H (a * 10 + b) = -1) (g2 : ∀ j, j < b → H (a * 10 + j) ≠ -1) {post : Int32 → SY → Prop} (hp : post (nI b) (md, nI w, K, N, E, P, ow, hk_cp C f t 8, upd H (a * 10 + b) (nI t), upd R (a * 10 + b) 63, U, gv, ga, gb, yw, vv, f1, r1, f2, r2, yp, qk, qn, qs, zo, zb, zp, zk)) : ∀ d c, c + d = 8 → wY_twin_56 post (nI a) (nI f) (nI t) md (nI w) (d + 1) (nI c) K N E P ow (hk_cp C f t c) H R U gv ga gb yw vv f1 r1 f2 r2 yp qk qn qs zo zb zp zk := by
  intro d
  induction d with
  | zero =>
    intro c hc
    obtain rfl : c = 8 := by omega
    exact br_t (nI_le (a := 8) (by omega) (by omega)) (hk_ynh hH ha hb (nI t) 63 g1 g2 hp)
  | succ d ih =>
    intro c hc
    have e1 : (8 * nI f + nI c).toNatClampNeg = f * 8 + c := by rw [hk_8m]; exact nI_clamp (by omega)
    have e2 : (8 * nI t + nI c).toNatClampNeg = t * 8 + c := by rw [hk_8m]; exact nI_clamp (by omega)
    refine br_f (nI_ge (b := 8) (by omega) (by decide)) ⟨by rw [hk_8m]; exact vp_in_nI (by omega) (by decide), by rw [hk_8m]; exact vp_in_nI (by omega) (by decide), ?_⟩
    rw [e1, e2]
    exact nm_e (nm_r (nI_1 c) (ih (c + 1) (by omega)))
end
theorem i_vc_twin {k : Nat} {u : SX} {v : SY} (I : i_Rel k u v) (hk : k + 6 ≤ 3072) (v1 : Int32) (v2 : Int32) : wpX_twin (fun r u' => wpY_twin (fun r' v' => r' = r ∧ i_Rel (k + 6) u' v') v v1 v2) u v1 v2 := by
  obtain ⟨md, w, K, N, S, P, O, C, U, G, H, R, xw, mv, co, cr, xp, pk, pn, ps, wo, wb, wp, wk, E, ow, gv, ga, gb, yw, vv, f1, r1, f2, r2, yp, qk, qn, qs, zo, zb, zp, zk, rfl, rfl, hR, hQ, hF⟩ := I
  have hK := hR.1
  have hH := hR.2.1
  obtain ⟨r, hX, hY, h0⟩ := hk_th (md := md) (K := K) (N := N) (S := S) (P := P) (O := O) (C := C) (U := U) (G := G) (H := H) (R := R) (xw := xw) (mv := mv) (co := co) (cr := cr) (xp := xp) (pk := pk) (pn := pn) (ps := ps) (wo := wo) (wb := wb) (wp := wp) (wk := wk) (E := E) (ow := ow) (gv := gv) (ga := ga) (gb := gb) (yw := yw) (vv := vv) (f1 := f1) (r1 := r1) (f2 := f2) (r2 := r2) (yp := yp) (qk := qk) (qn := qn) (qs := qs) (zo := zo) (zb := zb) (zp := zp) (zk := zk) (w := w) hK hH v1 v2 2 5 (Or.inr (by decide))
  unfold wpX_twin
  refine hX _ ?_
  by_cases hr : r = 0
  · obtain ⟨a, b, o, ha, hb, ho, rfl, rfl, hu, e, hko, -⟩ := h0 hr
    have hc : (nI (a * 10 + b)).toNatClampNeg = a * 10 + b := nI_clamp (by omega)
    have hv : vp_in (nI (a * 10 + b)) 40 := vp_in_nI (by omega) (by decide)
    have hn16 := hk_cnle (hk_lv K) 16
    have hn10 := hk_cnle (hk_fp H a) 10
    refine br_t hr ?_
    by_cases h1 : hk_cn (hk_lv K) 16 < 16
    · refine hk_xoc (br_t (nI_lt (b := 16) h1 (by decide)) ?_)
      have y1 : ¬ nI (hk_cn (hk_lv K) 16) = 16 := fun z => by have := (nI_eq (b := 16) (by omega) (by decide)).mp z; omega
      by_cases h2 : hk_cn (hk_fp H a) 10 = 0
      · have z2 : nI (hk_cn (hk_fp H a) 10) = 0 := by rw [h2]; rfl
        refine hk_xfc ha (br_t z2 ?_)
        unfold wpY_twin
        refine hY _ (br_t hr ?_)
        refine hk_yoc hK (br_f y1 ?_)
        exact hk_yfc hH ha (br_t z2 ⟨rfl, hk_mk hR hQ hF⟩)
      · have z2 : ¬ nI (hk_cn (hk_fp H a) 10) = 0 := nI_ne0 (by omega) (by omega)
        refine hk_xfc ha (br_f z2 ?_)
        obtain ⟨t, ht, t1, t2⟩ := hk_slot h1
        obtain ⟨d, hd, d1, d2⟩ := hk_room h2
        obtain ⟨⟨q1, q2, q3⟩, q4⟩ := hk_cre1 hR hQ ht t1 (k := 2) (Or.inr (Or.inl rfl))
        have hHt : hk_H (upd K t 2) (upd H (a * 10 + d) (nI t)) := hk_plH q2 (Or.inr ⟨t, ht, rfl, by rw [pk_us]; decide⟩)
        dsimp only
        rw [hk_m10, hc, e]
        refine ⟨hv, nm_e ?_⟩
        refine hk_xno ht 2 t1 t2 ?_
        dsimp only
        refine ⟨_, hk_xtw (f := o) (t := t) ha hd ho ht d1 d2 ?_ 8 0 rfl⟩
        unfold wpY_twin
        refine hY _ (br_t hr ?_)
        refine hk_yoc hK (br_f y1 ?_)
        refine hk_yfc hH ha (br_f z2 ?_)
        refine hk_yob ha hb ?_
        rw [e]
        refine hk_ycr hK ht 2 t1 t2 ?_
        dsimp only
        refine ⟨_, hk_ytw q2 (f := o) (t := t) ha hd ho ht d1 d2 ?_ 8 0 rfl⟩
        exact ⟨rfl, hk_mk ⟨q1, hHt, q3⟩ q4 (hk_plF ha hd hF hu)⟩
    · refine hk_xoc (br_f (nI_nlt (b := 16) (by omega) (by omega)) ?_)
      have y1 : nI (hk_cn (hk_lv K) 16) = 16 := by rw [show hk_cn (hk_lv K) 16 = 16 by omega]; rfl
      unfold wpY_twin
      refine hY _ (br_t hr ?_)
      exact hk_yoc hK (br_t y1 ⟨rfl, hk_mk hR hQ hF⟩)
  · refine br_f hr ?_
    unfold wpY_twin
    exact hY _ (br_f hr ⟨rfl, hk_mk hR hQ hF⟩)
end
section
/-- handles that refer to x; what the messages carry of x -/
def hk_hc (H : Nat → Int32) (x : Int32) : Nat → Bool := fun i => decide (H i = x)
def hk_mc (co : Nat → Int32) (x : Int32) (e : Nat) : Nat → Bool := fun i => decide (co (e * 8 + i) = x)
def hk_r2 (co xw : Nat → Int32) (x : Int32) : Nat → Nat
  | 0 => 0
  | e + 1 => hk_r2 co xw x e + hk_cn (hk_mc co x e) ((xw e).toNatClampNeg * 2)
def hk_rc (H co xw : Nat → Int32) (x : Int32) : Nat := hk_cn (hk_hc H x) 40 + hk_r2 co xw x 16
theorem hk_r2le {co xw : Nat → Int32} {x : Int32} (h : ∀ e, e < 16 → (xw e).toNatClampNeg ≤ 4) : ∀ e, e ≤ 16 → hk_r2 co xw x e ≤ e * 8
  | 0, _ => Nat.le_refl 0
  | e + 1, he => by
    have h1 := hk_r2le (co := co) (x := x) h e (by omega)
    have h2 := hk_cnle (hk_mc co x e) ((xw e).toNatClampNeg * 2)
    have h3 := h e (by omega)
    show hk_r2 co xw x e + hk_cn (hk_mc co x e) ((xw e).toNatClampNeg * 2) ≤ (e + 1) * 8
    omega
theorem hk_r20 {co xw : Nat → Int32} {x : Int32} : ∀ n, hk_r2 co xw x n = 0 → ∀ e, e < n → ∀ i, i < (xw e).toNatClampNeg * 2 → co (e * 8 + i) ≠ x
  | 0, _, e, he, _, _ => absurd he (Nat.not_lt_zero _)
  | n + 1, h, e, he, i, hi => by
    have h' : hk_r2 co xw x n + hk_cn (hk_mc co x n) ((xw n).toNatClampNeg * 2) = 0 := h
    by_cases z : e = n
    · subst z
      have := hk_cn0 (hk_mc co x e) _ (by omega) i hi
      simpa [hk_mc] using this
    · exact hk_r20 n (by omega) e (by omega) i hi
theorem hk_rc0 {H co xw : Nat → Int32} {x : Int32} (h : hk_rc H co xw x = 0) : (∀ i, i < 40 → H i ≠ x) ∧ ∀ e, e < 16 → ∀ i, i < (xw e).toNatClampNeg * 2 → co (e * 8 + i) ≠ x := by
  unfold hk_rc at h
  refine ⟨fun i hi => ?_, hk_r20 16 (by omega)⟩
  have := hk_cn0 (hk_hc H x) 40 (by omega) i hi
  simpa [hk_hc] using this
/-- what the messages' rows say to the counting -/
def hk_ct (K co xw yw f1 f2 : Nat → Int32) : Prop := ∀ e, e < 16 → (K e ≠ 1 ∧ xw e = 0) ∨ (K e = 1 ∧ ∃ n, n ≤ 4 ∧ xw e = nI n ∧ yw e = nI n ∧ ∀ j, j < n → co ((e * 4 + j) * 2) = f1 (e * 4 + j) ∧ co ((e * 4 + j) * 2 + 1) = f2 (e * 4 + j))
theorem hk_ctm {K xw xp mv co cr yw vv f1 r1 f2 r2 : Nat → Int32} (hX : hk_X K xw xp) (hM : hk_M K xw mv co cr yw vv f1 r1 f2 r2) : hk_ct K co xw yw f1 f2 := fun e he => by
  by_cases z : K e = 1
  · obtain ⟨n, hn, e1, e2, h⟩ := hM e he z
    exact Or.inr ⟨z, n, hn, e1, e2, fun j hj => ⟨(h j hj).2.1, (h j hj).2.2.1⟩⟩
  · exact Or.inl ⟨z, (hX e he).1 z⟩
theorem hk_ctn {K co xw yw f1 f2 : Nat → Int32} (h : hk_ct K co xw yw f1 f2) : ∀ e, e < 16 → ∃ n, n ≤ 4 ∧ xw e = nI n := fun e he => by
  rcases h e he with ⟨-, z⟩ | ⟨-, n, hn, e1, -⟩
  · exact ⟨0, by omega, z⟩
  · exact ⟨n, hn, e1⟩
theorem hk_ctl {K co xw yw f1 f2 : Nat → Int32} (h : hk_ct K co xw yw f1 f2) : ∀ e, e < 16 → (xw e).toNatClampNeg ≤ 4 := fun e he => by
  obtain ⟨n, hn, e1⟩ := hk_ctn h e he
  rw [e1, nI_clamp (by omega)]; exact hn
section
variable {md : Int32} {w : Nat} {K N S P O C U G H R xw mv co cr xp pk pn ps wo wb wp wk : Nat → Int32} {E ow gv ga gb yw vv f1 r1 f2 r2 yp qk qn qs zo zb zp zk : Nat → Int32}
theorem hk_xr47 {x : Int32} {e n : Nat} (he : e < 16) (hn : n ≤ 4) (hx : xw e = nI n) {post : Int32 → Prop} {J : Int32 → Int32 → Prop} {c : Nat} (hJ : J (nI (c + hk_cn (hk_mc co x e) (n * 2))) (nI (e + 1))) : ∀ d i, i + d = n * 2 → wX_references_47 post J x (nI e) (nI (e * 8)) md (nI w) K N S P O C U G H R xw mv co cr xp pk pn ps wo wb wp wk (d + 1) (nI (c + hk_cn (hk_mc co x e) i)) (nI i) := by
  have hc : (nI e).toNatClampNeg = e := nI_clamp (by omega)
  intro d
  induction d with
  | zero =>
    intro i hi
    obtain rfl : i = n * 2 := by omega
    refine ⟨vp_in_nI he (by decide), br_t ?_ (nm_r (nI_1 e) hJ)⟩
    rw [hc, hx, hk_m2]; exact Int32.le_refl _
  | succ d ih =>
    intro i hi
    have hci : (nI (e * 8) + nI i).toNatClampNeg = e * 8 + i := by rw [nI_add]; exact nI_clamp (by omega)
    refine ⟨vp_in_nI he (by decide), br_f ?_ ⟨?_, ?_⟩⟩
    · rw [hc, hx, hk_m2]; exact nI_ge (by omega) (by omega)
    · rw [nI_add]; exact vp_in_nI (by omega) (by decide)
    · by_cases z : co (e * 8 + i) = x
      · refine br_t (by rw [hci]; exact z) (nm_r (nI_1 _) (nm_r (nI_1 i) ?_))
        have := ih (i + 1) (by omega)
        rw [hk_cnt (by simp [hk_mc, z])] at this
        exact this
      · refine br_f (by rw [hci]; exact z) (nm_r (nI_1 i) ?_)
        have := ih (i + 1) (by omega)
        rw [hk_cnf (by simp [hk_mc, z])] at this
        exact this
theorem hk_xr31 (hC : hk_ct K co xw yw f1 f2) {x : Int32} {post : Int32 → Prop} {c : Nat} (hp : post (nI (c + hk_r2 co xw x 16))) : ∀ d e, e + d = 16 → wX_references_31 post x md (nI w) K N S P O C U G H R xw mv co cr xp pk pn ps wo wb wp wk (d + 1) (nI (c + hk_r2 co xw x e)) (nI e) := by
  intro d
  induction d with
  | zero =>
    intro e he
    obtain rfl : e = 16 := by omega
    exact br_t (nI_le (a := 16) (b := 16) (by omega) (by decide)) hp
  | succ d ih =>
    intro e he
    obtain ⟨n, hn, e1⟩ := hk_ctn hC e (by omega)
    have e8 : nI e * 4 * 2 = nI (e * 8) := by rw [hk_m4, hk_m2]; exact congrArg nI (by omega)
    refine br_f (nI_ge (b := 16) (by omega) (by decide)) (nm_r e8 ⟨n * 2 + 1, ?_⟩)
    refine hk_xr47 (c := c + hk_r2 co xw x e) (by omega) hn e1 ?_ (n * 2) 0 (by omega)
    have := ih (e + 1) (by omega)
    have h2 : c + hk_r2 co xw x (e + 1) = c + hk_r2 co xw x e + hk_cn (hk_mc co x e) (n * 2) := by
      show c + (hk_r2 co xw x e + hk_cn (hk_mc co x e) ((xw e).toNatClampNeg * 2)) = _
      rw [e1, nI_clamp (by omega), Nat.add_assoc]
    rw [h2] at this
    exact this
theorem hk_xr4 (hC : hk_ct K co xw yw f1 f2) {x : Int32} {post : Int32 → Prop} (hp : post (nI (hk_rc H co xw x))) : ∀ d j, j + d = 40 → wX_references_4 post x md (nI w) K N S P O C U G H R xw mv co cr xp pk pn ps wo wb wp wk (d + 1) (nI (hk_cn (hk_hc H x) j)) (nI j) := by
  intro d
  induction d with
  | zero =>
    intro j hj
    obtain rfl : j = 40 := by omega
    exact br_t (nI_le (a := 40) (b := 40) (by omega) (by decide)) ⟨_, hk_xr31 hC (c := hk_cn (hk_hc H x) 40) hp 16 0 rfl⟩
  | succ d ih =>
    intro j hj
    have hc : (nI j).toNatClampNeg = j := nI_clamp (by omega)
    refine br_f (nI_ge (b := 40) (by omega) (by decide)) ⟨vp_in_nI (by omega) (by decide), ?_⟩
    by_cases z : H j = x
    · refine br_t (by rw [hc]; exact z) (nm_r (nI_1 _) (nm_r (nI_1 j) ?_))
      have := ih (j + 1) (by omega)
      rw [hk_cnt (by simp [hk_hc, z])] at this
      exact this
    · refine br_f (by rw [hc]; exact z) (nm_r (nI_1 j) ?_)
      have := ih (j + 1) (by omega)
      rw [hk_cnf (by simp [hk_hc, z])] at this
      exact this
theorem hk_xrf (hC : hk_ct K co xw yw f1 f2) {x : Int32} {post : Int32 → Prop} (hp : post (nI (hk_rc H co xw x))) : wpX_references post (md, nI w, K, N, S, P, O, C, U, G, H, R, xw, mv, co, cr, xp, pk, pn, ps, wo, wb, wp, wk) x := ⟨41, hk_xr4 hC hp 40 0 rfl⟩
theorem hk_yr42 {x : Int32} {e n : Nat} (he : e < 16) (hn : n ≤ 4) (hk1 : K e = 1) (hy : yw e = nI n) (hf : ∀ j, j < n → co ((e * 4 + j) * 2) = f1 (e * 4 + j) ∧ co ((e * 4 + j) * 2 + 1) = f2 (e * 4 + j)) {post : Int32 → Prop} {J : Int32 → Int32 → Prop} {c : Nat} (hJ : J (nI (c + hk_cn (hk_mc co x e) (n * 2))) (nI (e + 1))) : ∀ d j, j + d = n → wY_references_42 post J x (nI e) md (nI w) K N E P ow C H R U gv ga gb yw vv f1 r1 f2 r2 yp qk qn qs zo zb zp zk (d + 1) (nI (c + hk_cn (hk_mc co x e) (j * 2))) (nI (e * 4 + j)) := by
  have hc : (nI e).toNatClampNeg = e := nI_clamp (by omega)
  have hv : vp_in (nI e) 16 := vp_in_nI he (by decide)
  have hs : 4 * nI e + yw (nI e).toNatClampNeg = nI (e * 4 + n) := by rw [hc, hy, hk_4m, nI_add]
  intro d
  induction d with
  | zero =>
    intro j hj
    obtain rfl : j = n := by omega
    exact ⟨hv, br_t (by rw [hc]; exact hk1) ⟨hv, br_t (by rw [hs]; exact Int32.le_refl _) (nm_r (nI_1 e) hJ)⟩⟩
  | succ d ih =>
    intro j hj
    have hci : (nI (e * 4 + j)).toNatClampNeg = e * 4 + j := nI_clamp (by omega)
    have hvi : vp_in (nI (e * 4 + j)) 64 := vp_in_nI (by omega) (by decide)
    refine ⟨hv, br_t (by rw [hc]; exact hk1) ⟨hv, br_f (by rw [hs]; exact nI_ge (by omega) (by omega)) ⟨hvi, ?_⟩⟩⟩
    have IH := ih (j + 1) (by omega)
    obtain ⟨g1, g2⟩ := hf j (by omega)
    have i1 : hk_mc co x e (j * 2) = decide (f1 (e * 4 + j) = x) := by
      unfold hk_mc; rw [show e * 8 + j * 2 = (e * 4 + j) * 2 by omega, g1]
    have i2 : hk_mc co x e (j * 2 + 1) = decide (f2 (e * 4 + j) = x) := by
      unfold hk_mc; rw [show e * 8 + (j * 2 + 1) = (e * 4 + j) * 2 + 1 by omega, g2]
    have hj2 : (j + 1) * 2 = j * 2 + 1 + 1 := by omega
    rw [hj2, hk_cns, hk_cns, i1, i2] at IH
    have e11 : (1 : Int32) + 1 = nI 2 := by decide
    have e10 : (1 : Int32) + 0 = nI 1 := by decide
    have e01 : (0 : Int32) + 1 = nI 1 := by decide
    have e00 : (0 : Int32) + 0 = nI 0 := by decide
    by_cases z1 : f1 (e * 4 + j) = x
    · refine br_t (by rw [hci]; exact z1) ⟨hvi, ?_⟩
      by_cases z2 : f2 (e * 4 + j) = x
      · simp only [z1, z2, decide_true, if_true] at IH
        exact br_t (by rw [hci]; exact z2) (nm_r (by rw [e11, nI_add]; exact congrArg nI (by omega)) (nm_r (nI_1 _) IH))
      · simp only [z1, z2, decide_true, decide_false, if_true, if_false, Bool.false_eq_true] at IH
        exact br_f (by rw [hci]; exact z2) (nm_r (by rw [e10, nI_add]; exact congrArg nI (by omega)) (nm_r (nI_1 _) IH))
    · refine br_f (by rw [hci]; exact z1) ⟨hvi, ?_⟩
      by_cases z2 : f2 (e * 4 + j) = x
      · simp only [z1, z2, decide_true, decide_false, if_true, if_false, Bool.false_eq_true] at IH
        exact br_t (by rw [hci]; exact z2) (nm_r (by rw [e01, nI_add]; exact congrArg nI (by omega)) (nm_r (nI_1 _) IH))
      · simp only [z1, z2, decide_false, if_false, Bool.false_eq_true] at IH
        exact br_f (by rw [hci]; exact z2) (nm_r (by rw [e00, nI_add]; exact congrArg nI (by omega)) (nm_r (nI_1 _) IH))
theorem hk_yr31 (hC : hk_ct K co xw yw f1 f2) {x : Int32} {post : Int32 → Prop} {c : Nat} (hp : post (nI (c + hk_r2 co xw x 16))) : ∀ d e, e + d = 16 → wY_references_31 post x md (nI w) K N E P ow C H R U gv ga gb yw vv f1 r1 f2 r2 yp qk qn qs zo zb zp zk (d + 1) (nI (c + hk_r2 co xw x e)) (nI e) := by
  intro d
  induction d with
  | zero =>
    intro e he
    obtain rfl : e = 16 := by omega
    exact br_t (nI_le (a := 16) (b := 16) (by omega) (by decide)) hp
  | succ d ih =>
    intro e he
    have hc : (nI e).toNatClampNeg = e := nI_clamp (by omega)
    have hv : vp_in (nI e) 16 := vp_in_nI (by omega) (by decide)
    have IH := ih (e + 1) (by omega)
    rcases hC e (by omega) with ⟨z, e1⟩ | ⟨z, n, hn, e1, e2, hf⟩
    · have h2 : c + hk_r2 co xw x (e + 1) = c + hk_r2 co xw x e := by
        show c + (hk_r2 co xw x e + hk_cn (hk_mc co x e) ((xw e).toNatClampNeg * 2)) = _
        rw [e1]; rfl
      rw [h2] at IH
      exact br_f (nI_ge (b := 16) (by omega) (by decide)) (nm_r (hk_4m e) ⟨1, hv, br_f (by rw [hc]; exact z) (nm_r (nI_1 e) IH)⟩)
    · have h2 : c + hk_r2 co xw x (e + 1) = c + hk_r2 co xw x e + hk_cn (hk_mc co x e) (n * 2) := by
        show c + (hk_r2 co xw x e + hk_cn (hk_mc co x e) ((xw e).toNatClampNeg * 2)) = _
        rw [e1, nI_clamp (by omega), Nat.add_assoc]
      rw [h2] at IH
      exact br_f (nI_ge (b := 16) (by omega) (by decide)) (nm_r (hk_4m e) ⟨n + 1, hk_yr42 (c := c + hk_r2 co xw x e) (by omega) hn z e2 hf IH n 0 (by omega)⟩)
theorem hk_yr4 (hC : hk_ct K co xw yw f1 f2) {x : Int32} {post : Int32 → Prop} (hp : post (nI (hk_rc H co xw x))) : ∀ d j, j + d = 40 → wY_references_4 post x md (nI w) K N E P ow C H R U gv ga gb yw vv f1 r1 f2 r2 yp qk qn qs zo zb zp zk (d + 1) (nI (hk_cn (hk_hc H x) j)) (nI j) := by
  intro d
  induction d with
  | zero =>
    intro j hj
    obtain rfl : j = 40 := by omega
    exact br_t (nI_le (a := 40) (b := 40) (by omega) (by decide)) ⟨_, hk_yr31 hC (c := hk_cn (hk_hc H x) 40) hp 16 0 rfl⟩
  | succ d ih =>
    intro j hj
    have hc : (nI j).toNatClampNeg = j := nI_clamp (by omega)
    refine br_f (nI_ge (b := 40) (by omega) (by decide)) ⟨vp_in_nI (by omega) (by decide), ?_⟩
    by_cases z : H j = x
    · refine br_t (by rw [hc]; exact z) (nm_r (nI_1 _) (nm_r (nI_1 j) ?_))
      have := ih (j + 1) (by omega)
      rw [hk_cnt (by simp [hk_hc, z])] at this
      exact this
    · refine br_f (by rw [hc]; exact z) (nm_r (nI_1 j) ?_)
      have := ih (j + 1) (by omega)
      rw [hk_cnf (by simp [hk_hc, z])] at this
      exact this
theorem hk_yrf (hC : hk_ct K co xw yw f1 f2) {x : Int32} {post : Int32 → Prop} (hp : post (nI (hk_rc H co xw x))) : wpY_references post (md, nI w, K, N, E, P, ow, C, H, R, U, gv, ga, gb, yw, vv, f1, r1, f2, r2, yp, qk, qn, qs, zo, zb, zp, zk) x := ⟨41, hk_yr4 hC hp 40 0 rfl⟩
/-- a slot that may go -/
def hk_go (K H co xw : Nat → Int32) (r : Int32) : Prop := ∃ o : Nat, o < 16 ∧ r = nI o ∧ K o ≠ -1 ∧ hk_rc H co xw (nI o) = 0
theorem hk_un (hK : hk_K K) (hC : hk_ct K co xw yw f1 f2) : ∀ d j b, j + d = 16 → (b = -1 ∨ hk_go K H co xw b) → ∃ r : Int32, (r = -1 ∨ hk_go K H co xw r) ∧ (∀ post : Int32 → Prop, post r → wX_leastUnreferenced_4 post md (nI w) K N S P O C U G H R xw mv co cr xp pk pn ps wo wb wp wk (d + 1) b (nI j)) ∧ (∀ post : Int32 → Prop, post r → wY_unused_4 post md (nI w) K N E P ow C H R U gv ga gb yw vv f1 r1 f2 r2 yp qk qn qs zo zb zp zk (d + 1) b (nI j)) := by
  intro d
  induction d with
  | zero =>
    intro j b hj hb
    obtain rfl : j = 16 := by omega
    have h : (16 : Int32) ≤ nI 16 := nI_le (a := 16) (b := 16) (by omega) (by decide)
    exact ⟨b, hb, fun post hp => br_t h hp, fun post hp => br_t h hp⟩
  | succ d ih =>
    intro j b hj hb
    have hc : (nI j).toNatClampNeg = j := nI_clamp (by omega)
    have hv : vp_in (nI j) 16 := vp_in_nI (by omega) (by decide)
    have h : ¬ (16 : Int32) ≤ nI j := nI_ge (b := 16) (by omega) (by decide)
    by_cases z : K j = -1
    · obtain ⟨r, h1, h2, h3⟩ := ih (j + 1) b (by omega) hb
      exact ⟨r, h1, fun post hp => br_f h ⟨hv, br_t (by rw [hc]; exact z) (nm_r (nI_1 j) (h2 post hp))⟩, fun post hp => br_f h ⟨hv, br_t (by rw [hc, z]; decide) (nm_r (nI_1 j) (h3 post hp))⟩⟩
    · have zy : ¬ K (nI j).toNatClampNeg < 0 := by rw [hc]; exact hk_kdn (hK j (by omega)) z
      have zx : ¬ K (nI j).toNatClampNeg = -1 := by rw [hc]; exact z
      have hle : hk_rc H co xw (nI j) < 2 ^ 31 := by
        have h1 := hk_cnle (hk_hc H (nI j)) 40
        have h2 := hk_r2le (co := co) (x := nI j) (hk_ctl hC) 16 (by omega)
        unfold hk_rc
        omega
      by_cases y : hk_rc H co xw (nI j) = 0
      · have yx : nI (hk_rc H co xw (nI j)) = 0 := by rw [y]; rfl
        have gj : hk_go K H co xw (nI j) := ⟨j, by omega, rfl, z, y⟩
        rcases hb with hb | ⟨o, ho, rfl, h4, h5⟩
        · obtain ⟨r, h1, h2, h3⟩ := ih (j + 1) (nI j) (by omega) (Or.inr gj)
          exact ⟨r, h1, fun post hp => br_f h ⟨hv, br_f zx (hk_xrf hC (br_t yx (br_t hb (nm_r (nI_1 j) (h2 post hp)))))⟩, fun post hp => br_f h ⟨hv, br_f zy (hk_yrf hC (br_t yx (br_t (hk_nn hb) (nm_r (nI_1 j) (h3 post hp)))))⟩⟩
        · have hbx : ¬ nI o = -1 := hk_ne o (by omega)
          have hby : ¬ nI o < 0 := nI_pos (by omega)
          have hvo : vp_in (nI o) 16 := vp_in_nI ho (by decide)
          by_cases q : N (nI o).toNatClampNeg ≤ N (nI j).toNatClampNeg
          · obtain ⟨r, h1, h2, h3⟩ := ih (j + 1) (nI o) (by omega) (Or.inr ⟨o, ho, rfl, h4, h5⟩)
            exact ⟨r, h1, fun post hp => br_f h ⟨hv, br_f zx (hk_xrf hC (br_t yx (br_f hbx ⟨hv, hvo, br_t q (nm_r (nI_1 j) (h2 post hp))⟩)))⟩, fun post hp => br_f h ⟨hv, br_f zy (hk_yrf hC (br_t yx (br_f hby ⟨hv, hvo, br_t q (nm_r (nI_1 j) (h3 post hp))⟩)))⟩⟩
          · obtain ⟨r, h1, h2, h3⟩ := ih (j + 1) (nI j) (by omega) (Or.inr gj)
            exact ⟨r, h1, fun post hp => br_f h ⟨hv, br_f zx (hk_xrf hC (br_t yx (br_f hbx ⟨hv, hvo, br_f q (nm_r (nI_1 j) (h2 post hp))⟩)))⟩, fun post hp => br_f h ⟨hv, br_f zy (hk_yrf hC (br_t yx (br_f hby ⟨hv, hvo, br_f q (nm_r (nI_1 j) (h3 post hp))⟩)))⟩⟩
      · have yx : ¬ nI (hk_rc H co xw (nI j)) = 0 := nI_ne0 (by omega) hle
        obtain ⟨r, h1, h2, h3⟩ := ih (j + 1) b (by omega) hb
        exact ⟨r, h1, fun post hp => br_f h ⟨hv, br_f zx (hk_xrf hC (br_f yx (nm_r (nI_1 j) (h2 post hp))))⟩, fun post hp => br_f h ⟨hv, br_f zy (hk_yrf hC (br_f yx (nm_r (nI_1 j) (h3 post hp))))⟩⟩
theorem hk_unu (hK : hk_K K) (hC : hk_ct K co xw yw f1 f2) : ∃ r : Int32, (r = -1 ∨ hk_go K H co xw r) ∧ (∀ post : Int32 → Prop, post r → wpX_leastUnreferenced post (md, nI w, K, N, S, P, O, C, U, G, H, R, xw, mv, co, cr, xp, pk, pn, ps, wo, wb, wp, wk)) ∧ (∀ post : Int32 → Prop, post r → wpY_unused post (md, nI w, K, N, E, P, ow, C, H, R, U, gv, ga, gb, yw, vv, f1, r1, f2, r2, yp, qk, qn, qs, zo, zb, zp, zk)) := by
  obtain ⟨r, h1, h2, h3⟩ := hk_un (md := md) (K := K) (N := N) (S := S) (P := P) (O := O) (C := C) (U := U) (G := G) (H := H) (R := R) (xw := xw) (mv := mv) (co := co) (cr := cr) (xp := xp) (pk := pk) (pn := pn) (ps := ps) (wo := wo) (wb := wb) (wp := wp) (wk := wk) (E := E) (ow := ow) (gv := gv) (ga := ga) (gb := gb) (yw := yw) (vv := vv) (f1 := f1) (r1 := r1) (f2 := f2) (r2 := r2) (yp := yp) (qk := qk) (qn := qn) (qs := qs) (zo := zo) (zb := zb) (zp := zp) (zk := zk) (w := w) hK hC 16 0 (-1) rfl (Or.inl rfl)
  exact ⟨r, h1, fun post hp => ⟨_, h2 post hp⟩, fun post hp => ⟨_, h3 post hp⟩⟩
end
end
section
def hk_mb (U : Nat → Int32) : Nat → Int32
  | 0 => 0
  | n + 1 => if U n = 0 then hk_mb U n else hk_mb U n ||| ((1 : Int32) <<< (nI n &&& 31))
section
variable {md : Int32} {w : Nat} {K N S P O C U G H R xw mv co cr xp pk pn ps wo wb wp wk : Nat → Int32} {E ow gv ga gb yw vv f1 r1 f2 r2 yp qk qn qs zo zb zp zk : Nat → Int32}
theorem hk_ysg (hK : hk_K K) (hO : hk_O K O ow) {o : Nat} (ho : o < 16) (hko : K o ≠ -1) {post : Int32 → Prop} (hp : post (hk_sg K P E ow U yw yp o)) : wpY_signals post (md, nI w, K, N, E, P, ow, C, H, R, U, gv, ga, gb, yw, vv, f1, r1, f2, r2, yp, qk, qn, qs, zo, zb, zp, zk) (nI o) := by
  have hc : (nI o).toNatClampNeg = o := nI_clamp (by omega)
  have hv : vp_in (nI o) 16 := vp_in_nI ho (by decide)
  unfold wpY_signals
  unfold hk_sg at hp
  refine ⟨hv, ?_⟩
  rcases hK o ho with e | e | e | e | e | e
  · exact absurd e hko
  · rw [if_pos e] at hp
    exact nm_r (by rw [hc]; exact e) (br_f (by decide) (br_f (by decide) (br_t rfl ⟨hv, by rw [hc]; exact hp⟩)))
  · rw [if_neg (by rw [e]; decide), if_pos e] at hp
    refine nm_r (by rw [hc]; exact e) (br_f (by decide) (br_f (by decide) (br_f (by decide) (br_t rfl ⟨hv, ?_⟩))))
    rw [hc]
    by_cases z : yw o ≤ 0
    · rw [if_pos z] at hp
      refine br_t z ⟨hv, ?_⟩
      rw [hc]
      by_cases y : 0 ≤ P o
      · rw [if_pos y] at hp
        exact br_t y hp
      · rw [if_neg y] at hp
        exact br_f y hp
    · rw [if_neg z] at hp
      refine br_f z ⟨hv, ?_⟩
      rw [hc]
      by_cases y : 0 ≤ P o
      · rw [if_pos y] at hp
        exact br_t y hp
      · rw [if_neg y] at hp
        exact br_f y hp
  · rw [if_neg (by rw [e]; decide), if_neg (by rw [e]; decide), if_neg (by rw [e]; decide), if_neg (by rw [e]; decide)] at hp
    exact nm_r (by rw [hc]; exact e) (br_f (by decide) (br_f (by decide) (br_f (by decide) (br_f (by decide) (br_t rfl hp)))))
  · rw [if_neg (by rw [e]; decide), if_neg (by rw [e]; decide), if_pos e] at hp
    refine nm_r (by rw [hc]; exact e) (br_f (by decide) (br_f (by decide) (br_f (by decide) (br_f (by decide) (br_f (by decide) (br_t rfl ⟨hv, ?_⟩))))))
    rw [hc]
    by_cases z : yp o ≤ 0
    · rw [if_pos z] at hp
      exact br_t z hp
    · rw [if_neg z] at hp
      exact br_f z hp
  · rw [if_neg (by rw [e]; decide), if_neg (by rw [e]; decide), if_neg (by rw [e]; decide), if_pos e] at hp
    obtain ⟨p, hp4, -, e2⟩ := hO.1 o ho e
    refine nm_r (by rw [hc]; exact e) (br_f (by decide) (br_f (by decide) (br_f (by decide) (br_f (by decide) (br_f (by decide) (br_f (by decide) (br_t rfl ⟨hv, ?_⟩)))))))
    rw [hc]
    refine br_f (by rw [e2]; exact nI_pos (by omega)) ⟨hv, by rw [e2]; exact vp_in_nI hp4 (by decide), ?_⟩
    by_cases z : U (ow o).toNatClampNeg = 0
    · rw [if_pos z] at hp
      exact br_t z hp
    · rw [if_neg z] at hp
      exact br_f z hp
theorem hk_xrb {post : Int32 → Prop} (hp : post (hk_mb U 4)) : ∀ d j, j + d = 4 → wX_runningBits_4 post md (nI w) K N S P O C U G H R xw mv co cr xp pk pn ps wo wb wp wk (d + 1) (hk_mb U j) (nI j) := by
  intro d
  induction d with
  | zero =>
    intro j hj
    obtain rfl : j = 4 := by omega
    exact br_t (nI_le (a := 4) (b := 4) (by omega) (by decide)) hp
  | succ d ih =>
    intro j hj
    have hc : (nI j).toNatClampNeg = j := nI_clamp (by omega)
    have IH := ih (j + 1) (by omega)
    refine br_f (nI_ge (b := 4) (by omega) (by decide)) ⟨vp_in_nI (by omega) (by decide), ?_⟩
    by_cases z : U j = 0
    · rw [show hk_mb U (j + 1) = hk_mb U j from if_pos z] at IH
      exact br_t (by rw [hc]; exact z) (nm_r (nI_1 j) IH)
    · rw [show hk_mb U (j + 1) = _ from if_neg z] at IH
      exact br_f (by rw [hc]; exact z) (nm_e (nm_r (nI_1 j) IH))
theorem hk_yrb {post : Int32 → Prop} {x : Int32} (hp : ((x = 0 → (wpY_objects (fun r => (post r)) (md, nI w, K, N, E, P, ow, C, H, R, U, gv, ga, gb, yw, vv, f1, r1, f2, r2, yp, qk, qn, qs, zo, zb, zp, zk))) ∧ (¬ x = 0 → (((x = 1 → (post (nI w))) ∧ (¬ x = 1 → (((x = 2 → (post (hk_mb U 4))) ∧ (¬ x = 2 → (((x = 3 → (post md)) ∧ (¬ x = 3 → (post (-9)))))))))))))) : ∀ d j, j + d = 4 → wY_info_21 post x md (nI w) K N E P ow C H R U gv ga gb yw vv f1 r1 f2 r2 yp qk qn qs zo zb zp zk (d + 1) (hk_mb U j) (nI j) := by
  intro d
  induction d with
  | zero =>
    intro j hj
    obtain rfl : j = 4 := by omega
    exact br_t (nI_le (a := 4) (b := 4) (by omega) (by decide)) hp
  | succ d ih =>
    intro j hj
    have hc : (nI j).toNatClampNeg = j := nI_clamp (by omega)
    have IH := ih (j + 1) (by omega)
    refine br_f (nI_ge (b := 4) (by omega) (by decide)) ⟨vp_in_nI (by omega) (by decide), ?_⟩
    by_cases z : U j = 0
    · rw [show hk_mb U (j + 1) = hk_mb U j from if_pos z] at IH
      exact br_t (by rw [hc]; exact z) (nm_r (nI_1 j) IH)
    · rw [show hk_mb U (j + 1) = _ from if_neg z] at IH
      exact br_f (by rw [hc]; exact z) (nm_e (nm_r (nI_1 j) IH))
theorem hk_nc {x : Int32} {n : Nat} (hn : n < 2 ^ 31) (z : x < 0 ∨ nI n ≤ x) (c : Nat) (hc : c < n) : ¬ x = nI c := fun e => by
  subst e
  rcases z with z | z
  · exact nI_pos (by omega) z
  · exact nI_ge hc hn z
end
theorem i_vc_info {k : Nat} {u : SX} {v : SY} (I : i_Rel k u v) (hk : k + 6 ≤ 3072) (v1 : Int32) (v2 : Int32) (v3 : Int32) : wpX_info (fun r => wpY_info (fun r' => r' = r ∧ i_Rel (k + 6) u v) v v1 v2 v3) u v1 v2 v3 := by
  obtain ⟨md, w, K, N, S, P, O, C, U, G, H, R, xw, mv, co, cr, xp, pk, pn, ps, wo, wb, wp, wk, E, ow, gv, ga, gb, yw, vv, f1, r1, f2, r2, yp, qk, qn, qs, zo, zb, zp, zk, rfl, rfl, hR, hQ, hF⟩ := I
  have J : i_Rel (k + 6) (md, nI w, K, N, S, P, O, C, U, G, H, R, xw, mv, co, cr, xp, pk, pn, ps, wo, wb, wp, wk) (md, nI w, K, N, E, P, ow, C, H, R, U, gv, ga, gb, yw, vv, f1, r1, f2, r2, yp, qk, qn, qs, zo, zb, zp, zk) := hk_mk hR hQ hF
  obtain ⟨hK, hH, hX, hM, hP, hE, hO, hS, hW, hG⟩ := hR
  unfold wpX_info
  by_cases hr : hk_run U v1
  · obtain ⟨a, ha, rfl, hu⟩ := hr
    refine hk_xr1 ha hu (br_f (by decide) ?_)
    by_cases h2 : v2 = -1
    · have HY : ∀ post : Int32 → Prop, ((v3 = 0 → (wpY_objects (fun r => (post r)) (md, nI w, K, N, E, P, ow, C, H, R, U, gv, ga, gb, yw, vv, f1, r1, f2, r2, yp, qk, qn, qs, zo, zb, zp, zk))) ∧ (¬ v3 = 0 → (((v3 = 1 → (post (nI w))) ∧ (¬ v3 = 1 → (((v3 = 2 → (post (hk_mb U 4))) ∧ (¬ v3 = 2 → (((v3 = 3 → (post md)) ∧ (¬ v3 = 3 → (post (-9))))))))))))) → wpY_info post (md, nI w, K, N, E, P, ow, C, H, R, U, gv, ga, gb, yw, vv, f1, r1, f2, r2, yp, qk, qn, qs, zo, zb, zp, zk) (nI a) v2 v3 := fun post hp => by
        unfold wpY_info
        exact hk_yr1 ha hu (br_f (by decide) (br_t h2 ⟨_, hk_yrb hp 4 0 rfl⟩))
      refine br_t h2 ?_
      unfold wpX_infoOfAll
      rcases pk_ix v3 (n := 4) (by decide) with z | z | ⟨c, hc, rfl⟩
      · have n := hk_nc (n := 4) (by decide) (Or.inl z)
        exact br_t z (HY _ (br_f (n 0 (by omega)) (br_f (n 1 (by omega)) (br_f (n 2 (by omega)) (br_f (n 3 (by omega)) ⟨rfl, J⟩)))))
      · have n := hk_nc (n := 4) (by decide) (Or.inr z)
        have h3 : (3 : Int32) < v3 := Int32.lt_of_lt_of_le (by decide) z
        exact br_f (Int32.not_lt.mpr (Int32.le_trans (by decide) z)) (br_t h3 (HY _ (br_f (n 0 (by omega)) (br_f (n 1 (by omega)) (br_f (n 2 (by omega)) (br_f (n 3 (by omega)) ⟨rfl, J⟩))))))
      · refine br_f (nI_pos (by omega)) (br_f (nI_nlt (a := 3) (by omega) (by decide)) ?_)
        obtain rfl | rfl | rfl | rfl : c = 0 ∨ c = 1 ∨ c = 2 ∨ c = 3 := by omega
        · refine br_t rfl ?_
          refine hk_xoc ?_
          refine HY _ (br_t rfl ?_)
          exact hk_yoc hK ⟨rfl, J⟩
        · exact br_f (by decide) (br_t rfl (HY _ (br_f (by decide) (br_t rfl ⟨rfl, J⟩))))
        · refine br_f (by decide) (br_f (by decide) (br_t rfl ?_))
          refine ⟨_, hk_xrb ?_ 4 0 rfl⟩
          exact HY _ (br_f (by decide) (br_f (by decide) (br_t rfl ⟨rfl, J⟩)))
        · exact br_f (by decide) (br_f (by decide) (br_f (by decide) (br_t rfl (HY _ (br_f (by decide) (br_f (by decide) (br_f (by decide) (br_t rfl ⟨rfl, J⟩))))))))
    · refine br_f h2 ?_
      obtain ⟨r, xt, yt, h0⟩ := hk_th1 (md := md) (K := K) (N := N) (S := S) (P := P) (O := O) (C := C) (U := U) (G := G) (H := H) (R := R) (xw := xw) (mv := mv) (co := co) (cr := cr) (xp := xp) (pk := pk) (pn := pn) (ps := ps) (wo := wo) (wb := wb) (wp := wp) (wk := wk) (E := E) (ow := ow) (gv := gv) (ga := ga) (gb := gb) (yw := yw) (vv := vv) (f1 := f1) (r1 := r1) (f2 := f2) (r2 := r2) (yp := yp) (qk := qk) (qn := qn) (qs := qs) (zo := zo) (zb := zb) (zp := zp) (zk := zk) (w := w) hK hH ha hu v2 (-1) 0 (Or.inl rfl)
      refine xt _ ?_
      by_cases hr : r = 0
      · obtain ⟨b, o, hb, ho, rfl, e, hko, -⟩ := h0 hr
        have hc : (nI (a * 10 + b)).toNatClampNeg = a * 10 + b := nI_clamp (by omega)
        have hv : vp_in (nI (a * 10 + b)) 40 := vp_in_nI (by omega) (by decide)
        have hco : (nI o).toNatClampNeg = o := nI_clamp (by omega)
        have hvo : vp_in (nI o) 16 := vp_in_nI ho (by decide)
        refine br_t hr (nm_r (hk_m10 a b) ⟨hv, nm_r (e' := nI o) (by rw [hc]; exact e) ?_⟩)
        rcases pk_ix v3 (n := 6) (by decide) with z | z | ⟨c, hc6, rfl⟩
        · refine br_t z ?_
          unfold wpY_info
          refine hk_yr1 ha hu (br_f (by decide) (br_f h2 ?_))
          refine yt _ (br_t hr ?_)
          exact hk_yob ha hb (br_t z ⟨rfl, J⟩)
        · have h3 : (5 : Int32) < v3 := Int32.lt_of_lt_of_le (by decide) z
          have h4 : ¬ v3 < 0 := Int32.not_lt.mpr (Int32.le_trans (by decide) z)
          refine br_f h4 (br_t h3 ?_)
          unfold wpY_info
          refine hk_yr1 ha hu (br_f (by decide) (br_f h2 ?_))
          refine yt _ (br_t hr ?_)
          exact hk_yob ha hb (br_f h4 (br_t h3 ⟨rfl, J⟩))
        · have h4 : ¬ nI c < 0 := nI_pos (by omega)
          have h3 : ¬ 5 < nI c := nI_nlt (a := 5) (by omega) (by decide)
          refine br_f h4 (br_f h3 ?_)
          obtain rfl | rfl | rfl | rfl | rfl | rfl : c = 0 ∨ c = 1 ∨ c = 2 ∨ c = 3 ∨ c = 4 ∨ c = 5 := by omega
          · refine br_t rfl ⟨hvo, ?_⟩
            unfold wpY_info
            refine hk_yr1 ha hu (br_f (by decide) (br_f h2 ?_))
            refine yt _ (br_t hr ?_)
            refine hk_yob ha hb (br_f h4 (br_f h3 ?_))
            rw [e]
            exact br_t rfl ⟨hvo, rfl, J⟩
          · refine br_f (by decide) (br_t rfl ⟨hvo, ?_⟩)
            unfold wpY_info
            refine hk_yr1 ha hu (br_f (by decide) (br_f h2 ?_))
            refine yt _ (br_t hr ?_)
            refine hk_yob ha hb (br_f h4 (br_f h3 ?_))
            rw [e]
            exact br_f (by decide) (br_t rfl ⟨hvo, rfl, J⟩)
          · refine br_f (by decide) (br_f (by decide) (br_t rfl ⟨hv, ?_⟩))
            unfold wpY_info
            refine hk_yr1 ha hu (br_f (by decide) (br_f h2 ?_))
            refine yt _ (br_t hr ?_)
            refine hk_yob ha hb (br_f h4 (br_f h3 ?_))
            refine br_f (by decide) (br_f (by decide) (br_t rfl ?_))
            rw [hk_10m]
            exact ⟨hv, rfl, J⟩
          · refine br_f (by decide) (br_f (by decide) (br_f (by decide) (br_t rfl ⟨hvo, ?_⟩)))
            unfold wpY_info
            refine hk_yr1 ha hu (br_f (by decide) (br_f h2 ?_))
            refine yt _ (br_t hr ?_)
            refine hk_yob ha hb (br_f h4 (br_f h3 ?_))
            rw [e]
            refine br_f (by decide) (br_f (by decide) (br_f (by decide) (br_t rfl ?_)))
            exact hk_ysg hK hO ho hko ⟨by rw [hco]; exact (hS o ho hko).symm, J⟩
          · refine br_f (by decide) (br_f (by decide) (br_f (by decide) (br_f (by decide) (br_t rfl ?_))))
            refine hk_xrf (hk_ctm hX hM) ?_
            unfold wpY_info
            refine hk_yr1 ha hu (br_f (by decide) (br_f h2 ?_))
            refine yt _ (br_t hr ?_)
            refine hk_yob ha hb (br_f h4 (br_f h3 ?_))
            rw [e]
            refine br_f (by decide) (br_f (by decide) (br_f (by decide) (br_f (by decide) (br_t rfl ?_))))
            exact hk_yrf (hk_ctm hX hM) ⟨rfl, J⟩
          · refine br_f (by decide) (br_f (by decide) (br_f (by decide) (br_f (by decide) (br_f (by decide) (br_t rfl ⟨hvo, ?_⟩)))))
            have HY : ∀ q : Int32, ((K o = 1 → (P o < 0 → q = -1) ∧ (¬ P o < 0 → vp_in (P o) 16 ∧ N (P o).toNatClampNeg = q)) ∧ (¬ K o = 1 → q = -1)) → wpY_info (fun r' => r' = q ∧ i_Rel (k + 6) (md, nI w, K, N, S, P, O, C, U, G, H, R, xw, mv, co, cr, xp, pk, pn, ps, wo, wb, wp, wk) (md, nI w, K, N, E, P, ow, C, H, R, U, gv, ga, gb, yw, vv, f1, r1, f2, r2, yp, qk, qn, qs, zo, zb, zp, zk)) (md, nI w, K, N, E, P, ow, C, H, R, U, gv, ga, gb, yw, vv, f1, r1, f2, r2, yp, qk, qn, qs, zo, zb, zp, zk) (nI a) (nI b) (nI 5) := fun q hq => by
              unfold wpY_info
              refine hk_yr1 ha hu (br_f (by decide) (br_f h2 ?_))
              refine yt _ (br_t hr ?_)
              refine hk_yob ha hb (br_f h4 (br_f h3 ?_))
              rw [e]
              refine br_f (by decide) (br_f (by decide) (br_f (by decide) (br_f (by decide) (br_f (by decide) (br_t rfl ⟨hvo, ?_⟩)))))
              rw [hco]
              exact ⟨fun z => ⟨hvo, fun y => ⟨((hq.1 z).1 y).symm, J⟩, fun y => ⟨hvo, ((hq.1 z).2 y).1, ((hq.1 z).2 y).2, J⟩⟩, fun z => ⟨(hq.2 z).symm, J⟩⟩
            rw [hco]
            rcases hE o ho hko with z | ⟨z, f, hf, -, e1, -⟩
            · refine br_t z (HY _ ⟨fun _ => ⟨fun _ => rfl, fun y => absurd (hk_nn z) y⟩, fun _ => rfl⟩)
            · refine br_f (by rw [e1]; exact hk_ne f (by omega)) ⟨hvo, by rw [e1]; exact vp_in_nI hf (by decide), ?_⟩
              refine HY _ ⟨fun _ => ⟨fun y => ?_, fun y => ⟨by rw [e1]; exact vp_in_nI hf (by decide), rfl⟩⟩, fun y => absurd z y⟩
              rw [e1] at y
              exact absurd y (nI_pos (by omega))
      · refine br_f hr ?_
        unfold wpY_info
        refine hk_yr1 ha hu (br_f (by decide) (br_f h2 ?_))
        exact yt _ (br_f hr ⟨rfl, J⟩)
  · refine hk_xr0 hr (br_t rfl ?_)
    unfold wpY_info
    exact hk_yr0 hr (br_t rfl ⟨rfl, J⟩)
end
section
section
variable {md : Int32} {w : Nat} {K N S P O C U G H R xw mv co cr xp pk pn ps wo wb wp wk : Nat → Int32} {E ow gv ga gb yw vv f1 r1 f2 r2 yp qk qn qs zo zb zp zk : Nat → Int32}
theorem hk_ysS (hK : hk_K K) (hO : hk_O K O ow) (hS : hk_S K P S E ow U yw yp) {o : Nat} (ho : o < 16) (hko : K o ≠ -1) {post : Int32 → Prop} (hp : post (S o)) : wpY_signals post (md, nI w, K, N, E, P, ow, C, H, R, U, gv, ga, gb, yw, vv, f1, r1, f2, r2, yp, qk, qn, qs, zo, zb, zp, zk) (nI o) :=
  hk_ysg hK hO ho hko (by rw [← hS o ho hko]; exact hp)
theorem hk_xfmg (hw : w ≤ 12) (hv : ∀ i, i < w → ∃ o, o < 16 ∧ wo i = nI o) {i : Nat} (hi : i ≤ w) (hu : ∀ j, j < i → wb j &&& S (wo j).toNatClampNeg = 0) {post : Int32 → Prop} {n : Nat} (hp : wX_firstMetWatch_2 post md (nI w) K N S P O C U G H R xw mv co cr xp pk pn ps wo wb wp wk n (nI i)) : ∀ d j, j + d = i → wX_firstMetWatch_2 post md (nI w) K N S P O C U G H R xw mv co cr xp pk pn ps wo wb wp wk (n + d) (nI j) := by
  intro d
  induction d with
  | zero =>
    intro j hj
    obtain rfl : j = i := by omega
    exact hp
  | succ d ih =>
    intro j hj
    have hc : (nI j).toNatClampNeg = j := nI_clamp (by omega)
    have hvj : vp_in (nI j) 12 := vp_in_nI (by omega) (by decide)
    obtain ⟨o, ho, e⟩ := hv j (by omega)
    refine br_f (nI_ge (by omega) (by omega)) ⟨hvj, hvj, ?_⟩
    rw [hc]
    exact ⟨by rw [e]; exact vp_in_nI ho (by decide), br_t (hu j (by omega)) (nm_r (nI_1 j) (ih (j + 1) (by omega)))⟩
theorem hk_xfn (hw : w ≤ 12) (hv : ∀ i, i < w → ∃ o, o < 16 ∧ wo i = nI o) (hu : ∀ j, j < w → wb j &&& S (wo j).toNatClampNeg = 0) {post : Int32 → Prop} (hp : post (-1)) : wpX_firstMetWatch post (md, nI w, K, N, S, P, O, C, U, G, H, R, xw, mv, co, cr, xp, pk, pn, ps, wo, wb, wp, wk) :=
  ⟨_, hk_xfmg hw hv (Nat.le_refl w) hu (n := 1) (br_t (Int32.le_refl _) hp) w 0 (by omega)⟩
theorem hk_xfm (hw : w ≤ 12) (hv : ∀ i, i < w → ∃ o, o < 16 ∧ wo i = nI o) {i : Nat} (hi : i < w) (hm : ¬ wb i &&& S (wo i).toNatClampNeg = 0) (hu : ∀ j, j < i → wb j &&& S (wo j).toNatClampNeg = 0) {post : Int32 → Prop} (hp : post (nI i)) : wpX_firstMetWatch post (md, nI w, K, N, S, P, O, C, U, G, H, R, xw, mv, co, cr, xp, pk, pn, ps, wo, wb, wp, wk) := by
  refine ⟨_, hk_xfmg hw hv (Nat.le_of_lt hi) hu (n := 1) ?_ i 0 (by omega)⟩
  have hc : (nI i).toNatClampNeg = i := nI_clamp (by omega)
  have hvj : vp_in (nI i) 12 := vp_in_nI (by omega) (by decide)
  obtain ⟨o, ho, e⟩ := hv i hi
  refine br_f (nI_ge (by omega) (by omega)) ⟨hvj, hvj, ?_⟩
  rw [hc]
  exact ⟨by rw [e]; exact vp_in_nI ho (by decide), br_f hm hp⟩
theorem hk_xpp1 {q o n : Nat} (hq : q < 16) (ho : o < 16) (hn : n < 6) (e : xp q = nI n) (key : Int32) {post : SX → Prop} (hp : post (md, nI w, K, N, upd S q (S q ||| 256), P, O, C, U, G, H, R, xw, mv, co, cr, upd xp q (nI (n + 1)), upd pk (q * 6 + n) key, upd pn (q * 6 + n) (N o), upd ps (q * 6 + n) (S o), wo, wb, wp, wk)) : wpX_putPacket post (md, nI w, K, N, S, P, O, C, U, G, H, R, xw, mv, co, cr, xp, pk, pn, ps, wo, wb, wp, wk) (nI q) key (nI o) := by
  have hcq : (nI q).toNatClampNeg = q := nI_clamp (by omega)
  have hvq : vp_in (nI q) 16 := vp_in_nI hq (by decide)
  have hco : (nI o).toNatClampNeg = o := nI_clamp (by omega)
  have hvo : vp_in (nI o) 16 := vp_in_nI ho (by decide)
  have hx : nI q * 6 + nI n = nI (q * 6 + n) := by rw [hk_m6, nI_add]
  have hcx : (nI (q * 6 + n)).toNatClampNeg = q * 6 + n := nI_clamp (by omega)
  have hvx : vp_in (nI (q * 6 + n)) 96 := vp_in_nI (by omega) (by decide)
  unfold wpX_putPacket
  dsimp only
  rw [hcq, hco, e]
  refine ⟨hvq, br_t (nI_lt (b := 6) hn (by decide)) ⟨hvq, nm_r hx ?_⟩⟩
  rw [hcx, nI_1]
  exact ⟨hvx, nm_e ⟨hvo, hvx, nm_e ⟨hvo, hvx, nm_e ⟨hvq, hvq, nm_e ⟨hvq, hvq, nm_e hp⟩⟩⟩⟩⟩
theorem hk_xpp0 {q o : Nat} (hq : q < 16) (e : xp q = nI 6) (key : Int32) {post : SX → Prop} (hp : post (md, nI w, K, N, S, P, O, C, U, G, H, R, xw, mv, co, cr, xp, pk, pn, ps, wo, wb, wp, wk)) : wpX_putPacket post (md, nI w, K, N, S, P, O, C, U, G, H, R, xw, mv, co, cr, xp, pk, pn, ps, wo, wb, wp, wk) (nI q) key (nI o) := by
  have hcq : (nI q).toNatClampNeg = q := nI_clamp (by omega)
  have hvq : vp_in (nI q) 16 := vp_in_nI hq (by decide)
  unfold wpX_putPacket
  exact ⟨hvq, br_f (by rw [hcq, e]; decide) hp⟩
theorem hk_xdwl {i : Nat} (hw : w < 12) {post : SX → Prop} (hp : post (md, nI w, K, N, S, P, O, C, U, G, H, R, xw, mv, co, cr, xp, pk, pn, ps, hk_sh wo i w, hk_sh wb i w, hk_sh wp i w, hk_sh wk i w)) : ∀ d j, i ≤ j → j + d = w → wX_dropWatch_4 post (d + 1) (nI (j + 1)) md (nI (w + 1)) K N S P O C U G H R xw mv co cr xp pk pn ps (hk_sh wo i j) (hk_sh wb i j) (hk_sh wp i j) (hk_sh wk i j) := by
  intro d
  induction d with
  | zero =>
    intro j hij hj
    obtain rfl : j = w := by omega
    exact br_t (Int32.le_refl _) (nm_r (nI_pred j) hp)
  | succ d ih =>
    intro j hij hj
    have c1 : (nI (j + 1)).toNatClampNeg = j + 1 := nI_clamp (by omega)
    have c0 : (nI j).toNatClampNeg = j := nI_clamp (by omega)
    have v1 : vp_in (nI (j + 1)) 12 := vp_in_nI (by omega) (by decide)
    have v0 : vp_in (nI j) 12 := vp_in_nI (by omega) (by decide)
    refine br_f (nI_ge (by omega) (by omega)) ?_
    rw [nI_pred]
    unfold wpX_moveWatch
    dsimp only
    rw [c1, c0, hk_shs wo hij, hk_shs wb hij, hk_shs wp hij, hk_shs wk hij]
    exact ⟨v1, v0, nm_e ⟨v1, v0, nm_e ⟨v1, v0, nm_e ⟨v1, v0, nm_e (nm_r (nI_1 _) (ih (j + 1) (by omega) (by omega)))⟩⟩⟩⟩
theorem hk_xdw {i : Nat} (hw : w < 12) (hi : i ≤ w) {post : SX → Prop} (hp : post (md, nI w, K, N, S, P, O, C, U, G, H, R, xw, mv, co, cr, xp, pk, pn, ps, hk_sh wo i w, hk_sh wb i w, hk_sh wp i w, hk_sh wk i w)) : wpX_dropWatch post (md, nI (w + 1), K, N, S, P, O, C, U, G, H, R, xw, mv, co, cr, xp, pk, pn, ps, wo, wb, wp, wk) (nI i) := by
  unfold wpX_dropWatch
  have := hk_xdwl (i := i) hw hp (w - i) i (Nat.le_refl i) (by omega)
  rw [hk_sh0, hk_sh0, hk_sh0, hk_sh0] at this
  exact nm_r (nI_1 i) ⟨_, this⟩
theorem hk_yuwl {i : Nat} (hw : w < 12) {post : SY → Prop} (hp : post (md, nI w, K, N, E, P, ow, C, H, R, U, gv, ga, gb, yw, vv, f1, r1, f2, r2, yp, qk, qn, qs, hk_sh zo i w, hk_sh zb i w, hk_sh zp i w, hk_sh zk i w)) : ∀ d j, i ≤ j → j + d = w → wY_unwatch_12 post md (nI w) (d + 1) (nI j) K N E P ow C H R U gv ga gb yw vv f1 r1 f2 r2 yp qk qn qs (hk_sh zo i j) (hk_sh zb i j) (hk_sh zp i j) (hk_sh zk i j) := by
  intro d
  induction d with
  | zero =>
    intro j hij hj
    obtain rfl : j = w := by omega
    exact br_t (Int32.le_refl _) hp
  | succ d ih =>
    intro j hij hj
    have c1 : (nI (j + 1)).toNatClampNeg = j + 1 := nI_clamp (by omega)
    have c0 : (nI j).toNatClampNeg = j := nI_clamp (by omega)
    have v1 : vp_in (nI (j + 1)) 12 := vp_in_nI (by omega) (by decide)
    have v0 : vp_in (nI j) 12 := vp_in_nI (by omega) (by decide)
    refine br_f (nI_ge (by omega) (by omega)) ?_
    rw [nI_1, c1, c0, hk_shs zo hij, hk_shs zb hij, hk_shs zp hij, hk_shs zk hij]
    exact ⟨v1, v0, nm_e ⟨v1, v0, nm_e ⟨v1, v0, nm_e ⟨v1, v0, nm_e (nm_e (ih (j + 1) (by omega) (by omega)))⟩⟩⟩⟩
theorem hk_yuw {i : Nat} (hw : w < 12) (hi : i ≤ w) {post : SY → Prop} (hp : post (md, nI w, K, N, E, P, ow, C, H, R, U, gv, ga, gb, yw, vv, f1, r1, f2, r2, yp, qk, qn, qs, hk_sh zo i w, hk_sh zb i w, hk_sh zp i w, hk_sh zk i w)) : wpY_unwatch post (md, nI (w + 1), K, N, E, P, ow, C, H, R, U, gv, ga, gb, yw, vv, f1, r1, f2, r2, yp, qk, qn, qs, zo, zb, zp, zk) (nI i) := by
  unfold wpY_unwatch
  have := hk_yuwl (i := i) hw hp (w - i) i (Nat.le_refl i) (by omega)
  rw [hk_sh0, hk_sh0, hk_sh0, hk_sh0] at this
  exact nm_r (nI_pred w) ⟨_, this⟩
theorem hk_ytl (hK : hk_K K) (hO : hk_O K O ow) (hS : hk_S K P S E ow U yw yp) (hW : hk_W K w wo wb wp wk zo zb zp zk) {i : Nat} (hi : i ≤ w) (hu : ∀ j, j < i → wb j &&& S (wo j).toNatClampNeg = 0) {post : SY → Prop} {n : Nat} (hp : wY_tell_2 post n (nI i) md (nI w) K N E P ow C H R U gv ga gb yw vv f1 r1 f2 r2 yp qk qn qs zo zb zp zk) : ∀ d j, j + d = i → wY_tell_2 post (n + d) (nI j) md (nI w) K N E P ow C H R U gv ga gb yw vv f1 r1 f2 r2 yp qk qn qs zo zb zp zk := by
  intro d
  induction d with
  | zero =>
    intro j hj
    obtain rfl : j = i := by omega
    exact hp
  | succ d ih =>
    intro j hj
    have hw := hW.1
    have hc : (nI j).toNatClampNeg = j := nI_clamp (by omega)
    have hvj : vp_in (nI j) 12 := vp_in_nI (by omega) (by decide)
    obtain ⟨c1, c2, c3, c4, ⟨o, ho, e1, e2⟩, q, hq, e3, e4⟩ := hW.2 j (by omega)
    have hco : (nI o).toNatClampNeg = o := nI_clamp (by omega)
    refine br_f (nI_ge (by omega) (by omega)) ⟨hvj, nm_r (e' := nI o) (by rw [hc]; exact e1) ?_⟩
    refine hk_ysS hK hO hS ho e2 ?_
    refine ⟨hvj, nm_e ⟨hvj, nm_e ⟨hvj, br_t ?_ (nm_r (nI_1 j) (ih (j + 1) (by omega)))⟩⟩⟩
    have := hu j (by omega)
    rw [hc, ← c2, Int32.and_comm]
    rw [c1, e1, hco] at this
    exact this
theorem hk_Wsh {i : Nat} (hi : i ≤ w) (hW : hk_W K (w + 1) wo wb wp wk zo zb zp zk) : hk_W K w (hk_sh wo i w) (hk_sh wb i w) (hk_sh wp i w) (hk_sh wk i w) (hk_sh zo i w) (hk_sh zb i w) (hk_sh zp i w) (hk_sh zk i w) := by
  refine ⟨by have := hW.1; omega, fun j hj => hW.2 (hk_g i w j) ?_⟩
  unfold hk_g
  by_cases z : i ≤ j ∧ j < w
  · rw [if_pos z]; omega
  · rw [if_neg z]; omega
/-- the relation's port rows after a packet -/
theorem hk_pput {q n : Nat} (hR : (hk_K K ∧ hk_H K H ∧ hk_X K xw xp ∧ hk_M K xw mv co cr yw vv f1 r1 f2 r2 ∧ hk_P K xp pk pn ps yp qk qn qs ∧ hk_E K P ∧ hk_O K O ow ∧ hk_S K P S E ow U yw yp ∧ hk_W K w wo wb wp wk zo zb zp zk ∧ hk_G G gv ga gb)) (hq : q < 16) (hn : n < 6) (hkq : K q = 3) (e1 : xp q = nI n) (e2 : yp q = nI n) (key nu si : Int32) :
    (hk_K K ∧ hk_H K H ∧ hk_X K xw (upd xp q (nI (n + 1))) ∧ hk_M K xw mv co cr yw vv f1 r1 f2 r2 ∧ hk_P K (upd xp q (nI (n + 1))) (upd pk (q * 6 + n) key) (upd pn (q * 6 + n) nu) (upd ps (q * 6 + n) si) (upd yp q (nI (n + 1))) (upd qk (q * 6 + n) key) (upd qn (q * 6 + n) nu) (upd qs (q * 6 + n) si) ∧ hk_E K P ∧ hk_O K O ow ∧ hk_S K P (upd S q (S q ||| 256)) E ow U yw (upd yp q (nI (n + 1))) ∧ hk_W K w wo wb wp wk zo zb zp zk ∧ hk_G G gv ga gb) := by
  obtain ⟨hK, hH, hX, hM, hP, hE, hO, hS, hW, hG⟩ := hR
  refine ⟨hK, hH, ?_, hM, ?_, hE, hO, ?_, hW, hG⟩
  · intro e he
    refine ⟨(hX e he).1, fun z => ?_⟩
    have : e ≠ q := fun y => z (by rw [y]; exact hkq)
    rw [pk_un this]
    exact (hX e he).2 z
  · intro e he hke
    obtain ⟨m, hm, a1, a2, a3⟩ := hP e he hke
    by_cases z : e = q
    · subst z
      have hmn : m = n := (nI_eq (by omega) (by omega)).mp (a1.symm.trans e1)
      subst hmn
      refine ⟨m + 1, by omega, pk_us, pk_us, fun j hj => ?_⟩
      by_cases y : j = m
      · subst y
        rw [pk_us, pk_us, pk_us, pk_us, pk_us, pk_us]
        exact ⟨rfl, rfl, rfl⟩
      · have : e * 6 + j ≠ e * 6 + m := by omega
        rw [pk_un this, pk_un this, pk_un this, pk_un this, pk_un this, pk_un this]
        exact a3 j (by omega)
    · refine ⟨m, hm, by rw [pk_un z]; exact a1, by rw [pk_un z]; exact a2, fun j hj => ?_⟩
      have : e * 6 + j ≠ q * 6 + n := by omega
      rw [pk_un this, pk_un this, pk_un this, pk_un this, pk_un this, pk_un this]
      exact a3 j hj
  · intro e he hke
    by_cases z : e = q
    · subst z
      rw [pk_us, hS e he hke]
      unfold hk_sg
      have n0 : ¬ K e = 0 := by rw [hkq]; decide
      have n1 : ¬ K e = 1 := by rw [hkq]; decide
      have y1 : ¬ upd yp e (nI (n + 1)) e ≤ 0 := by rw [pk_us]; exact nI_nle (by omega) (by omega)
      rw [if_neg n0, if_neg n0, if_neg n1, if_neg n1, if_pos hkq, if_pos hkq, if_neg y1]
      by_cases y : yp e ≤ 0
      · rw [if_pos y]; decide
      · rw [if_neg y]; decide
    · rw [pk_un z, hS e he hke]
      unfold hk_sg
      rw [pk_un z]
end
section
variable {md : Int32} {K N P O C U G H R xw mv co cr E ow gv ga gb yw vv f1 r1 f2 r2 : Nat → Int32}
theorem hk_tell : ∀ (w : Nat) (S xp pk pn ps wo wb wp wk yp qk qn qs zo zb zp zk : Nat → Int32), (hk_K K ∧ hk_H K H ∧ hk_X K xw xp ∧ hk_M K xw mv co cr yw vv f1 r1 f2 r2 ∧ hk_P K xp pk pn ps yp qk qn qs ∧ hk_E K P ∧ hk_O K O ow ∧ hk_S K P S E ow U yw yp ∧ hk_W K w wo wb wp wk zo zb zp zk ∧ hk_G G gv ga gb) → ∃ (w' : Nat) (S' xp' pk' pn' ps' wo' wb' wp' wk' yp' qk' qn' qs' zo' zb' zp' zk' : Nat → Int32), (hk_K K ∧ hk_H K H ∧ hk_X K xw xp' ∧ hk_M K xw mv co cr yw vv f1 r1 f2 r2 ∧ hk_P K xp' pk' pn' ps' yp' qk' qn' qs' ∧ hk_E K P ∧ hk_O K O ow ∧ hk_S K P S' E ow U yw yp' ∧ hk_W K w' wo' wb' wp' wk' zo' zb' zp' zk' ∧ hk_G G gv ga gb) ∧ hk_Q w' S' wo' wb' ∧ (∀ t, t + w ≤ 12 → ∃ n, ∀ (Kx xwx : Nat → Int32) (post : SX → Prop), post (md, nI w', Kx, N, S', P, O, C, U, G, H, R, xwx, mv, co, cr, xp', pk', pn', ps', wo', wb', wp', wk') → wX_endMetWatches_2 post n (nI t) md (nI w) Kx N S P O C U G H R xwx mv co cr xp pk pn ps wo wb wp wk) ∧ (∃ n, ∀ post : SY → Prop, post (md, nI w', K, N, E, P, ow, C, H, R, U, gv, ga, gb, yw, vv, f1, r1, f2, r2, yp', qk', qn', qs', zo', zb', zp', zk') → wY_tell_2 post n 0 md (nI w) K N E P ow C H R U gv ga gb yw vv f1 r1 f2 r2 yp qk qn qs zo zb zp zk) := by
  intro w
  induction w with
  | zero =>
    intro S xp pk pn ps wo wb wp wk yp qk qn qs zo zb zp zk hR
    refine ⟨0, S, xp, pk, pn, ps, wo, wb, wp, wk, yp, qk, qn, qs, zo, zb, zp, zk, hR, fun i hi => absurd hi (Nat.not_lt_zero _), fun t ht => ⟨1, fun Kx xwx post hp => ?_⟩, ⟨1, fun post hp => br_t (by decide) hp⟩⟩
    by_cases z : t = 12
    · subst z
      exact br_t (by decide) hp
    · refine br_f (nI_ge (b := 12) (by omega) (by decide)) ?_
      exact hk_xfn (w := 0) (by omega) (fun i hi => absurd hi (Nat.not_lt_zero _)) (fun i hi => absurd hi (Nat.not_lt_zero _)) (br_t rfl hp)
  | succ w ih =>
    intro S xp pk pn ps wo wb wp wk yp qk qn qs zo zb zp zk hR
    obtain ⟨hK, hH, hX, hM, hP, hE, hO, hS, hW, hG⟩ := hR
    have hw := hW.1
    have hv : ∀ i, i < w + 1 → ∃ o, o < 16 ∧ wo i = nI o := fun i hi => by
      obtain ⟨c1, c2, c3, c4, ⟨o, ho, e1, e2⟩, -⟩ := hW.2 i hi
      exact ⟨o, ho, c1.trans e1⟩
    by_cases hm : ∃ i, i < w + 1 ∧ ¬ wb i &&& S (wo i).toNatClampNeg = 0
    · obtain ⟨i, ⟨hi, hmi⟩, hl⟩ := hk_least _ hm
      have hu : ∀ j, j < i → wb j &&& S (wo j).toNatClampNeg = 0 := fun j hj => Classical.byContradiction fun z => hl j hj ⟨by omega, z⟩
      obtain ⟨c1, c2, c3, c4, ⟨o, ho, e1, e2⟩, q, hq, e3, e4⟩ := hW.2 i hi
      obtain ⟨n, hn, x1, y1, -⟩ := hP q hq e4
      have hci : (nI i).toNatClampNeg = i := nI_clamp (by omega)
      have hvi : vp_in (nI i) 12 := vp_in_nI (by omega) (by decide)
      have hco : (nI o).toNatClampNeg = o := nI_clamp (by omega)
      have hvo : vp_in (nI o) 16 := vp_in_nI ho (by decide)
      have hcq : (nI q).toNatClampNeg = q := nI_clamp (by omega)
      have hvq : vp_in (nI q) 16 := vp_in_nI hq (by decide)
      have hmy : ¬ S o &&& zb i = 0 := fun z => hmi (by rw [c1, e1, hco, c2, Int32.and_comm]; exact z)
      have R0 : (hk_K K ∧ hk_H K H ∧ hk_X K xw xp ∧ hk_M K xw mv co cr yw vv f1 r1 f2 r2 ∧ hk_P K xp pk pn ps yp qk qn qs ∧ hk_E K P ∧ hk_O K O ow ∧ hk_S K P S E ow U yw yp ∧ hk_W K w (hk_sh wo i w) (hk_sh wb i w) (hk_sh wp i w) (hk_sh wk i w) (hk_sh zo i w) (hk_sh zb i w) (hk_sh zp i w) (hk_sh zk i w) ∧ hk_G G gv ga gb) := ⟨hK, hH, hX, hM, hP, hE, hO, hS, hk_Wsh (by omega) hW, hG⟩
      by_cases hn6 : n < 6
      · have R1 := hk_pput R0 hq hn6 e4 x1 y1 (zk i) (N o) (S o)
        obtain ⟨w', S', xp', pk', pn', ps', wo', wb', wp', wk', yp', qk', qn', qs', zo', zb', zp', zk', R', Q', X', ⟨ny, Y'⟩⟩ := ih _ _ _ _ _ _ _ _ _ _ _ _ _ _ _ _ _ R1
        refine ⟨w', S', xp', pk', pn', ps', wo', wb', wp', wk', yp', qk', qn', qs', zo', zb', zp', zk', R', Q', fun t ht => ?_, ⟨ny + 1 + i, fun post hp => ?_⟩⟩
        · obtain ⟨nx, X''⟩ := X' (t + 1) (by omega)
          refine ⟨nx + 1, fun Kx xwx post hp => ?_⟩
          refine br_f (nI_ge (b := 12) (by omega) (by decide)) ?_
          refine hk_xfm hw hv hi hmi hu (br_f (hk_ne i (by omega)) ⟨hvi, hvi, hvi, ?_⟩)
          rw [hci, c1, c3, c4, e1, e3]
          refine hk_xpp1 hq ho hn6 x1 (zk i) ?_
          refine hk_xdw (w := w) (by omega) (by omega) ?_
          exact nm_r (nI_1 t) (X'' Kx xwx post hp)
        · refine hk_ytl hK hO hS hW (i := i) (by omega) hu ?_ i 0 (by omega)
          refine br_f (nI_ge (by omega) (by omega)) ⟨hvi, nm_r (e' := nI o) (by rw [hci]; exact e1) ?_⟩
          refine hk_ysS hK hO hS ho e2 ?_
          dsimp only
          rw [hci]
          refine ⟨hvi, nm_r e3 ⟨hvi, nm_e ⟨hvi, br_f hmy ?_⟩⟩⟩
          refine hk_yuw (w := w) (by omega) (by omega) ?_
          dsimp only
          have hx : 6 * nI q + nI n = nI (q * 6 + n) := by rw [hk_6m, nI_add]
          have hcx : (nI (q * 6 + n)).toNatClampNeg = q * 6 + n := nI_clamp (by omega)
          have hvx : vp_in (nI (q * 6 + n)) 96 := vp_in_nI (by omega) (by decide)
          rw [hcq, hco, y1]
          refine ⟨hvq, br_f (nI_ge (b := 6) hn6 (by decide)) ⟨hvq, nm_r hx ?_⟩⟩
          rw [hcx, nI_1]
          exact ⟨hvx, nm_e ⟨hvo, hvx, nm_e ⟨hvx, nm_e ⟨hvq, hvq, nm_e (Y' post hp)⟩⟩⟩⟩
      · obtain rfl : n = 6 := by omega
        obtain ⟨w', S', xp', pk', pn', ps', wo', wb', wp', wk', yp', qk', qn', qs', zo', zb', zp', zk', R', Q', X', ⟨ny, Y'⟩⟩ := ih _ _ _ _ _ _ _ _ _ _ _ _ _ _ _ _ _ R0
        refine ⟨w', S', xp', pk', pn', ps', wo', wb', wp', wk', yp', qk', qn', qs', zo', zb', zp', zk', R', Q', fun t ht => ?_, ⟨ny + 1 + i, fun post hp => ?_⟩⟩
        · obtain ⟨nx, X''⟩ := X' (t + 1) (by omega)
          refine ⟨nx + 1, fun Kx xwx post hp => ?_⟩
          refine br_f (nI_ge (b := 12) (by omega) (by decide)) ?_
          refine hk_xfm hw hv hi hmi hu (br_f (hk_ne i (by omega)) ⟨hvi, hvi, hvi, ?_⟩)
          rw [hci, c1, c3, c4, e1, e3]
          refine hk_xpp0 hq x1 (zk i) ?_
          refine hk_xdw (w := w) (by omega) (by omega) ?_
          exact nm_r (nI_1 t) (X'' Kx xwx post hp)
        · refine hk_ytl hK hO hS hW (i := i) (by omega) hu ?_ i 0 (by omega)
          refine br_f (nI_ge (by omega) (by omega)) ⟨hvi, nm_r (e' := nI o) (by rw [hci]; exact e1) ?_⟩
          refine hk_ysS hK hO hS ho e2 ?_
          dsimp only
          rw [hci]
          refine ⟨hvi, nm_r e3 ⟨hvi, nm_e ⟨hvi, br_f hmy ?_⟩⟩⟩
          refine hk_yuw (w := w) (by omega) (by omega) ?_
          dsimp only
          rw [hcq, y1]
          exact ⟨hvq, br_t (by decide) (Y' post hp)⟩
    · have hu : ∀ j, j < w + 1 → wb j &&& S (wo j).toNatClampNeg = 0 := fun j hj => Classical.byContradiction fun z => hm ⟨j, hj, z⟩
      refine ⟨w + 1, S, xp, pk, pn, ps, wo, wb, wp, wk, yp, qk, qn, qs, zo, zb, zp, zk, ⟨hK, hH, hX, hM, hP, hE, hO, hS, hW, hG⟩, hu, fun t ht => ⟨1, fun Kx xwx post hp => ?_⟩, ⟨1 + (w + 1), fun post hp => ?_⟩⟩
      · refine br_f (nI_ge (b := 12) (by omega) (by decide)) ?_
        exact hk_xfn hw hv hu (br_t rfl hp)
      · exact hk_ytl hK hO hS hW (Nat.le_refl _) hu (n := 1) (br_t (Int32.le_refl _) hp) (w + 1) 0 (by omega)
/-- the same at the methods' own names -/
theorem hk_tl {w : Nat} {S xp pk pn ps wo wb wp wk yp qk qn qs zo zb zp zk : Nat → Int32} (hR : (hk_K K ∧ hk_H K H ∧ hk_X K xw xp ∧ hk_M K xw mv co cr yw vv f1 r1 f2 r2 ∧ hk_P K xp pk pn ps yp qk qn qs ∧ hk_E K P ∧ hk_O K O ow ∧ hk_S K P S E ow U yw yp ∧ hk_W K w wo wb wp wk zo zb zp zk ∧ hk_G G gv ga gb)) : ∃ (w' : Nat) (S' xp' pk' pn' ps' wo' wb' wp' wk' yp' qk' qn' qs' zo' zb' zp' zk' : Nat → Int32), (hk_K K ∧ hk_H K H ∧ hk_X K xw xp' ∧ hk_M K xw mv co cr yw vv f1 r1 f2 r2 ∧ hk_P K xp' pk' pn' ps' yp' qk' qn' qs' ∧ hk_E K P ∧ hk_O K O ow ∧ hk_S K P S' E ow U yw yp' ∧ hk_W K w' wo' wb' wp' wk' zo' zb' zp' zk' ∧ hk_G G gv ga gb) ∧ hk_Q w' S' wo' wb' ∧ (∀ (Kx xwx : Nat → Int32) (post : SX → Prop), post (md, nI w', Kx, N, S', P, O, C, U, G, H, R, xwx, mv, co, cr, xp', pk', pn', ps', wo', wb', wp', wk') → wpX_endMetWatches post (md, nI w, Kx, N, S, P, O, C, U, G, H, R, xwx, mv, co, cr, xp, pk, pn, ps, wo, wb, wp, wk)) ∧ (∀ post : SY → Prop, post (md, nI w', K, N, E, P, ow, C, H, R, U, gv, ga, gb, yw, vv, f1, r1, f2, r2, yp', qk', qn', qs', zo', zb', zp', zk') → wpY_tell post (md, nI w, K, N, E, P, ow, C, H, R, U, gv, ga, gb, yw, vv, f1, r1, f2, r2, yp, qk, qn, qs, zo, zb, zp, zk)) := by
  have hw : w ≤ 12 := hR.2.2.2.2.2.2.2.2.1.1
  obtain ⟨w', S', xp', pk', pn', ps', wo', wb', wp', wk', yp', qk', qn', qs', zo', zb', zp', zk', R', Q', X', ⟨ny, Y'⟩⟩ := hk_tell (md := md) (N := N) (C := C) (R := R) w S xp pk pn ps wo wb wp wk yp qk qn qs zo zb zp zk hR
  obtain ⟨nx, X''⟩ := X' 0 (by omega)
  exact ⟨w', S', xp', pk', pn', ps', wo', wb', wp', wk', yp', qk', qn', qs', zo', zb', zp', zk', R', Q', fun Kx xwx post hp => ⟨nx, X'' Kx xwx post hp⟩, fun post hp => ⟨ny, Y' post hp⟩⟩
end
end
section
theorem hk_cnm (f : Nat → Bool) : ∀ n m, n ≤ m → hk_cn f n ≤ hk_cn f m
  | n, 0, h => by obtain rfl : n = 0 := by omega
                  exact Nat.le_refl _
  | n, m + 1, h => by
    by_cases e : n = m + 1
    · rw [e]; exact Nat.le_refl _
    · have := hk_cnm f n m (by omega)
      rw [hk_cns]
      omega
theorem hk_cnst (f : Nat → Bool) {i n : Nat} (hi : i < n) (hf : f i = true) : hk_cn f i < hk_cn f n := by
  have := hk_cnm f (i + 1) n (by omega)
  rw [hk_cnt hf] at this
  omega
theorem hk_cnsur (f : Nat → Bool) : ∀ n t, t < hk_cn f n → ∃ i, i < n ∧ f i = true ∧ hk_cn f i = t
  | 0, t, h => absurd h (Nat.not_lt_zero _)
  | n + 1, t, h => by
    by_cases hf : f n = true
    · rw [hk_cnt hf] at h
      by_cases e : t = hk_cn f n
      · exact ⟨n, by omega, hf, e.symm⟩
      · obtain ⟨i, h1, h2, h3⟩ := hk_cnsur f n t (by omega)
        exact ⟨i, by omega, h2, h3⟩
    · rw [hk_cnf hf] at h
      obtain ⟨i, h1, h2, h3⟩ := hk_cnsur f n t h
      exact ⟨i, by omega, h2, h3⟩
/-- a' is a, up to n, with the rows out that f leaves out -/
def hk_cmp (f : Nat → Bool) (n : Nat) (a a' : Nat → Int32) : Prop := ∀ i, i < n → f i = true → a' (hk_cn f i) = a i
def hk_ix (f : Nat → Bool) (i : Nat) (a a' : Nat → Int32) : Prop := hk_cmp f i a a' ∧ ∀ j, i ≤ j → a' j = a j
theorem hk_ixk {f : Nat → Bool} {i : Nat} {a a' : Nat → Int32} (h : hk_ix f i a a') (hf : f i = true) : hk_ix f (i + 1) a (upd a' (hk_cn f i) (a' i)) := by
  have hle := hk_cnle f i
  refine ⟨fun j hj hfj => ?_, fun j hj => ?_⟩
  · by_cases e : j = i
    · subst e
      rw [pk_us]; exact h.2 j (Nat.le_refl _)
    · have := hk_cnst f (i := j) (n := i) (by omega) hfj
      rw [pk_un (by omega)]
      exact h.1 j (by omega) hfj
  · rw [pk_un (by omega)]
    exact h.2 j (by omega)
theorem hk_ixd {f : Nat → Bool} {i : Nat} {a a' : Nat → Int32} (h : hk_ix f i a a') (hf : ¬ f i = true) : hk_ix f (i + 1) a a' := by
  refine ⟨fun j hj hfj => ?_, fun j hj => h.2 j (by omega)⟩
  by_cases e : j = i
  · subst e; exact absurd hfj hf
  · exact h.1 j (by omega) hfj
def hk_iy (f : Nat → Bool) (w p : Nat) (a a' : Nat → Int32) : Prop := (∀ j, j < p → a' j = a j) ∧ ∀ j, p ≤ j → j < w → f j = true → a' (p + (hk_cn f j - hk_cn f p)) = a j
theorem hk_iyk {f : Nat → Bool} {w p : Nat} {a a' : Nat → Int32} (h : hk_iy f w (p + 1) a a') (hf : f p = true) : hk_iy f w p a a' := by
  refine ⟨fun j hj => h.1 j (by omega), fun j hj hw hfj => ?_⟩
  by_cases e : j = p
  · subst e
    rw [Nat.sub_self, Nat.add_zero]; exact h.1 j (by omega)
  · have h1 := h.2 j (by omega) hw hfj
    have h2 := hk_cnm f (p + 1) j (by omega)
    rw [hk_cnt hf] at h1 h2
    rw [show p + (hk_cn f j - hk_cn f p) = p + 1 + (hk_cn f j - (hk_cn f p + 1)) by omega]
    exact h1
theorem hk_iyd {f : Nat → Bool} {w p c : Nat} {a a' : Nat → Int32} (hc : c = p + (hk_cn f w - hk_cn f p)) (h : hk_iy f w (p + 1) a a') (hf : ¬ f p = true) : hk_iy f w p a (hk_sh a' p c) := by
  refine ⟨fun j hj => ?_, fun j hj hw hfj => ?_⟩
  · show a' (hk_g p c j) = a j
    rw [hk_gl hj]; exact h.1 j (by omega)
  · have e : j ≠ p := fun z => hf (by rw [← z]; exact hfj)
    have h1 := h.2 j (by omega) hw hfj
    have h2 := hk_cnm f (p + 1) j (by omega)
    have h3 := hk_cnst f hw hfj
    rw [hk_cnf hf] at h1 h2
    show a' (hk_g p c (p + (hk_cn f j - hk_cn f p))) = a j
    rw [hk_gm (by omega) (by omega), show p + (hk_cn f j - hk_cn f p) + 1 = p + 1 + (hk_cn f j - hk_cn f p) by omega]
    exact h1
/-- the watches that stay when x goes -/
def hk_kp (wo wp : Nat → Int32) (x : Int32) : Nat → Bool := fun i => decide (wo i ≠ x ∧ wp i ≠ x)
section
variable {md : Int32} {w : Nat} {K N S P O C U G H R xw mv co cr xp pk pn ps wo wb wp wk : Nat → Int32} {E ow gv ga gb yw vv f1 r1 f2 r2 yp qk qn qs zo zb zp zk : Nat → Int32}
theorem hk_xdwl4 {x : Int32} (hw : w ≤ 12) : ∀ d i a1 a2 a3 a4, i + d = w → hk_ix (hk_kp wo wp x) i wo a1 → hk_ix (hk_kp wo wp x) i wb a2 → hk_ix (hk_kp wo wp x) i wp a3 → hk_ix (hk_kp wo wp x) i wk a4 → ∃ b1 b2 b3 b4 : Nat → Int32, hk_cmp (hk_kp wo wp x) w wo b1 ∧ hk_cmp (hk_kp wo wp x) w wb b2 ∧ hk_cmp (hk_kp wo wp x) w wp b3 ∧ hk_cmp (hk_kp wo wp x) w wk b4 ∧ ∀ post : SX → Prop, post (md, nI (hk_cn (hk_kp wo wp x) w), K, N, S, P, O, C, U, G, H, R, xw, mv, co, cr, xp, pk, pn, ps, b1, b2, b3, b4) → wX_dropWatchesWith_4 post x (d + 1) (nI (hk_cn (hk_kp wo wp x) i)) (nI i) md (nI w) K N S P O C U G H R xw mv co cr xp pk pn ps a1 a2 a3 a4 := by
  intro d
  induction d with
  | zero =>
    intro i a1 a2 a3 a4 hi h1 h2 h3 h4
    obtain rfl : i = w := by omega
    exact ⟨a1, a2, a3, a4, h1.1, h2.1, h3.1, h4.1, fun post hp => br_t (Int32.le_refl _) hp⟩
  | succ d ih =>
    intro i a1 a2 a3 a4 hi h1 h2 h3 h4
    have hc : (nI i).toNatClampNeg = i := nI_clamp (by omega)
    have hv : vp_in (nI i) 12 := vp_in_nI (by omega) (by decide)
    have hle := hk_cnle (hk_kp wo wp x) i
    have hck : (nI (hk_cn (hk_kp wo wp x) i)).toNatClampNeg = hk_cn (hk_kp wo wp x) i := nI_clamp (by omega)
    have hvk : vp_in (nI (hk_cn (hk_kp wo wp x) i)) 12 := vp_in_nI (by omega) (by decide)
    have hlt : ¬ nI w ≤ nI i := nI_ge (by omega) (by omega)
    have q1 : a1 i = wo i := h1.2 i (Nat.le_refl _)
    have q3 : a3 i = wp i := h3.2 i (Nat.le_refl _)
    by_cases z1 : wo i = x
    · have hf : ¬ hk_kp wo wp x i = true := by simp [hk_kp, z1]
      obtain ⟨b1, b2, b3, b4, c1, c2, c3, c4, H'⟩ := ih (i + 1) a1 a2 a3 a4 (by omega) (hk_ixd h1 hf) (hk_ixd h2 hf) (hk_ixd h3 hf) (hk_ixd h4 hf)
      rw [hk_cnf hf] at H'
      exact ⟨b1, b2, b3, b4, c1, c2, c3, c4, fun post hp => br_f hlt ⟨hv, br_t (by rw [hc, q1]; exact z1) (nm_r (nI_1 i) (H' post hp))⟩⟩
    · by_cases z2 : wp i = x
      · have hf : ¬ hk_kp wo wp x i = true := by simp [hk_kp, z2]
        obtain ⟨b1, b2, b3, b4, c1, c2, c3, c4, H'⟩ := ih (i + 1) a1 a2 a3 a4 (by omega) (hk_ixd h1 hf) (hk_ixd h2 hf) (hk_ixd h3 hf) (hk_ixd h4 hf)
        rw [hk_cnf hf] at H'
        exact ⟨b1, b2, b3, b4, c1, c2, c3, c4, fun post hp => br_f hlt ⟨hv, br_f (by rw [hc, q1]; exact z1) ⟨hv, br_t (by rw [hc, q3]; exact z2) (nm_r (nI_1 i) (H' post hp))⟩⟩⟩
      · have hf : hk_kp wo wp x i = true := by simp [hk_kp, z1, z2]
        obtain ⟨b1, b2, b3, b4, c1, c2, c3, c4, H'⟩ := ih (i + 1) _ _ _ _ (by omega) (hk_ixk h1 hf) (hk_ixk h2 hf) (hk_ixk h3 hf) (hk_ixk h4 hf)
        rw [hk_cnt hf] at H'
        refine ⟨b1, b2, b3, b4, c1, c2, c3, c4, fun post hp => br_f hlt ⟨hv, br_f (by rw [hc, q1]; exact z1) ⟨hv, br_f (by rw [hc, q3]; exact z2) ?_⟩⟩⟩
        unfold wpX_moveWatch
        dsimp only
        rw [hc, hck]
        exact ⟨hv, hvk, nm_e ⟨hv, hvk, nm_e ⟨hv, hvk, nm_e ⟨hv, hvk, nm_e (nm_r (nI_1 _) (nm_r (nI_1 i) (H' post hp)))⟩⟩⟩⟩
theorem hk_xdww {x : Int32} (hw : w ≤ 12) : ∃ b1 b2 b3 b4 : Nat → Int32, hk_cmp (hk_kp wo wp x) w wo b1 ∧ hk_cmp (hk_kp wo wp x) w wb b2 ∧ hk_cmp (hk_kp wo wp x) w wp b3 ∧ hk_cmp (hk_kp wo wp x) w wk b4 ∧ ∀ post : SX → Prop, post (md, nI (hk_cn (hk_kp wo wp x) w), K, N, S, P, O, C, U, G, H, R, xw, mv, co, cr, xp, pk, pn, ps, b1, b2, b3, b4) → wpX_dropWatchesWith post (md, nI w, K, N, S, P, O, C, U, G, H, R, xw, mv, co, cr, xp, pk, pn, ps, wo, wb, wp, wk) x := by
  have h0 : ∀ a : Nat → Int32, hk_ix (hk_kp wo wp x) 0 a a := fun a => ⟨fun i hi => absurd hi (Nat.not_lt_zero _), fun _ _ => rfl⟩
  obtain ⟨b1, b2, b3, b4, c1, c2, c3, c4, H'⟩ := hk_xdwl4 (md := md) (K := K) (N := N) (S := S) (P := P) (O := O) (C := C) (U := U) (G := G) (H := H) (R := R) (xw := xw) (mv := mv) (co := co) (cr := cr) (xp := xp) (pk := pk) (pn := pn) (ps := ps) (wo := wo) (wb := wb) (wp := wp) (wk := wk) (w := w) (x := x) hw w 0 wo wb wp wk (by omega) (h0 _) (h0 _) (h0 _) (h0 _)
  exact ⟨b1, b2, b3, b4, c1, c2, c3, c4, fun post hp => ⟨_, H' post hp⟩⟩
theorem hk_ydwl {o : Nat} (ho : o < 16) (hw : w ≤ 12) {f : Nat → Bool} (hf : ∀ i, i < w → (f i = true ↔ zo i ≠ nI o ∧ zp i ≠ nI o)) : ∀ p c a1 a2 a3 a4, p ≤ w → c = p + (hk_cn f w - hk_cn f p) → hk_iy f w p zo a1 → hk_iy f w p zb a2 → hk_iy f w p zp a3 → hk_iy f w p zk a4 → ∃ b1 b2 b3 b4 : Nat → Int32, hk_cmp f w zo b1 ∧ hk_cmp f w zb b2 ∧ hk_cmp f w zp b3 ∧ hk_cmp f w zk b4 ∧ ∀ (post : SY → Prop) J5, ((K o = 1 → wY_sweep_71 post J5 (nI o) (P o) md (nI (hk_cn f w)) K N E P ow C H R U gv ga gb yw vv f1 r1 f2 r2 yp qk qn qs b1 b2 b3 b4) ∧ (¬ K o = 1 → wY_sweep_71 post J5 (nI o) (-1) md (nI (hk_cn f w)) K N E P ow C H R U gv ga gb yw vv f1 r1 f2 r2 yp qk qn qs b1 b2 b3 b4)) → wY_sweep_16 post J5 (nI o) (p + 1) (nI p + (-1)) md (nI c) K N E P ow C H R U gv ga gb yw vv f1 r1 f2 r2 yp qk qn qs a1 a2 a3 a4 := by
  have hco : (nI o).toNatClampNeg = o := nI_clamp (by omega)
  have hvo : vp_in (nI o) 16 := vp_in_nI ho (by decide)
  intro p
  induction p with
  | zero =>
    intro c a1 a2 a3 a4 hp hc h1 h2 h3 h4
    have hcc : c = hk_cn f w := by rw [hc]; show 0 + (hk_cn f w - 0) = _; omega
    subst hcc
    have g : ∀ a a' : Nat → Int32, hk_iy f w 0 a a' → hk_cmp f w a a' := fun a a' h i hi hfi => by
      have := h.2 i (Nat.zero_le _) hi hfi
      rw [show 0 + (hk_cn f i - hk_cn f 0) = hk_cn f i by show 0 + (hk_cn f i - 0) = _; omega] at this
      exact this
    refine ⟨a1, a2, a3, a4, g _ _ h1, g _ _ h2, g _ _ h3, g _ _ h4, fun post J5 hp => br_t (by decide) ⟨hvo, ?_⟩⟩
    rw [hco]
    exact ⟨fun z => ⟨hvo, hp.1 z⟩, hp.2⟩
  | succ p ih =>
    intro c a1 a2 a3 a4 hp hc h1 h2 h3 h4
    have hcp : (nI p).toNatClampNeg = p := nI_clamp (by omega)
    have hv : vp_in (nI p) 12 := vp_in_nI (by omega) (by decide)
    have h0 : ¬ nI p < 0 := nI_pos (by omega)
    have q1 : a1 p = zo p := h1.1 p (by omega)
    have q3 : a3 p = zp p := h3.1 p (by omega)
    have hm := hk_cnm f (p + 1) w (by omega)
    have hle := hk_cnle f w
    have hle2 : hk_cn f w - hk_cn f (p + 1) ≤ w - (p + 1) := by
      have : ∀ d, hk_cn f (p + 1 + d) ≤ hk_cn f (p + 1) + d := fun d => by
        induction d with
        | zero => exact Nat.le_refl _
        | succ d ihd =>
          show hk_cn f (p + 1 + d + 1) ≤ _
          rw [hk_cns]
          by_cases z : f (p + 1 + d) = true
          · rw [if_pos z]; omega
          · rw [if_neg z]; omega
      have := this (w - (p + 1))
      rw [show p + 1 + (w - (p + 1)) = w by omega] at this
      omega
    by_cases hfp : f p = true
    · obtain ⟨z1, z2⟩ := (hf p (by omega)).mp hfp
      rw [hk_cnt hfp] at hc hm
      obtain ⟨b1, b2, b3, b4, c1, c2, c3, c4, H'⟩ := ih c a1 a2 a3 a4 (by omega) (by omega) (hk_iyk h1 hfp) (hk_iyk h2 hfp) (hk_iyk h3 hfp) (hk_iyk h4 hfp)
      refine ⟨b1, b2, b3, b4, c1, c2, c3, c4, fun post J5 hp => ?_⟩
      rw [pk_m1]
      exact br_f h0 ⟨hv, br_f (by rw [hcp, q1]; exact z1) ⟨hv, br_f (by rw [hcp, q3]; exact z2) (nm_e (H' post J5 hp))⟩⟩
    · rw [hk_cnf hfp] at hc hm hle2
      obtain ⟨c', rfl⟩ : ∃ c', c = c' + 1 := ⟨p + (hk_cn f w - hk_cn f p), by omega⟩
      have hc' : c' = p + (hk_cn f w - hk_cn f p) := by omega
      obtain ⟨b1, b2, b3, b4, c1, c2, c3, c4, H'⟩ := ih c' _ _ _ _ (by omega) hc' (hk_iyd hc' h1 hfp) (hk_iyd hc' h2 hfp) (hk_iyd hc' h3 hfp) (hk_iyd hc' h4 hfp)
      have key : ∀ (post : SY → Prop) J5, ((K o = 1 → wY_sweep_71 post J5 (nI o) (P o) md (nI (hk_cn f w)) K N E P ow C H R U gv ga gb yw vv f1 r1 f2 r2 yp qk qn qs b1 b2 b3 b4) ∧ (¬ K o = 1 → wY_sweep_71 post J5 (nI o) (-1) md (nI (hk_cn f w)) K N E P ow C H R U gv ga gb yw vv f1 r1 f2 r2 yp qk qn qs b1 b2 b3 b4)) → wY_sweep_40 post J5 (wY_sweep_16 post J5 (nI o) (p + 1)) (nI o) (nI p) md (nI (c' + 1)) K N E P ow C H R U gv ga gb yw vv f1 r1 f2 r2 yp qk qn qs a1 a2 a3 a4 := fun post J5 hp => by
        unfold wY_sweep_40
        refine hk_yuw (w := c') (by omega) (by omega) ?_
        exact nm_e (H' post J5 hp)
      refine ⟨b1, b2, b3, b4, c1, c2, c3, c4, fun post J5 hp => ?_⟩
      rw [pk_m1]
      refine br_f h0 ⟨hv, ?_⟩
      by_cases z1 : zo p = nI o
      · exact br_t (by rw [hcp, q1]; exact z1) (key post J5 hp)
      · have z2 : zp p = nI o := Classical.byContradiction fun z2 => hfp ((hf p (by omega)).mpr ⟨z1, z2⟩)
        exact br_f (by rw [hcp, q1]; exact z1) ⟨hv, br_t (by rw [hcp, q3]; exact z2) (key post J5 hp)⟩
theorem hk_ydw {o : Nat} (ho : o < 16) (hw : w ≤ 12) {f : Nat → Bool} (hf : ∀ i, i < w → (f i = true ↔ zo i ≠ nI o ∧ zp i ≠ nI o)) : ∃ b1 b2 b3 b4 : Nat → Int32, hk_cmp f w zo b1 ∧ hk_cmp f w zb b2 ∧ hk_cmp f w zp b3 ∧ hk_cmp f w zk b4 ∧ ∀ (post : SY → Prop) J5, ((K o = 1 → wY_sweep_71 post J5 (nI o) (P o) md (nI (hk_cn f w)) K N E P ow C H R U gv ga gb yw vv f1 r1 f2 r2 yp qk qn qs b1 b2 b3 b4) ∧ (¬ K o = 1 → wY_sweep_71 post J5 (nI o) (-1) md (nI (hk_cn f w)) K N E P ow C H R U gv ga gb yw vv f1 r1 f2 r2 yp qk qn qs b1 b2 b3 b4)) → ∃ n, wY_sweep_16 post J5 (nI o) n (nI w - 1) md (nI w) K N E P ow C H R U gv ga gb yw vv f1 r1 f2 r2 yp qk qn qs zo zb zp zk := by
  have h0 : ∀ a : Nat → Int32, hk_iy f w w a a := fun a => ⟨fun _ _ => rfl, fun j h1 h2 => absurd h2 (by omega)⟩
  obtain ⟨b1, b2, b3, b4, c1, c2, c3, c4, H'⟩ := hk_ydwl (md := md) (K := K) (N := N) (E := E) (P := P) (ow := ow) (C := C) (H := H) (R := R) (U := U) (gv := gv) (ga := ga) (gb := gb) (yw := yw) (vv := vv) (f1 := f1) (r1 := r1) (f2 := f2) (r2 := r2) (yp := yp) (qk := qk) (qn := qn) (qs := qs) (zo := zo) (zb := zb) (zp := zp) (zk := zk) (w := w) ho hw hf w w zo zb zp zk (Nat.le_refl _) (by omega) (h0 _) (h0 _) (h0 _) (h0 _)
  refine ⟨b1, b2, b3, b4, c1, c2, c3, c4, fun post J5 hp => ⟨w + 1, ?_⟩⟩
  rw [Int32.sub_eq_add_neg]
  exact H' post J5 hp
end
end
section
section
variable {md : Int32} {w : Nat} {K N S P O C U G H R xw mv co cr xp pk pn ps wo wb wp wk : Nat → Int32} {E ow gv ga gb yw vv f1 r1 f2 r2 yp qk qn qs zo zb zp zk : Nat → Int32}
theorem hk_lvdn {o : Nat} (ho : o < 16) (hf : K o ≠ -1) : hk_cn (hk_lv K) 16 = hk_cn (hk_lv (upd K o (-1))) 16 + 1 := by
  refine hk_cnup _ (hk_lv K) o ?_ ?_ (fun i hi => ?_) 16 ho
  · simp [hk_lv, pk_us]
  · simp [hk_lv, hf]
  · simp [hk_lv, pk_un hi]
/-- the relation when the slot o, to which nothing refers, goes -/
theorem hk_des {o : Nat} {P' S' xp' b1 b2 b3 b4 d1 d2 d3 d4 : Nat → Int32} (hR : (hk_K K ∧ hk_H K H ∧ hk_X K xw xp ∧ hk_M K xw mv co cr yw vv f1 r1 f2 r2 ∧ hk_P K xp pk pn ps yp qk qn qs ∧ hk_E K P ∧ hk_O K O ow ∧ hk_S K P S E ow U yw yp ∧ hk_W K w wo wb wp wk zo zb zp zk ∧ hk_G G gv ga gb)) (ho : o < 16) (hko : K o ≠ -1) (hrc : hk_rc H co xw (nI o) = 0)
    (hp : (P o = -1 ∧ P' = P ∧ S' = S) ∨ (∃ f, f < 16 ∧ f ≠ o ∧ K o = 1 ∧ P o = nI f ∧ K f = 1 ∧ P f = nI o ∧ P' = upd P f (-1) ∧ S' = upd S f (S f ||| 512)))
    (hxp : xp' o = 0 ∧ ∀ e, e ≠ o → xp' e = xp e)
    (hb : hk_cmp (hk_kp wo wp (nI o)) w wo b1 ∧ hk_cmp (hk_kp wo wp (nI o)) w wb b2 ∧ hk_cmp (hk_kp wo wp (nI o)) w wp b3 ∧ hk_cmp (hk_kp wo wp (nI o)) w wk b4)
    (hd : hk_cmp (hk_kp wo wp (nI o)) w zo d1 ∧ hk_cmp (hk_kp wo wp (nI o)) w zb d2 ∧ hk_cmp (hk_kp wo wp (nI o)) w zp d3 ∧ hk_cmp (hk_kp wo wp (nI o)) w zk d4) :
    (hk_K (upd K o (-1)) ∧ hk_H (upd K o (-1)) H ∧ hk_X (upd K o (-1)) (upd xw o 0) xp' ∧ hk_M (upd K o (-1)) (upd xw o 0) mv co cr yw vv f1 r1 f2 r2 ∧ hk_P (upd K o (-1)) xp' pk pn ps yp qk qn qs ∧ hk_E (upd K o (-1)) P' ∧ hk_O (upd K o (-1)) O ow ∧ hk_S (upd K o (-1)) P' S' E ow U yw yp ∧ hk_W (upd K o (-1)) (hk_cn (hk_kp wo wp (nI o)) w) b1 b2 b3 b4 d1 d2 d3 d4 ∧ hk_G G gv ga gb) ∧ (S' = S → hk_Q w S wo wb → hk_Q (hk_cn (hk_kp wo wp (nI o)) w) S' b1 b2) := by
  obtain ⟨hK, hH, hX, hM, hP, hE, hO, hS, hW, hG⟩ := hR
  obtain ⟨rh, rm⟩ := hk_rc0 hrc
  have up : ∀ {e : Nat}, e ≠ o → upd K o (-1) e = K e := fun z => pk_un z
  have ne : ∀ {e : Nat} {c : Int32}, c ≠ -1 → upd K o (-1) e = c → e ≠ o := fun hc h z => by
    rw [z, pk_us] at h; exact hc h.symm
  have rf : ∀ x : Int32, x ≠ nI o → hk_rf K x → hk_rf (upd K o (-1)) x := fun x hx h => by
    rcases h with z | ⟨t, ht, e, z⟩
    · exact Or.inl z
    · refine Or.inr ⟨t, ht, e, ?_⟩
      rw [up (fun y => hx (by rw [e, y]))]; exact z
  refine ⟨⟨?_, ?_, ?_, ?_, ?_, ?_, ?_, ?_, ?_, hG⟩, ?_⟩
  · intro i hi
    by_cases z : i = o
    · rw [z, pk_us]; exact Or.inl rfl
    · rw [up z]; exact hK i hi
  · intro i hi
    exact rf _ (rh i hi) (hH i hi)
  · intro e he
    by_cases z : e = o
    · subst z
      exact ⟨fun _ => pk_us, fun _ => hxp.1⟩
    · rw [up z, pk_un z, hxp.2 e z]; exact hX e he
  · intro e he h1
    have z : e ≠ o := ne (by decide) h1
    rw [up z] at h1
    obtain ⟨n, hn, e1, e2, h⟩ := hM e he h1
    refine ⟨n, hn, by rw [pk_un z]; exact e1, e2, fun j hj => ?_⟩
    obtain ⟨c1, c2, c3, c4, c5, c6, c7⟩ := h j hj
    have hcl : (xw e).toNatClampNeg = n := by rw [e1]; exact nI_clamp (by omega)
    have m1 := rm e he (j * 2) (by omega)
    have m2 := rm e he (j * 2 + 1) (by omega)
    rw [show e * 8 + j * 2 = (e * 4 + j) * 2 by omega, c2] at m1
    rw [show e * 8 + (j * 2 + 1) = (e * 4 + j) * 2 + 1 by omega, c3] at m2
    exact ⟨c1, c2, c3, rf _ m1 c4, rf _ m2 c5, c6, c7⟩
  · intro e he h1
    have z : e ≠ o := ne (by decide) h1
    rw [up z] at h1
    rw [hxp.2 e z]
    exact hP e he h1
  · intro e he h1
    have z : e ≠ o := fun y => h1 (by rw [y, pk_us])
    rw [up z] at h1
    rw [up z]
    rcases hp with ⟨p1, rfl, -⟩ | ⟨f, hf, hfo, k1, p1, k2, p2, rfl, -⟩
    · rcases hE e he h1 with y | ⟨y1, g, hg, hge, y2, y3, y4⟩
      · exact Or.inl y
      · have hgo : g ≠ o := fun q => by rw [q, p1] at y4; exact hk_ne e (by omega) y4.symm
        exact Or.inr ⟨y1, g, hg, hge, y2, by rw [up hgo]; exact y3, y4⟩
    · by_cases ef : e = f
      · subst ef
        exact Or.inl pk_us
      · rw [pk_un ef]
        rcases hE e he h1 with y | ⟨y1, g, hg, hge, y2, y3, y4⟩
        · exact Or.inl y
        · have hgo : g ≠ o := fun q => by
            rw [q, p1] at y4
            exact ef ((nI_eq (by omega) (by omega)).mp y4).symm
          have hgf : g ≠ f := fun q => by
            rw [q, p2] at y4
            exact z ((nI_eq (by omega) (by omega)).mp y4).symm
          exact Or.inr ⟨y1, g, hg, hge, y2, by rw [up hgo]; exact y3, by rw [pk_un hgf]; exact y4⟩
  · refine ⟨fun e he h1 => ?_, fun e e' he he' h1 h2 h3 => ?_⟩
    · have z : e ≠ o := ne (by decide) h1
      rw [up z] at h1
      exact hO.1 e he h1
    · have z : e ≠ o := ne (by decide) h1
      have z' : e' ≠ o := ne (by decide) h2
      rw [up z] at h1
      rw [up z'] at h2
      exact hO.2 e e' he he' h1 h2 h3
  · intro e he h1
    have z : e ≠ o := fun y => h1 (by rw [y, pk_us])
    rw [up z] at h1
    rcases hp with ⟨p1, rfl, rfl⟩ | ⟨f, hf, hfo, k1, p1, k2, p2, rfl, rfl⟩
    · rw [hS e he h1]
      unfold hk_sg
      rw [up z]
    · by_cases ef : e = f
      · subst ef
        rw [pk_us, hS e he h1]
        unfold hk_sg
        have n0 : ¬ K e = 0 := by rw [k2]; decide
        have g1 : 0 ≤ P e := by rw [p2]; exact nI_pos' (by omega)
        have g2 : ¬ 0 ≤ upd P e (-1) e := by rw [pk_us]; decide
        rw [up z, if_neg n0, if_neg n0, if_pos k2, if_pos k2, if_pos g1, if_neg g2]
        by_cases y : yw e ≤ 0
        · rw [if_pos y]; decide
        · rw [if_neg y]; decide
      · rw [pk_un ef, hS e he h1]
        unfold hk_sg
        rw [up z, pk_un ef]
  · refine ⟨Nat.le_trans (hk_cnle _ _) hW.1, fun t ht => ?_⟩
    obtain ⟨i, hi, fi, rfl⟩ := hk_cnsur _ _ _ ht
    obtain ⟨c1, c2, c3, c4, ⟨x, hx, e1, e2⟩, q, hq, e3, e4⟩ := hW.2 i hi
    have ki : wo i ≠ nI o ∧ wp i ≠ nI o := by simpa [hk_kp] using fi
    have xo : x ≠ o := fun y => ki.1 (by rw [c1, e1, y])
    have qo : q ≠ o := fun y => ki.2 (by rw [c3, e3, y])
    unfold hk_w1
    rw [hb.1 i hi fi, hb.2.1 i hi fi, hb.2.2.1 i hi fi, hb.2.2.2 i hi fi, hd.1 i hi fi, hd.2.1 i hi fi, hd.2.2.1 i hi fi, hd.2.2.2 i hi fi]
    exact ⟨c1, c2, c3, c4, ⟨x, hx, e1, by rw [up xo]; exact e2⟩, q, hq, e3, by rw [up qo]; exact e4⟩
  · intro hs hQ t ht
    obtain ⟨i, hi, fi, rfl⟩ := hk_cnsur _ _ _ ht
    rw [hs, hb.1 i hi fi, hb.2.1 i hi fi]
    exact hQ i hi
theorem hk_updz {f : Nat → Int32} {o : Nat} (h : f o = 0) : upd f o 0 = f := by
  funext j
  by_cases e : j = o
  · rw [e, pk_us, h]
  · rw [pk_un e]
theorem hk_dst {o : Nat} (hR : (hk_K K ∧ hk_H K H ∧ hk_X K xw xp ∧ hk_M K xw mv co cr yw vv f1 r1 f2 r2 ∧ hk_P K xp pk pn ps yp qk qn qs ∧ hk_E K P ∧ hk_O K O ow ∧ hk_S K P S E ow U yw yp ∧ hk_W K w wo wb wp wk zo zb zp zk ∧ hk_G G gv ga gb)) (hQ : hk_Q w S wo wb) (ho : o < 16) (hko : K o ≠ -1) (hrc : hk_rc H co xw (nI o) = 0) : ∃ (w' : Nat) (S' xp' pk' pn' ps' wo' wb' wp' wk' yp' qk' qn' qs' zo' zb' zp' zk' K' P' xw' : Nat → Int32), (hk_K K' ∧ hk_H K' H ∧ hk_X K' xw' xp' ∧ hk_M K' xw' mv co cr yw vv f1 r1 f2 r2 ∧ hk_P K' xp' pk' pn' ps' yp' qk' qn' qs' ∧ hk_E K' P' ∧ hk_O K' O ow ∧ hk_S K' P' S' E ow U yw yp' ∧ hk_W K' w' wo' wb' wp' wk' zo' zb' zp' zk' ∧ hk_G G gv ga gb) ∧ hk_Q w' S' wo' wb' ∧ K' = upd K o (-1) ∧ (∀ post : SX → Prop, post (md, nI w', K', N, S', P', O, C, U, G, H, R, xw', mv, co, cr, xp', pk', pn', ps', wo', wb', wp', wk') → wpX_destroy post (md, nI w, K, N, S, P, O, C, U, G, H, R, xw, mv, co, cr, xp, pk, pn, ps, wo, wb, wp, wk) (nI o)) ∧ (∀ (post : SY → Prop) J5, wpY_unused (fun r => J5 r md (nI w') K' N E P' ow C H R U gv ga gb yw vv f1 r1 f2 r2 yp' qk' qn' qs' zo' zb' zp' zk') (md, nI w', K', N, E, P', ow, C, H, R, U, gv, ga, gb, yw, vv, f1, r1, f2, r2, yp', qk', qn', qs', zo', zb', zp', zk') → ∃ n, wY_sweep_16 post J5 (nI o) n (nI w - 1) md (nI w) K N E P ow C H R U gv ga gb yw vv f1 r1 f2 r2 yp qk qn qs zo zb zp zk) := by
  have hco : (nI o).toNatClampNeg = o := nI_clamp (by omega)
  have hvo : vp_in (nI o) 16 := vp_in_nI ho (by decide)
  have hR0 := hR
  obtain ⟨hK, hH, hX, hM, hP, hE, hO, hS, hW, hG⟩ := hR
  have hw := hW.1
  have hf : ∀ i, i < w → (hk_kp wo wp (nI o) i = true ↔ zo i ≠ nI o ∧ zp i ≠ nI o) := fun i hi => by
    obtain ⟨c1, c2, c3, c4, -, -⟩ := hW.2 i hi
    simp [hk_kp, c1, c3]
  obtain ⟨b1, b2, b3, b4, hb1, hb2, hb3, hb4, HX⟩ := hk_xdww (md := md) (K := K) (N := N) (S := S) (P := P) (O := O) (C := C) (U := U) (G := G) (H := H) (R := R) (xw := xw) (mv := mv) (co := co) (cr := cr) (xp := xp) (pk := pk) (pn := pn) (ps := ps) (wo := wo) (wb := wb) (wp := wp) (wk := wk) (w := w) (x := nI o) hw
  obtain ⟨d1, d2, d3, d4, hd1, hd2, hd3, hd4, HY⟩ := hk_ydw (md := md) (K := K) (N := N) (E := E) (P := P) (ow := ow) (C := C) (H := H) (R := R) (U := U) (gv := gv) (ga := ga) (gb := gb) (yw := yw) (vv := vv) (f1 := f1) (r1 := r1) (f2 := f2) (r2 := r2) (yp := yp) (qk := qk) (qn := qn) (qs := qs) (zo := zo) (zb := zb) (zp := zp) (zk := zk) (w := w) ho hw hf
  rcases hE o ho hko with p1 | ⟨k1, f, hf16, hfo, p1, k2, p2⟩
  · obtain ⟨R1, Q1⟩ := hk_des (xp' := upd xp o 0) hR0 ho hko hrc (Or.inl ⟨p1, rfl, rfl⟩) ⟨pk_us, fun e he => pk_un he⟩ ⟨hb1, hb2, hb3, hb4⟩ ⟨hd1, hd2, hd3, hd4⟩
    refine ⟨hk_cn (hk_kp wo wp (nI o)) w, S, upd xp o 0, pk, pn, ps, b1, b2, b3, b4, yp, qk, qn, qs, d1, d2, d3, d4, upd K o (-1), P, upd xw o 0, R1, Q1 rfl hQ, rfl, fun post hp => ?_, fun post J5 hp => ?_⟩
    · unfold wpX_destroy
      refine HX _ ?_
      dsimp only
      refine ⟨hvo, nm_r (e' := -1) (by rw [hco]; exact p1) (br_t rfl ?_)⟩
      unfold wX_destroy_40
      rw [hco]
      exact ⟨hvo, nm_e ⟨hvo, nm_e ⟨hvo, nm_e hp⟩⟩⟩
    · have fin : wY_sweep_71 post J5 (nI o) (-1) md (nI (hk_cn (hk_kp wo wp (nI o)) w)) K N E P ow C H R U gv ga gb yw vv f1 r1 f2 r2 yp qk qn qs d1 d2 d3 d4 := by
        unfold wY_sweep_71
        rw [hco]
        exact ⟨hvo, nm_e (br_t (by decide) hp)⟩
      exact HY post J5 ⟨fun _ => by rw [p1]; exact fin, fun _ => fin⟩
  · have hx0 : xp o = 0 := (hX o ho).2 (by rw [k1]; decide)
    obtain ⟨R1, -⟩ := hk_des (P' := upd P f (-1)) (S' := upd S f (S f ||| 512)) (xp' := xp) hR0 ho hko hrc (Or.inr ⟨f, hf16, hfo, k1, p1, k2, p2, rfl, rfl⟩) ⟨hx0, fun e he => rfl⟩ ⟨hb1, hb2, hb3, hb4⟩ ⟨hd1, hd2, hd3, hd4⟩
    obtain ⟨w', S', xp', pk', pn', ps', wo', wb', wp', wk', yp', qk', qn', qs', zo', zb', zp', zk', R', Q', X', Y'⟩ := hk_tl (md := md) (N := N) (C := C) (R := R) R1
    have hcf : (nI f).toNatClampNeg = f := nI_clamp (by omega)
    have hvf : vp_in (nI f) 16 := vp_in_nI hf16 (by decide)
    refine ⟨w', S', xp', pk', pn', ps', wo', wb', wp', wk', yp', qk', qn', qs', zo', zb', zp', zk', upd K o (-1), upd P f (-1), upd xw o 0, R', Q', rfl, fun post hp => ?_, fun post J5 hp => ?_⟩
    · unfold wpX_destroy
      refine HX _ ?_
      dsimp only
      refine ⟨hvo, nm_r (e' := nI f) (by rw [hco]; exact p1) (br_f (hk_ne f (by omega)) ⟨hvf, ?_⟩)⟩
      rw [hcf]
      refine nm_e ⟨hvf, hvf, nm_e ?_⟩
      refine X' K xw _ ?_
      have hz : upd xp' o 0 = xp' := hk_updz ((R'.2.2.1 o ho).2 (by rw [pk_us]; decide))
      dsimp only
      unfold wX_destroy_40
      rw [hco, hz]
      exact ⟨hvo, nm_e ⟨hvo, nm_e ⟨hvo, nm_e hp⟩⟩⟩
    · refine HY post J5 ⟨fun _ => ?_, fun z => absurd k1 z⟩
      unfold wY_sweep_71
      rw [hco, p1, hcf]
      refine ⟨hvo, nm_e (br_f (nI_pos (by omega)) ⟨hvf, nm_e ?_⟩)⟩
      exact Y' _ hp
end
section
variable {md : Int32} {N O C U G H R mv co cr E ow gv ga gb yw vv f1 r1 f2 r2 : Nat → Int32}
theorem hk_swl : ∀ (c : Nat) (w : Nat) (S xp pk pn ps wo wb wp wk yp qk qn qs zo zb zp zk K P xw : Nat → Int32), hk_cn (hk_lv K) 16 = c → (hk_K K ∧ hk_H K H ∧ hk_X K xw xp ∧ hk_M K xw mv co cr yw vv f1 r1 f2 r2 ∧ hk_P K xp pk pn ps yp qk qn qs ∧ hk_E K P ∧ hk_O K O ow ∧ hk_S K P S E ow U yw yp ∧ hk_W K w wo wb wp wk zo zb zp zk ∧ hk_G G gv ga gb) → hk_Q w S wo wb → ∃ (w' : Nat) (S' xp' pk' pn' ps' wo' wb' wp' wk' yp' qk' qn' qs' zo' zb' zp' zk' K' P' xw' : Nat → Int32), (hk_K K' ∧ hk_H K' H ∧ hk_X K' xw' xp' ∧ hk_M K' xw' mv co cr yw vv f1 r1 f2 r2 ∧ hk_P K' xp' pk' pn' ps' yp' qk' qn' qs' ∧ hk_E K' P' ∧ hk_O K' O ow ∧ hk_S K' P' S' E ow U yw yp' ∧ hk_W K' w' wo' wb' wp' wk' zo' zb' zp' zk' ∧ hk_G G gv ga gb) ∧ hk_Q w' S' wo' wb' ∧ (∀ t, t + c ≤ 16 → ∃ n, ∀ post : SX → Prop, post (md, nI w', K', N, S', P', O, C, U, G, H, R, xw', mv, co, cr, xp', pk', pn', ps', wo', wb', wp', wk') → wX_destroyUnreferenced_2 post n (nI t) md (nI w) K N S P O C U G H R xw mv co cr xp pk pn ps wo wb wp wk) ∧ (∃ r n, (∀ post : Int32 → Prop, post r → wpY_unused post (md, nI w, K, N, E, P, ow, C, H, R, U, gv, ga, gb, yw, vv, f1, r1, f2, r2, yp, qk, qn, qs, zo, zb, zp, zk)) ∧ ∀ post : SY → Prop, post (md, nI w', K', N, E, P', ow, C, H, R, U, gv, ga, gb, yw, vv, f1, r1, f2, r2, yp', qk', qn', qs', zo', zb', zp', zk') → wY_sweep_5 post n r md (nI w) K N E P ow C H R U gv ga gb yw vv f1 r1 f2 r2 yp qk qn qs zo zb zp zk) := by
  intro c
  induction c with
  | zero =>
    intro w S xp pk pn ps wo wb wp wk yp qk qn qs zo zb zp zk K P xw hc hR hQ
    obtain ⟨r, h1, h2, h3⟩ := hk_unu (md := md) (K := K) (N := N) (S := S) (P := P) (O := O) (C := C) (U := U) (G := G) (H := H) (R := R) (xw := xw) (mv := mv) (co := co) (cr := cr) (xp := xp) (pk := pk) (pn := pn) (ps := ps) (wo := wo) (wb := wb) (wp := wp) (wk := wk) (E := E) (ow := ow) (gv := gv) (ga := ga) (gb := gb) (yw := yw) (vv := vv) (f1 := f1) (r1 := r1) (f2 := f2) (r2 := r2) (yp := yp) (qk := qk) (qn := qn) (qs := qs) (zo := zo) (zb := zb) (zp := zp) (zk := zk) (w := w) hR.1 (hk_ctm hR.2.2.1 hR.2.2.2.1)
    have hr : r = -1 := by
      rcases h1 with z | ⟨o, ho, -, z, -⟩
      · exact z
      · have := hk_cn0 (hk_lv K) 16 hc o ho
        simp [hk_lv, z] at this
    refine ⟨w, S, xp, pk, pn, ps, wo, wb, wp, wk, yp, qk, qn, qs, zo, zb, zp, zk, K, P, xw, hR, hQ, fun t ht => ⟨1, fun post hp => ?_⟩, r, 1, h3, fun post hp => br_t (hk_nn hr) hp⟩
    by_cases z : t = 16
    · subst z
      exact br_t (by decide) hp
    · refine br_f (nI_ge (b := 16) (by omega) (by decide)) ?_
      exact h2 _ (br_t hr hp)
  | succ c ih =>
    intro w S xp pk pn ps wo wb wp wk yp qk qn qs zo zb zp zk K P xw hc hR hQ
    obtain ⟨r, h1, h2, h3⟩ := hk_unu (md := md) (K := K) (N := N) (S := S) (P := P) (O := O) (C := C) (U := U) (G := G) (H := H) (R := R) (xw := xw) (mv := mv) (co := co) (cr := cr) (xp := xp) (pk := pk) (pn := pn) (ps := ps) (wo := wo) (wb := wb) (wp := wp) (wk := wk) (E := E) (ow := ow) (gv := gv) (ga := ga) (gb := gb) (yw := yw) (vv := vv) (f1 := f1) (r1 := r1) (f2 := f2) (r2 := r2) (yp := yp) (qk := qk) (qn := qn) (qs := qs) (zo := zo) (zb := zb) (zp := zp) (zk := zk) (w := w) hR.1 (hk_ctm hR.2.2.1 hR.2.2.2.1)
    rcases h1 with hr | ⟨o, ho, rfl, hko, hrc⟩
    · refine ⟨w, S, xp, pk, pn, ps, wo, wb, wp, wk, yp, qk, qn, qs, zo, zb, zp, zk, K, P, xw, hR, hQ, fun t ht => ⟨1, fun post hp => ?_⟩, r, 1, h3, fun post hp => br_t (hk_nn hr) hp⟩
      refine br_f (nI_ge (b := 16) (by omega) (by decide)) ?_
      exact h2 _ (br_t hr hp)
    · obtain ⟨w1, S1, xp1, pk1, pn1, ps1, wo1, wb1, wp1, wk1, yp1, qk1, qn1, qs1, zo1, zb1, zp1, zk1, K1, P1, xw1, R1, Q1, K1e, X1, Y1⟩ := hk_dst (md := md) (K := K) (N := N) (S := S) (P := P) (O := O) (C := C) (U := U) (G := G) (H := H) (R := R) (xw := xw) (mv := mv) (co := co) (cr := cr) (xp := xp) (pk := pk) (pn := pn) (ps := ps) (wo := wo) (wb := wb) (wp := wp) (wk := wk) (E := E) (ow := ow) (gv := gv) (ga := ga) (gb := gb) (yw := yw) (vv := vv) (f1 := f1) (r1 := r1) (f2 := f2) (r2 := r2) (yp := yp) (qk := qk) (qn := qn) (qs := qs) (zo := zo) (zb := zb) (zp := zp) (zk := zk) (w := w) hR hQ ho hko hrc
      have hc1 : hk_cn (hk_lv K1) 16 = c := by
        have := hk_lvdn (K := K) ho hko
        rw [K1e]; omega
      obtain ⟨w', S', xp', pk', pn', ps', wo', wb', wp', wk', yp', qk', qn', qs', zo', zb', zp', zk', K', P', xw', R', Q', X', r', n', U', Y'⟩ := ih w1 S1 xp1 pk1 pn1 ps1 wo1 wb1 wp1 wk1 yp1 qk1 qn1 qs1 zo1 zb1 zp1 zk1 K1 P1 xw1 hc1 R1 Q1
      refine ⟨w', S', xp', pk', pn', ps', wo', wb', wp', wk', yp', qk', qn', qs', zo', zb', zp', zk', K', P', xw', R', Q', fun t ht => ?_, nI o, n' + 1, h3, fun post hp => ?_⟩
      · obtain ⟨nx, X''⟩ := X' (t + 1) (by omega)
        refine ⟨nx + 1, fun post hp => ?_⟩
        refine br_f (nI_ge (b := 16) (by omega) (by decide)) ?_
        refine h2 _ (br_f (hk_ne o (by omega)) ?_)
        refine X1 _ ?_
        exact nm_r (nI_1 t) (X'' post hp)
      · refine br_f (nI_pos (by omega)) (nm_e ?_)
        refine Y1 post _ ?_
        exact U' _ (Y' post hp)
theorem hk_sw {w : Nat} {S xp pk pn ps wo wb wp wk yp qk qn qs zo zb zp zk K P xw : Nat → Int32} (hR : (hk_K K ∧ hk_H K H ∧ hk_X K xw xp ∧ hk_M K xw mv co cr yw vv f1 r1 f2 r2 ∧ hk_P K xp pk pn ps yp qk qn qs ∧ hk_E K P ∧ hk_O K O ow ∧ hk_S K P S E ow U yw yp ∧ hk_W K w wo wb wp wk zo zb zp zk ∧ hk_G G gv ga gb)) (hQ : hk_Q w S wo wb) : ∃ (w' : Nat) (S' xp' pk' pn' ps' wo' wb' wp' wk' yp' qk' qn' qs' zo' zb' zp' zk' K' P' xw' : Nat → Int32), (hk_K K' ∧ hk_H K' H ∧ hk_X K' xw' xp' ∧ hk_M K' xw' mv co cr yw vv f1 r1 f2 r2 ∧ hk_P K' xp' pk' pn' ps' yp' qk' qn' qs' ∧ hk_E K' P' ∧ hk_O K' O ow ∧ hk_S K' P' S' E ow U yw yp' ∧ hk_W K' w' wo' wb' wp' wk' zo' zb' zp' zk' ∧ hk_G G gv ga gb) ∧ hk_Q w' S' wo' wb' ∧ (∀ post : SX → Prop, post (md, nI w', K', N, S', P', O, C, U, G, H, R, xw', mv, co, cr, xp', pk', pn', ps', wo', wb', wp', wk') → wpX_destroyUnreferenced post (md, nI w, K, N, S, P, O, C, U, G, H, R, xw, mv, co, cr, xp, pk, pn, ps, wo, wb, wp, wk)) ∧ (∀ post : SY → Prop, post (md, nI w', K', N, E, P', ow, C, H, R, U, gv, ga, gb, yw, vv, f1, r1, f2, r2, yp', qk', qn', qs', zo', zb', zp', zk') → wpY_sweep post (md, nI w, K, N, E, P, ow, C, H, R, U, gv, ga, gb, yw, vv, f1, r1, f2, r2, yp, qk, qn, qs, zo, zb, zp, zk)) := by
  have hc := hk_cnle (hk_lv K) 16
  obtain ⟨w', S', xp', pk', pn', ps', wo', wb', wp', wk', yp', qk', qn', qs', zo', zb', zp', zk', K', P', xw', R', Q', X', r', n', U', Y'⟩ := hk_swl (md := md) (N := N) (C := C) (R := R) _ w S xp pk pn ps wo wb wp wk yp qk qn qs zo zb zp zk K P xw rfl hR hQ
  obtain ⟨nx, X''⟩ := X' 0 (by omega)
  refine ⟨w', S', xp', pk', pn', ps', wo', wb', wp', wk', yp', qk', qn', qs', zo', zb', zp', zk', K', P', xw', R', Q', fun post hp => ⟨nx, X'' post hp⟩, fun post hp => ?_⟩
  unfold wpY_sweep
  exact U' _ ⟨n', Y' post hp⟩
end
end
section
theorem i_vc_close {k : Nat} {u : SX} {v : SY} (I : i_Rel k u v) (hk : k + 6 ≤ 3072) (v1 : Int32) (v2 : Int32) : wpX_close (fun r u' => wpY_close (fun r' v' => r' = r ∧ i_Rel (k + 6) u' v') v v1 v2) u v1 v2 := by
  obtain ⟨md, w, K, N, S, P, O, C, U, G, H, R, xw, mv, co, cr, xp, pk, pn, ps, wo, wb, wp, wk, E, ow, gv, ga, gb, yw, vv, f1, r1, f2, r2, yp, qk, qn, qs, zo, zb, zp, zk, rfl, rfl, hR, hQ, hF⟩ := I
  obtain ⟨r, hX, hY, h0⟩ := hk_th (md := md) (K := K) (N := N) (S := S) (P := P) (O := O) (C := C) (U := U) (G := G) (H := H) (R := R) (xw := xw) (mv := mv) (co := co) (cr := cr) (xp := xp) (pk := pk) (pn := pn) (ps := ps) (wo := wo) (wb := wb) (wp := wp) (wk := wk) (E := E) (ow := ow) (gv := gv) (ga := ga) (gb := gb) (yw := yw) (vv := vv) (f1 := f1) (r1 := r1) (f2 := f2) (r2 := r2) (yp := yp) (qk := qk) (qn := qn) (qs := qs) (zo := zo) (zb := zb) (zp := zp) (zk := zk) (w := w) hR.1 hR.2.1 v1 v2 (-1) 0 (Or.inl rfl)
  unfold wpX_close
  refine hX _ ?_
  by_cases hr : r = 0
  · obtain ⟨a, b, o, ha, hb, ho, rfl, rfl, hu, e, hko, -⟩ := h0 hr
    have hc : (nI (a * 10 + b)).toNatClampNeg = a * 10 + b := nI_clamp (by omega)
    have hv : vp_in (nI (a * 10 + b)) 40 := vp_in_nI (by omega) (by decide)
    have R1 : (hk_K K ∧ hk_H K (upd H (a * 10 + b) (-1)) ∧ hk_X K xw xp ∧ hk_M K xw mv co cr yw vv f1 r1 f2 r2 ∧ hk_P K xp pk pn ps yp qk qn qs ∧ hk_E K P ∧ hk_O K O ow ∧ hk_S K P S E ow U yw yp ∧ hk_W K w wo wb wp wk zo zb zp zk ∧ hk_G G gv ga gb) := ⟨hR.1, hk_plH hR.2.1 (Or.inl rfl), hR.2.2⟩
    obtain ⟨w', S', xp', pk', pn', ps', wo', wb', wp', wk', yp', qk', qn', qs', zo', zb', zp', zk', K', P', xw', R', Q', X', Y'⟩ := hk_sw (md := md) (N := N) (C := C) (R := R) R1 hQ
    refine br_t hr ?_
    rw [hk_m10, hc]
    refine ⟨hv, nm_e ?_⟩
    refine X' _ ?_
    unfold wpY_close
    refine hY _ (br_t hr ?_)
    rw [hk_10m, hc]
    refine ⟨hv, nm_e ?_⟩
    refine Y' _ ?_
    exact ⟨rfl, hk_mk R' Q' (hk_clF hF)⟩
  · refine br_f hr ?_
    unfold wpY_close
    exact hY _ (br_f hr ⟨rfl, hk_mk hR hQ hF⟩)
section
variable {md : Int32} {w : Nat} {K N S P O C U G H R xw mv co cr xp pk pn ps wo wb wp wk : Nat → Int32} {E ow gv ga gb yw vv f1 r1 f2 r2 yp qk qn qs zo zb zp zk : Nat → Int32}
theorem hk_ynt (hR : (hk_K K ∧ hk_H K H ∧ hk_X K xw xp ∧ hk_M K xw mv co cr yw vv f1 r1 f2 r2 ∧ hk_P K xp pk pn ps yp qk qn qs ∧ hk_E K P ∧ hk_O K O ow ∧ hk_S K P S E ow U yw yp ∧ hk_W K w wo wb wp wk zo zb zp zk ∧ hk_G G gv ga gb)) (hQ : hk_Q w S wo wb) {post : SY → Prop} (hp : post (md, nI w, K, N, E, P, ow, C, H, R, U, gv, ga, gb, yw, vv, f1, r1, f2, r2, yp, qk, qn, qs, zo, zb, zp, zk)) : wpY_tell post (md, nI w, K, N, E, P, ow, C, H, R, U, gv, ga, gb, yw, vv, f1, r1, f2, r2, yp, qk, qn, qs, zo, zb, zp, zk) := by
  obtain ⟨hK, hH, hX, hM, hP, hE, hO, hS, hW, hG⟩ := hR
  exact ⟨_, hk_ytl hK hO hS hW (Nat.le_refl w) hQ (n := 1) (br_t (Int32.le_refl _) hp) w 0 (by omega)⟩
theorem hk_ev {o : Nat} {y : Int32} (hR : (hk_K K ∧ hk_H K H ∧ hk_X K xw xp ∧ hk_M K xw mv co cr yw vv f1 r1 f2 r2 ∧ hk_P K xp pk pn ps yp qk qn qs ∧ hk_E K P ∧ hk_O K O ow ∧ hk_S K P S E ow U yw yp ∧ hk_W K w wo wb wp wk zo zb zp zk ∧ hk_G G gv ga gb)) (hko : K o = 0) : (hk_K K ∧ hk_H K H ∧ hk_X K xw xp ∧ hk_M K xw mv co cr yw vv f1 r1 f2 r2 ∧ hk_P K xp pk pn ps yp qk qn qs ∧ hk_E K P ∧ hk_O K O ow ∧ hk_S K P (upd S o y) (upd E o y) ow U yw yp ∧ hk_W K w wo wb wp wk zo zb zp zk ∧ hk_G G gv ga gb) := by
  obtain ⟨hK, hH, hX, hM, hP, hE, hO, hS, hW, hG⟩ := hR
  refine ⟨hK, hH, hX, hM, hP, hE, hO, fun e he h1 => ?_, hW, hG⟩
  by_cases z : e = o
  · subst z
    rw [pk_us]
    unfold hk_sg
    rw [if_pos hko, pk_us]
  · rw [pk_un z, hS e he h1]
    unfold hk_sg
    rw [pk_un z]
theorem hk_evs {o : Nat} (hS : hk_S K P S E ow U yw yp) (ho : o < 16) (hko : K o = 0) : S o = E o := by
  rw [hS o ho (by rw [hko]; decide)]
  unfold hk_sg
  rw [if_pos hko]
theorem hk_Qand {o : Nat} {m : Int32} (hQ : hk_Q w S wo wb) : hk_Q w (upd S o (S o &&& m)) wo wb := by
  intro i hi
  by_cases z : (wo i).toNatClampNeg = o
  · rw [z, pk_us]
    have := hQ i hi
    rw [z] at this
    exact hk_andw this
  · rw [pk_un z]; exact hQ i hi
end
theorem i_vc_signal {k : Nat} {u : SX} {v : SY} (I : i_Rel k u v) (hk : k + 6 ≤ 3072) (v1 : Int32) (v2 : Int32) (v3 : Int32) (v4 : Int32) : wpX_signal (fun r u' => wpY_signal (fun r' v' => r' = r ∧ i_Rel (k + 6) u' v') v v1 v2 v3 (lw_bz v4)) u v1 v2 v3 (lw_bz v4) := by
  obtain ⟨md, w, K, N, S, P, O, C, U, G, H, R, xw, mv, co, cr, xp, pk, pn, ps, wo, wb, wp, wk, E, ow, gv, ga, gb, yw, vv, f1, r1, f2, r2, yp, qk, qn, qs, zo, zb, zp, zk, rfl, rfl, hR, hQ, hF⟩ := I
  obtain ⟨r, hX, hY, h0⟩ := hk_th (md := md) (K := K) (N := N) (S := S) (P := P) (O := O) (C := C) (U := U) (G := G) (H := H) (R := R) (xw := xw) (mv := mv) (co := co) (cr := cr) (xp := xp) (pk := pk) (pn := pn) (ps := ps) (wo := wo) (wb := wb) (wp := wp) (wk := wk) (E := E) (ow := ow) (gv := gv) (ga := ga) (gb := gb) (yw := yw) (vv := vv) (f1 := f1) (r1 := r1) (f2 := f2) (r2 := r2) (yp := yp) (qk := qk) (qn := qn) (qs := qs) (zo := zo) (zb := zb) (zp := zp) (zk := zk) (w := w) hR.1 hR.2.1 v1 v2 0 2 (Or.inr (by decide))
  generalize lw_bz v4 = on
  unfold wpX_signal
  refine hX _ ?_
  by_cases hr : r = 0
  · obtain ⟨a, b, o, ha, hb, ho, rfl, rfl, hu, e, hko, hk0⟩ := h0 hr
    have hk0 : K o = 0 := by
      rcases hk0 with z | z
      · exact absurd z (by decide)
      · exact z
    have hc : (nI (a * 10 + b)).toNatClampNeg = a * 10 + b := nI_clamp (by omega)
    have hv : vp_in (nI (a * 10 + b)) 40 := vp_in_nI (by omega) (by decide)
    have hco : (nI o).toNatClampNeg = o := nI_clamp (by omega)
    have hvo : vp_in (nI o) 16 := vp_in_nI ho (by decide)
    have hse : S o = E o := hk_evs hR.2.2.2.2.2.2.2.1 ho hk0
    refine br_t hr ?_
    have bad : (v3 < 0 ∨ nI 8 ≤ v3) → wpY_signal (fun r' v' => r' = -9 ∧ i_Rel (k + 6) (md, nI w, K, N, S, P, O, C, U, G, H, R, xw, mv, co, cr, xp, pk, pn, ps, wo, wb, wp, wk) v') (md, nI w, K, N, E, P, ow, C, H, R, U, gv, ga, gb, yw, vv, f1, r1, f2, r2, yp, qk, qn, qs, zo, zb, zp, zk) (nI a) (nI b) v3 on := fun z => by
      unfold wpY_signal
      exact hY _ (br_t hr (hk_in0 (n := 7) z (by decide) (br_t rfl ⟨rfl, hk_mk hR hQ hF⟩)))
    rcases pk_ix v3 (n := 8) (by decide) with z | z | ⟨c, hc8, rfl⟩
    · exact br_t z (bad (Or.inl z))
    · exact br_f (Int32.not_lt.mpr (Int32.le_trans (by decide) z)) (br_f (Int32.not_lt.mpr z) (bad (Or.inr z)))
    · refine br_f (nI_pos (by omega)) (br_t (nI_lt (b := 8) hc8 (by decide)) ?_)
      rw [hk_m10, hc, e]
      refine ⟨hv, nm_e ?_⟩
      by_cases hon : on = 0
      · refine br_t hon ⟨hvo, hvo, ?_⟩
        rw [hco]
        refine nm_e ⟨hvo, ?_⟩
        unfold wpY_signal
        refine hY _ (br_t hr (hk_in1 (n := 7) (by omega) (by decide) (br_f (by decide) ?_)))
        refine hk_yob ha hb ?_
        rw [e]
        refine br_t hon ⟨hvo, ?_⟩
        unfold wY_signal_77
        rw [hco, ← hse]
        refine ⟨hvo, nm_e ?_⟩
        have R1 := hk_ev (y := S o &&& ((1 : Int32) <<< (nI c &&& 31) ^^^ -1)) hR hk0
        have Q1 := hk_Qand (o := o) (m := ((1 : Int32) <<< (nI c &&& 31) ^^^ -1)) hQ
        refine hk_ynt R1 Q1 ?_
        exact ⟨hvo, by rw [pk_us, pk_us], hk_mk R1 Q1 hF⟩
      · refine br_f hon ⟨hvo, hvo, ?_⟩
        rw [hco]
        refine nm_e ?_
        have R1 := hk_ev (y := S o ||| ((1 : Int32) <<< (nI c &&& 31))) hR hk0
        obtain ⟨w', S', xp', pk', pn', ps', wo', wb', wp', wk', yp', qk', qn', qs', zo', zb', zp', zk', R', Q', X', Y'⟩ := hk_tl (md := md) (N := N) (C := C) (R := R) R1
        refine X' K xw _ ?_
        refine ⟨hvo, ?_⟩
        unfold wpY_signal
        refine hY _ (br_t hr (hk_in1 (n := 7) (by omega) (by decide) (br_f (by decide) ?_)))
        refine hk_yob ha hb ?_
        rw [e]
        refine br_f hon ⟨hvo, ?_⟩
        unfold wY_signal_77
        rw [hco, ← hse]
        refine ⟨hvo, nm_e ?_⟩
        refine Y' _ ?_
        exact ⟨hvo, (hk_evs R'.2.2.2.2.2.2.2.1 ho hk0).symm, hk_mk R' Q' hF⟩
  · refine br_f hr ?_
    unfold wpY_signal
    exact hY _ (br_f hr ⟨rfl, hk_mk hR hQ hF⟩)
theorem i_vc_watch {k : Nat} {u : SX} {v : SY} (I : i_Rel k u v) (hk : k + 6 ≤ 3072) (v1 : Int32) (v2 : Int32) (v3 : Int32) (v4 : Int32) (v5 : Int32) : wpX_watch (fun r u' => wpY_watch (fun r' v' => r' = r ∧ i_Rel (k + 6) u' v') v v1 v2 v3 v4 v5) u v1 v2 v3 v4 v5 := by
  obtain ⟨md, w, K, N, S, P, O, C, U, G, H, R, xw, mv, co, cr, xp, pk, pn, ps, wo, wb, wp, wk, E, ow, gv, ga, gb, yw, vv, f1, r1, f2, r2, yp, qk, qn, qs, zo, zb, zp, zk, rfl, rfl, hR, hQ, hF⟩ := I
  obtain ⟨r, hX, hY, h0⟩ := hk_th (md := md) (K := K) (N := N) (S := S) (P := P) (O := O) (C := C) (U := U) (G := G) (H := H) (R := R) (xw := xw) (mv := mv) (co := co) (cr := cr) (xp := xp) (pk := pk) (pn := pn) (ps := ps) (wo := wo) (wb := wb) (wp := wp) (wk := wk) (E := E) (ow := ow) (gv := gv) (ga := ga) (gb := gb) (yw := yw) (vv := vv) (f1 := f1) (r1 := r1) (f2 := f2) (r2 := r2) (yp := yp) (qk := qk) (qn := qn) (qs := qs) (zo := zo) (zb := zb) (zp := zp) (zk := zk) (w := w) hR.1 hR.2.1 v1 v2 (-1) 16 (Or.inl rfl)
  unfold wpX_watch
  refine hX _ ?_
  by_cases hr : r = 0
  · obtain ⟨a, b, o, ha, hb, ho, rfl, rfl, hu, e, hko, -⟩ := h0 hr
    obtain ⟨s, sX, sY, s0⟩ := hk_th1 (md := md) (K := K) (N := N) (S := S) (P := P) (O := O) (C := C) (U := U) (G := G) (H := H) (R := R) (xw := xw) (mv := mv) (co := co) (cr := cr) (xp := xp) (pk := pk) (pn := pn) (ps := ps) (wo := wo) (wb := wb) (wp := wp) (wk := wk) (E := E) (ow := ow) (gv := gv) (ga := ga) (gb := gb) (yw := yw) (vv := vv) (f1 := f1) (r1 := r1) (f2 := f2) (r2 := r2) (yp := yp) (qk := qk) (qn := qn) (qs := qs) (zo := zo) (zb := zb) (zp := zp) (zk := zk) (w := w) hR.1 hR.2.1 ha hu v3 3 2 (Or.inr (by decide))
    have hc : (nI (a * 10 + b)).toNatClampNeg = a * 10 + b := nI_clamp (by omega)
    have hv : vp_in (nI (a * 10 + b)) 40 := vp_in_nI (by omega) (by decide)
    refine br_t hr ?_
    refine sX _ ?_
    by_cases hs : s = 0
    · obtain ⟨d, q, hd, hq, rfl, e2, hkq, hk3⟩ := s0 hs
      have hk3 : K q = 3 := by
        rcases hk3 with z | z
        · exact absurd z (by decide)
        · exact z
      have hcd : (nI (a * 10 + d)).toNatClampNeg = a * 10 + d := nI_clamp (by omega)
      have hvd : vp_in (nI (a * 10 + d)) 40 := vp_in_nI (by omega) (by decide)
      have hW := hR.2.2.2.2.2.2.2.2.1
      have hw := hW.1
      refine br_t hs ?_
      by_cases h12 : w < 12
      · have hcw : (nI w).toNatClampNeg = w := nI_clamp (by omega)
        have hvw : vp_in (nI w) 12 := vp_in_nI h12 (by decide)
        have y12 : ¬ nI w = 12 := fun z => by have := (nI_eq (b := 12) (by omega) (by decide)).mp z; omega
        have R1 : (hk_K K ∧ hk_H K H ∧ hk_X K xw xp ∧ hk_M K xw mv co cr yw vv f1 r1 f2 r2 ∧ hk_P K xp pk pn ps yp qk qn qs ∧ hk_E K P ∧ hk_O K O ow ∧ hk_S K P S E ow U yw yp ∧ hk_W K (w + 1) (upd wo w (nI o)) (upd wb w (v4 &&& 2047)) (upd wp w (nI q)) (upd wk w v5) (upd zo w (nI o)) (upd zb w (v4 &&& 2047)) (upd zp w (nI q)) (upd zk w v5) ∧ hk_G G gv ga gb) := by
          obtain ⟨hK, hH, hX, hM, hP, hE, hO, hS, hW, hG⟩ := hR
          refine ⟨hK, hH, hX, hM, hP, hE, hO, hS, ⟨by omega, fun i hi => ?_⟩, hG⟩
          unfold hk_w1
          by_cases z : i = w
          · rw [z, pk_us, pk_us, pk_us, pk_us, pk_us, pk_us, pk_us, pk_us]
            exact ⟨rfl, rfl, rfl, rfl, ⟨o, ho, rfl, hko⟩, q, hq, rfl, hk3⟩
          · rw [pk_un z, pk_un z, pk_un z, pk_un z, pk_un z, pk_un z, pk_un z, pk_un z]
            exact hW.2 i (by omega)
        obtain ⟨w', S', xp', pk', pn', ps', wo', wb', wp', wk', yp', qk', qn', qs', zo', zb', zp', zk', R', Q', X', Y'⟩ := hk_tl (md := md) (N := N) (C := C) (R := R) R1
        refine br_t (nI_lt (b := 12) h12 (by decide)) ?_
        rw [hk_m10, hk_m10, hc, hcd, hcw, e, e2]
        refine ⟨hv, hvw, nm_e ⟨hvd, hvw, nm_e ⟨hvw, nm_e ⟨hvw, nm_e (nm_r (nI_1 w) ?_)⟩⟩⟩⟩
        refine X' K xw _ ?_
        unfold wpY_watch
        refine hY _ (br_t hr ?_)
        refine sY _ ?_
        refine br_t hs (br_f y12 ?_)
        refine hk_yob ha hb ?_
        rw [e, hcw]
        refine ⟨hvw, nm_e ⟨hvw, nm_e ?_⟩⟩
        refine hk_yob ha hd ?_
        rw [e2]
        refine ⟨hvw, nm_e ⟨hvw, nm_e (nm_r (nI_1 w) ?_)⟩⟩
        refine Y' _ ?_
        exact ⟨rfl, hk_mk R' Q' hF⟩
      · have y12 : nI w = 12 := by rw [show w = 12 by omega]; rfl
        refine br_f (nI_nlt (b := 12) (by omega) (by omega)) ?_
        unfold wpY_watch
        refine hY _ (br_t hr ?_)
        refine sY _ ?_
        exact br_t hs (br_t y12 ⟨rfl, hk_mk hR hQ hF⟩)
    · refine br_f hs ?_
      unfold wpY_watch
      refine hY _ (br_t hr ?_)
      refine sY _ ?_
      exact br_f hs ⟨rfl, hk_mk hR hQ hF⟩
  · refine br_f hr ?_
    unfold wpY_watch
    exact hY _ (br_f hr (br_f hr ⟨rfl, hk_mk hR hQ hF⟩))
end
section
section
variable {md : Int32} {w : Nat} {K N S P O C U G H R xw mv co cr xp pk pn ps wo wb wp wk : Nat → Int32} {E ow gv ga gb yw vv f1 r1 f2 r2 yp qk qn qs zo zb zp zk : Nat → Int32}
theorem hk_xdpl {o n : Nat} (ho : o < 16) (hn : n < 6) (e : xp o = nI (n + 1)) {post : SX → Prop} (hp : post (md, nI w, K, N, if n = 0 then upd S o (S o &&& -257) else S, P, O, C, U, G, H, R, xw, mv, co, cr, upd xp o (nI n), hk_sh pk (o * 6) (o * 6 + 5), hk_sh pn (o * 6) (o * 6 + 5), hk_sh ps (o * 6) (o * 6 + 5), wo, wb, wp, wk)) : ∀ d j, j + d = 5 → wX_dropFirstPacket_7 post (nI o) (nI (o * 6)) md (nI w) (d + 1) (nI (o * 6 + j)) K N S P O C U G H R xw mv co cr xp (hk_sh pk (o * 6) (o * 6 + j)) (hk_sh pn (o * 6) (o * 6 + j)) (hk_sh ps (o * 6) (o * 6 + j)) wo wb wp wk := by
  have hco : (nI o).toNatClampNeg = o := nI_clamp (by omega)
  have hvo : vp_in (nI o) 16 := vp_in_nI ho (by decide)
  have e5 : nI (o * 6) + 6 - 1 = nI (o * 6 + 5) := by
    rw [show nI (o * 6) + 6 = nI (o * 6 + 5 + 1) from nI_add (o * 6) 6, nI_pred]
  intro d
  induction d with
  | zero =>
    intro j hj
    obtain rfl : j = 5 := by omega
    refine br_t (by rw [e5]; exact Int32.le_refl _) ?_
    rw [hco, e, nI_pred]
    refine ⟨hvo, hvo, nm_e ⟨hvo, ?_⟩⟩
    rw [pk_us]
    by_cases z : n = 0
    · rw [if_pos z] at hp
      exact br_t (by rw [z]; rfl) ⟨hvo, hvo, nm_e hp⟩
    · rw [if_neg z] at hp
      exact br_f (nI_ne0 (by omega) (by omega)) hp
  | succ d ih =>
    intro j hj
    have c1 : (nI (o * 6 + j + 1)).toNatClampNeg = o * 6 + j + 1 := nI_clamp (by omega)
    have c0 : (nI (o * 6 + j)).toNatClampNeg = o * 6 + j := nI_clamp (by omega)
    have v1 : vp_in (nI (o * 6 + j + 1)) 96 := vp_in_nI (by omega) (by decide)
    have v0 : vp_in (nI (o * 6 + j)) 96 := vp_in_nI (by omega) (by decide)
    have hij : o * 6 ≤ o * 6 + j := by omega
    refine br_f (by rw [e5]; exact nI_ge (by omega) (by omega)) ?_
    rw [nI_1, c1, c0, hk_shs pk hij, hk_shs pn hij, hk_shs ps hij]
    exact ⟨v1, v0, nm_e ⟨v1, v0, nm_e ⟨v1, v0, nm_e (nm_e (ih (j + 1) (by omega)))⟩⟩⟩
theorem hk_xdp {o n : Nat} (ho : o < 16) (hn : n < 6) (e : xp o = nI (n + 1)) {post : SX → Prop} (hp : post (md, nI w, K, N, if n = 0 then upd S o (S o &&& -257) else S, P, O, C, U, G, H, R, xw, mv, co, cr, upd xp o (nI n), hk_sh pk (o * 6) (o * 6 + 5), hk_sh pn (o * 6) (o * 6 + 5), hk_sh ps (o * 6) (o * 6 + 5), wo, wb, wp, wk)) : wpX_dropFirstPacket post (md, nI w, K, N, S, P, O, C, U, G, H, R, xw, mv, co, cr, xp, pk, pn, ps, wo, wb, wp, wk) (nI o) := by
  unfold wpX_dropFirstPacket
  have := hk_xdpl ho hn e hp 5 0 rfl
  rw [show hk_sh pk (o * 6) (o * 6 + 0) = pk from hk_sh0 _ _, show hk_sh pn (o * 6) (o * 6 + 0) = pn from hk_sh0 _ _, show hk_sh ps (o * 6) (o * 6 + 0) = ps from hk_sh0 _ _] at this
  exact nm_r (hk_m6 o) ⟨_, this⟩
theorem hk_ydpl {o n : Nat} (ho : o < 16) (hn : n < 6) (e : yp o = nI n) {x : Int64} {post : Int64 → SY → Prop} (hp : post x (md, nI w, K, N, E, P, ow, C, H, R, U, gv, ga, gb, yw, vv, f1, r1, f2, r2, yp, hk_sh qk (o * 6) (o * 6 + n), hk_sh qn (o * 6) (o * 6 + n), hk_sh qs (o * 6) (o * 6 + n), zo, zb, zp, zk)) : ∀ d j, j + d = n → wY_packet_140 post (nI o) (nI (o * 6)) x md (nI w) (d + 1) (nI (o * 6 + j)) K N E P ow C H R U gv ga gb yw vv f1 r1 f2 r2 yp (hk_sh qk (o * 6) (o * 6 + j)) (hk_sh qn (o * 6) (o * 6 + j)) (hk_sh qs (o * 6) (o * 6 + j)) zo zb zp zk := by
  have hco : (nI o).toNatClampNeg = o := nI_clamp (by omega)
  have hvo : vp_in (nI o) 16 := vp_in_nI ho (by decide)
  have e5 : nI (o * 6) + yp (nI o).toNatClampNeg = nI (o * 6 + n) := by rw [hco, e, nI_add]
  intro d
  induction d with
  | zero =>
    intro j hj
    obtain rfl : j = n := by omega
    exact ⟨hvo, br_t (by rw [e5]; exact Int32.le_refl _) hp⟩
  | succ d ih =>
    intro j hj
    have c1 : (nI (o * 6 + j + 1)).toNatClampNeg = o * 6 + j + 1 := nI_clamp (by omega)
    have c0 : (nI (o * 6 + j)).toNatClampNeg = o * 6 + j := nI_clamp (by omega)
    have v1 : vp_in (nI (o * 6 + j + 1)) 96 := vp_in_nI (by omega) (by decide)
    have v0 : vp_in (nI (o * 6 + j)) 96 := vp_in_nI (by omega) (by decide)
    have hij : o * 6 ≤ o * 6 + j := by omega
    refine ⟨hvo, br_f (by rw [e5]; exact nI_ge (by omega) (by omega)) ?_⟩
    rw [nI_1, c1, c0, hk_shs qk hij, hk_shs qn hij, hk_shs qs hij]
    exact ⟨v1, v0, nm_e ⟨v1, v0, nm_e ⟨v1, v0, nm_e (nm_e (ih (j + 1) (by omega)))⟩⟩⟩
theorem hk_ydp {o n : Nat} (ho : o < 16) (hn : n < 6) (e : yp o = nI (n + 1)) {x : Int64} {post : Int64 → SY → Prop} (hp : post x (md, nI w, K, N, E, P, ow, C, H, R, U, gv, ga, gb, yw, vv, f1, r1, f2, r2, upd yp o (nI n), hk_sh qk (o * 6) (o * 6 + n), hk_sh qn (o * 6) (o * 6 + n), hk_sh qs (o * 6) (o * 6 + n), zo, zb, zp, zk)) : wY_packet_123 post (nI o) (nI (o * 6)) x md (nI w) K N E P ow C H R U gv ga gb yw vv f1 r1 f2 r2 yp qk qn qs zo zb zp zk := by
  have hco : (nI o).toNatClampNeg = o := nI_clamp (by omega)
  have hvo : vp_in (nI o) 16 := vp_in_nI ho (by decide)
  have := hk_ydpl (md := md) (K := K) (N := N) (E := E) (P := P) (ow := ow) (C := C) (H := H) (R := R) (U := U) (gv := gv) (ga := ga) (gb := gb) (yw := yw) (vv := vv) (f1 := f1) (r1 := r1) (f2 := f2) (r2 := r2) (yp := upd yp o (nI n)) (qk := qk) (qn := qn) (qs := qs) (zo := zo) (zb := zb) (zp := zp) (zk := zk) (w := w) ho hn pk_us hp n 0 (by omega)
  rw [show hk_sh qk (o * 6) (o * 6 + 0) = qk from hk_sh0 _ _, show hk_sh qn (o * 6) (o * 6 + 0) = qn from hk_sh0 _ _, show hk_sh qs (o * 6) (o * 6 + 0) = qs from hk_sh0 _ _] at this
  unfold wY_packet_123
  rw [hco, e, nI_pred]
  exact ⟨hvo, hvo, nm_e ⟨_, this⟩⟩
theorem hk_dpR {o n : Nat} (hR : (hk_K K ∧ hk_H K H ∧ hk_X K xw xp ∧ hk_M K xw mv co cr yw vv f1 r1 f2 r2 ∧ hk_P K xp pk pn ps yp qk qn qs ∧ hk_E K P ∧ hk_O K O ow ∧ hk_S K P S E ow U yw yp ∧ hk_W K w wo wb wp wk zo zb zp zk ∧ hk_G G gv ga gb)) (hQ : hk_Q w S wo wb) (ho : o < 16) (hn : n < 6) (hk3 : K o = 3) (e1 : xp o = nI (n + 1)) (e2 : yp o = nI (n + 1)) : (hk_K K ∧ hk_H K H ∧ hk_X K xw (upd xp o (nI n)) ∧ hk_M K xw mv co cr yw vv f1 r1 f2 r2 ∧ hk_P K (upd xp o (nI n)) (hk_sh pk (o * 6) (o * 6 + 5)) (hk_sh pn (o * 6) (o * 6 + 5)) (hk_sh ps (o * 6) (o * 6 + 5)) (upd yp o (nI n)) (hk_sh qk (o * 6) (o * 6 + n)) (hk_sh qn (o * 6) (o * 6 + n)) (hk_sh qs (o * 6) (o * 6 + n)) ∧ hk_E K P ∧ hk_O K O ow ∧ hk_S K P (if n = 0 then upd S o (S o &&& -257) else S) E ow U yw (upd yp o (nI n)) ∧ hk_W K w wo wb wp wk zo zb zp zk ∧ hk_G G gv ga gb) ∧ hk_Q w (if n = 0 then upd S o (S o &&& -257) else S) wo wb := by
  obtain ⟨hK, hH, hX, hM, hP, hE, hO, hS, hW, hG⟩ := hR
  refine ⟨⟨hK, hH, ?_, hM, ?_, hE, hO, ?_, hW, hG⟩, ?_⟩
  · intro e he
    refine ⟨(hX e he).1, fun z => ?_⟩
    have : e ≠ o := fun y => z (by rw [y]; exact hk3)
    rw [pk_un this]
    exact (hX e he).2 z
  · intro e he hke
    obtain ⟨m, hm, a1, a2, a3⟩ := hP e he hke
    by_cases z : e = o
    · subst z
      have hmn : m = n + 1 := (nI_eq (by omega) (by omega)).mp (a1.symm.trans e1)
      subst hmn
      refine ⟨n, by omega, pk_us, pk_us, fun j hj => ?_⟩
      unfold hk_sh
      rw [hk_gm (by omega) (by omega), hk_gm (by omega) (by omega)]
      exact a3 (j + 1) (by omega)
    · refine ⟨m, hm, by rw [pk_un z]; exact a1, by rw [pk_un z]; exact a2, fun j hj => ?_⟩
      have g : ∀ n, n ≤ 5 → hk_g (o * 6) (o * 6 + n) (e * 6 + j) = e * 6 + j := fun n hn => by
        unfold hk_g
        rw [if_neg (by omega)]
      unfold hk_sh
      rw [g 5 (by omega), g n (by omega)]
      exact a3 j hj
  · intro e he hke
    by_cases z : e = o
    · subst z
      have s0 := hS e he hke
      unfold hk_sg at s0 ⊢
      have n0 : ¬ K e = 0 := by rw [hk3]; decide
      have n1 : ¬ K e = 1 := by rw [hk3]; decide
      have y1 : ¬ yp e ≤ 0 := by rw [e2]; exact nI_nle (by omega) (by omega)
      rw [if_neg n0, if_neg n1, if_pos hk3] at s0 ⊢
      rw [if_neg y1] at s0
      rw [pk_us]
      by_cases y : n = 0
      · rw [if_pos y, pk_us, s0, y]; decide
      · rw [if_neg y, s0, if_neg (nI_nle (by omega) (by omega))]
    · have hs : (if n = 0 then upd S o (S o &&& -257) else S) e = S e := by
        by_cases y : n = 0
        · rw [if_pos y, pk_un z]
        · rw [if_neg y]
      rw [hs, hS e he hke]
      unfold hk_sg
      rw [pk_un z]
  · by_cases y : n = 0
    · rw [if_pos y]; exact hk_Qand hQ
    · rw [if_neg y]; exact hQ
end
theorem i_vc_packet {k : Nat} {u : SX} {v : SY} (I : i_Rel k u v) (hk : k + 6 ≤ 3072) (v1 : Int32) (v2 : Int32) (v3 : Int32) : wpX_packet (fun r u' => wpY_packet (fun r' v' => r' = r ∧ i_Rel (k + 6) u' v') v v1 v2 v3) u v1 v2 v3 := by
  obtain ⟨md, w, K, N, S, P, O, C, U, G, H, R, xw, mv, co, cr, xp, pk, pn, ps, wo, wb, wp, wk, E, ow, gv, ga, gb, yw, vv, f1, r1, f2, r2, yp, qk, qn, qs, zo, zb, zp, zk, rfl, rfl, hR, hQ, hF⟩ := I
  obtain ⟨r, hX, hY, h0⟩ := hk_th (md := md) (K := K) (N := N) (S := S) (P := P) (O := O) (C := C) (U := U) (G := G) (H := H) (R := R) (xw := xw) (mv := mv) (co := co) (cr := cr) (xp := xp) (pk := pk) (pn := pn) (ps := ps) (wo := wo) (wb := wb) (wp := wp) (wk := wk) (E := E) (ow := ow) (gv := gv) (ga := ga) (gb := gb) (yw := yw) (vv := vv) (f1 := f1) (r1 := r1) (f2 := f2) (r2 := r2) (yp := yp) (qk := qk) (qn := qn) (qs := qs) (zo := zo) (zb := zb) (zp := zp) (zk := zk) (w := w) hR.1 hR.2.1 v1 v2 3 1 (Or.inr (by decide))
  unfold wpX_packet
  refine hX _ ?_
  by_cases hr : r = 0
  · obtain ⟨a, b, o, ha, hb, ho, rfl, rfl, hu, e, hko, hk3⟩ := h0 hr
    have hk3 : K o = 3 := by
      rcases hk3 with z | z
      · exact absurd z (by decide)
      · exact z
    have hc : (nI (a * 10 + b)).toNatClampNeg = a * 10 + b := nI_clamp (by omega)
    have hv : vp_in (nI (a * 10 + b)) 40 := vp_in_nI (by omega) (by decide)
    have hco : (nI o).toNatClampNeg = o := nI_clamp (by omega)
    have hvo : vp_in (nI o) 16 := vp_in_nI ho (by decide)
    have hc6 : (nI (o * 6)).toNatClampNeg = o * 6 := nI_clamp (by omega)
    have hv6 : vp_in (nI (o * 6)) 96 := vp_in_nI (by omega) (by decide)
    refine br_t hr ?_
    have bad : (v3 < 0 ∨ nI 4 ≤ v3) → wpY_packet (fun r' v' => r' = -10000000009 ∧ i_Rel (k + 6) (md, nI w, K, N, S, P, O, C, U, G, H, R, xw, mv, co, cr, xp, pk, pn, ps, wo, wb, wp, wk) v') (md, nI w, K, N, E, P, ow, C, H, R, U, gv, ga, gb, yw, vv, f1, r1, f2, r2, yp, qk, qn, qs, zo, zb, zp, zk) (nI a) (nI b) v3 := fun z => by
      unfold wpY_packet
      exact hY _ (br_t hr (hk_in0 (n := 3) z (by decide) (br_t rfl (br_f (by decide) ⟨by decide, hk_mk hR hQ hF⟩))))
    rcases pk_ix v3 (n := 4) (by decide) with z | z | ⟨c, hc4, rfl⟩
    · exact br_t z (bad (Or.inl z))
    · exact br_f (Int32.not_lt.mpr (Int32.le_trans (by decide) z)) (br_f (Int32.not_le.mpr (Int32.lt_of_lt_of_le (by decide) z)) (bad (Or.inr z)))
    · have HY : ∀ post : Int64 → SY → Prop, ((nI c = 3 → post (yp o).toInt64 (md, nI w, K, N, E, P, ow, C, H, R, U, gv, ga, gb, yw, vv, f1, r1, f2, r2, yp, qk, qn, qs, zo, zb, zp, zk)) ∧ (¬ nI c = 3 → (yp o = 0 → post (-10000000008) (md, nI w, K, N, E, P, ow, C, H, R, U, gv, ga, gb, yw, vv, f1, r1, f2, r2, yp, qk, qn, qs, zo, zb, zp, zk)) ∧ (¬ yp o = 0 → (nI c = 0 → wY_packet_123 post (nI o) (nI (o * 6)) (qk (o * 6)).toInt64 md (nI w) K N E P ow C H R U gv ga gb yw vv f1 r1 f2 r2 yp qk qn qs zo zb zp zk) ∧ (¬ nI c = 0 → (nI c = 1 → wY_packet_123 post (nI o) (nI (o * 6)) (qn (o * 6)).toInt64 md (nI w) K N E P ow C H R U gv ga gb yw vv f1 r1 f2 r2 yp qk qn qs zo zb zp zk) ∧ (¬ nI c = 1 → wY_packet_123 post (nI o) (nI (o * 6)) (qs (o * 6)).toInt64 md (nI w) K N E P ow C H R U gv ga gb yw vv f1 r1 f2 r2 yp qk qn qs zo zb zp zk))))) → wpY_packet post (md, nI w, K, N, E, P, ow, C, H, R, U, gv, ga, gb, yw, vv, f1, r1, f2, r2, yp, qk, qn, qs, zo, zb, zp, zk) (nI a) (nI b) (nI c) := fun post hp => by
        unfold wpY_packet
        refine hY _ (br_t hr (hk_in1 (n := 3) (by omega) (by decide) (br_f (by decide) (br_t hr ?_))))
        refine hk_yob ha hb ?_
        rw [e]
        refine nm_r (hk_6m o) ?_
        rw [hco, hc6]
        exact ⟨fun z => ⟨hvo, hp.1 z⟩, fun z => ⟨hvo, (hp.2 z).1, fun y => ⟨fun x => ⟨hv6, ((hp.2 z).2 y).1 x⟩, fun x => ⟨fun t => ⟨hv6, (((hp.2 z).2 y).2 x).1 t⟩, fun t => ⟨hv6, (((hp.2 z).2 y).2 x).2 t⟩⟩⟩⟩⟩
      obtain ⟨m, hm, x1, y1, hpk⟩ := hR.2.2.2.2.1 o ho hk3
      refine br_f (nI_pos (by omega)) (br_t (nI_le (b := 3) (by omega) (by decide)) ?_)
      rw [hk_m10, hc, e]
      refine ⟨hv, nm_e ?_⟩
      rw [hco]
      by_cases h3 : c = 3
      · subst h3
        refine br_t rfl ⟨hvo, HY _ (br_t rfl ⟨by rw [x1, y1], hk_mk hR hQ hF⟩)⟩
      · have n3 : ¬ nI c = 3 := fun z => h3 ((nI_eq (b := 3) (by omega) (by decide)).mp z)
        refine br_f n3 ⟨hvo, ?_⟩
        by_cases hm0 : m = 0
        · subst hm0
          exact br_t x1 (HY _ (br_f n3 (br_t y1 ⟨rfl, hk_mk hR hQ hF⟩)))
        · obtain ⟨n, rfl⟩ : ∃ n, m = n + 1 := ⟨m - 1, by omega⟩
          have zx : ¬ xp o = 0 := by rw [x1]; exact nI_ne0 (by omega) (by omega)
          have zy : ¬ yp o = 0 := by rw [y1]; exact nI_ne0 (by omega) (by omega)
          obtain ⟨R1, Q1⟩ := hk_dpR hR hQ ho (by omega) hk3 x1 y1
          obtain ⟨g1, g2, g3⟩ := hpk 0 (by omega)
          rw [Nat.add_zero] at g1 g2 g3
          refine br_f zx (nm_r (hk_m6 o) ?_)
          rw [hc6]
          refine ⟨hv6, nm_e ?_⟩
          have FX : ∀ x : Int32, (∀ U' : Unit, wpY_packet (fun r' v' => r' = x.toInt64 ∧ i_Rel (k + 6) (md, nI w, K, N, if n = 0 then upd S o (S o &&& -257) else S, P, O, C, U, G, H, R, xw, mv, co, cr, upd xp o (nI n), hk_sh pk (o * 6) (o * 6 + 5), hk_sh pn (o * 6) (o * 6 + 5), hk_sh ps (o * 6) (o * 6 + 5), wo, wb, wp, wk) v') (md, nI w, K, N, E, P, ow, C, H, R, U, gv, ga, gb, yw, vv, f1, r1, f2, r2, yp, qk, qn, qs, zo, zb, zp, zk) (nI a) (nI b) (nI c)) → wX_packet_124 (fun r u' => wpY_packet (fun r' v' => r' = r ∧ i_Rel (k + 6) u' v') (md, nI w, K, N, E, P, ow, C, H, R, U, gv, ga, gb, yw, vv, f1, r1, f2, r2, yp, qk, qn, qs, zo, zb, zp, zk) (nI a) (nI b) (nI c)) (nI o) x md (nI w) K N S P O C U G H R xw mv co cr xp pk pn ps wo wb wp wk := fun x hx => by
            unfold wX_packet_124
            refine hk_xdp ho (by omega) x1 ?_
            exact hx ()
          by_cases c1 : c = 1
          · subst c1
            refine br_t rfl ⟨hv6, nm_e (FX _ fun _ => HY _ (br_f n3 (br_f zy (br_f (by decide) (br_t rfl ?_)))))⟩
            exact hk_ydp ho (by omega) y1 ⟨by rw [g2], hk_mk R1 Q1 hF⟩
          · have n1 : ¬ nI c = 1 := fun z => c1 ((nI_eq (b := 1) (by omega) (by decide)).mp z)
            refine br_f n1 ?_
            by_cases c2 : c = 2
            · subst c2
              refine br_t rfl ⟨hv6, nm_e (FX _ fun _ => HY _ (br_f n3 (br_f zy (br_f (by decide) (br_f n1 ?_)))))⟩
              exact hk_ydp ho (by omega) y1 ⟨by rw [g3], hk_mk R1 Q1 hF⟩
            · have n2 : ¬ nI c = 2 := fun z => c2 ((nI_eq (b := 2) (by omega) (by decide)).mp z)
              obtain rfl : c = 0 := by omega
              refine br_f n2 (FX _ fun _ => HY _ (br_f n3 (br_f zy (br_t rfl ?_))))
              exact hk_ydp ho (by omega) y1 ⟨by rw [g1], hk_mk R1 Q1 hF⟩
  · refine br_f hr ?_
    unfold wpY_packet
    exact hY _ (br_f hr (br_f hr ⟨rfl, hk_mk hR hQ hF⟩))
end
section
def hk_s2 (a : Nat → Int32) (lo n : Nat) : Nat → Int32 := fun j => if lo ≤ j ∧ j < n then a (j + 2) else a j
theorem hk_s20 (a : Nat → Int32) (lo : Nat) : hk_s2 a lo lo = a := by
  funext j
  unfold hk_s2
  rw [if_neg (by omega)]
theorem hk_s2s (a : Nat → Int32) {lo n : Nat} (h : lo ≤ n) : upd (hk_s2 a lo n) n (hk_s2 a lo n (n + 2)) = hk_s2 a lo (n + 1) := by
  funext j
  show (if j = n then (if lo ≤ n + 2 ∧ n + 2 < n then a (n + 2 + 2) else a (n + 2)) else (if lo ≤ j ∧ j < n then a (j + 2) else a j)) = (if lo ≤ j ∧ j < n + 1 then a (j + 2) else a j)
  by_cases e : j = n
  · subst e
    rw [if_pos rfl, if_neg (by omega), if_pos (by omega)]
  · rw [if_neg e]
    by_cases e2 : lo ≤ j ∧ j < n
    · rw [if_pos e2, if_pos (by omega)]
    · rw [if_neg e2, if_neg (by omega)]
/-- what one side's taking of a carried handle does: nothing, or a handle at the least free place -/
def hk_tk (K H R : Nat → Int32) (a : Nat) (x rr : Int32) (H' R' : Nat → Int32) (r : Int32) : Prop := (x = -1 ∧ H' = H ∧ R' = R ∧ r = -1) ∨ (∃ b o : Nat, b < 10 ∧ o < 16 ∧ x = nI o ∧ K o ≠ -1 ∧ H (a * 10 + b) = -1 ∧ (∀ j, j < b → H (a * 10 + j) ≠ -1) ∧ H' = upd H (a * 10 + b) x ∧ R' = upd R (a * 10 + b) rr ∧ r = nI b)
def hk_c1 (x : Int32) : Nat := if x = -1 then 0 else 1
section
variable {md : Int32} {w : Nat} {K N S P O C U G H R xw mv co cr xp pk pn ps wo wb wp wk : Nat → Int32} {E ow gv ga gb yw vv f1 r1 f2 r2 yp qk qn qs zo zb zp zk : Nat → Int32}
theorem hk_tke {a : Nat} {x rr : Int32} (hx : hk_rf K x) (hm : hk_c1 x ≤ hk_cn (hk_fp H a) 10) : ∃ H' R' r, hk_tk K H R a x rr H' R' r ∧ hk_cn (hk_fp H a) 10 = hk_cn (hk_fp H' a) 10 + hk_c1 x := by
  rcases hx with z | ⟨o, ho, e, z⟩
  · exact ⟨H, R, -1, Or.inl ⟨z, rfl, rfl, rfl⟩, by unfold hk_c1; rw [if_pos z]; rfl⟩
  · have hne : x ≠ -1 := by rw [e]; exact hk_ne o (by omega)
    unfold hk_c1 at hm ⊢
    rw [if_neg hne] at hm ⊢
    obtain ⟨b, hb, g1, g2⟩ := hk_room (H := H) (a := a) (by omega)
    exact ⟨_, _, _, Or.inr ⟨b, o, hb, ho, e, z, g1, g2, rfl, rfl, rfl⟩, hk_fpdn hb g1 hne⟩
theorem hk_tkH {a : Nat} {x rr r : Int32} {H' R' : Nat → Int32} (h : hk_tk K H R a x rr H' R' r) (hH : hk_H K H) : hk_H K H' := by
  rcases h with ⟨-, rfl, -, -⟩ | ⟨b, o, hb, ho, e, z, g1, g2, rfl, -, -⟩
  · exact hH
  · exact hk_plH hH (Or.inr ⟨o, ho, e, z⟩)
theorem hk_tkF {a : Nat} {x rr r : Int32} {H' R' : Nat → Int32} (h : hk_tk K H R a x rr H' R' r) (ha : a < 4) (hu : U a ≠ 0) (hF : hk_F U H) : hk_F U H' := by
  rcases h with ⟨-, rfl, -, -⟩ | ⟨b, o, hb, ho, e, z, g1, g2, rfl, -, -⟩
  · exact hF
  · exact hk_plF ha hb hF hu
theorem hk_tkx {a i : Nat} {x rr r : Int32} {H' R' : Nat → Int32} (h : hk_tk K H R a x rr H' R' r) (ha : a < 4) (hi : i < 128) (hco : co i = x) (hcr : x ≠ -1 → cr i = rr) {post : Int32 → SX → Prop} (hp : post r (md, nI w, K, N, S, P, O, C, U, G, H', R', xw, mv, co, cr, xp, pk, pn, ps, wo, wb, wp, wk)) : wpX_takeFromMessage post (md, nI w, K, N, S, P, O, C, U, G, H, R, xw, mv, co, cr, xp, pk, pn, ps, wo, wb, wp, wk) (nI a) (nI i) := by
  have hc : (nI i).toNatClampNeg = i := nI_clamp (by omega)
  have hv : vp_in (nI i) 128 := vp_in_nI hi (by decide)
  unfold wpX_takeFromMessage
  dsimp only
  rw [hc, hco]
  rcases h with ⟨z, rfl, rfl, rfl⟩ | ⟨b, o, hb, ho, e, z, g1, g2, rfl, rfl, rfl⟩
  · exact ⟨hv, br_t z hp⟩
  · have hne : x ≠ -1 := by rw [e]; exact hk_ne o (by omega)
    rw [hcr hne]
    exact ⟨hv, br_f hne ⟨hv, hv, hk_xnh ha hb _ _ g1 g2 hp⟩⟩
theorem hk_tky {a : Nat} {x rr r : Int32} {H' R' : Nat → Int32} (h : hk_tk K H R a x rr H' R' r) (hH : hk_H K H) (ha : a < 4) {m : Int32} (hv : vp_in m 64) {F : Int32 → SY → Prop} (hp : F r (md, nI w, K, N, E, P, ow, C, H', R', U, gv, ga, gb, yw, vv, f1, r1, f2, r2, yp, qk, qn, qs, zo, zb, zp, zk)) : ((0 ≤ x → (vp_in m 64 ∧ (vp_in m 64 ∧ wpY_place F (md, nI w, K, N, E, P, ow, C, H, R, U, gv, ga, gb, yw, vv, f1, r1, f2, r2, yp, qk, qn, qs, zo, zb, zp, zk) (nI a) x rr))) ∧ (¬ 0 ≤ x → F (-1) (md, nI w, K, N, E, P, ow, C, H, R, U, gv, ga, gb, yw, vv, f1, r1, f2, r2, yp, qk, qn, qs, zo, zb, zp, zk))) := by
  rcases h with ⟨z, rfl, rfl, rfl⟩ | ⟨b, o, hb, ho, e, z, g1, g2, rfl, rfl, rfl⟩
  · exact br_f (by rw [z]; decide) hp
  · exact br_t (by rw [e]; exact nI_pos' (by omega)) ⟨hv, hv, hk_ynh hH ha hb _ _ g1 g2 hp⟩
theorem hk_xcc {o : Nat} {x y : Int32} (ho : o < 16) (e1 : co (o * 8) = x) (e2 : co (o * 8 + 1) = y) {post : Int32 → Prop} (hp : post (nI (hk_c1 x + hk_c1 y))) : wpX_carriedCount post (md, nI w, K, N, S, P, O, C, U, G, H, R, xw, mv, co, cr, xp, pk, pn, ps, wo, wb, wp, wk) (nI (o * 4)) := by
  have i0 : nI (o * 4) * 2 + 0 = nI (o * 8) := by
    rw [hk_m2, show (0 : Int32) = nI 0 from rfl, nI_add]; exact congrArg nI (by omega)
  have i1 : nI (o * 4) * 2 + 1 = nI (o * 8 + 1) := by
    rw [hk_m2, show (1 : Int32) = nI 1 from rfl, nI_add]; exact congrArg nI (by omega)
  have c0 : (nI (o * 8)).toNatClampNeg = o * 8 := nI_clamp (by omega)
  have c1 : (nI (o * 8 + 1)).toNatClampNeg = o * 8 + 1 := nI_clamp (by omega)
  have v0 : vp_in (nI (o * 8)) 128 := vp_in_nI (by omega) (by decide)
  have v1 : vp_in (nI (o * 8 + 1)) 128 := vp_in_nI (by omega) (by decide)
  unfold hk_c1 at hp
  refine ⟨3, br_f (by decide) ?_⟩
  rw [i0, c0, e1]
  refine ⟨v0, ?_⟩
  have one : (0 : Int32) + 1 = 1 := by decide
  have two : (1 : Int32) + 1 = 2 := by decide
  by_cases z1 : x = -1
  · refine br_t z1 (nm_r one (br_f (by decide) ?_))
    rw [if_pos z1] at hp
    rw [i1, c1, e2]
    refine ⟨v1, ?_⟩
    by_cases z2 : y = -1
    · rw [if_pos z2] at hp
      exact br_t z2 (nm_r two (br_t (by decide) hp))
    · rw [if_neg z2] at hp
      exact br_f z2 (nm_r one (nm_r two (br_t (by decide) hp)))
  · refine br_f z1 (nm_r one (nm_r one (br_f (by decide) ?_)))
    rw [if_neg z1] at hp
    rw [i1, c1, e2]
    refine ⟨v1, ?_⟩
    by_cases z2 : y = -1
    · rw [if_pos z2] at hp
      exact br_t z2 (nm_r two (br_t (by decide) hp))
    · rw [if_neg z2] at hp
      exact br_f z2 (nm_r two (nm_r two (br_t (by decide) hp)))
theorem hk_xdm42 {o n : Nat} (ho : o < 16) (hn : n < 4) (e : xw o = nI (n + 1)) {post : SX → Prop} (hp : post (md, nI w, K, N, if n = 0 then upd S o (S o &&& -257) else S, P, O, C, U, G, H, R, upd xw o (nI n), mv, hk_s2 co (o * 8) (o * 8 + 6), hk_s2 cr (o * 8) (o * 8 + 6), xp, pk, pn, ps, wo, wb, wp, wk)) : ∀ d j, j + d = 6 → wX_dropFirstMessage_42 post (nI o) (nI (o * 8)) md (nI w) (d + 1) (nI (o * 8 + j)) K N S P O C U G H R xw mv (hk_s2 co (o * 8) (o * 8 + j)) (hk_s2 cr (o * 8) (o * 8 + j)) xp pk pn ps wo wb wp wk := by
  have hco : (nI o).toNatClampNeg = o := nI_clamp (by omega)
  have hvo : vp_in (nI o) 16 := vp_in_nI ho (by decide)
  have e6 : nI (o * 8) + 6 = nI (o * 8 + 6) := nI_add (o * 8) 6
  intro d
  induction d with
  | zero =>
    intro j hj
    obtain rfl : j = 6 := by omega
    refine br_t (by rw [e6]; exact Int32.le_refl _) ?_
    rw [hco, e, nI_pred]
    refine ⟨hvo, hvo, nm_e ⟨hvo, ?_⟩⟩
    rw [pk_us]
    by_cases z : n = 0
    · rw [if_pos z] at hp
      exact br_t (by rw [z]; rfl) ⟨hvo, hvo, nm_e hp⟩
    · rw [if_neg z] at hp
      exact br_f (nI_ne0 (by omega) (by omega)) hp
  | succ d ih =>
    intro j hj
    have i2 : nI (o * 8 + j) + 2 = nI (o * 8 + j + 2) := nI_add (o * 8 + j) 2
    have c1 : (nI (o * 8 + j + 2)).toNatClampNeg = o * 8 + j + 2 := nI_clamp (by omega)
    have c0 : (nI (o * 8 + j)).toNatClampNeg = o * 8 + j := nI_clamp (by omega)
    have v1 : vp_in (nI (o * 8 + j + 2)) 128 := vp_in_nI (by omega) (by decide)
    have v0 : vp_in (nI (o * 8 + j)) 128 := vp_in_nI (by omega) (by decide)
    have hij : o * 8 ≤ o * 8 + j := by omega
    refine br_f (by rw [e6]; exact nI_ge (by omega) (by omega)) ?_
    rw [i2, c1, c0, hk_s2s co hij, hk_s2s cr hij]
    exact ⟨v1, v0, nm_e ⟨v1, v0, nm_e (nm_r (nI_1 _) (ih (j + 1) (by omega)))⟩⟩
theorem hk_xdm6 {o n : Nat} (ho : o < 16) (hn : n < 4) (e : xw o = nI (n + 1)) {post : SX → Prop} (hp : post (md, nI w, K, N, if n = 0 then upd S o (S o &&& -257) else S, P, O, C, U, G, H, R, upd xw o (nI n), hk_sh mv (o * 4) (o * 4 + 3), hk_s2 co (o * 8) (o * 8 + 6), hk_s2 cr (o * 8) (o * 8 + 6), xp, pk, pn, ps, wo, wb, wp, wk)) : ∀ d j, j + d = 3 → wX_dropFirstMessage_6 post (nI o) (nI (o * 4)) md (nI w) (d + 1) (nI (o * 4 + j)) K N S P O C U G H R xw (hk_sh mv (o * 4) (o * 4 + j)) co cr xp pk pn ps wo wb wp wk := by
  have e3 : nI (o * 4) + 4 - 1 = nI (o * 4 + 3) := by
    rw [show nI (o * 4) + 4 = nI (o * 4 + 3 + 1) from nI_add (o * 4) 4, nI_pred]
  have e8 : nI (o * 4) * 2 = nI (o * 8) := by rw [hk_m2]; exact congrArg nI (by omega)
  intro d
  induction d with
  | zero =>
    intro j hj
    obtain rfl : j = 3 := by omega
    refine br_t (by rw [e3]; exact Int32.le_refl _) (nm_r e8 ?_)
    have := hk_xdm42 (md := md) (K := K) (N := N) (S := S) (P := P) (O := O) (C := C) (U := U) (G := G) (H := H) (R := R) (xw := xw) (mv := hk_sh mv (o * 4) (o * 4 + 3)) (co := co) (cr := cr) (xp := xp) (pk := pk) (pn := pn) (ps := ps) (wo := wo) (wb := wb) (wp := wp) (wk := wk) (w := w) ho hn e hp 6 0 rfl
    rw [show hk_s2 co (o * 8) (o * 8 + 0) = co from hk_s20 _ _, show hk_s2 cr (o * 8) (o * 8 + 0) = cr from hk_s20 _ _] at this
    exact ⟨_, this⟩
  | succ d ih =>
    intro j hj
    have c1 : (nI (o * 4 + j + 1)).toNatClampNeg = o * 4 + j + 1 := nI_clamp (by omega)
    have c0 : (nI (o * 4 + j)).toNatClampNeg = o * 4 + j := nI_clamp (by omega)
    have v1 : vp_in (nI (o * 4 + j + 1)) 64 := vp_in_nI (by omega) (by decide)
    have v0 : vp_in (nI (o * 4 + j)) 64 := vp_in_nI (by omega) (by decide)
    have hij : o * 4 ≤ o * 4 + j := by omega
    refine br_f (by rw [e3]; exact nI_ge (by omega) (by omega)) ?_
    rw [nI_1, c1, c0, hk_shs mv hij]
    exact ⟨v1, v0, nm_e (nm_e (ih (j + 1) (by omega)))⟩
theorem hk_xdm {o n : Nat} (ho : o < 16) (hn : n < 4) (e : xw o = nI (n + 1)) {post : SX → Prop} (hp : post (md, nI w, K, N, if n = 0 then upd S o (S o &&& -257) else S, P, O, C, U, G, H, R, upd xw o (nI n), hk_sh mv (o * 4) (o * 4 + 3), hk_s2 co (o * 8) (o * 8 + 6), hk_s2 cr (o * 8) (o * 8 + 6), xp, pk, pn, ps, wo, wb, wp, wk)) : wpX_dropFirstMessage post (md, nI w, K, N, S, P, O, C, U, G, H, R, xw, mv, co, cr, xp, pk, pn, ps, wo, wb, wp, wk) (nI o) := by
  unfold wpX_dropFirstMessage
  have := hk_xdm6 ho hn e hp 3 0 rfl
  rw [show hk_sh mv (o * 4) (o * 4 + 0) = mv from hk_sh0 _ _] at this
  exact nm_r (hk_m4 o) ⟨_, this⟩
theorem hk_yrc {o n : Nat} (ho : o < 16) (hn : n < 4) (e : yw o = nI n) {x : Int32} {post : Int32 → SY → Prop} (hp : post x (md, nI w, K, N, E, P, ow, C, H, R, U, gv, ga, gb, yw, hk_sh vv (o * 4) (o * 4 + n), hk_sh f1 (o * 4) (o * 4 + n), hk_sh r1 (o * 4) (o * 4 + n), hk_sh f2 (o * 4) (o * 4 + n), hk_sh r2 (o * 4) (o * 4 + n), yp, qk, qn, qs, zo, zb, zp, zk)) : ∀ d j, j + d = n → wY_receive_205 post (nI o) (nI (o * 4)) x md (nI w) (d + 1) (nI (o * 4 + j)) K N E P ow C H R U gv ga gb yw (hk_sh vv (o * 4) (o * 4 + j)) (hk_sh f1 (o * 4) (o * 4 + j)) (hk_sh r1 (o * 4) (o * 4 + j)) (hk_sh f2 (o * 4) (o * 4 + j)) (hk_sh r2 (o * 4) (o * 4 + j)) yp qk qn qs zo zb zp zk := by
  have hco : (nI o).toNatClampNeg = o := nI_clamp (by omega)
  have hvo : vp_in (nI o) 16 := vp_in_nI ho (by decide)
  have e5 : nI (o * 4) + yw (nI o).toNatClampNeg = nI (o * 4 + n) := by rw [hco, e, nI_add]
  intro d
  induction d with
  | zero =>
    intro j hj
    obtain rfl : j = n := by omega
    exact ⟨hvo, br_t (by rw [e5]; exact Int32.le_refl _) hp⟩
  | succ d ih =>
    intro j hj
    have c1 : (nI (o * 4 + j + 1)).toNatClampNeg = o * 4 + j + 1 := nI_clamp (by omega)
    have c0 : (nI (o * 4 + j)).toNatClampNeg = o * 4 + j := nI_clamp (by omega)
    have v1 : vp_in (nI (o * 4 + j + 1)) 64 := vp_in_nI (by omega) (by decide)
    have v0 : vp_in (nI (o * 4 + j)) 64 := vp_in_nI (by omega) (by decide)
    have hij : o * 4 ≤ o * 4 + j := by omega
    refine ⟨hvo, br_f (by rw [e5]; exact nI_ge (by omega) (by omega)) ?_⟩
    rw [nI_1, c1, c0, hk_shs vv hij, hk_shs f1 hij, hk_shs r1 hij, hk_shs f2 hij, hk_shs r2 hij]
    exact ⟨v1, v0, nm_e ⟨v1, v0, nm_e ⟨v1, v0, nm_e ⟨v1, v0, nm_e ⟨v1, v0, nm_e (nm_e (ih (j + 1) (by omega)))⟩⟩⟩⟩⟩
theorem hk_yrd {o n : Nat} (ho : o < 16) (hn : n < 4) (e : yw o = nI (n + 1)) {a : Nat} (ha : a < 4) {x z : Int32} {post : Int32 → SY → Prop} (hp : post x (md, nI w, K, N, E, P, ow, C, H, R, U, gv, ga, upd gb a z, upd yw o (nI n), hk_sh vv (o * 4) (o * 4 + n), hk_sh f1 (o * 4) (o * 4 + n), hk_sh r1 (o * 4) (o * 4 + n), hk_sh f2 (o * 4) (o * 4 + n), hk_sh r2 (o * 4) (o * 4 + n), yp, qk, qn, qs, zo, zb, zp, zk)) : wY_receive_189 post (nI o) (nI (o * 4)) x z (nI a) md (nI w) K N E P ow C H R U gv ga gb yw vv f1 r1 f2 r2 yp qk qn qs zo zb zp zk := by
  have hco : (nI o).toNatClampNeg = o := nI_clamp (by omega)
  have hvo : vp_in (nI o) 16 := vp_in_nI ho (by decide)
  have hca : (nI a).toNatClampNeg = a := nI_clamp (by omega)
  have hva : vp_in (nI a) 4 := vp_in_nI ha (by decide)
  have := hk_yrc (md := md) (K := K) (N := N) (E := E) (P := P) (ow := ow) (C := C) (H := H) (R := R) (U := U) (gv := gv) (ga := ga) (gb := upd gb a z) (yw := upd yw o (nI n)) (vv := vv) (f1 := f1) (r1 := r1) (f2 := f2) (r2 := r2) (yp := yp) (qk := qk) (qn := qn) (qs := qs) (zo := zo) (zb := zb) (zp := zp) (zk := zk) (w := w) ho hn pk_us hp n 0 (by omega)
  rw [show hk_sh vv (o * 4) (o * 4 + 0) = vv from hk_sh0 _ _, show hk_sh f1 (o * 4) (o * 4 + 0) = f1 from hk_sh0 _ _, show hk_sh r1 (o * 4) (o * 4 + 0) = r1 from hk_sh0 _ _, show hk_sh f2 (o * 4) (o * 4 + 0) = f2 from hk_sh0 _ _, show hk_sh r2 (o * 4) (o * 4 + 0) = r2 from hk_sh0 _ _] at this
  unfold wY_receive_189
  rw [hca, hco, e, nI_pred]
  exact ⟨hva, nm_e ⟨hvo, hvo, nm_e ⟨_, this⟩⟩⟩
theorem hk_rcR {o n : Nat} (hR : (hk_K K ∧ hk_H K H ∧ hk_X K xw xp ∧ hk_M K xw mv co cr yw vv f1 r1 f2 r2 ∧ hk_P K xp pk pn ps yp qk qn qs ∧ hk_E K P ∧ hk_O K O ow ∧ hk_S K P S E ow U yw yp ∧ hk_W K w wo wb wp wk zo zb zp zk ∧ hk_G G gv ga gb)) (hQ : hk_Q w S wo wb) (ho : o < 16) (hn : n < 4) (hk1 : K o = 1) (e1 : xw o = nI (n + 1)) (e2 : yw o = nI (n + 1)) : (hk_K K ∧ hk_H K H ∧ hk_X K (upd xw o (nI n)) xp ∧ hk_M K (upd xw o (nI n)) (hk_sh mv (o * 4) (o * 4 + 3)) (hk_s2 co (o * 8) (o * 8 + 6)) (hk_s2 cr (o * 8) (o * 8 + 6)) (upd yw o (nI n)) (hk_sh vv (o * 4) (o * 4 + n)) (hk_sh f1 (o * 4) (o * 4 + n)) (hk_sh r1 (o * 4) (o * 4 + n)) (hk_sh f2 (o * 4) (o * 4 + n)) (hk_sh r2 (o * 4) (o * 4 + n)) ∧ hk_P K xp pk pn ps yp qk qn qs ∧ hk_E K P ∧ hk_O K O ow ∧ hk_S K P (if n = 0 then upd S o (S o &&& -257) else S) E ow U (upd yw o (nI n)) yp ∧ hk_W K w wo wb wp wk zo zb zp zk ∧ hk_G G gv ga gb) ∧ hk_Q w (if n = 0 then upd S o (S o &&& -257) else S) wo wb := by
  obtain ⟨hK, hH, hX, hM, hP, hE, hO, hS, hW, hG⟩ := hR
  refine ⟨⟨hK, hH, ?_, ?_, hP, hE, hO, ?_, hW, hG⟩, ?_⟩
  · intro e he
    refine ⟨fun z => ?_, (hX e he).2⟩
    have : e ≠ o := fun y => z (by rw [y]; exact hk1)
    rw [pk_un this]
    exact (hX e he).1 z
  · intro e he hke
    obtain ⟨m, hm, a1, a2, a3⟩ := hM e he hke
    by_cases z : e = o
    · subst z
      have hmn : m = n + 1 := (nI_eq (by omega) (by omega)).mp (a1.symm.trans e1)
      subst hmn
      refine ⟨n, by omega, pk_us, pk_us, fun j hj => ?_⟩
      have g3 : hk_g (e * 4) (e * 4 + 3) (e * 4 + j) = e * 4 + (j + 1) := hk_gm (by omega) (by omega)
      have gn : hk_g (e * 4) (e * 4 + n) (e * 4 + j) = e * 4 + (j + 1) := hk_gm (by omega) (by omega)
      have s0 : ∀ a : Nat → Int32, hk_s2 a (e * 8) (e * 8 + 6) ((e * 4 + j) * 2) = a ((e * 4 + (j + 1)) * 2) := fun a => by
        unfold hk_s2
        rw [if_pos (by omega)]; exact congrArg a (by omega)
      have s1 : ∀ a : Nat → Int32, hk_s2 a (e * 8) (e * 8 + 6) ((e * 4 + j) * 2 + 1) = a ((e * 4 + (j + 1)) * 2 + 1) := fun a => by
        unfold hk_s2
        rw [if_pos (by omega)]; exact congrArg a (by omega)
      have := a3 (j + 1) (by omega)
      unfold hk_ms at this ⊢
      unfold hk_sh
      rw [g3, gn, s0, s1, s0, s1]
      exact this
    · refine ⟨m, hm, by rw [pk_un z]; exact a1, by rw [pk_un z]; exact a2, fun j hj => ?_⟩
      have g : ∀ n, n ≤ 4 → hk_g (o * 4) (o * 4 + n) (e * 4 + j) = e * 4 + j := fun n hn => by
        unfold hk_g
        rw [if_neg (by omega)]
      have s0 : ∀ a : Nat → Int32, hk_s2 a (o * 8) (o * 8 + 6) ((e * 4 + j) * 2) = a ((e * 4 + j) * 2) := fun a => by
        unfold hk_s2
        rw [if_neg (by omega)]
      have s1 : ∀ a : Nat → Int32, hk_s2 a (o * 8) (o * 8 + 6) ((e * 4 + j) * 2 + 1) = a ((e * 4 + j) * 2 + 1) := fun a => by
        unfold hk_s2
        rw [if_neg (by omega)]
      have := a3 j hj
      unfold hk_ms at this ⊢
      unfold hk_sh
      rw [g 3 (by omega), g n (by omega), s0, s1, s0, s1]
      exact this
  · intro e he hke
    by_cases z : e = o
    · subst z
      have s0 := hS e he hke
      unfold hk_sg at s0 ⊢
      have n0 : ¬ K e = 0 := by rw [hk1]; decide
      have y1 : ¬ yw e ≤ 0 := by rw [e2]; exact nI_nle (by omega) (by omega)
      rw [if_neg n0, if_pos hk1] at s0 ⊢
      rw [if_neg y1] at s0
      rw [pk_us]
      by_cases y : n = 0
      · rw [if_pos y, pk_us, s0, y]
        by_cases q : 0 ≤ P e
        · rw [if_pos q]; decide
        · rw [if_neg q]; decide
      · rw [if_neg y, s0, if_neg (nI_nle (by omega) (by omega))]
    · have hs : (if n = 0 then upd S o (S o &&& -257) else S) e = S e := by
        by_cases y : n = 0
        · rw [if_pos y, pk_un z]
        · rw [if_neg y]
      rw [hs, hS e he hke]
      unfold hk_sg
      rw [pk_un z]
  · by_cases y : n = 0
    · rw [if_pos y]; exact hk_Qand hQ
    · rw [if_neg y]; exact hQ
theorem hk_gG {a : Nat} {x y z : Int32} (hG : hk_G G gv ga gb) : hk_G (upd (upd (upd G (a * 3) x) (a * 3 + 1) y) (a * 3 + 2) z) (upd gv a x) (upd ga a y) (upd gb a z) := by
  intro p hp
  by_cases e : p = a
  · subst e
    refine ⟨?_, ?_, ?_⟩
    · rw [pk_un (by omega), pk_un (by omega), pk_us, pk_us]
    · rw [pk_un (by omega), pk_us, pk_us]
    · rw [pk_us, pk_us]
  · obtain ⟨h1, h2, h3⟩ := hG p hp
    refine ⟨?_, ?_, ?_⟩
    · rw [pk_un e, pk_un (by omega), pk_un (by omega), pk_un (by omega)]; exact h1
    · rw [pk_un e, pk_un (by omega), pk_un (by omega), pk_un (by omega)]; exact h2
    · rw [pk_un e, pk_un (by omega), pk_un (by omega), pk_un (by omega)]; exact h3
end
theorem i_vc_receive {k : Nat} {u : SX} {v : SY} (I : i_Rel k u v) (hk : k + 6 ≤ 3072) (v1 : Int32) (v2 : Int32) : wpX_receive (fun r u' => wpY_receive (fun r' v' => r' = r ∧ i_Rel (k + 6) u' v') v v1 v2) u v1 v2 := by
  obtain ⟨md, w, K, N, S, P, O, C, U, G, H, R, xw, mv, co, cr, xp, pk, pn, ps, wo, wb, wp, wk, E, ow, gv, ga, gb, yw, vv, f1, r1, f2, r2, yp, qk, qn, qs, zo, zb, zp, zk, rfl, rfl, hR, hQ, hF⟩ := I
  obtain ⟨r, hX, hY, h0⟩ := hk_th (md := md) (K := K) (N := N) (S := S) (P := P) (O := O) (C := C) (U := U) (G := G) (H := H) (R := R) (xw := xw) (mv := mv) (co := co) (cr := cr) (xp := xp) (pk := pk) (pn := pn) (ps := ps) (wo := wo) (wb := wb) (wp := wp) (wk := wk) (E := E) (ow := ow) (gv := gv) (ga := ga) (gb := gb) (yw := yw) (vv := vv) (f1 := f1) (r1 := r1) (f2 := f2) (r2 := r2) (yp := yp) (qk := qk) (qn := qn) (qs := qs) (zo := zo) (zb := zb) (zp := zp) (zk := zk) (w := w) hR.1 hR.2.1 v1 v2 1 1 (Or.inr (by decide))
  unfold wpX_receive
  refine hX _ ?_
  by_cases hr : r = 0
  · obtain ⟨a, b, o, ha, hb, ho, rfl, rfl, hu, e, hko, hk1⟩ := h0 hr
    have hk1 : K o = 1 := by
      rcases hk1 with z | z
      · exact absurd z (by decide)
      · exact z
    have hH := hR.2.1
    have hc : (nI (a * 10 + b)).toNatClampNeg = a * 10 + b := nI_clamp (by omega)
    have hv : vp_in (nI (a * 10 + b)) 40 := vp_in_nI (by omega) (by decide)
    have hco : (nI o).toNatClampNeg = o := nI_clamp (by omega)
    have hvo : vp_in (nI o) 16 := vp_in_nI ho (by decide)
    have hc4 : (nI (o * 4)).toNatClampNeg = o * 4 := nI_clamp (by omega)
    have hv4 : vp_in (nI (o * 4)) 64 := vp_in_nI (by omega) (by decide)
    have hca : (nI a).toNatClampNeg = a := nI_clamp (by omega)
    have hva : vp_in (nI a) 4 := vp_in_nI ha (by decide)
    obtain ⟨m, hm, x1, y1, hms⟩ := hR.2.2.2.1 o ho hk1
    refine br_t hr ?_
    rw [hk_m10, hc, e]
    refine ⟨hv, nm_e ⟨hvo, ?_⟩⟩
    rw [hco]
    have HY : ∀ post : Int32 → SY → Prop, ((yw o = 0 → (0 ≤ P o → post (-8) (md, nI w, K, N, E, P, ow, C, H, R, U, gv, ga, gb, yw, vv, f1, r1, f2, r2, yp, qk, qn, qs, zo, zb, zp, zk)) ∧ (¬ 0 ≤ P o → post (-7) (md, nI w, K, N, E, P, ow, C, H, R, U, gv, ga, gb, yw, vv, f1, r1, f2, r2, yp, qk, qn, qs, zo, zb, zp, zk))) ∧ (¬ yw o = 0 → (f1 (o * 4) < 0 → wY_receive_73 post (nI a) (nI o) (nI (o * 4)) 0 md (nI w) K N E P ow C H R U gv ga gb yw vv f1 r1 f2 r2 yp qk qn qs zo zb zp zk) ∧ (¬ f1 (o * 4) < 0 → wY_receive_73 post (nI a) (nI o) (nI (o * 4)) 1 md (nI w) K N E P ow C H R U gv ga gb yw vv f1 r1 f2 r2 yp qk qn qs zo zb zp zk))) → wpY_receive post (md, nI w, K, N, E, P, ow, C, H, R, U, gv, ga, gb, yw, vv, f1, r1, f2, r2, yp, qk, qn, qs, zo, zb, zp, zk) (nI a) (nI b) := fun post hp => by
      unfold wpY_receive
      refine hY _ (br_t hr ?_)
      refine hk_yob ha hb ?_
      rw [e]
      refine nm_r (hk_4m o) ⟨hvo, ?_⟩
      rw [hco, hc4]
      exact ⟨fun z => ⟨hvo, hp.1 z⟩, fun z => ⟨hv4, (hp.2 z).1, fun y => nm_r (e' := 1) (by decide) ((hp.2 z).2 y)⟩⟩
    by_cases hm0 : m = 0
    · subst hm0
      refine br_t x1 ⟨hvo, ?_⟩
      rcases hR.2.2.2.2.2.1 o ho hko with z | ⟨-, f, hf, -, z, -⟩
      · exact br_t z (HY _ (br_t y1 (br_f (by rw [z]; decide) ⟨rfl, hk_mk hR hQ hF⟩)))
      · exact br_f (by rw [z]; exact hk_ne f (by omega)) (HY _ (br_t y1 (br_t (by rw [z]; exact nI_pos' (by omega)) ⟨rfl, hk_mk hR hQ hF⟩)))
    · obtain ⟨n, rfl⟩ : ∃ n, m = n + 1 := ⟨m - 1, by omega⟩
      have zx : ¬ xw o = 0 := by rw [x1]; exact nI_ne0 (by omega) (by omega)
      have zy : ¬ yw o = 0 := by rw [y1]; exact nI_ne0 (by omega) (by omega)
      have hm00 := hms 0 (by omega)
      unfold hk_ms at hm00
      rw [show o * 4 + 0 = o * 4 from rfl, show o * 4 * 2 = o * 8 by omega] at hm00
      obtain ⟨g1, g2, g3, g4, g5, g6, g7⟩ := hm00
      have hn10 := hk_cnle (hk_fp H a) 10
      have c1le : hk_c1 (f1 (o * 4)) ≤ 1 := by unfold hk_c1; split <;> omega
      have c2le : hk_c1 (f2 (o * 4)) ≤ 1 := by unfold hk_c1; split <;> omega
      have HZ : ∀ post : Int32 → SY → Prop, wY_receive_86 post (nI a) (nI o) (nI (o * 4)) (nI (hk_c1 (f1 (o * 4)) + hk_c1 (f2 (o * 4)))) md (nI w) K N E P ow C H R U gv ga gb yw vv f1 r1 f2 r2 yp qk qn qs zo zb zp zk → wpY_receive post (md, nI w, K, N, E, P, ow, C, H, R, U, gv, ga, gb, yw, vv, f1, r1, f2, r2, yp, qk, qn, qs, zo, zb, zp, zk) (nI a) (nI b) := fun post hp => by
        refine HY _ (br_f zy ?_)
        have two : (1 : Int32) + 1 = nI 2 := by decide
        have one : (0 : Int32) + 1 = nI 1 := by decide
        unfold hk_c1 at hp
        rcases g4 with z1 | ⟨p, hp16, z1, -⟩
        · rw [if_pos z1] at hp
          refine br_t (hk_nn z1) ⟨hv4, ?_⟩
          rw [hc4]
          rcases g5 with z2 | ⟨q, hq16, z2, -⟩
          · rw [if_pos z2] at hp
            exact br_t (hk_nn z2) hp
          · rw [if_neg (by rw [z2]; exact hk_ne q (by omega))] at hp
            exact br_f (by rw [z2]; exact nI_pos (by omega)) (nm_r one hp)
        · rw [if_neg (by rw [z1]; exact hk_ne p (by omega))] at hp
          refine br_f (by rw [z1]; exact nI_pos (by omega)) ⟨hv4, ?_⟩
          rw [hc4]
          rcases g5 with z2 | ⟨q, hq16, z2, -⟩
          · rw [if_pos z2] at hp
            exact br_t (hk_nn z2) hp
          · rw [if_neg (by rw [z2]; exact hk_ne q (by omega))] at hp
            exact br_f (by rw [z2]; exact nI_pos (by omega)) (nm_r two hp)
      refine br_f zx (nm_r (hk_m4 o) ?_)
      refine hk_xcc ho g2 g3 ?_
      refine hk_xfc ha ?_
      by_cases hroom : hk_c1 (f1 (o * 4)) + hk_c1 (f2 (o * 4)) ≤ hk_cn (hk_fp H a) 10
      · have hle : nI (hk_c1 (f1 (o * 4)) + hk_c1 (f2 (o * 4))) ≤ nI (hk_cn (hk_fp H a) 10) := nI_le hroom (by omega)
        obtain ⟨H1, R1, t1, k1, n1⟩ := hk_tke (K := K) (H := H) (R := R) (a := a) (rr := r1 (o * 4)) g4 (by omega)
        obtain ⟨H2, R2, t2, k2, n2⟩ := hk_tke (K := K) (H := H1) (R := R1) (a := a) (rr := r2 (o * 4)) g5 (by omega)
        have hH1 := hk_tkH k1 hH
        have hH2 := hk_tkH k2 hH1
        have hF2 := hk_tkF k2 ha hu (hk_tkF k1 ha hu hF)
        obtain ⟨RR, QQ⟩ := hk_rcR hR hQ ho (by omega) hk1 x1 y1
        refine br_t hle (nm_r (hk_m3 a) ⟨hv4, vp_in_nI (by omega) (by decide), ?_⟩)
        have w1 : nI (a * 3) + 1 = nI (a * 3 + 1) := nI_1 _
        have w2 : nI (a * 3) + 2 = nI (a * 3 + 2) := nI_add _ 2
        have j0 : nI (o * 4) * 2 = nI (o * 8) := by rw [hk_m2]; exact congrArg nI (by omega)
        have j1 : nI (o * 8) + 1 = nI (o * 8 + 1) := nI_1 _
        rw [hc4, nI_clamp (n := a * 3) (by omega), w1, w2, j0, j1, nI_clamp (n := a * 3 + 1) (by omega), nI_clamp (n := a * 3 + 2) (by omega)]
        refine nm_e ?_
        refine hk_tkx k1 ha (by omega) g2 g6 ?_
        refine ⟨vp_in_nI (by omega) (by decide), nm_e ?_⟩
        refine hk_tkx k2 ha (by omega) g3 g7 ?_
        refine ⟨vp_in_nI (by omega) (by decide), nm_e ?_⟩
        refine hk_xdm ho (by omega) x1 ?_
        refine HZ _ ?_
        unfold wY_receive_86
        refine hk_yfc hH ha (br_t hle ⟨hv4, hva, ?_⟩)
        rw [hc4, hca]
        refine nm_e ⟨hv4, ?_⟩
        refine hk_tky k1 hH ha hv4 ?_
        unfold wY_receive_150
        rw [hc4, hca]
        refine ⟨hva, nm_e ⟨hv4, ?_⟩⟩
        refine hk_tky k2 hH1 ha hv4 ?_
        refine hk_yrd ho (by omega) y1 ha ?_
        obtain ⟨p1, p2, p3, p4, p5, p6, p7, p8, p9, p10⟩ := RR
        refine ⟨rfl, hk_mk ⟨p1, hH2, p3, p4, p5, p6, p7, p8, p9, ?_⟩ QQ hF2⟩
        rw [g1]
        exact hk_gG p10
      · have hle : ¬ nI (hk_c1 (f1 (o * 4)) + hk_c1 (f2 (o * 4))) ≤ nI (hk_cn (hk_fp H a) 10) := nI_ge (by omega) (by omega)
        refine br_f hle ?_
        refine HZ _ ?_
        unfold wY_receive_86
        exact hk_yfc hH ha (br_f hle ⟨rfl, hk_mk hR hQ hF⟩)
  · refine br_f hr ?_
    unfold wpY_receive
    exact hY _ (br_f hr ⟨rfl, hk_mk hR hQ hF⟩)
end
section
/-- what a message takes of the place v: nothing, or its object and its rights -/
def hk_cy (K H R : Nat → Int32) (a : Nat) (v x y : Int32) (H' : Nat → Int32) : Prop := (v = -1 ∧ x = -1 ∧ y = 0 ∧ H' = H) ∨ (∃ b o : Nat, b < 10 ∧ o < 16 ∧ v = nI b ∧ H (a * 10 + b) = nI o ∧ K o ≠ -1 ∧ x = nI o ∧ y = R (a * 10 + b) ∧ H' = upd H (a * 10 + b) (-1))
section
variable {md : Int32} {w : Nat} {K N S P O C U G H R xw mv co cr xp pk pn ps wo wb wp wk : Nat → Int32} {E ow gv ga gb yw vv f1 r1 f2 r2 yp qk qn qs zo zb zp zk : Nat → Int32}
theorem hk_ts (hK : hk_K K) (hH : hk_H K H) {a : Nat} (ha : a < 4) (hu : U a ≠ 0) (v : Int32) : ∃ r : Int32, (∀ post : Int32 → Prop, post r → wpX_testSent post (md, nI w, K, N, S, P, O, C, U, G, H, R, xw, mv, co, cr, xp, pk, pn, ps, wo, wb, wp, wk) (nI a) v) ∧ (∀ post : Int32 → Prop, post r → ((v = -1 → post 0) ∧ (¬ v = -1 → wpY_test (fun r => post r) (md, nI w, K, N, E, P, ow, C, H, R, U, gv, ga, gb, yw, vv, f1, r1, f2, r2, yp, qk, qn, qs, zo, zb, zp, zk) (nI a) v (-1) 8))) ∧ (r = 0 → ∃ x y H', hk_cy K H R a v x y H') := by
  by_cases z : v = -1
  · exact ⟨0, fun post hp => br_t z hp, fun post hp => br_t z hp, fun _ => ⟨-1, 0, H, Or.inl ⟨z, rfl, rfl, rfl⟩⟩⟩
  · obtain ⟨r, h1, h2, h3⟩ := hk_th1 (md := md) (K := K) (N := N) (S := S) (P := P) (O := O) (C := C) (U := U) (G := G) (H := H) (R := R) (xw := xw) (mv := mv) (co := co) (cr := cr) (xp := xp) (pk := pk) (pn := pn) (ps := ps) (wo := wo) (wb := wb) (wp := wp) (wk := wk) (E := E) (ow := ow) (gv := gv) (ga := ga) (gb := gb) (yw := yw) (vv := vv) (f1 := f1) (r1 := r1) (f2 := f2) (r2 := r2) (yp := yp) (qk := qk) (qn := qn) (qs := qs) (zo := zo) (zb := zb) (zp := zp) (zk := zk) (w := w) hK hH ha hu v (-1) 8 (Or.inl rfl)
    refine ⟨r, fun post hp => br_f z (h1 _ hp), fun post hp => br_f z (h2 _ hp), fun y => ?_⟩
    obtain ⟨b, o, hb, ho, e1, e2, e3, -⟩ := h3 y
    exact ⟨_, _, _, Or.inr ⟨b, o, hb, ho, e1, e2, e3, rfl, rfl, rfl⟩⟩
theorem hk_cy2 {a : Nat} {v x y v' x' y' : Int32} {H1 Hz : Nat → Int32} (h : hk_cy K H R a v x y H1) (h' : hk_cy K H R a v' x' y' Hz) (hn : v = v' → v = -1) : ∃ H2, hk_cy K H1 R a v' x' y' H2 := by
  rcases h' with ⟨z1, z2, z3, -⟩ | ⟨b', o', hb', ho', e1', e2', e3', e4', e5', -⟩
  · exact ⟨H1, Or.inl ⟨z1, z2, z3, rfl⟩⟩
  · refine ⟨_, Or.inr ⟨b', o', hb', ho', e1', ?_, e3', e4', e5', rfl⟩⟩
    rcases h with ⟨-, -, -, rfl⟩ | ⟨b, o, hb, ho, e1, e2, e3, e4, e5, rfl⟩
    · exact e2'
    · have : b' ≠ b := fun q => by
        have := hn (by rw [e1, e1', q])
        rw [e1] at this
        exact hk_ne b (by omega) this
      rw [pk_un (by omega)]
      exact e2'
theorem hk_cyH {a : Nat} {v x y : Int32} {H' : Nat → Int32} (h : hk_cy K H R a v x y H') (hH : hk_H K H) : hk_H K H' := by
  rcases h with ⟨-, -, -, rfl⟩ | ⟨b, o, hb, ho, e1, e2, e3, e4, e5, rfl⟩
  · exact hH
  · exact hk_plH hH (Or.inl rfl)
theorem hk_cyF {a : Nat} {v x y : Int32} {H' : Nat → Int32} (h : hk_cy K H R a v x y H') (hF : hk_F U H) : hk_F U H' := by
  rcases h with ⟨-, -, -, rfl⟩ | ⟨b, o, hb, ho, e1, e2, e3, e4, e5, rfl⟩
  · exact hF
  · exact hk_clF hF
theorem hk_cyr {a : Nat} {v x y : Int32} {H' : Nat → Int32} (h : hk_cy K H R a v x y H') : hk_rf K x := by
  rcases h with ⟨-, z, -, -⟩ | ⟨b, o, hb, ho, e1, e2, e3, e4, e5, -⟩
  · exact Or.inl z
  · exact Or.inr ⟨o, ho, e4, e3⟩
theorem hk_cyx {a i : Nat} {v x y : Int32} {H' : Nat → Int32} (h : hk_cy K H R a v x y H') (ha : a < 4) (hi : i < 128) {post : SX → Prop} (hp : post (md, nI w, K, N, S, P, O, C, U, G, H', R, xw, mv, upd co i x, if x = -1 then cr else upd cr i y, xp, pk, pn, ps, wo, wb, wp, wk)) : wpX_putIntoMessage post (md, nI w, K, N, S, P, O, C, U, G, H, R, xw, mv, co, cr, xp, pk, pn, ps, wo, wb, wp, wk) (nI a) v (nI i) := by
  have hci : (nI i).toNatClampNeg = i := nI_clamp (by omega)
  have hvi : vp_in (nI i) 128 := vp_in_nI hi (by decide)
  unfold wpX_putIntoMessage
  dsimp only
  rw [hci]
  rcases h with ⟨z1, z2, -, rfl⟩ | ⟨b, o, hb, ho, e1, e2, e3, e4, e5, rfl⟩
  · rw [if_pos z2, z2] at hp
    exact br_t z1 ⟨hvi, nm_e hp⟩
  · have hc : (nI (a * 10 + b)).toNatClampNeg = a * 10 + b := nI_clamp (by omega)
    have hv : vp_in (nI (a * 10 + b)) 40 := vp_in_nI (by omega) (by decide)
    rw [if_neg (by rw [e4]; exact hk_ne o (by omega)), e4, e5] at hp
    subst e1
    refine br_f (hk_ne b (by omega)) (nm_r (hk_m10 a b) ⟨hv, hvi, ?_⟩)
    rw [hc, e2]
    exact nm_e ⟨hv, hvi, nm_e ⟨hv, nm_e hp⟩⟩
theorem hk_cy_o {a : Nat} {v x y : Int32} {H' : Nat → Int32} (h : hk_cy K H R a v x y H') (ha : a < 4) {F : Int32 → Prop} (hp : F x) : ((0 ≤ v → wpY_object (fun r => F r) (md, nI w, K, N, E, P, ow, C, H, R, U, gv, ga, gb, yw, vv, f1, r1, f2, r2, yp, qk, qn, qs, zo, zb, zp, zk) (nI a) v) ∧ (¬ 0 ≤ v → F (-1))) := by
  rcases h with ⟨z1, z2, -, -⟩ | ⟨b, o, hb, ho, e1, e2, e3, e4, e5, -⟩
  · rw [z2] at hp
    exact br_f (by rw [z1]; decide) hp
  · subst e1
    exact br_t (nI_pos' (by omega)) (hk_yob ha hb (by rw [e2, ← e4]; exact hp))
theorem hk_cy_r {a : Nat} {v x y : Int32} {H' : Nat → Int32} (h : hk_cy K H R a v x y H') (ha : a < 4) {F : Int32 → Prop} (hp : F y) : ((0 ≤ v → vp_in (10 * nI a + v) 40 ∧ F (R (10 * nI a + v).toNatClampNeg)) ∧ (¬ 0 ≤ v → F 0)) := by
  rcases h with ⟨z1, -, z2, -⟩ | ⟨b, o, hb, ho, e1, e2, e3, e4, e5, -⟩
  · rw [z2] at hp
    exact br_f (by rw [z1]; decide) hp
  · subst e1
    refine br_t (nI_pos' (by omega)) ?_
    rw [hk_10m, nI_clamp (by omega)]
    rw [e5] at hp
    exact ⟨vp_in_nI (by omega) (by decide), hp⟩
theorem hk_cy_h {a : Nat} {v x y : Int32} {H' : Nat → Int32} (h : hk_cy K H R a v x y H') (ha : a < 4) {F : (Nat → Int32) → Prop} (hp : F H') : ((v < 0 → F H) ∧ (¬ v < 0 → vp_in (10 * nI a + v) 40 ∧ ∀ z, z = upd H (10 * nI a + v).toNatClampNeg (-1) → F z)) := by
  rcases h with ⟨z1, -, z2, rfl⟩ | ⟨b, o, hb, ho, e1, e2, e3, e4, e5, rfl⟩
  · exact br_t (hk_nn z1) hp
  · subst e1
    refine br_f (nI_pos (by omega)) ?_
    rw [hk_10m, nI_clamp (by omega)]
    exact ⟨vp_in_nI (by omega) (by decide), nm_e hp⟩
theorem hk_snd {f n : Nat} {x1 y1 x2 y2 v3 : Int32} {H' : Nat → Int32} (hR : (hk_K K ∧ hk_H K H ∧ hk_X K xw xp ∧ hk_M K xw mv co cr yw vv f1 r1 f2 r2 ∧ hk_P K xp pk pn ps yp qk qn qs ∧ hk_E K P ∧ hk_O K O ow ∧ hk_S K P S E ow U yw yp ∧ hk_W K w wo wb wp wk zo zb zp zk ∧ hk_G G gv ga gb)) (hf : f < 16) (hn : n < 4) (hkf : K f = 1) (e1 : xw f = nI n) (e2 : yw f = nI n) (hx1 : hk_rf K x1) (hx2 : hk_rf K x2) (hH' : hk_H K H') :
    (hk_K K ∧ hk_H K H' ∧ hk_X K (upd xw f (nI (n + 1))) xp ∧ hk_M K (upd xw f (nI (n + 1))) (upd mv (f * 4 + n) v3) (upd (upd co ((f * 4 + n) * 2) x1) ((f * 4 + n) * 2 + 1) x2) (if x2 = -1 then (if x1 = -1 then cr else upd cr ((f * 4 + n) * 2) y1) else upd (if x1 = -1 then cr else upd cr ((f * 4 + n) * 2) y1) ((f * 4 + n) * 2 + 1) y2) (upd yw f (nI (n + 1))) (upd vv (f * 4 + n) v3) (upd f1 (f * 4 + n) x1) (upd r1 (f * 4 + n) y1) (upd f2 (f * 4 + n) x2) (upd r2 (f * 4 + n) y2) ∧ hk_P K xp pk pn ps yp qk qn qs ∧ hk_E K P ∧ hk_O K O ow ∧ hk_S K P (upd S f (S f ||| 256)) E ow U (upd yw f (nI (n + 1))) yp ∧ hk_W K w wo wb wp wk zo zb zp zk ∧ hk_G G gv ga gb) := by
  obtain ⟨hK, hH, hX, hM, hP, hE, hO, hS, hW, hG⟩ := hR
  have c1 : ∀ i, i ≠ (f * 4 + n) * 2 → (if x1 = -1 then cr else upd cr ((f * 4 + n) * 2) y1) i = cr i := fun i hi => by
    split
    · rfl
    · exact pk_un hi
  have c2 : ∀ i, i ≠ (f * 4 + n) * 2 + 1 → (if x2 = -1 then (if x1 = -1 then cr else upd cr ((f * 4 + n) * 2) y1) else upd (if x1 = -1 then cr else upd cr ((f * 4 + n) * 2) y1) ((f * 4 + n) * 2 + 1) y2) i = (if x1 = -1 then cr else upd cr ((f * 4 + n) * 2) y1) i := fun i hi => by
    by_cases z : x2 = -1
    · rw [if_pos z]
    · rw [if_neg z]; exact pk_un hi
  refine ⟨hK, hH', ?_, ?_, hP, hE, hO, ?_, hW, hG⟩
  · intro e he
    refine ⟨fun z => ?_, (hX e he).2⟩
    have : e ≠ f := fun y => z (by rw [y]; exact hkf)
    rw [pk_un this]
    exact (hX e he).1 z
  · intro e he hke
    obtain ⟨m, hm, a1, a2, a3⟩ := hM e he hke
    have old : ∀ j, j < 4 → e * 4 + j ≠ f * 4 + n → hk_ms K mv co cr vv f1 r1 f2 r2 (e * 4 + j) → hk_ms K (upd mv (f * 4 + n) v3) (upd (upd co ((f * 4 + n) * 2) x1) ((f * 4 + n) * 2 + 1) x2) (if x2 = -1 then (if x1 = -1 then cr else upd cr ((f * 4 + n) * 2) y1) else upd (if x1 = -1 then cr else upd cr ((f * 4 + n) * 2) y1) ((f * 4 + n) * 2 + 1) y2) (upd vv (f * 4 + n) v3) (upd f1 (f * 4 + n) x1) (upd r1 (f * 4 + n) y1) (upd f2 (f * 4 + n) x2) (upd r2 (f * 4 + n) y2) (e * 4 + j) := fun j hj hne h => by
      unfold hk_ms at h ⊢
      rw [c2 _ (by omega), c1 _ (by omega), c2 _ (by omega), c1 _ (by omega), pk_un hne, pk_un hne, pk_un hne, pk_un hne, pk_un hne, pk_un hne]
      have g0 : upd (upd co ((f * 4 + n) * 2) x1) ((f * 4 + n) * 2 + 1) x2 ((e * 4 + j) * 2) = co ((e * 4 + j) * 2) := by
        rw [pk_un (by omega), pk_un (by omega)]
      have g1 : upd (upd co ((f * 4 + n) * 2) x1) ((f * 4 + n) * 2 + 1) x2 ((e * 4 + j) * 2 + 1) = co ((e * 4 + j) * 2 + 1) := by
        rw [pk_un (by omega), pk_un (by omega)]
      rw [g0, g1]
      exact h
    by_cases z : e = f
    · subst z
      have hmn : m = n := (nI_eq (by omega) (by omega)).mp (a1.symm.trans e1)
      subst hmn
      refine ⟨m + 1, by omega, pk_us, pk_us, fun j hj => ?_⟩
      by_cases y : j = m
      · subst y
        unfold hk_ms
        rw [pk_us, pk_us, pk_us, pk_us, pk_us, pk_us, pk_us]
        have g0 : upd (upd co ((e * 4 + j) * 2) x1) ((e * 4 + j) * 2 + 1) x2 ((e * 4 + j) * 2) = x1 := by
          rw [pk_un (by omega), pk_us]
        refine ⟨rfl, g0, rfl, hx1, hx2, fun q => ?_, fun q => ?_⟩
        · rw [c2 _ (by omega), if_neg q, pk_us]
        · rw [if_neg q, pk_us]
      · exact old j (by omega) (by omega) (a3 j (by omega))
    · exact ⟨m, hm, by rw [pk_un z]; exact a1, by rw [pk_un z]; exact a2, fun j hj => old j (by omega) (by omega) (a3 j hj)⟩
  · intro e he hke
    by_cases z : e = f
    · subst z
      rw [pk_us, hS e he hke]
      unfold hk_sg
      have n0 : ¬ K e = 0 := by rw [hkf]; decide
      have y1 : ¬ upd yw e (nI (n + 1)) e ≤ 0 := by rw [pk_us]; exact nI_nle (by omega) (by omega)
      rw [if_neg n0, if_neg n0, if_pos hkf, if_pos hkf, if_neg y1]
      by_cases y : yw e ≤ 0
      · rw [if_pos y]
        by_cases q : 0 ≤ P e
        · rw [if_pos q]; decide
        · rw [if_neg q]; decide
      · rw [if_neg y]
        by_cases q : 0 ≤ P e
        · rw [if_pos q]; decide
        · rw [if_neg q]; decide
    · rw [pk_un z, hS e he hke]
      unfold hk_sg
      rw [pk_un z]
end
theorem i_vc_send {k : Nat} {u : SX} {v : SY} (I : i_Rel k u v) (hk : k + 6 ≤ 3072) (v1 : Int32) (v2 : Int32) (v3 : Int32) (v4 : Int32) (v5 : Int32) : wpX_send (fun r u' => wpY_send (fun r' v' => r' = r ∧ i_Rel (k + 6) u' v') v v1 v2 v3 v4 v5) u v1 v2 v3 v4 v5 := by
  obtain ⟨md, w, K, N, S, P, O, C, U, G, H, R, xw, mv, co, cr, xp, pk, pn, ps, wo, wb, wp, wk, E, ow, gv, ga, gb, yw, vv, f1, r1, f2, r2, yp, qk, qn, qs, zo, zb, zp, zk, rfl, rfl, hR, hQ, hF⟩ := I
  have hK := hR.1
  have hH := hR.2.1
  obtain ⟨r, hX, hY, h0⟩ := hk_th (md := md) (K := K) (N := N) (S := S) (P := P) (O := O) (C := C) (U := U) (G := G) (H := H) (R := R) (xw := xw) (mv := mv) (co := co) (cr := cr) (xp := xp) (pk := pk) (pn := pn) (ps := ps) (wo := wo) (wb := wb) (wp := wp) (wk := wk) (E := E) (ow := ow) (gv := gv) (ga := ga) (gb := gb) (yw := yw) (vv := vv) (f1 := f1) (r1 := r1) (f2 := f2) (r2 := r2) (yp := yp) (qk := qk) (qn := qn) (qs := qs) (zo := zo) (zb := zb) (zp := zp) (zk := zk) (w := w) hK hH v1 v2 1 2 (Or.inr (by decide))
  unfold wpX_send wpX_testSend
  refine hX _ ?_
  by_cases hr : r = 0
  · obtain ⟨a, b, o, ha, hb, ho, rfl, rfl, hu, e, hko, hk1⟩ := h0 hr
    have hk1 : K o = 1 := by
      rcases hk1 with z | z
      · exact absurd z (by decide)
      · exact z
    have hc : (nI (a * 10 + b)).toNatClampNeg = a * 10 + b := nI_clamp (by omega)
    have hv : vp_in (nI (a * 10 + b)) 40 := vp_in_nI (by omega) (by decide)
    have hco : (nI o).toNatClampNeg = o := nI_clamp (by omega)
    have hvo : vp_in (nI o) 16 := vp_in_nI ho (by decide)
    obtain ⟨s, sX, sY, s0⟩ := hk_ts (md := md) (K := K) (N := N) (S := S) (P := P) (O := O) (C := C) (U := U) (G := G) (H := H) (R := R) (xw := xw) (mv := mv) (co := co) (cr := cr) (xp := xp) (pk := pk) (pn := pn) (ps := ps) (wo := wo) (wb := wb) (wp := wp) (wk := wk) (E := E) (ow := ow) (gv := gv) (ga := ga) (gb := gb) (yw := yw) (vv := vv) (f1 := f1) (r1 := r1) (f2 := f2) (r2 := r2) (yp := yp) (qk := qk) (qn := qn) (qs := qs) (zo := zo) (zb := zb) (zp := zp) (zk := zk) (w := w) hK hH ha hu v4
    obtain ⟨t, tX, tY, t0⟩ := hk_ts (md := md) (K := K) (N := N) (S := S) (P := P) (O := O) (C := C) (U := U) (G := G) (H := H) (R := R) (xw := xw) (mv := mv) (co := co) (cr := cr) (xp := xp) (pk := pk) (pn := pn) (ps := ps) (wo := wo) (wb := wb) (wp := wp) (wk := wk) (E := E) (ow := ow) (gv := gv) (ga := ga) (gb := gb) (yw := yw) (vv := vv) (f1 := f1) (r1 := r1) (f2 := f2) (r2 := r2) (yp := yp) (qk := qk) (qn := qn) (qs := qs) (zo := zo) (zb := zb) (zp := zp) (zk := zk) (w := w) hK hH ha hu v5
    have HY33 : ∀ post : Int32 → SY → Prop, wY_send_33 post (nI a) (nI b) v3 v4 v5 s md (nI w) K N E P ow C H R U gv ga gb yw vv f1 r1 f2 r2 yp qk qn qs zo zb zp zk → wpY_send post (md, nI w, K, N, E, P, ow, C, H, R, U, gv, ga, gb, yw, vv, f1, r1, f2, r2, yp, qk, qn, qs, zo, zb, zp, zk) (nI a) (nI b) v3 v4 v5 := fun post hp => by
      unfold wpY_send
      refine hY _ (br_t hr ?_)
      rw [hr]
      exact sY (fun q => wY_send_33 post (nI a) (nI b) v3 v4 v5 q md (nI w) K N E P ow C H R U gv ga gb yw vv f1 r1 f2 r2 yp qk qn qs zo zb zp zk) hp
    refine br_t hr ?_
    refine sX _ ?_
    by_cases hs : s = 0
    · refine br_t hs ?_
      have HY56 : ∀ post : Int32 → SY → Prop, wY_send_56 post (nI a) (nI b) v3 v4 v5 t md (nI w) K N E P ow C H R U gv ga gb yw vv f1 r1 f2 r2 yp qk qn qs zo zb zp zk → wpY_send post (md, nI w, K, N, E, P, ow, C, H, R, U, gv, ga, gb, yw, vv, f1, r1, f2, r2, yp, qk, qn, qs, zo, zb, zp, zk) (nI a) (nI b) v3 v4 v5 := fun post hp => by
        refine HY33 post ?_
        rw [hs]
        exact br_t rfl (tY (fun q => wY_send_56 post (nI a) (nI b) v3 v4 v5 q md (nI w) K N E P ow C H R U gv ga gb yw vv f1 r1 f2 r2 yp qk qn qs zo zb zp zk) hp)
      refine tX _ ?_
      by_cases ht : t = 0
      · refine br_t ht ?_
        obtain ⟨x1, y1, H1, k1⟩ := s0 hs
        obtain ⟨x2, y2, Hz, kz⟩ := t0 ht
        by_cases same : v4 = v5 ∧ v4 ≠ -1
        · refine br_t same.1 (br_f same.2 (br_f (by decide) (br_f (by decide) ?_)))
          exact HY56 _ (br_t ht (br_t same.1 (br_f same.2 ⟨rfl, hk_mk hR hQ hF⟩)))
        · have hn : v4 = v5 → v4 = -1 := fun z => Classical.byContradiction fun y => same ⟨z, y⟩
          have HY77 : ∀ post : Int32 → SY → Prop, wY_send_77 post (nI a) (nI b) v3 v4 v5 md (nI w) K N E P ow C H R U gv ga gb yw vv f1 r1 f2 r2 yp qk qn qs zo zb zp zk → wpY_send post (md, nI w, K, N, E, P, ow, C, H, R, U, gv, ga, gb, yw, vv, f1, r1, f2, r2, yp, qk, qn, qs, zo, zb, zp, zk) (nI a) (nI b) v3 v4 v5 := fun post hp => by
            refine HY56 post (br_t ht ?_)
            by_cases z : v4 = v5
            · exact br_t z (br_t (hn z) hp)
            · exact br_f z hp
          have HX67 : ∀ post : Int32 → Prop, wX_testSend_67 post (nI b) v4 v5 0 md (nI w) K N S P O C U G H R xw mv co cr xp pk pn ps wo wb wp wk → ((v4 = v5 → (v4 = -1 → wX_testSend_66 post (nI b) v4 v5 md (nI w) K N S P O C U G H R xw mv co cr xp pk pn ps wo wb wp wk) ∧ (¬ v4 = -1 → wX_testSend_67 post (nI b) v4 v5 1 md (nI w) K N S P O C U G H R xw mv co cr xp pk pn ps wo wb wp wk)) ∧ (¬ v4 = v5 → wX_testSend_66 post (nI b) v4 v5 md (nI w) K N S P O C U G H R xw mv co cr xp pk pn ps wo wb wp wk)) := fun post hp => by
            by_cases z : v4 = v5
            · exact br_t z (br_t (hn z) hp)
            · exact br_f z hp
          refine HX67 _ (br_t rfl ?_)
          by_cases z4 : v4 = nI b
          · exact br_t z4 (br_f (by decide) (HY77 _ (br_t z4 ⟨rfl, hk_mk hR hQ hF⟩)))
          · refine br_f z4 ?_
            by_cases z5 : v5 = nI b
            · exact br_t z5 (br_f (by decide) (HY77 _ (br_f z4 (br_t z5 ⟨rfl, hk_mk hR hQ hF⟩))))
            · refine br_f z5 (br_t rfl ?_)
              rw [hk_m10, hc, e, hco]
              refine ⟨hv, hvo, ?_⟩
              rcases hR.2.2.2.2.2.1 o ho hko with p0 | ⟨-, f, hf, -, p0, hkf, -⟩
              · refine nm_r p0 (br_t rfl ?_)
                refine HY77 _ (br_f z4 (br_f z5 ?_))
                refine hk_yob ha hb ?_
                rw [e]
                refine ⟨hvo, ?_⟩
                rw [hco, p0]
                exact nm_e (br_f (by decide) ⟨rfl, hk_mk hR hQ hF⟩)
              · have hcf : (nI f).toNatClampNeg = f := nI_clamp (by omega)
                have hvf : vp_in (nI f) 16 := vp_in_nI hf (by decide)
                obtain ⟨n, hn4, w1, w2, -⟩ := hR.2.2.2.1 f hf hkf
                refine nm_r p0 (br_f (hk_ne f (by omega)) ⟨hvf, ?_⟩)
                rw [hcf, w1]
                by_cases hn3 : n < 4
                · obtain ⟨H2, k2⟩ := hk_cy2 k1 kz hn
                  have hH2 := hk_cyH k2 (hk_cyH k1 hH)
                  have hF2 := hk_cyF k2 (hk_cyF k1 hF)
                  have R1 := hk_snd (y1 := y1) (y2 := y2) (v3 := v3) hR hf hn3 hkf w1 w2 (hk_cyr k1) (hk_cyr k2) hH2
                  obtain ⟨w', S', xp', pk', pn', ps', wo', wb', wp', wk', yp', qk', qn', qs', zo', zb', zp', zk', R', Q', X', Y'⟩ := hk_tl (md := md) (N := N) (C := C) (R := R) R1
                  have hix : nI f * 4 + nI n = nI (f * 4 + n) := by rw [hk_m4, nI_add]
                  have hiy : 4 * nI f + nI n = nI (f * 4 + n) := by rw [hk_4m, nI_add]
                  have hci : (nI (f * 4 + n)).toNatClampNeg = f * 4 + n := nI_clamp (by omega)
                  have hvi : vp_in (nI (f * 4 + n)) 64 := vp_in_nI (by omega) (by decide)
                  have i2 : nI (f * 4 + n) * 2 = nI ((f * 4 + n) * 2) := hk_m2 _
                  have i3 : nI ((f * 4 + n) * 2) + 1 = nI ((f * 4 + n) * 2 + 1) := nI_1 _
                  refine br_t (nI_lt (b := 4) hn3 (by decide)) ⟨hvf, nm_r hix ⟨hvi, ?_⟩⟩
                  rw [hci, i2, i3]
                  refine nm_e ?_
                  refine hk_cyx k1 ha (by omega) ?_
                  refine hk_cyx k2 ha (by omega) ?_
                  dsimp only
                  rw [w1, nI_1]
                  refine ⟨hvf, hvf, nm_e ⟨hvf, hvf, nm_e ?_⟩⟩
                  refine X' K (upd xw f (nI (n + 1))) _ ?_
                  refine HY77 _ (br_f z4 (br_f z5 ?_))
                  refine hk_yob ha hb ?_
                  rw [e]
                  refine ⟨hvo, ?_⟩
                  rw [hco]
                  refine nm_r p0 (br_t (nI_pos' (by omega)) ⟨hvf, ?_⟩)
                  rw [hcf, w2]
                  refine br_f (fun z => by have := (nI_eq (b := 4) (by omega) (by decide)).mp z; omega) ⟨hvf, nm_r hiy ⟨hvi, ?_⟩⟩
                  rw [hci]
                  refine nm_e ?_
                  refine hk_cy_o k1 ha ?_
                  unfold wY_send_171
                  rw [hci]
                  refine ⟨hvi, nm_e ?_⟩
                  refine hk_cy_r k1 ha (F := fun q => wY_send_199 _ (nI a) v4 v5 (nI f) (nI (f * 4 + n)) q (nI (f * 4 + n)) md (nI w) K N E P ow C H R U gv ga gb yw (upd vv (f * 4 + n) v3) (upd f1 (f * 4 + n) x1) r1 f2 r2 yp qk qn qs zo zb zp zk) ?_
                  try dsimp only
                  unfold wY_send_199
                  rw [hci]
                  refine ⟨hvi, nm_e ?_⟩
                  refine hk_cy_o kz ha ?_
                  unfold wY_send_222
                  rw [hci]
                  refine ⟨hvi, nm_e ?_⟩
                  refine hk_cy_r kz ha (F := fun q => wY_send_250 _ (nI a) v4 v5 (nI f) q (nI (f * 4 + n)) md (nI w) K N E P ow C H R U gv ga gb yw (upd vv (f * 4 + n) v3) (upd f1 (f * 4 + n) x1) (upd r1 (f * 4 + n) y1) (upd f2 (f * 4 + n) x2) r2 yp qk qn qs zo zb zp zk) ?_
                  try dsimp only
                  unfold wY_send_250
                  rw [hci, hcf, w2, nI_1]
                  refine ⟨hvi, nm_e ⟨hvf, hvf, nm_e ?_⟩⟩
                  refine hk_cy_h k1 ha (F := fun q => wY_send_280 _ (nI a) v5 md (nI w) K N E P ow C q R U gv ga gb (upd yw f (nI (n + 1))) (upd vv (f * 4 + n) v3) (upd f1 (f * 4 + n) x1) (upd r1 (f * 4 + n) y1) (upd f2 (f * 4 + n) x2) (upd r2 (f * 4 + n) y2) yp qk qn qs zo zb zp zk) ?_
                  try dsimp only
                  unfold wY_send_280
                  refine hk_cy_h k2 ha (F := fun q => wY_send_298 _ md (nI w) K N E P ow C q R U gv ga gb (upd yw f (nI (n + 1))) (upd vv (f * 4 + n) v3) (upd f1 (f * 4 + n) x1) (upd r1 (f * 4 + n) y1) (upd f2 (f * 4 + n) x2) (upd r2 (f * 4 + n) y2) yp qk qn qs zo zb zp zk) ?_
                  try dsimp only
                  unfold wY_send_298
                  refine Y' _ ?_
                  exact ⟨rfl, hk_mk R' Q' hF2⟩
                · obtain rfl : n = 4 := by omega
                  refine br_f (by decide) ?_
                  refine HY77 _ (br_f z4 (br_f z5 ?_))
                  refine hk_yob ha hb ?_
                  rw [e]
                  refine ⟨hvo, ?_⟩
                  rw [hco]
                  refine nm_r p0 (br_t (nI_pos' (by omega)) ⟨hvf, ?_⟩)
                  rw [hcf, w2]
                  exact br_t rfl ⟨rfl, hk_mk hR hQ hF⟩
      · refine br_f ht (br_f ht ?_)
        exact HY56 _ (br_f ht ⟨rfl, hk_mk hR hQ hF⟩)
    · refine br_f hs (br_f hs ?_)
      exact HY33 _ (br_f hs (br_f hs ⟨rfl, hk_mk hR hQ hF⟩))
  · refine br_f hr (br_f hr ?_)
    unfold wpY_send
    exact hY _ (br_f hr (br_f hr (br_f hr ⟨rfl, hk_mk hR hQ hF⟩)))
end
section
def hk_dh (H : Nat → Int32) (lo n : Nat) : Nat → Int32 := fun j => if lo ≤ j ∧ j < n then -1 else H j
theorem hk_dh0 (H : Nat → Int32) (lo : Nat) : hk_dh H lo lo = H := by
  funext j
  unfold hk_dh
  rw [if_neg (by omega)]
theorem hk_dhs (H : Nat → Int32) {lo n : Nat} (h : lo ≤ n) : upd (hk_dh H lo n) n (-1) = hk_dh H lo (n + 1) := by
  funext j
  show (if j = n then -1 else (if lo ≤ j ∧ j < n then -1 else H j)) = (if lo ≤ j ∧ j < n + 1 then -1 else H j)
  by_cases e : j = n
  · subst e
    rw [if_pos rfl, if_pos (by omega)]
  · rw [if_neg e]
    by_cases e2 : lo ≤ j ∧ j < n
    · rw [if_pos e2, if_pos (by omega)]
    · rw [if_neg e2, if_neg (by omega)]
section
variable {md : Int32} {w : Nat} {K N S P O C U G H R xw mv co cr xp pk pn ps wo wb wp wk : Nat → Int32} {E ow gv ga gb yw vv f1 r1 f2 r2 yp qk qn qs zo zb zp zk : Nat → Int32}
theorem hk_xdhl {p : Nat} (hp4 : p < 4) {post : SX → Prop} (hp : post (md, nI w, K, N, S, P, O, C, U, G, hk_dh H (p * 10) (p * 10 + 10), R, xw, mv, co, cr, xp, pk, pn, ps, wo, wb, wp, wk)) : ∀ d j, j + d = 10 → wX_dropHandles_2 post (nI p) md (nI w) (d + 1) (nI j) K N S P O C U G (hk_dh H (p * 10) (p * 10 + j)) R xw mv co cr xp pk pn ps wo wb wp wk := by
  intro d
  induction d with
  | zero =>
    intro j hj
    obtain rfl : j = 10 := by omega
    exact br_t (nI_le (a := 10) (b := 10) (by omega) (by decide)) hp
  | succ d ih =>
    intro j hj
    have hc : (nI p * 10 + nI j).toNatClampNeg = p * 10 + j := by rw [hk_m10]; exact nI_clamp (by omega)
    exact br_f (nI_ge (b := 10) (by omega) (by decide)) ⟨by rw [hk_m10]; exact vp_in_nI (by omega) (by decide), nm_r ((hk_u hc).trans (hk_dhs H (by omega))) (nm_r (nI_1 j) (ih (j + 1) (by omega)))⟩
theorem hk_xdh {p : Nat} (hp4 : p < 4) {post : SX → Prop} (hp : post (md, nI w, K, N, S, P, O, C, U, G, hk_dh H (p * 10) (p * 10 + 10), R, xw, mv, co, cr, xp, pk, pn, ps, wo, wb, wp, wk)) : wpX_dropHandles post (md, nI w, K, N, S, P, O, C, U, G, H, R, xw, mv, co, cr, xp, pk, pn, ps, wo, wb, wp, wk) (nI p) := by
  have := hk_xdhl hp4 hp 10 0 rfl
  rw [show hk_dh H (p * 10) (p * 10 + 0) = H from hk_dh0 _ _] at this
  exact ⟨_, this⟩
theorem hk_ykl {p : Nat} (hp4 : p < 4) {post : Int32 → SY → Prop} (hp : wpY_sweep (fun u => post 0 u) (md, nI w, K, N, E, P, ow, C, hk_dh H (p * 10) (p * 10 + 10), R, U, gv, ga, gb, yw, vv, f1, r1, f2, r2, yp, qk, qn, qs, zo, zb, zp, zk)) : ∀ d j, j + d = 10 → wY_kill_61 post (nI p) md (nI w) (d + 1) (nI (p * 10 + j)) K N E P ow C (hk_dh H (p * 10) (p * 10 + j)) R U gv ga gb yw vv f1 r1 f2 r2 yp qk qn qs zo zb zp zk := by
  have e10 : 10 * nI p + 10 = nI (p * 10 + 10) := hk_10m p 10
  intro d
  induction d with
  | zero =>
    intro j hj
    obtain rfl : j = 10 := by omega
    exact br_t (by rw [e10]; exact Int32.le_refl _) hp
  | succ d ih =>
    intro j hj
    have hc : (nI (p * 10 + j)).toNatClampNeg = p * 10 + j := nI_clamp (by omega)
    exact br_f (by rw [e10]; exact nI_ge (by omega) (by omega)) ⟨vp_in_nI (by omega) (by decide), nm_r ((hk_u hc).trans (hk_dhs H (by omega))) (nm_r (nI_1 _) (ih (j + 1) (by omega)))⟩
theorem hk_klR {o p : Nat} (hR : (hk_K K ∧ hk_H K H ∧ hk_X K xw xp ∧ hk_M K xw mv co cr yw vv f1 r1 f2 r2 ∧ hk_P K xp pk pn ps yp qk qn qs ∧ hk_E K P ∧ hk_O K O ow ∧ hk_S K P S E ow U yw yp ∧ hk_W K w wo wb wp wk zo zb zp zk ∧ hk_G G gv ga gb)) (ho : o < 16) (hp4 : p < 4) (hko : K o = 4) (how : ow o = nI p) (hu : U p ≠ 0) : (hk_K K ∧ hk_H K H ∧ hk_X K xw xp ∧ hk_M K xw mv co cr yw vv f1 r1 f2 r2 ∧ hk_P K xp pk pn ps yp qk qn qs ∧ hk_E K P ∧ hk_O K O ow ∧ hk_S K P (upd S o (S o ||| 1024)) E ow (upd U p 0) yw yp ∧ hk_W K w wo wb wp wk zo zb zp zk ∧ hk_G G gv ga gb) := by
  obtain ⟨hK, hH, hX, hM, hP, hE, hO, hS, hW, hG⟩ := hR
  refine ⟨hK, hH, hX, hM, hP, hE, hO, fun e he hke => ?_, hW, hG⟩
  have hcp : (nI p).toNatClampNeg = p := nI_clamp (by omega)
  by_cases z : e = o
  · subst z
    rw [pk_us, hS e he hke]
    unfold hk_sg
    have n0 : ¬ K e = 0 := by rw [hko]; decide
    have n1 : ¬ K e = 1 := by rw [hko]; decide
    have n3 : ¬ K e = 3 := by rw [hko]; decide
    rw [if_neg n0, if_neg n0, if_neg n1, if_neg n1, if_neg n3, if_neg n3, if_pos hko, if_pos hko, how, hcp, pk_us, if_neg hu, if_pos rfl]
    decide
  · rw [pk_un z, hS e he hke]
    unfold hk_sg
    by_cases y : K e = 4
    · obtain ⟨q, hq, -, e2⟩ := hO.1 e he y
      have hqp : q ≠ p := fun x => z (hO.2 e o he ho y hko (by rw [e2, how, x]))
      rw [e2, nI_clamp (by omega), pk_un hqp]
    · rw [if_neg y, if_neg y]
end
theorem i_vc_kill {k : Nat} {u : SX} {v : SY} (I : i_Rel k u v) (hk : k + 6 ≤ 3072) (v1 : Int32) (v2 : Int32) : wpX_kill (fun r u' => wpY_kill (fun r' v' => r' = r ∧ i_Rel (k + 6) u' v') v v1 v2) u v1 v2 := by
  obtain ⟨md, w, K, N, S, P, O, C, U, G, H, R, xw, mv, co, cr, xp, pk, pn, ps, wo, wb, wp, wk, E, ow, gv, ga, gb, yw, vv, f1, r1, f2, r2, yp, qk, qn, qs, zo, zb, zp, zk, rfl, rfl, hR, hQ, hF⟩ := I
  obtain ⟨r, hX, hY, h0⟩ := hk_th (md := md) (K := K) (N := N) (S := S) (P := P) (O := O) (C := C) (U := U) (G := G) (H := H) (R := R) (xw := xw) (mv := mv) (co := co) (cr := cr) (xp := xp) (pk := pk) (pn := pn) (ps := ps) (wo := wo) (wb := wb) (wp := wp) (wk := wk) (E := E) (ow := ow) (gv := gv) (ga := ga) (gb := gb) (yw := yw) (vv := vv) (f1 := f1) (r1 := r1) (f2 := f2) (r2 := r2) (yp := yp) (qk := qk) (qn := qn) (qs := qs) (zo := zo) (zb := zb) (zp := zp) (zk := zk) (w := w) hR.1 hR.2.1 v1 v2 4 32 (Or.inr (by decide))
  unfold wpX_kill
  refine hX _ ?_
  by_cases hr : r = 0
  · obtain ⟨a, b, o, ha, hb, ho, rfl, rfl, hu, e, hko, hk4⟩ := h0 hr
    have hk4 : K o = 4 := by
      rcases hk4 with z | z
      · exact absurd z (by decide)
      · exact z
    have hc : (nI (a * 10 + b)).toNatClampNeg = a * 10 + b := nI_clamp (by omega)
    have hv : vp_in (nI (a * 10 + b)) 40 := vp_in_nI (by omega) (by decide)
    have hco : (nI o).toNatClampNeg = o := nI_clamp (by omega)
    have hvo : vp_in (nI o) 16 := vp_in_nI ho (by decide)
    obtain ⟨p, hp4, o1, o2⟩ := hR.2.2.2.2.2.2.1.1 o ho hk4
    have hcp : (nI p).toNatClampNeg = p := nI_clamp (by omega)
    have hvp : vp_in (nI p) 4 := vp_in_nI hp4 (by decide)
    refine br_t hr ?_
    rw [hk_m10, hc, e]
    refine ⟨hv, nm_e ⟨hvo, ?_⟩⟩
    rw [hco]
    refine nm_r o1 ⟨hvp, ?_⟩
    rw [hcp]
    by_cases hz : U p = 0
    · refine br_t hz ?_
      unfold wpY_kill
      refine hY _ (br_t hr ?_)
      refine hk_yob ha hb ?_
      rw [e]
      refine ⟨hvo, ?_⟩
      rw [hco]
      refine nm_r o2 ⟨hvp, ?_⟩
      rw [hcp]
      exact br_t hz ⟨rfl, hk_mk hR hQ hF⟩
    · have R1 := hk_klR hR ho hp4 hk4 o2 hz
      obtain ⟨w1, S1, xp1, pk1, pn1, ps1, wo1, wb1, wp1, wk1, yp1, qk1, qn1, qs1, zo1, zb1, zp1, zk1, R2, Q2, X2, Y2⟩ := hk_tl (md := md) (N := N) (C := C) (R := R) R1
      have R3 : (hk_K K ∧ hk_H K (hk_dh H (p * 10) (p * 10 + 10)) ∧ hk_X K xw xp1 ∧ hk_M K xw mv co cr yw vv f1 r1 f2 r2 ∧ hk_P K xp1 pk1 pn1 ps1 yp1 qk1 qn1 qs1 ∧ hk_E K P ∧ hk_O K O ow ∧ hk_S K P S1 E ow (upd U p 0) yw yp1 ∧ hk_W K w1 wo1 wb1 wp1 wk1 zo1 zb1 zp1 zk1 ∧ hk_G G gv ga gb) := ⟨R2.1, fun i hi => by
        unfold hk_dh
        by_cases z : p * 10 ≤ i ∧ i < p * 10 + 10
        · rw [if_pos z]; exact Or.inl rfl
        · rw [if_neg z]; exact R2.2.1 i hi, R2.2.2⟩
      have F3 : hk_F (upd U p 0) (hk_dh H (p * 10) (p * 10 + 10)) := fun c hc4 hcz j hj => by
        unfold hk_dh
        by_cases z : p * 10 ≤ c * 10 + j ∧ c * 10 + j < p * 10 + 10
        · rw [if_pos z]
        · rw [if_neg z]
          have : c ≠ p := fun y => z (by omega)
          rw [pk_un this] at hcz
          exact hF c hc4 hcz j hj
      obtain ⟨w', S', xp', pk', pn', ps', wo', wb', wp', wk', yp', qk', qn', qs', zo', zb', zp', zk', K', P', xw', R', Q', X', Y'⟩ := hk_sw (md := md) (N := N) (C := C) (R := R) R3 Q2
      refine br_f hz ⟨hvp, nm_r (by rw [hk_b0]) ⟨hvo, hvo, nm_e ?_⟩⟩
      refine X2 K xw _ ?_
      refine hk_xdh hp4 ?_
      refine X' _ ?_
      unfold wpY_kill
      refine hY _ (br_t hr ?_)
      refine hk_yob ha hb ?_
      rw [e]
      refine ⟨hvo, ?_⟩
      rw [hco]
      refine nm_r o2 ⟨hvp, ?_⟩
      rw [hcp]
      refine br_f hz ⟨hvp, nm_r (by rw [hk_b0]) ?_⟩
      refine Y2 _ ?_
      refine nm_r (hk_10m' p) ?_
      have key := hk_ykl (md := md) (K := K) (N := N) (E := E) (P := P) (ow := ow) (C := C) (H := H) (R := R) (U := upd U p 0) (gv := gv) (ga := ga) (gb := gb) (yw := yw) (vv := vv) (f1 := f1) (r1 := r1) (f2 := f2) (r2 := r2) (yp := yp1) (qk := qk1) (qn := qn1) (qs := qs1) (zo := zo1) (zb := zb1) (zp := zp1) (zk := zk1) (w := w1) (post := fun r' v' => r' = 0 ∧ i_Rel (k + 6) (md, nI w', K', N, S', P', O, C, upd U p 0, G, hk_dh H (p * 10) (p * 10 + 10), R, xw', mv, co, cr, xp', pk', pn', ps', wo', wb', wp', wk') v') hp4 (Y' _ ⟨rfl, hk_mk R' Q' F3⟩) 10 0 rfl
      rw [show hk_dh H (p * 10) (p * 10 + 0) = H from hk_dh0 _ _] at key
      exact ⟨_, key⟩
  · refine br_f hr ?_
    unfold wpY_kill
    exact hY _ (br_f hr ⟨rfl, hk_mk hR hQ hF⟩)
end
section
/-- whether one of the first n slots is the process object of c -/
def hk_bl (K ow : Nat → Int32) (c : Nat) : Nat → Int32
  | 0 => 0
  | n + 1 => if K n = 4 ∧ ow n = nI c then 1 else hk_bl K ow c n
theorem hk_bl01 (K ow : Nat → Int32) (c : Nat) : ∀ n, hk_bl K ow c n = 0 ∨ hk_bl K ow c n = 1
  | 0 => Or.inl rfl
  | n + 1 => by
    show (if K n = 4 ∧ ow n = nI c then (1 : Int32) else hk_bl K ow c n) = 0 ∨ (if K n = 4 ∧ ow n = nI c then (1 : Int32) else hk_bl K ow c n) = 1
    by_cases z : K n = 4 ∧ ow n = nI c
    · rw [if_pos z]; exact Or.inr rfl
    · rw [if_neg z]; exact hk_bl01 K ow c n
theorem hk_bl0 (K ow : Nat → Int32) (c : Nat) : ∀ n, (hk_bl K ow c n = 0 ↔ ∀ o, o < n → K o = 4 → ow o ≠ nI c)
  | 0 => ⟨fun _ o ho => absurd ho (Nat.not_lt_zero _), fun _ => rfl⟩
  | n + 1 => by
    have ih := hk_bl0 K ow c n
    show (if K n = 4 ∧ ow n = nI c then (1 : Int32) else hk_bl K ow c n) = 0 ↔ _
    by_cases z : K n = 4 ∧ ow n = nI c
    · rw [if_pos z]
      exact ⟨fun y => absurd y (by decide), fun y => absurd z.2 (y n (by omega) z.1)⟩
    · rw [if_neg z, ih]
      refine ⟨fun y o ho k4 => ?_, fun y o ho => y o (by omega)⟩
      by_cases e : o = n
      · subst e; exact fun q => z ⟨k4, q⟩
      · exact y o (by omega) k4
section
variable {md : Int32} {w : Nat} {K N S P O C U G H R xw mv co cr xp pk pn ps wo wb wp wk : Nat → Int32} {E ow gv ga gb yw vv f1 r1 f2 r2 yp qk qn qs zo zb zp zk : Nat → Int32}
theorem hk_xho {c : Nat} (hO : hk_O K O ow) {post : Int32 → Prop} (h0 : hk_bl K ow c 16 = 0 → post 0) (h1 : hk_bl K ow c 16 ≠ 0 → post 1) : ∀ d j, j + d = 16 → (∀ o, o < j → K o = 4 → ow o ≠ nI c) → wX_hasObject_2 post (nI c) md (nI w) K N S P O C U G H R xw mv co cr xp pk pn ps wo wb wp wk (d + 1) (nI j) := by
  intro d
  induction d with
  | zero =>
    intro j hj hn
    obtain rfl : j = 16 := by omega
    exact br_t (nI_le (a := 16) (b := 16) (by omega) (by decide)) (h0 ((hk_bl0 K ow c 16).mpr hn))
  | succ d ih =>
    intro j hj hn
    have hc : (nI j).toNatClampNeg = j := nI_clamp (by omega)
    have hv : vp_in (nI j) 16 := vp_in_nI (by omega) (by decide)
    refine br_f (nI_ge (b := 16) (by omega) (by decide)) ⟨hv, ?_⟩
    rw [hc]
    by_cases z : K j = 4
    · refine br_t z ⟨hv, ?_⟩
      obtain ⟨p, hp, e1, e2⟩ := hO.1 j (by omega) z
      by_cases y : O j = nI c
      · exact br_t y (h1 (fun q => (hk_bl0 K ow c 16).mp q j (by omega) z (by rw [e2, ← e1]; exact y)))
      · refine br_f y (nm_r (nI_1 j) (ih (j + 1) (by omega) fun o ho k4 => ?_))
        by_cases e : o = j
        · subst e; rw [e2, ← e1]; exact y
        · exact hn o (by omega) k4
    · refine br_f z (nm_r (nI_1 j) (ih (j + 1) (by omega) fun o ho k4 => ?_))
      by_cases e : o = j
      · subst e; exact absurd k4 z
      · exact hn o (by omega) k4
theorem hk_yho {c : Nat} (hc4 : c < 4) {post J : Int32 → Prop} (h0 : U c = 0 → hk_bl K ow c 16 = 0 → post (nI c)) (h1 : ¬ (U c = 0 ∧ hk_bl K ow c 16 = 0) → J (nI (c + 1))) : ∀ d j, j + d = 16 → wY_freeProcess_11 post J (nI c) md (nI w) K N E P ow C H R U gv ga gb yw vv f1 r1 f2 r2 yp qk qn qs zo zb zp zk (d + 1) (hk_bl K ow c j) (nI j) := by
  have hcc : (nI c).toNatClampNeg = c := nI_clamp (by omega)
  have hvc : vp_in (nI c) 4 := vp_in_nI hc4 (by decide)
  intro d
  induction d with
  | zero =>
    intro j hj
    obtain rfl : j = 16 := by omega
    refine br_t (nI_le (a := 16) (b := 16) (by omega) (by decide)) ⟨hvc, ?_⟩
    rw [hcc]
    by_cases z : U c = 0
    · refine br_t z ?_
      by_cases y : hk_bl K ow c 16 = 0
      · exact br_t y (h0 z y)
      · exact br_f y (nm_r (nI_1 c) (h1 fun q => y q.2))
    · exact br_f z (nm_r (nI_1 c) (h1 fun q => z q.1))
  | succ d ih =>
    intro j hj
    have hc : (nI j).toNatClampNeg = j := nI_clamp (by omega)
    have hv : vp_in (nI j) 16 := vp_in_nI (by omega) (by decide)
    have IH := ih (j + 1) (by omega)
    have hor : hk_bl K ow c j ||| 1 = 1 := by
      rcases hk_bl01 K ow c j with q | q <;> (rw [q]; decide)
    have hoz : hk_bl K ow c j ||| 0 = hk_bl K ow c j := Int32.or_zero
    have hs : hk_bl K ow c (j + 1) = if K j = 4 ∧ ow j = nI c then 1 else hk_bl K ow c j := rfl
    refine br_f (nI_ge (b := 16) (by omega) (by decide)) ⟨hv, ?_⟩
    rw [hc]
    by_cases z : K j = 4
    · refine br_t z ⟨hv, ?_⟩
      by_cases y : ow j = nI c
      · rw [hs, if_pos ⟨z, y⟩] at IH
        exact br_t y (nm_r hor (nm_r (nI_1 j) IH))
      · rw [hs, if_neg (fun q => y q.2)] at IH
        exact br_f y (nm_r hoz (nm_r (nI_1 j) IH))
    · rw [hs, if_neg (fun q => z q.1)] at IH
      exact br_f z (nm_r hoz (nm_r (nI_1 j) IH))
theorem hk_fpr (hO : hk_O K O ow) : ∀ d c, c + d = 4 → ∃ r : Int32, (r = -1 ∨ ∃ q : Nat, q < 4 ∧ r = nI q ∧ U q = 0 ∧ ∀ o, o < 16 → K o = 4 → ow o ≠ nI q) ∧ (∀ post : Int32 → Prop, post r → wX_freeProcess_2 post md (nI w) K N S P O C U G H R xw mv co cr xp pk pn ps wo wb wp wk (d + 1) (nI c)) ∧ (∀ post : Int32 → Prop, post r → wY_freeProcess_2 post md (nI w) K N E P ow C H R U gv ga gb yw vv f1 r1 f2 r2 yp qk qn qs zo zb zp zk (d + 1) (nI c)) := by
  intro d
  induction d with
  | zero =>
    intro c hc
    obtain rfl : c = 4 := by omega
    have h : (4 : Int32) ≤ nI 4 := nI_le (a := 4) (b := 4) (by omega) (by decide)
    exact ⟨-1, Or.inl rfl, fun post hp => br_t h hp, fun post hp => br_t h hp⟩
  | succ d ih =>
    intro c hc
    have hcc : (nI c).toNatClampNeg = c := nI_clamp (by omega)
    have hvc : vp_in (nI c) 4 := vp_in_nI (by omega) (by decide)
    have h : ¬ (4 : Int32) ≤ nI c := nI_ge (b := 4) (by omega) (by decide)
    by_cases z : U c = 0
    · by_cases y : hk_bl K ow c 16 = 0
      · refine ⟨nI c, Or.inr ⟨c, by omega, rfl, z, (hk_bl0 K ow c 16).mp y⟩, fun post hp => br_f h ⟨hvc, br_t (by rw [hcc]; exact z) ?_⟩, fun post hp => br_f h ⟨_, hk_yho (by omega) (fun _ _ => hp) (fun q => absurd ⟨z, y⟩ q) 16 0 rfl⟩⟩
        exact ⟨_, hk_xho hO (fun _ => br_t rfl hp) (fun q => absurd y q) 16 0 rfl (fun o ho => absurd ho (Nat.not_lt_zero _))⟩
      · obtain ⟨r, h1, h2, h3⟩ := ih (c + 1) (by omega)
        refine ⟨r, h1, fun post hp => br_f h ⟨hvc, br_t (by rw [hcc]; exact z) ?_⟩, fun post hp => br_f h ⟨_, hk_yho (by omega) (fun _ q => absurd q y) (fun _ => h3 post hp) 16 0 rfl⟩⟩
        exact ⟨_, hk_xho hO (fun q => absurd q y) (fun _ => br_f (by decide) (nm_r (nI_1 c) (h2 post hp))) 16 0 rfl (fun o ho => absurd ho (Nat.not_lt_zero _))⟩
    · obtain ⟨r, h1, h2, h3⟩ := ih (c + 1) (by omega)
      exact ⟨r, h1, fun post hp => br_f h ⟨hvc, br_f (by rw [hcc]; exact z) (nm_r (nI_1 c) (h2 post hp))⟩, fun post hp => br_f h ⟨_, hk_yho (by omega) (fun q => absurd q z) (fun _ => h3 post hp) 16 0 rfl⟩⟩
theorem hk_xfg {c : Nat} (hc : c < 4) {post : SX → Prop} (hp : post (md, nI w, K, N, S, P, O, C, U, upd (upd (upd G (c * 3) 0) (c * 3 + 1) (-1)) (c * 3 + 2) (-1), H, R, xw, mv, co, cr, xp, pk, pn, ps, wo, wb, wp, wk)) : wpX_forgetGot post (md, nI w, K, N, S, P, O, C, U, G, H, R, xw, mv, co, cr, xp, pk, pn, ps, wo, wb, wp, wk) (nI c) := by
  have w1 : nI (c * 3) + 1 = nI (c * 3 + 1) := nI_1 _
  have w2 : nI (c * 3) + 2 = nI (c * 3 + 2) := nI_add _ 2
  unfold wpX_forgetGot
  dsimp only
  rw [hk_m3, w1, w2, nI_clamp (n := c * 3) (by omega), nI_clamp (n := c * 3 + 1) (by omega), nI_clamp (n := c * 3 + 2) (by omega)]
  exact ⟨vp_in_nI (by omega) (by decide), nm_e ⟨vp_in_nI (by omega) (by decide), nm_e ⟨vp_in_nI (by omega) (by decide), nm_e hp⟩⟩⟩
theorem hk_yfg {c : Nat} (hc : c < 4) {post : SY → Prop} (hp : post (md, nI w, K, N, E, P, ow, C, H, R, U, upd gv c 0, upd ga c (-1), upd gb c (-1), yw, vv, f1, r1, f2, r2, yp, qk, qn, qs, zo, zb, zp, zk)) : wpY_nothing post (md, nI w, K, N, E, P, ow, C, H, R, U, gv, ga, gb, yw, vv, f1, r1, f2, r2, yp, qk, qn, qs, zo, zb, zp, zk) (nI c) := by
  have hcc : (nI c).toNatClampNeg = c := nI_clamp (by omega)
  have hvc : vp_in (nI c) 4 := vp_in_nI hc (by decide)
  unfold wpY_nothing
  dsimp only
  rw [hcc]
  exact ⟨hvc, nm_e ⟨hvc, nm_e ⟨hvc, nm_e hp⟩⟩⟩
theorem hk_x122 {a c o d : Nat} (ha : a < 4) (ho : o < 16) (hd : d < 10) (o1 : K o = -1) (o2 : ∀ j, j < o → K j ≠ -1) (d1 : H (a * 10 + d) = -1) (d2 : ∀ j, j < d → H (a * 10 + j) ≠ -1) {post : Int32 → SX → Prop} (hp : post (nI d) (md + 1, nI w, upd K o 4, upd N o md, upd S o 0, upd P o (-1), upd O o (nI c), hk_cz C (o * 8) (o * 8 + 8), U, G, upd H (a * 10 + d) (nI o), upd R (a * 10 + d) 63, xw, mv, co, cr, xp, pk, pn, ps, wo, wb, wp, wk)) : wX_spawn_122 post (nI a) (nI c) md (nI w) K N S P O C U G H R xw mv co cr xp pk pn ps wo wb wp wk := by
  have hco : (nI o).toNatClampNeg = o := nI_clamp (by omega)
  have hvo : vp_in (nI o) 16 := vp_in_nI ho (by decide)
  unfold wX_spawn_122
  refine hk_xno ho 4 o1 o2 ?_
  refine ⟨hvo, nm_r (hk_u hco) ?_⟩
  exact hk_xnh ha hd (nI o) 63 d1 d2 hp
theorem hk_y140 {a c o d : Nat} (hK : hk_K K) (hH : hk_H (upd K o 4) H) (ha : a < 4) (ho : o < 16) (hd : d < 10) (o1 : K o = -1) (o2 : ∀ j, j < o → K j ≠ -1) (d1 : H (a * 10 + d) = -1) (d2 : ∀ j, j < d → H (a * 10 + j) ≠ -1) {post : Int32 → SY → Prop} (hp : post (nI d) (md + 1, nI w, upd K o 4, upd N o md, upd E o 0, upd P o (-1), upd (upd ow o (-1)) o (nI c), hk_cz C (o * 8) (o * 8 + 8), upd H (a * 10 + d) (nI o), upd R (a * 10 + d) 63, U, gv, ga, gb, upd yw o 0, vv, f1, r1, f2, r2, upd yp o 0, qk, qn, qs, zo, zb, zp, zk)) : wY_spawn_140 post (nI a) (nI c) md (nI w) K N E P ow C H R U gv ga gb yw vv f1 r1 f2 r2 yp qk qn qs zo zb zp zk := by
  have hco : (nI o).toNatClampNeg = o := nI_clamp (by omega)
  have hvo : vp_in (nI o) 16 := vp_in_nI ho (by decide)
  unfold wY_spawn_140
  refine hk_ycr hK ho 4 o1 o2 ?_
  refine ⟨hvo, nm_r (hk_u hco) ?_⟩
  exact hk_ynh hH ha hd (nI o) 63 d1 d2 hp
theorem hk_spR {c o : Nat} {x : Int32} (hR : (hk_K K ∧ hk_H K H ∧ hk_X K xw xp ∧ hk_M K xw mv co cr yw vv f1 r1 f2 r2 ∧ hk_P K xp pk pn ps yp qk qn qs ∧ hk_E K P ∧ hk_O K O ow ∧ hk_S K P S E ow U yw yp ∧ hk_W K w wo wb wp wk zo zb zp zk ∧ hk_G G gv ga gb)) (hQ : hk_Q w S wo wb) (hc : c < 4) (ho : o < 16) (o1 : K o = -1) (hx : x ≠ 0) (hno : ∀ e, e < 16 → K e = 4 → ow e ≠ nI c) : (hk_K (upd K o 4) ∧ hk_H (upd K o 4) H ∧ hk_X (upd K o 4) xw xp ∧ hk_M (upd K o 4) xw mv co cr (upd yw o 0) vv f1 r1 f2 r2 ∧ hk_P (upd K o 4) xp pk pn ps (upd yp o 0) qk qn qs ∧ hk_E (upd K o 4) (upd P o (-1)) ∧ hk_O (upd K o 4) (upd O o (nI c)) (upd (upd ow o (-1)) o (nI c)) ∧ hk_S (upd K o 4) (upd P o (-1)) (upd S o 0) (upd E o 0) (upd (upd ow o (-1)) o (nI c)) (upd U c x) (upd yw o 0) (upd yp o 0) ∧ hk_W (upd K o 4) w wo wb wp wk zo zb zp zk ∧ hk_G G gv ga gb) ∧ hk_Q w (upd S o 0) wo wb := by
  have hcc : (nI c).toNatClampNeg = c := nI_clamp (by omega)
  have hO := hR.2.2.2.2.2.2.1
  refine hk_cre (fun e => e = o) hR hQ (fun e z => by rw [z]; exact o1) (fun e z => ?_) (fun e he z => ?_) (fun e he z => ?_)
  · exact ⟨pk_un z, pk_un z, pk_un z, pk_un z, pk_un z, by rw [pk_un z, pk_un z], pk_un z, pk_un z⟩
  · obtain rfl := z
    refine ⟨?_, ?_, pk_us, pk_us, ?_, Or.inl pk_us, fun _ => ⟨c, hc, pk_us, pk_us, fun i hi hie h4 => ?_⟩⟩
    · rw [pk_us]; unfold hk_kd; simp
    · rw [pk_us]; decide
    · unfold hk_sg
      have g1 : upd (upd ow e (-1)) e (nI c) e = nI c := pk_us
      have g2 : upd K e 4 e = 4 := pk_us
      have g3 : upd S e 0 e = 0 := pk_us
      have g4 : upd U c x c = x := pk_us
      rw [g1, g2, g3, hcc, g4, if_neg (by decide), if_neg (by decide), if_neg (by decide), if_pos rfl, if_neg hx]
    · rw [pk_un hie] at h4
      rw [pk_un hie, pk_un hie]
      exact hno i hi h4
  · obtain ⟨p, hp, -, e2⟩ := hO.1 e he z
    have : p ≠ c := fun q => hno e he z (by rw [e2, q])
    rw [e2, nI_clamp (by omega), pk_un this]
end
end
section
theorem hk_updc {f : Nat → Int32} {i j : Nat} {x y : Int32} (h : i ≠ j) : upd (upd f i x) j y = upd (upd f j y) i x := by
  funext t
  unfold upd
  by_cases e1 : t = j
  · rw [if_pos e1, if_neg (fun q => h (by rw [← q, e1])), if_pos e1]
  · rw [if_neg e1]
    by_cases e2 : t = i
    · rw [if_pos e2, if_pos e2]
    · rw [if_neg e2, if_neg e2, if_neg e1]
section
variable {md : Int32} {w : Nat} {K N S P O C U G H R xw mv co cr xp pk pn ps wo wb wp wk : Nat → Int32} {E ow gv ga gb yw vv f1 r1 f2 r2 yp qk qn qs zo zb zp zk : Nat → Int32}
/-- the last steps of spawn, once H' and R' stand: the new process object and its handle -/
theorem hk_spF {k a c o : Nat} {x : Int32} (hR : (hk_K K ∧ hk_H K H ∧ hk_X K xw xp ∧ hk_M K xw mv co cr yw vv f1 r1 f2 r2 ∧ hk_P K xp pk pn ps yp qk qn qs ∧ hk_E K P ∧ hk_O K O ow ∧ hk_S K P S E ow U yw yp ∧ hk_W K w wo wb wp wk zo zb zp zk ∧ hk_G G gv ga gb)) (hQ : hk_Q w S wo wb) (ha : a < 4) (hu : U a ≠ 0) (hc : c < 4) (hac : a ≠ c) (ho : o < 16) (o1 : K o = -1) (o2 : ∀ j, j < o → K j ≠ -1) (hx : x ≠ 0) (hno : ∀ e, e < 16 → K e = 4 → ow e ≠ nI c) (hF : ∀ e, e < 4 → e ≠ c → U e = 0 → ∀ j, j < 10 → H (e * 10 + j) = -1) (hroom : hk_cn (hk_fp H a) 10 ≠ 0) (post : Int32 → SX → Prop) (PY : (Int32 → SY → Prop) → Prop) (hpost : ∀ r u', (PY fun r' v' => r' = r ∧ i_Rel k u' v') → post r u') (hPY : ∀ py : Int32 → SY → Prop, wY_spawn_140 py (nI a) (nI c) md (nI w) K N E P ow C H R (upd U c x) gv ga gb yw vv f1 r1 f2 r2 yp qk qn qs zo zb zp zk → PY py) : wX_spawn_122 post (nI a) (nI c) md (nI w) K N S P O C (upd U c x) G H R xw mv co cr xp pk pn ps wo wb wp wk := by
  obtain ⟨d, hd, d1, d2⟩ := hk_room hroom
  obtain ⟨⟨q1, q2, q3⟩, q4⟩ := hk_spR hR hQ hc ho o1 hx hno
  refine hk_x122 ha ho hd o1 o2 d1 d2 ?_
  refine hpost _ _ (hPY _ ?_)
  refine hk_y140 hR.1 q2 ha ho hd o1 o2 d1 d2 ?_
  refine ⟨rfl, hk_mk ⟨q1, hk_plH q2 (Or.inr ⟨o, ho, rfl, by rw [pk_us]; decide⟩), q3⟩ q4 ?_⟩
  intro e he hez j hj
  have hec : e ≠ c := fun z => hx (by rw [← hez, z, pk_us])
  rw [pk_un hec] at hez
  have hea : e ≠ a := fun z => hu (by rw [← z]; exact hez)
  rw [pk_un (by omega)]
  exact hF e he hec hez j hj
end
theorem i_vc_spawn {k : Nat} {u : SX} {v : SY} (I : i_Rel k u v) (hk : k + 6 ≤ 3072) (v1 : Int32) (v2 : Int32) : wpX_spawn (fun r u' => wpY_spawn (fun r' v' => r' = r ∧ i_Rel (k + 6) u' v') v v1 v2) u v1 v2 := by
  obtain ⟨md, w, K, N, S, P, O, C, U, G, H, R, xw, mv, co, cr, xp, pk, pn, ps, wo, wb, wp, wk, E, ow, gv, ga, gb, yw, vv, f1, r1, f2, r2, yp, qk, qn, qs, zo, zb, zp, zk, rfl, rfl, hR, hQ, hF⟩ := I
  have hK := hR.1
  have hH := hR.2.1
  unfold wpX_spawn
  by_cases hr : hk_run U v1
  · obtain ⟨a, ha, rfl, hu⟩ := hr
    refine hk_xr1 ha hu (br_f (by decide) ?_)
    obtain ⟨t, tX, tY, t0⟩ := hk_ts (md := md) (K := K) (N := N) (S := S) (P := P) (O := O) (C := C) (U := U) (G := G) (H := H) (R := R) (xw := xw) (mv := mv) (co := co) (cr := cr) (xp := xp) (pk := pk) (pn := pn) (ps := ps) (wo := wo) (wb := wb) (wp := wp) (wk := wk) (E := E) (ow := ow) (gv := gv) (ga := ga) (gb := gb) (yw := yw) (vv := vv) (f1 := f1) (r1 := r1) (f2 := f2) (r2 := r2) (yp := yp) (qk := qk) (qn := qn) (qs := qs) (zo := zo) (zb := zb) (zp := zp) (zk := zk) (w := w) hK hH ha hu v2
    have HY33 : ∀ post : Int32 → SY → Prop, wY_spawn_33 post (nI a) v2 t md (nI w) K N E P ow C H R U gv ga gb yw vv f1 r1 f2 r2 yp qk qn qs zo zb zp zk → wpY_spawn post (md, nI w, K, N, E, P, ow, C, H, R, U, gv, ga, gb, yw, vv, f1, r1, f2, r2, yp, qk, qn, qs, zo, zb, zp, zk) (nI a) v2 := fun post hp => by
      unfold wpY_spawn
      refine hk_yr1 ha hu (br_f (by decide) ?_)
      exact br_t rfl (tY (fun q => wY_spawn_33 post (nI a) v2 q md (nI w) K N E P ow C H R U gv ga gb yw vv f1 r1 f2 r2 yp qk qn qs zo zb zp zk) hp)
    refine tX _ ?_
    by_cases ht : t = 0
    · refine br_t ht ?_
      obtain ⟨x1, y1, H1, k1⟩ := t0 ht
      obtain ⟨f, hf, fX, fY⟩ := hk_fpr (md := md) (K := K) (N := N) (S := S) (P := P) (O := O) (C := C) (U := U) (G := G) (H := H) (R := R) (xw := xw) (mv := mv) (co := co) (cr := cr) (xp := xp) (pk := pk) (pn := pn) (ps := ps) (wo := wo) (wb := wb) (wp := wp) (wk := wk) (E := E) (ow := ow) (gv := gv) (ga := ga) (gb := gb) (yw := yw) (vv := vv) (f1 := f1) (r1 := r1) (f2 := f2) (r2 := r2) (yp := yp) (qk := qk) (qn := qn) (qs := qs) (zo := zo) (zb := zb) (zp := zp) (zk := zk) (w := w) hR.2.2.2.2.2.2.1 4 0 rfl
      refine ⟨_, fX _ ?_⟩
      have HYf : ∀ post : Int32 → SY → Prop, ((0 ≤ f → (wpY_objects (fun r_63 => (((r_63 = 16 → (post (-5) (md, nI w, K, N, E, P, ow, C, H, R, U, gv, ga, gb, yw, vv, f1, r1, f2, r2, yp, qk, qn, qs, zo, zb, zp, zk))) ∧ (¬ r_63 = 16 → (wpY_room (fun r_93 => (((r_93 = 0 → (((v2 = (-1) → (post (-6) (md, nI w, K, N, E, P, ow, C, H, R, U, gv, ga, gb, yw, vv, f1, r1, f2, r2, yp, qk, qn, qs, zo, zb, zp, zk))) ∧ (¬ v2 = (-1) → (wY_spawn_81 post (nI a) v2 f md (nI w) K N E P ow C H R U gv ga gb yw vv f1 r1 f2 r2 yp qk qn qs zo zb zp zk))))) ∧ (¬ r_93 = 0 → (wY_spawn_81 post (nI a) v2 f md (nI w) K N E P ow C H R U gv ga gb yw vv f1 r1 f2 r2 yp qk qn qs zo zb zp zk))))) (md, nI w, K, N, E, P, ow, C, H, R, U, gv, ga, gb, yw, vv, f1, r1, f2, r2, yp, qk, qn, qs, zo, zb, zp, zk) (nI a)))))) (md, nI w, K, N, E, P, ow, C, H, R, U, gv, ga, gb, yw, vv, f1, r1, f2, r2, yp, qk, qn, qs, zo, zb, zp, zk))) ∧ (¬ 0 ≤ f → (post (-9) (md, nI w, K, N, E, P, ow, C, H, R, U, gv, ga, gb, yw, vv, f1, r1, f2, r2, yp, qk, qn, qs, zo, zb, zp, zk)))) → wpY_spawn post (md, nI w, K, N, E, P, ow, C, H, R, U, gv, ga, gb, yw, vv, f1, r1, f2, r2, yp, qk, qn, qs, zo, zb, zp, zk) (nI a) v2 := fun post hp => by
        refine HY33 post (br_t ht ?_)
        exact ⟨_, fY _ hp⟩
      rcases hf with hf | ⟨c, hc, rfl, hcz, hno⟩
      · refine br_t hf ?_
        exact HYf _ (br_f (by rw [hf]; decide) ⟨rfl, hk_mk hR hQ hF⟩)
      · have hcc : (nI c).toNatClampNeg = c := nI_clamp (by omega)
        have hvc : vp_in (nI c) 4 := vp_in_nI hc (by decide)
        have h0c : 0 ≤ nI c := nI_pos' (by omega)
        have hac : a ≠ c := fun z => hu (by rw [z]; exact hcz)
        have hn16 := hk_cnle (hk_lv K) 16
        have hn10 := hk_cnle (hk_fp H a) 10
        refine br_f (hk_ne c (by omega)) ?_
        refine hk_xoc ?_
        by_cases h16 : hk_cn (hk_lv K) 16 < 16
        · have y16 : ¬ nI (hk_cn (hk_lv K) 16) = 16 := fun z => by have := (nI_eq (b := 16) (by omega) (by decide)).mp z; omega
          obtain ⟨o, ho, o1, o2⟩ := hk_slot h16
          refine br_t (nI_lt (b := 16) h16 (by decide)) ?_
          rcases k1 with ⟨z1, -, -, -⟩ | ⟨b, q, hb, hq, z1, e2, e3, e4, e5, -⟩
          · refine br_t z1 ?_
            refine hk_xfc ha ?_
            by_cases h2 : hk_cn (hk_fp H a) 10 = 0
            · have w2 : nI (hk_cn (hk_fp H a) 10) = 0 := by rw [h2]; rfl
              refine br_t w2 ?_
              refine HYf _ (br_t h0c ?_)
              refine hk_yoc hK (br_f y16 ?_)
              exact hk_yfc hH ha (br_t w2 (br_t z1 ⟨rfl, hk_mk hR hQ hF⟩))
            · have w2 : ¬ nI (hk_cn (hk_fp H a) 10) = 0 := nI_ne0 (by omega) (by omega)
              refine br_f w2 ?_
              unfold wX_spawn_66
              rw [hcc]
              refine ⟨hvc, nm_e ?_⟩
              refine hk_xfg hc (br_t z1 ?_)
              obtain ⟨p1, p2, p3, p4, p5, p6, p7, p8, p9, p10⟩ := hR
              have RG : (hk_K K ∧ hk_H K H ∧ hk_X K xw xp ∧ hk_M K xw mv co cr yw vv f1 r1 f2 r2 ∧ hk_P K xp pk pn ps yp qk qn qs ∧ hk_E K P ∧ hk_O K O ow ∧ hk_S K P S E ow U yw yp ∧ hk_W K w wo wb wp wk zo zb zp zk ∧ hk_G (upd (upd (upd G (c * 3) 0) (c * 3 + 1) (-1)) (c * 3 + 2) (-1)) (upd gv c 0) (upd ga c (-1)) (upd gb c (-1))) := ⟨p1, p2, p3, p4, p5, p6, p7, p8, p9, hk_gG p10⟩
              refine hk_spF (k := k + 6) RG hQ ha hu hc hac ho o1 o2 hk_b1 hno (fun e he _ hez => hF e he hez) h2 _ (fun py => wpY_spawn py (md, nI w, K, N, E, P, ow, C, H, R, U, gv, ga, gb, yw, vv, f1, r1, f2, r2, yp, qk, qn, qs, zo, zb, zp, zk) (nI a) v2) (fun r u' h => h) (fun py hpy => ?_)
              refine HYf _ (br_t h0c ?_)
              refine hk_yoc hK (br_f y16 ?_)
              refine hk_yfc hH ha (br_f w2 ?_)
              unfold wY_spawn_81
              rw [hcc]
              refine ⟨hvc, nm_e ?_⟩
              exact hk_yfg hc (br_t z1 hpy)
          · subst z1
            have hne : ¬ nI b = -1 := hk_ne b (by omega)
            have hci : (nI (a * 10 + b)).toNatClampNeg = a * 10 + b := nI_clamp (by omega)
            have hvi : vp_in (nI (a * 10 + b)) 40 := vp_in_nI (by omega) (by decide)
            have hfc := hF c hc hcz
            have hcm : upd (upd H (c * 10 + 0) (nI q)) (a * 10 + b) (-1) = upd (upd H (a * 10 + b) (-1)) (c * 10 + 0) (nI q) := hk_updc (by omega)
            refine br_f hne ?_
            unfold wX_spawn_66
            rw [hcc]
            refine ⟨hvc, nm_e ?_⟩
            refine hk_xfg hc (br_f hne (nm_r (hk_m10 a b) ⟨hvi, hvi, ?_⟩))
            rw [hci, e2]
            refine hk_xnh hc (b := 0) (by omega) (nI q) (R (a * 10 + b)) (hfc 0 (by omega)) (fun j hj => absurd hj (Nat.not_lt_zero _)) ?_
            refine ⟨hvi, nm_e ?_⟩
            have hH2 : hk_H K (upd (upd H (c * 10 + 0) (nI q)) (a * 10 + b) (-1)) := hk_plH (hk_plH hH (Or.inr ⟨q, hq, rfl, e3⟩)) (Or.inl rfl)
            have hHY : hk_H K (upd H (a * 10 + b) (-1)) := hk_plH hH (Or.inl rfl)
            obtain ⟨p1, p2, p3, p4, p5, p6, p7, p8, p9, p10⟩ := hR
            have RG : (hk_K K ∧ hk_H K (upd (upd H (c * 10 + 0) (nI q)) (a * 10 + b) (-1)) ∧ hk_X K xw xp ∧ hk_M K xw mv co cr yw vv f1 r1 f2 r2 ∧ hk_P K xp pk pn ps yp qk qn qs ∧ hk_E K P ∧ hk_O K O ow ∧ hk_S K P S E ow U yw yp ∧ hk_W K w wo wb wp wk zo zb zp zk ∧ hk_G (upd (upd (upd G (c * 3) 0) (c * 3 + 1) (-1)) (c * 3 + 2) (-1)) (upd gv c 0) (upd ga c (-1)) (upd gb c (-1))) := ⟨p1, hH2, p3, p4, p5, p6, p7, p8, p9, hk_gG p10⟩
            have hroom : hk_cn (hk_fp (upd (upd H (c * 10 + 0) (nI q)) (a * 10 + b) (-1)) a) 10 ≠ 0 := fun z => by
              have := hk_noroom z b hb
              rw [pk_us] at this
              exact this rfl
            refine hk_spF (k := k + 6) RG hQ ha hu hc hac ho o1 o2 hk_b1 hno (fun e he hec hez j hj => ?_) hroom _ (fun py => wpY_spawn py (md, nI w, K, N, E, P, ow, C, H, R, U, gv, ga, gb, yw, vv, f1, r1, f2, r2, yp, qk, qn, qs, zo, zb, zp, zk) (nI a) (nI b)) (fun r u' h => h) (fun py hpy => ?_)
            · by_cases y : e * 10 + j = a * 10 + b
              · rw [y, pk_us]
              · rw [pk_un y, pk_un (by omega)]
                exact hF e he hez j hj
            · have HY81 : wY_spawn_81 py (nI a) (nI b) (nI c) md (nI w) K N E P ow C H R U gv ga gb yw vv f1 r1 f2 r2 yp qk qn qs zo zb zp zk := by
                unfold wY_spawn_81
                rw [hcc]
                refine ⟨hvc, nm_e ?_⟩
                refine hk_yfg hc (br_f hne ?_)
                refine hk_yob ha hb ?_
                dsimp only
                rw [hk_10m, hci, e2]
                refine ⟨hvi, nm_e ⟨hvi, ?_⟩⟩
                refine hk_ynh hHY hc (b := 0) (by omega) (nI q) (R (a * 10 + b)) ?_ (fun j hj => absurd hj (Nat.not_lt_zero _)) ?_
                · rw [pk_un (by omega)]; exact hfc 0 (by omega)
                · rw [hcm] at hpy
                  exact hpy
              refine HYf _ (br_t h0c ?_)
              refine hk_yoc hK (br_f y16 ?_)
              refine hk_yfc hH ha ?_
              by_cases w2 : nI (hk_cn (hk_fp H a) 10) = 0
              · exact br_t w2 (br_f hne HY81)
              · exact br_f w2 HY81
        · have y16 : nI (hk_cn (hk_lv K) 16) = 16 := by rw [show hk_cn (hk_lv K) 16 = 16 by omega]; rfl
          refine br_f (nI_nlt (b := 16) (by omega) (by omega)) ?_
          refine HYf _ (br_t h0c ?_)
          exact hk_yoc hK (br_t y16 ⟨rfl, hk_mk hR hQ hF⟩)
    · refine br_f ht ?_
      exact HY33 _ (br_f ht ⟨rfl, hk_mk hR hQ hF⟩)
  · refine hk_xr0 hr (br_t rfl ?_)
    unfold wpY_spawn
    exact hk_yr0 hr (br_t rfl (br_f (by decide) (br_f (by decide) ⟨rfl, hk_mk hR hQ hF⟩)))
end
section
theorem hk_dhj (H : Nat → Int32) {a b c : Nat} (h1 : a ≤ b) (h2 : b ≤ c) : hk_dh (hk_dh H a b) b c = hk_dh H a c := by
  funext j
  unfold hk_dh
  by_cases z : b ≤ j ∧ j < c
  · rw [if_pos z, if_pos (by omega)]
  · rw [if_neg z]
    by_cases y : a ≤ j ∧ j < b
    · rw [if_pos y, if_pos (by omega)]
    · rw [if_neg y, if_neg (by omega)]
section
variable {md : Int32} {w : Nat} {K N S P O C U G H R xw mv co cr xp pk pn ps wo wb wp wk : Nat → Int32} {E ow gv ga gb yw vv f1 r1 f2 r2 yp qk qn qs zo zb zp zk : Nat → Int32}
theorem hk_i215 : ∀ d p (G gv ga gb : Nat → Int32), p + d = 4 → hk_G G gv ga gb → ∃ G' gv' ga' gb' : Nat → Int32, hk_G G' gv' ga' gb' ∧ (∀ post : SX → Prop, post (md, nI w, K, N, S, P, O, C, upd U 0 (vp_nar .boolean 1), G', hk_dh H 0 40, R, xw, mv, co, cr, xp, pk, pn, ps, wo, wb, wp, wk) → wX_init_215 post (d + 1) (nI p) md (nI w) K N S P O C U G (hk_dh H 0 (p * 10)) R xw mv co cr xp pk pn ps wo wb wp wk) ∧ (∀ (Hy : Nat → Int32) (post : SY → Prop), post (md, nI w, K, N, E, P, ow, C, Hy, R, upd U 0 (vp_nar .boolean 1), gv', ga', gb', yw, vv, f1, r1, f2, r2, yp, qk, qn, qs, zo, zb, zp, zk) → wY_init_253 post (d + 1) (nI p) md (nI w) K N E P ow C Hy R U gv ga gb yw vv f1 r1 f2 r2 yp qk qn qs zo zb zp zk) := by
  intro d
  induction d with
  | zero =>
    intro p G gv ga gb hp hG
    obtain rfl : p = 4 := by omega
    have h : (4 : Int32) ≤ nI 4 := nI_le (a := 4) (b := 4) (by omega) (by decide)
    exact ⟨G, gv, ga, gb, hG, fun post hp => br_t h (nm_e hp), fun _ post hp => br_t h (nm_e hp)⟩
  | succ d ih =>
    intro p G gv ga gb hp hG
    have h : ¬ (4 : Int32) ≤ nI p := nI_ge (b := 4) (by omega) (by decide)
    obtain ⟨G', gv', ga', gb', hG', hX, hY⟩ := ih (p + 1) _ _ _ _ (by omega) (hk_gG (a := p) (x := 0) (y := -1) (z := -1) hG)
    refine ⟨G', gv', ga', gb', hG', fun post hp => br_f h ?_, fun Hy post hp => br_f h ?_⟩
    · refine hk_xdh (p := p) (by omega) ?_
      refine hk_xfg (c := p) (by omega) ?_
      rw [hk_dhj H (by omega) (by omega)]
      refine nm_r (nI_1 p) ?_
      have := hX post hp
      rw [show (p + 1) * 10 = p * 10 + 10 by omega] at this
      exact this
    · refine hk_yfg (c := p) (by omega) ?_
      exact nm_r (nI_1 p) (hY Hy post hp)
theorem hk_x194 {post : SX → Prop} (hp : ∃ n, wX_init_215 post n 0 md (nI w) (hk_dh K 0 16) N S P O C U G H R xw mv co cr xp pk pn ps wo wb wp wk) : ∀ d j, j + d = 16 → wX_init_194 post md (nI w) (d + 1) (nI j) (hk_dh K 0 j) N S P O C U G H R xw mv co cr xp pk pn ps wo wb wp wk := by
  intro d
  induction d with
  | zero =>
    intro j hj
    obtain rfl : j = 16 := by omega
    exact br_t (nI_le (a := 16) (b := 16) (by omega) (by decide)) hp
  | succ d ih =>
    intro j hj
    have hc : (nI j).toNatClampNeg = j := nI_clamp (by omega)
    exact br_f (nI_ge (b := 16) (by omega) (by decide)) ⟨vp_in_nI (by omega) (by decide), nm_r ((hk_u hc).trans (hk_dhs K (by omega))) (nm_r (nI_1 j) (ih (j + 1) (by omega)))⟩
theorem hk_y232 {post : SY → Prop} (hp : ∃ n, wY_init_253 post n 0 md (nI w) K N E P ow C (hk_dh H 0 40) R U gv ga gb yw vv f1 r1 f2 r2 yp qk qn qs zo zb zp zk) : ∀ d j, j + d = 40 → wY_init_232 post md (nI w) (d + 1) (nI j) K N E P ow C (hk_dh H 0 j) R U gv ga gb yw vv f1 r1 f2 r2 yp qk qn qs zo zb zp zk := by
  intro d
  induction d with
  | zero =>
    intro j hj
    obtain rfl : j = 40 := by omega
    exact br_t (nI_le (a := 40) (b := 40) (by omega) (by decide)) hp
  | succ d ih =>
    intro j hj
    have hc : (nI j).toNatClampNeg = j := nI_clamp (by omega)
    exact br_f (nI_ge (b := 40) (by omega) (by decide)) ⟨vp_in_nI (by omega) (by decide), nm_r ((hk_u hc).trans (hk_dhs H (by omega))) (nm_r (nI_1 j) (ih (j + 1) (by omega)))⟩
theorem hk_y211 {post : SY → Prop} (hp : ∃ n, wY_init_232 post md (nI w) n 0 (hk_dh K 0 16) N E P ow C H R U gv ga gb yw vv f1 r1 f2 r2 yp qk qn qs zo zb zp zk) : ∀ d j, j + d = 16 → wY_init_211 post md (nI w) (d + 1) (nI j) (hk_dh K 0 j) N E P ow C H R U gv ga gb yw vv f1 r1 f2 r2 yp qk qn qs zo zb zp zk := by
  intro d
  induction d with
  | zero =>
    intro j hj
    obtain rfl : j = 16 := by omega
    exact br_t (nI_le (a := 16) (b := 16) (by omega) (by decide)) hp
  | succ d ih =>
    intro j hj
    have hc : (nI j).toNatClampNeg = j := nI_clamp (by omega)
    exact br_f (nI_ge (b := 16) (by omega) (by decide)) ⟨vp_in_nI (by omega) (by decide), nm_r ((hk_u hc).trans (hk_dhs K (by omega))) (nm_r (nI_1 j) (ih (j + 1) (by omega)))⟩
end
theorem i_vc0 : wpX_init (fun u => wpY_init (fun v => i_Rel 0 u v)) := by
  have zz : hk_dh (fun _ => 0) 0 0 = (fun _ => (0 : Int32)) := hk_dh0 _ 0
  have hG : hk_G (fun _ => 0) (fun _ => 0) (fun _ => 0) (fun _ => 0) := fun p hp => ⟨rfl, rfl, rfl⟩
  have k16 : ∀ i, i < 16 → hk_dh (fun _ => 0) 0 16 i = -1 := fun i hi => by
    unfold hk_dh
    rw [if_pos (by omega)]
  have h40 : ∀ i, i < 40 → hk_dh (fun _ => 0) 0 40 i = -1 := fun i hi => by
    unfold hk_dh
    rw [if_pos (by omega)]
  obtain ⟨G', gv', ga', gb', hG', hX, hY⟩ := hk_i215 (md := 0) (w := 0) (K := hk_dh (fun _ => 0) 0 16) (N := fun _ => 0) (S := fun _ => 0) (P := fun _ => 0) (O := fun _ => 0) (C := fun _ => 0) (U := fun _ => 0) (H := fun _ => 0) (R := fun _ => 0) (xw := fun _ => 0) (mv := fun _ => 0) (co := fun _ => 0) (cr := fun _ => 0) (xp := fun _ => 0) (pk := fun _ => 0) (pn := fun _ => 0) (ps := fun _ => 0) (wo := fun _ => 0) (wb := fun _ => 0) (wp := fun _ => 0) (wk := fun _ => 0) (E := fun _ => 0) (ow := fun _ => 0) (yw := fun _ => 0) (vv := fun _ => 0) (f1 := fun _ => 0) (r1 := fun _ => 0) (f2 := fun _ => 0) (r2 := fun _ => 0) (yp := fun _ => 0) (qk := fun _ => 0) (qn := fun _ => 0) (qs := fun _ => 0) (zo := fun _ => 0) (zb := fun _ => 0) (zp := fun _ => 0) (zk := fun _ => 0) 4 0 _ _ _ _ rfl hG
  have HX : ∀ post : SX → Prop, post (0, nI 0, hk_dh (fun _ => 0) 0 16, (fun _ => 0), (fun _ => 0), (fun _ => 0), (fun _ => 0), (fun _ => 0), upd (fun _ => 0) 0 (vp_nar .boolean 1), G', hk_dh (fun _ => 0) 0 40, (fun _ => 0), (fun _ => 0), (fun _ => 0), (fun _ => 0), (fun _ => 0), (fun _ => 0), (fun _ => 0), (fun _ => 0), (fun _ => 0), (fun _ => 0), (fun _ => 0), (fun _ => 0), (fun _ => 0)) → wpX_init post := fun post hp => by
    have a := hX post hp
    rw [show hk_dh (fun _ => 0) 0 (0 * 10) = (fun _ => (0 : Int32)) from zz] at a
    have b := hk_x194 ⟨_, a⟩ 16 0 rfl
    rw [zz] at b
    exact ⟨_, b⟩
  have HY : ∀ post : SY → Prop, post (0, nI 0, hk_dh (fun _ => 0) 0 16, (fun _ => 0), (fun _ => 0), (fun _ => 0), (fun _ => 0), (fun _ => 0), hk_dh (fun _ => 0) 0 40, (fun _ => 0), upd (fun _ => 0) 0 (vp_nar .boolean 1), gv', ga', gb', (fun _ => 0), (fun _ => 0), (fun _ => 0), (fun _ => 0), (fun _ => 0), (fun _ => 0), (fun _ => 0), (fun _ => 0), (fun _ => 0), (fun _ => 0), (fun _ => 0), (fun _ => 0), (fun _ => 0), (fun _ => 0)) → wpY_init post := fun post hp => by
    have a := hY (hk_dh (fun _ => 0) 0 40) post hp
    have b := hk_y232 (H := fun _ => 0) ⟨_, a⟩ 40 0 rfl
    rw [zz] at b
    have c := hk_y211 (K := fun _ => 0) ⟨_, b⟩ 16 0 rfl
    rw [zz] at c
    exact ⟨_, c⟩
  refine HX _ (HY _ ?_)
  have nk : ∀ i, i < 16 → ∀ c : Int32, c ≠ -1 → ¬ hk_dh (fun _ => 0) 0 16 i = c := fun i hi c hc z => hc (by rw [← z]; exact k16 i hi)
  refine hk_mk ⟨fun i hi => Or.inl (k16 i hi), fun i hi => Or.inl (h40 i hi), fun e he => ⟨fun _ => rfl, fun _ => rfl⟩, fun e he z => absurd z (nk e he 1 (by decide)), fun e he z => absurd z (nk e he 3 (by decide)), fun e he z => absurd (k16 e he) z, ⟨fun e he z => absurd z (nk e he 4 (by decide)), fun e e' he he' z => absurd z (nk e he 4 (by decide))⟩, fun e he z => absurd (k16 e he) z, ⟨by omega, fun i hi => absurd hi (Nat.not_lt_zero _)⟩, hG'⟩ (fun i hi => absurd hi (Nat.not_lt_zero _)) ?_
  intro c hc _ j hj
  exact h40 _ (by omega)
end
