theorem pk_us {f : Nat → Int32} {k : Nat} {x : Int32} : upd f k x k = x := if_pos rfl
theorem pk_un {f : Nat → Int32} {k j : Nat} {x : Int32} (h : j ≠ k) : upd f k x j = f j := if_neg h
theorem pk_sub {a b : Nat} (h : b ≤ a) : nI a - nI b = nI (a - b) := by
  obtain ⟨c, rfl⟩ : ∃ c, a = c + b := ⟨a - b, by omega⟩
  rw [← nI_add, Int32.add_sub_cancel, Nat.add_sub_cancel]
theorem pk_m1 (n : Nat) : nI (n + 1) + (-1) = nI n := by
  rw [← nI_1, Int32.add_assoc, show (1 : Int32) + (-1) = 0 from rfl, Int32.add_zero]
theorem pk_mul (a b : Nat) : nI a * nI b = nI (a * b) := (Int32.ofNat_mul a b).symm
theorem pk_ix (x : Int32) {n : Nat} (hn : n < 2 ^ 31) : x < 0 ∨ nI n ≤ x ∨ ∃ j : Nat, j < n ∧ x = nI j := by
  by_cases h : x < 0
  · exact Or.inl h
  · obtain ⟨j, hj, rfl⟩ := nI_of h
    by_cases h2 : j < n
    · exact Or.inr (Or.inr ⟨j, h2, rfl⟩)
    · exact Or.inr (Or.inl (nI_le (by omega) hj))
theorem pk_le {x y : Int32} {A B : Prop} (a b : Nat) (f : a ≤ b → A) (g : b < a → B) (hx : x = nI a := by rfl) (hy : y = nI b := by rfl) (ha : a < 2 ^ 31 := by omega) (hb : b < 2 ^ 31 := by omega) : (x ≤ y → A) ∧ (¬ x ≤ y → B) := by
  subst hx hy
  rw [nI_leI ha hb]
  exact ⟨f, fun z => g (by omega)⟩
theorem pk_lt {x y : Int32} {A B : Prop} (a b : Nat) (f : a < b → A) (g : b ≤ a → B) (hx : x = nI a := by rfl) (hy : y = nI b := by rfl) (ha : a < 2 ^ 31 := by omega) (hb : b < 2 ^ 31 := by omega) : (x < y → A) ∧ (¬ x < y → B) := by
  subst hx hy
  rw [nI_ltI ha hb]
  exact ⟨f, fun z => g (by omega)⟩
theorem pk_eq {x y : Int32} {A B : Prop} (a b : Nat) (f : a = b → A) (g : a ≠ b → B) (hx : x = nI a := by rfl) (hy : y = nI b := by rfl) (ha : a < 2 ^ 31 := by omega) (hb : b < 2 ^ 31 := by omega) : (x = y → A) ∧ (¬ x = y → B) := by
  subst hx hy
  rw [nI_eq ha hb]
  exact ⟨f, g⟩
theorem pk_in {x : Int32} (n N : Nat) (h : n < N) (hx : x = nI n := by rfl) (hN : N < 2 ^ 31 := by omega) : vp_in x N := by
  subst hx
  exact vp_in_nI h hN
theorem pk_cl {x : Int32} (n : Nat) (hx : x = nI n := by rfl) (h : n < 2 ^ 31 := by omega) : x.toNatClampNeg = n := by
  subst hx
  exact nI_clamp h

def hk_kd (x : Int32) : Prop := x = -1 ∨ x = 0 ∨ x = 1 ∨ x = 2 ∨ x = 3 ∨ x = 4
def hk_rf (K : Nat → Int32) (x : Int32) : Prop := x = -1 ∨ ∃ o : Nat, o < 16 ∧ x = nI o ∧ K o ≠ -1
def hk_K (K : Nat → Int32) : Prop := ∀ i, i < 16 → hk_kd (K i)
def hk_H (K H : Nat → Int32) : Prop := ∀ i, i < 40 → hk_rf K (H i)
def hk_X (K xw xp : Nat → Int32) : Prop := ∀ e, e < 16 → (K e ≠ 1 → xw e = 0) ∧ (K e ≠ 3 → xp e = 0)
def hk_ms (K mv co cr vv f1 r1 f2 r2 : Nat → Int32) (i : Nat) : Prop := mv i = vv i ∧ co (i * 2) = f1 i ∧ co (i * 2 + 1) = f2 i ∧ hk_rf K (f1 i) ∧ hk_rf K (f2 i) ∧ (f1 i ≠ -1 → cr (i * 2) = r1 i) ∧ (f2 i ≠ -1 → cr (i * 2 + 1) = r2 i)
def hk_M (K xw mv co cr yw vv f1 r1 f2 r2 : Nat → Int32) : Prop := ∀ e, e < 16 → K e = 1 → ∃ n, n ≤ 4 ∧ xw e = nI n ∧ yw e = nI n ∧ ∀ j, j < n → hk_ms K mv co cr vv f1 r1 f2 r2 (e * 4 + j)
def hk_P (K xp pk pn ps yp qk qn qs : Nat → Int32) : Prop := ∀ e, e < 16 → K e = 3 → ∃ n, n ≤ 6 ∧ xp e = nI n ∧ yp e = nI n ∧ ∀ j, j < n → pk (e * 6 + j) = qk (e * 6 + j) ∧ pn (e * 6 + j) = qn (e * 6 + j) ∧ ps (e * 6 + j) = qs (e * 6 + j)
def hk_E (K P : Nat → Int32) : Prop := ∀ e, e < 16 → K e ≠ -1 → P e = -1 ∨ (K e = 1 ∧ ∃ f, f < 16 ∧ f ≠ e ∧ P e = nI f ∧ K f = 1 ∧ P f = nI e)
def hk_O (K O ow : Nat → Int32) : Prop := (∀ o, o < 16 → K o = 4 → ∃ p, p < 4 ∧ O o = nI p ∧ ow o = nI p) ∧ (∀ o o', o < 16 → o' < 16 → K o = 4 → K o' = 4 → ow o = ow o' → o = o')
def hk_sg (K P E ow U yw yp : Nat → Int32) (o : Nat) : Int32 := if K o = 0 then E o else if K o = 1 then (if yw o ≤ 0 then 0 else 256) + (if 0 ≤ P o then 0 else 512) else if K o = 3 then (if yp o ≤ 0 then 0 else 256) else if K o = 4 then (if U (ow o).toNatClampNeg = 0 then 1024 else 0) else 0
def hk_S (K P S E ow U yw yp : Nat → Int32) : Prop := ∀ o, o < 16 → K o ≠ -1 → S o = hk_sg K P E ow U yw yp o
def hk_w1 (K wo wb wp wk zo zb zp zk : Nat → Int32) (i : Nat) : Prop := wo i = zo i ∧ wb i = zb i ∧ wp i = zp i ∧ wk i = zk i ∧ (∃ o, o < 16 ∧ zo i = nI o ∧ K o ≠ -1) ∧ (∃ q, q < 16 ∧ zp i = nI q ∧ K q = 3)
def hk_W (K : Nat → Int32) (w : Nat) (wo wb wp wk zo zb zp zk : Nat → Int32) : Prop := w ≤ 12 ∧ ∀ i, i < w → hk_w1 K wo wb wp wk zo zb zp zk i
def hk_G (G gv ga gb : Nat → Int32) : Prop := ∀ p, p < 4 → G (p * 3) = gv p ∧ G (p * 3 + 1) = ga p ∧ G (p * 3 + 2) = gb p
def hk_Q (w : Nat) (S wo wb : Nat → Int32) : Prop := ∀ i, i < w → wb i &&& S (wo i).toNatClampNeg = 0
def hk_run (U : Nat → Int32) (p : Int32) : Prop := ∃ a : Nat, a < 4 ∧ p = nI a ∧ U a ≠ 0

/-- the shift of a row of cells by one, from i up to n -/
def hk_g (i n j : Nat) : Nat := if i ≤ j ∧ j < n then j + 1 else j
def hk_sh (a : Nat → Int32) (i n : Nat) : Nat → Int32 := fun j => a (hk_g i n j)

theorem hk_m10 (a b : Nat) : nI a * 10 + nI b = nI (a * 10 + b) := by rw [← nI_add, ← pk_mul]; rfl
theorem hk_10m (a b : Nat) : 10 * nI a + nI b = nI (a * 10 + b) := by rw [Int32.mul_comm]; exact hk_m10 a b
theorem hk_m8 (a b : Nat) : nI a * 8 + nI b = nI (a * 8 + b) := by rw [← nI_add, ← pk_mul]; rfl
theorem hk_8m (a b : Nat) : 8 * nI a + nI b = nI (a * 8 + b) := by rw [Int32.mul_comm]; exact hk_m8 a b
theorem hk_m4 (a : Nat) : nI a * 4 = nI (a * 4) := by rw [← pk_mul]; rfl
theorem hk_4m (a : Nat) : 4 * nI a = nI (a * 4) := by rw [Int32.mul_comm]; exact hk_m4 a
theorem hk_m6 (a : Nat) : nI a * 6 = nI (a * 6) := by rw [← pk_mul]; rfl
theorem hk_6m (a : Nat) : 6 * nI a = nI (a * 6) := by rw [Int32.mul_comm]; exact hk_m6 a
theorem hk_m3 (a : Nat) : nI a * 3 = nI (a * 3) := by rw [← pk_mul]; rfl
theorem hk_m2 (a : Nat) : nI a * 2 = nI (a * 2) := by rw [← pk_mul]; rfl
theorem hk_8m' (a : Nat) : 8 * nI a = nI (a * 8) := by rw [Int32.mul_comm, ← pk_mul]; rfl
theorem hk_10m' (a : Nat) : 10 * nI a = nI (a * 10) := by rw [Int32.mul_comm, ← pk_mul]; rfl
theorem hk_ne (o : Nat) (h : o < 2 ^ 31) : nI o ≠ -1 := fun e => by
  have h1 := nI_toInt h
  rw [e] at h1
  have h2 : (-1 : Int32).toInt = -1 := by decide
  omega
theorem hk_nn {x : Int32} (h : x = -1) : x < 0 := by subst h; decide
theorem hk_kdn {x : Int32} (h : hk_kd x) (h1 : x ≠ -1) : ¬ x < 0 := by
  rcases h with e | e | e | e | e | e
  · exact absurd e h1
  all_goals subst e; decide
theorem hk_rfn {K : Nat → Int32} {x : Int32} (h : hk_rf K x) (h1 : x ≠ -1) : ∃ o, o < 16 ∧ x = nI o ∧ K o ≠ -1 := by
  rcases h with e | e
  · exact absurd e h1
  · exact e
theorem hk_gl {i n j : Nat} (h : j < i) : hk_g i n j = j := if_neg (by omega)
theorem hk_gm {i n j : Nat} (h : i ≤ j) (h2 : j < n) : hk_g i n j = j + 1 := if_pos ⟨h, h2⟩
theorem hk_gr {i n j : Nat} (h : n ≤ j) : hk_g i n j = j := if_neg (by omega)
theorem hk_sh0 (a : Nat → Int32) (n : Nat) : hk_sh a n n = a := by
  funext j
  show a (hk_g n n j) = a j
  unfold hk_g
  rw [if_neg (by omega)]
/-- one more step of a shift: the cell n takes what n + 1 held -/
theorem hk_shs (a : Nat → Int32) {i n : Nat} (h : i ≤ n) : upd (hk_sh a i n) n (hk_sh a i n (n + 1)) = hk_sh a i (n + 1) := by
  funext j
  show (if j = n then a (hk_g i n (n + 1)) else a (hk_g i n j)) = a (hk_g i (n + 1) j)
  unfold hk_g
  by_cases e : j = n
  · subst e
    rw [if_pos rfl, if_neg (by omega), if_pos (by omega)]
  · rw [if_neg e]
    by_cases e2 : i ≤ j ∧ j < n
    · rw [if_pos e2, if_pos (by omega)]
    · rw [if_neg e2, if_neg (by omega)]
theorem hk_andw {x m b : Int32} (h : b &&& x = 0) : b &&& (x &&& m) = 0 := by
  rw [← Int32.and_assoc, h]
  exact Int32.zero_and
theorem hk_b1 : vp_nar .boolean 1 ≠ 0 := by decide
theorem hk_b0 : vp_nar .boolean 0 = 0 := by decide
theorem hk_least (P : Nat → Prop) (h : ∃ k, P k) : ∃ k, P k ∧ ∀ j, j < k → ¬ P j := by
  obtain ⟨k, hk⟩ := h
  induction k using Nat.strongRecOn with
  | ind k ih =>
    by_cases z : ∃ j, j < k ∧ P j
    · obtain ⟨j, hj, pj⟩ := z
      exact ih j hj pj
    · exact ⟨k, hk, fun j hj pj => z ⟨j, hj, pj⟩⟩
theorem hk_u {f : Nat → Int32} {i x : Int32} {n : Nat} (h : i.toNatClampNeg = n) : upd f i.toNatClampNeg x = upd f n x := by rw [h]
/-- zeroes from lo up to n -/
def hk_cz (C : Nat → Int32) (lo n : Nat) : Nat → Int32 := fun j => if lo ≤ j ∧ j < n then 0 else C j
theorem hk_cz0 (C : Nat → Int32) (lo : Nat) : hk_cz C lo lo = C := by
  funext j
  unfold hk_cz
  rw [if_neg (by omega)]
theorem hk_czs (C : Nat → Int32) {lo n : Nat} (h : lo ≤ n) : upd (hk_cz C lo n) n 0 = hk_cz C lo (n + 1) := by
  funext j
  unfold hk_cz upd
  by_cases e : j = n
  · subst e
    rw [if_pos rfl, if_pos (by omega)]
  · rw [if_neg e]
    show (if lo ≤ j ∧ j < n then 0 else C j) = _
    by_cases e2 : lo ≤ j ∧ j < n
    · rw [if_pos e2, if_pos (by omega)]
    · rw [if_neg e2, if_neg (by omega)]
