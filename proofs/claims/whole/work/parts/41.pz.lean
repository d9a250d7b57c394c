/-! PURE: the cells of the reference, the small methods of both -/
def ix (s k : Nat) : Nat := 38 + 124 * s + k
def shx (p c : Nat) : Nat := 52 + 3 * (p - 1) + c
theorem z_of {w : Nat → Nat} {s k : Nat} (hs : s < 4) (hk : k < 124) : F_X11_of (L w) (nI s) (nI k) = some (nI (w (ix s k))) := by
  unfold F_X11_of
  simp (disch := omega) only [q_lit, pk_mul, nI_add, q_gi, q_gg, q_cl, L_app]
  rfl
theorem z_sets {w : Nat → Nat} {s k v : Nat} (hs : s < 4) (hk : k < 124) : F_X11_sets (L w) (nI s) (nI k) (nI v) = some (L (updN w (ix s k) v)) := by
  unfold F_X11_sets
  simp (disch := omega) only [q_lit, pk_mul, nI_add, q_gi, q_gg, q_gl, q_cl, L_upd]
  rfl
theorem z_shareOf {w : Nat → Nat} {s p c : Nat} (hs : s < 4) (hp : 1 ≤ p) (hp2 : p ≤ 24) (hc : c < 3) : F_X11_shareOf (L w) (nI s) (nI p) (nI c) = some (nI (w (ix s (shx p c)))) := by
  unfold F_X11_shareOf
  simp (disch := omega) only [q_lit, pk_sub, pk_mul, nI_add]
  rw [z_of hs (by omega)]
  rfl
def shW (w : Nat → Nat) (s p h v e : Nat) : Nat → Nat := updN (updN (updN w (ix s (shx p 0)) h) (ix s (shx p 1)) v) (ix s (shx p 2)) e
theorem shW_0 (w : Nat → Nat) (s p h v e : Nat) : shW w s p h v e (ix s (shx p 0)) = h := by
  unfold shW
  rw [uN_n _ _ (by simp only [ix, shx]; omega), uN_n _ _ (by simp only [ix, shx]; omega), uN_s]
theorem shW_1 (w : Nat → Nat) (s p h v e : Nat) : shW w s p h v e (ix s (shx p 1)) = v := by
  unfold shW
  rw [uN_n _ _ (by simp only [ix, shx]; omega), uN_s]
theorem shW_2 (w : Nat → Nat) (s p h v e : Nat) : shW w s p h v e (ix s (shx p 2)) = e := by
  unfold shW
  rw [uN_s]
theorem shW_n (w : Nat → Nat) {s p i : Nat} (h v e : Nat) (hi : i < ix s (shx p 0) ∨ ix s (shx p 2) < i) : shW w s p h v e i = w i := by
  unfold shW
  simp only [ix, shx] at *
  rw [uN_n _ _ (by omega), uN_n _ _ (by omega), uN_n _ _ (by omega)]
theorem z_setsShare {w : Nat → Nat} {s p v e : Nat} (hs : s < 4) (hp : 1 ≤ p) (hp2 : p ≤ 24) : F_X11_setsShare (L w) (nI s) (nI p) (nI v) (nI e) = some (L (shW w s p 1 v e)) := by
  unfold F_X11_setsShare
  simp (disch := omega) only [q_lit, pk_sub, pk_mul, nI_add, z_sets, Option.bind_some]
  rfl
theorem z_removes {w : Nat → Nat} {s p : Nat} (hs : s < 4) (hp : 1 ≤ p) (hp2 : p ≤ 24) : F_X11_removes (L w) (nI s) (nI p) = some (L (shW w s p 0 0 0)) := by
  have h3 : ∀ k, (3 ≤ k) = (nI 3 ≤ nI k) ∨ True := fun _ => Or.inr trivial
  unfold F_X11_removes
  have e0 : ¬ (3 : Nat) ≤ 0 := by omega
  have e1 : ¬ (3 : Nat) ≤ 1 := by omega
  have e2 : ¬ (3 : Nat) ≤ 2 := by omega
  obtain ⟨n, hn⟩ : ∃ n, (1000 : Nat) = n + 1 + 1 + 1 + 1 := ⟨996, rfl⟩
  rw [hn]
  rw [F_X11_removes_L2]
  simp (disch := omega) only [q_lit, q_leI, e0, if_false, pk_sub, pk_mul, nI_add, z_sets, Option.bind_some]
  rw [F_X11_removes_L2]
  simp (disch := omega) only [q_lit, q_leI, e1, if_false, pk_sub, pk_mul, nI_add, z_sets, Option.bind_some]
  rw [F_X11_removes_L2]
  simp (disch := omega) only [q_lit, q_leI, e2, if_false, pk_sub, pk_mul, nI_add, z_sets, Option.bind_some]
  rw [F_X11_removes_L2]
  simp (disch := omega) only [q_lit, q_leI, Nat.le_refl, if_true]
  rfl
theorem z_hasShare {w : Nat → Nat} {s p : Nat} (hs : s < 4) (hp : 1 ≤ p) (hp2 : p ≤ 24) (hw : w (ix s (shx p 0)) < 2) : F_X11_hasShare (L w) (nI s) (nI p) = some (nI (decide (w (ix s (shx p 0)) = 1)).toNat) := by
  unfold F_X11_hasShare F_X11_hasShare_L16
  simp (disch := omega) only [q_lit, z_shareOf, Option.bind_some, q_eqI, q_nar0, q_nar1, q_gg]
  by_cases h : w (ix s (shx p 0)) = 1 <;> simp [h]
theorem z_owner {p : Nat} (hp : 1 ≤ p) (hp2 : p ≤ 24) : F_X11_owner (nI p) = some (nI ((p - 1) / 3)) := by
  unfold F_X11_owner
  simp (disch := omega) only [q_lit, pk_sub, pk_div]
theorem z_isPresent {w : Nat → Nat} {m : Nat} (hm : m < 8) (hw : w (9 + m) < 2) : F_X11_isPresent (L w) (nI m) = some (nI (decide (w (9 + m) = 1)).toNat) := by
  unfold F_X11_isPresent F_X11_isPresent_L18
  simp (disch := omega) only [q_lit, nI_add, q_gi, q_gg, q_cl, L_app, q_eqI, q_nar0, q_nar1]
  by_cases h : w (9 + m) = 1 <;> simp [h]
theorem z_isUsed {w : Nat → Nat} {p : Nat} (hp : 1 ≤ p) (hp2 : p ≤ 24) (hw : w (1 + (p - 1) / 3) < 4) : F_X11_isUsed (L w) (nI p) = some (nI (decide ((p - 1) % 3 < w (1 + (p - 1) / 3))).toNat) := by
  unfold F_X11_isUsed F_X11_isUsed_L24
  rw [z_owner hp hp2]
  simp (disch := omega) only [q_lit, Option.bind_some, nI_add, pk_sub, pk_div, pk_mul, q_mod, q_gi, q_gg, q_cl, L_app, q_leI, q_nar0, q_nar1]
  by_cases h : (p - 1) % 3 < w (1 + (p - 1) / 3)
  · have h2 : ¬ w (1 + (p - 1) / 3) ≤ (p - 1) % 3 := by omega
    simp [h, h2]
  · have h2 : w (1 + (p - 1) / 3) ≤ (p - 1) % 3 := by omega
    simp [h, h2]
/-! the class's small methods -/
theorem z_contains {a k : Nat} (ha : a < 2 ^ 31) (hk : k < 32) : F_X10_contains (nI a) (nI k) = some (nI (a.testBit k).toNat) := by
  unfold F_X10_contains F_X10_contains_L14
  simp (disch := omega) only [q_lit, q_bit, q_nar0, q_nar1, q_gg]
  cases a.testBit k <;> simp
theorem z_ownerOf {p : Nat} (hp : 1 ≤ p) (hp2 : p ≤ 24) : F_X10_ownerOf (nI p) = some (nI ((p - 1) / 3)) := by
  unfold F_X10_ownerOf
  simp (disch := omega) only [q_lit, pk_sub, pk_div]
theorem z_firstPlace (m : Nat) : F_X10_firstPlace (nI m) = some (nI (3 * m + 1)) := by
  unfold F_X10_firstPlace
  simp only [q_lit, pk_mul, nI_add]
theorem z_holds {es : Nat → Nat} {p : Nat} (hp : p < 25) (he : es p < 2 ^ 31) : F_X7_holds (L es) (nI p) = some (nI (decide (es p ≠ 0)).toNat) := by
  unfold F_X7_holds F_X7_holds_L14
  simp (disch := omega) only [q_lit, q_gi, q_gg, q_cl, L_app, q_eqI, q_nar0, q_nar1]
  by_cases h : es p = 0 <;> simp [h]
theorem z_give {vs es : Nat → Nat} {p v e : Nat} (hp : p < 25) : F_X7_give (L vs) (L es) (nI p) (nI v) (nI e) = some (L (updN vs p v), L (updN es p e)) := by
  unfold F_X7_give
  simp (disch := omega) only [q_gi, q_gg, q_gl, q_cl, L_upd]
theorem z_drop {vs es : Nat → Nat} {p : Nat} (hp : p < 25) : F_X7_drop (L vs) (L es) (nI p) = some (L (updN vs p 0), L (updN es p 0)) := by
  unfold F_X7_drop
  simp (disch := omega) only [q_lit, q_gi, q_gg, q_gl, q_cl, L_upd]
/-! powers of the class -/
theorem q_pw (b q m : Nat) : b ^ (2 * q) % m * b % m = b ^ (2 * q + 1) % m := by
  rw [Nat.pow_succ, Nat.mul_mod, Nat.mod_mod, ← Nat.mul_mod]
theorem z_powQ_L {b e : Nat} (hb : b < 2039) (he : e < 1024) : ∀ k n v, k < n → k ≤ 10 → v = b ^ (e / 2 ^ k) % 2039 → F_X2_powerModQ_L5 (nI b) (nI e) n (nI v) (nI k + -nI 1) = some (nI (b ^ e % 2039)) := by
  intro k
  induction k with
  | zero =>
    intro n v hn _ hv
    obtain ⟨n, rfl⟩ : ∃ k, n = k + 1 := ⟨n - 1, by omega⟩
    rw [F_X2_powerModQ_L5]
    simp only [q_lit, q_m10, q_mlt, if_true]
    rw [hv, Nat.pow_zero, Nat.div_one]
  | succ k ih =>
    intro n v hn hk hv
    obtain ⟨n, rfl⟩ : ∃ k, n = k + 1 := ⟨n - 1, by omega⟩
    have hvl : v < 2039 := by rw [hv]; exact Nat.mod_lt _ (by omega)
    have h1 : v * v ≤ 2038 * 2038 := q_mulle (by omega) (by omega)
    have h2 : v * v % 2039 < 2039 := Nat.mod_lt _ (by omega)
    have h3 : (v * v % 2039) * b ≤ 2038 * 2038 := q_mulle (by omega) (by omega)
    have hn0 : ¬ k < 0 := by omega
    have hk1 : nI (k + 1) + -nI 1 = nI k := by rw [q_m1 (by omega)]; rfl
    have hd : e / 2 ^ k = 2 * (e / 2 ^ (k + 1)) + e / 2 ^ k % 2 := by
      rw [Nat.pow_succ, ← Nat.div_div_eq_div_mul]
      omega
    have hsq : v * v % 2039 = b ^ (2 * (e / 2 ^ (k + 1))) % 2039 := by
      rw [hv, ← Nat.mul_mod, ← Nat.pow_add]
      congr 2
      omega
    rw [F_X2_powerModQ_L5, hk1]
    unfold F_X2_powerModQ_L34
    simp (disch := omega) only [q_lit, q_ltI, hn0, if_false, q_gl, pk_mul, pk_div, q_rem, pk_sub, q_mod, q_bit]
    by_cases ht : e.testBit k = true
    · rw [if_pos ht]
      rw [← q_tb] at ht
      refine ih n _ (by omega) (by omega) ?_
      rw [hsq, hd, ht]
      exact q_pw b _ 2039
    · rw [if_neg ht]
      rw [← q_tb] at ht
      refine ih n _ (by omega) (by omega) ?_
      rw [hsq, hd, show e / 2 ^ k % 2 = 0 by omega]
      rfl
theorem z_powQ {b e : Nat} (hb : b < 2039) (he : e < 1024) : F_X2_powerModQ (nI b) (nI e) = some (nI (b ^ e % 2039)) := by
  unfold F_X2_powerModQ
  have h9 : (9 : Int32) = nI 10 + -nI 1 := by decide
  show F_X2_powerModQ_L5 (nI b) (nI e) 1000 (nI 1) 9 = _
  rw [h9]
  refine z_powQ_L hb he 10 1000 1 (by omega) (by omega) ?_
  rw [show e / 2 ^ 10 = 0 from Nat.div_eq_of_lt (by omega)]
  rfl
theorem z_commitmentTo {e : Nat} (he : e < 1024) : F_X2_commitmentTo (nI e) = some (nI (4 ^ e % 2039)) := by
  unfold F_X2_commitmentTo
  simp only [q_lit]
  rw [z_powQ (by omega) he]
  rfl
theorem z_inv_L {b : Nat} (hb : b < 1019) : ∀ k n v, k < n → k ≤ 10 → v = b ^ (1017 / 2 ^ k) % 1019 → F_X2_inverse_L5 (nI b) n (nI v) (nI k + -nI 1) = some (nI (b ^ 1017 % 1019)) := by
  intro k
  induction k with
  | zero =>
    intro n v hn _ hv
    obtain ⟨n, rfl⟩ : ∃ k, n = k + 1 := ⟨n - 1, by omega⟩
    rw [F_X2_inverse_L5]
    simp only [q_lit, q_m10, q_mlt, if_true]
    rw [hv, Nat.pow_zero, Nat.div_one]
  | succ k ih =>
    intro n v hn hk hv
    obtain ⟨n, rfl⟩ : ∃ k, n = k + 1 := ⟨n - 1, by omega⟩
    have hvl : v < 1019 := by rw [hv]; exact Nat.mod_lt _ (by omega)
    have h1 : v * v ≤ 2038 * 2038 := q_mulle (by omega) (by omega)
    have h2 : v * v % 1019 < 1019 := Nat.mod_lt _ (by omega)
    have h3 : (v * v % 1019) * b ≤ 2038 * 2038 := q_mulle (by omega) (by omega)
    have hn0 : ¬ k < 0 := by omega
    have hk1 : nI (k + 1) + -nI 1 = nI k := by rw [q_m1 (by omega)]; rfl
    have hd : 1017 / 2 ^ k = 2 * (1017 / 2 ^ (k + 1)) + 1017 / 2 ^ k % 2 := by
      rw [Nat.pow_succ, ← Nat.div_div_eq_div_mul]
      omega
    have hsq : v * v % 1019 = b ^ (2 * (1017 / 2 ^ (k + 1))) % 1019 := by
      rw [hv, ← Nat.mul_mod, ← Nat.pow_add]
      congr 2
      omega
    rw [F_X2_inverse_L5, hk1]
    unfold F_X2_inverse_L36
    simp (disch := omega) only [q_lit, q_ltI, hn0, if_false, q_gl, pk_mul, pk_div, q_rem, pk_sub, q_mod, q_bit]
    by_cases ht : (1017 : Nat).testBit k = true
    · rw [if_pos ht]
      rw [← q_tb] at ht
      refine ih n _ (by omega) (by omega) ?_
      rw [hsq, hd, ht]
      exact q_pw b _ 1019
    · rw [if_neg ht]
      rw [← q_tb] at ht
      refine ih n _ (by omega) (by omega) ?_
      rw [hsq, hd, show 1017 / 2 ^ k % 2 = 0 by omega]
      rfl
theorem z_inverse {b : Nat} (hb : b < 1019) : F_X2_inverse (nI b) = some (nI (b ^ 1017 % 1019)) := by
  unfold F_X2_inverse
  have h9 : (9 : Int32) = nI 10 + -nI 1 := by decide
  show F_X2_inverse_L5 (nI b) 1000 (nI 1) 9 = _
  rw [h9]
  refine z_inv_L hb 10 1000 1 (by omega) (by omega) ?_
  rw [show 1017 / 2 ^ 10 = 0 from rfl]
  rfl
theorem z_X11_inverse {b : Nat} (hb : b < 1019) : F_X11_inverse (nI b) = some (nI (b ^ 1017 % 1019)) := by
  unfold F_X11_inverse
  simp only [q_lit]
  rw [z_power (by omega) (by omega) (by omega) (by omega)]
  rfl
/-! the state of a share -/
def S_com (cm : Nat → Nat) (p : Nat) : Nat → Nat → Nat → Nat → Nat
  | 0, _, pr, _ => pr
  | k + 1, j, pr, ex => S_com cm p k (j + 1) (pr * (cm j ^ ex % 2039) % 2039) (ex * p % 1019)
def S_state (th ep : Nat) (cm : Nat → Nat) (v e p : Nat) : Nat := if e = ep then (if 4 ^ v % 2039 = S_com cm p th 0 1 1 then 0 else 2) else 1
theorem S_com_lt (cm : Nat → Nat) (p : Nat) : ∀ k j pr ex, pr < 2039 → S_com cm p k j pr ex < 2039 := by
  intro k
  induction k with
  | zero => intro j pr ex h; exact h
  | succ k ih => intro j pr ex _; exact ih _ _ _ (Nat.mod_lt _ (by omega))
theorem S_com_congr {cm cm' : Nat → Nat} (p : Nat) : ∀ k j pr ex, (∀ i, j ≤ i → i < j + k → cm i = cm' i) → S_com cm p k j pr ex = S_com cm' p k j pr ex := by
  intro k
  induction k with
  | zero => intro j pr ex _; rfl
  | succ k ih =>
    intro j pr ex h
    show S_com cm p k (j + 1) _ _ = S_com cm' p k (j + 1) _ _
    rw [h j (Nat.le_refl j) (by omega)]
    exact ih _ _ _ (fun i h1 h2 => h i (by omega) (by omega))
theorem S_state_congr {cm cm' : Nat → Nat} {th ep v e p : Nat} (h : ∀ i, i < th → cm i = cm' i) : S_state th ep cm v e p = S_state th ep cm' v e p := by
  unfold S_state
  rw [S_com_congr p th 0 1 1 (fun i _ h2 => h i (by omega))]
theorem S_state_lt {cm : Nat → Nat} {th ep v e p : Nat} : S_state th ep cm v e p < 3 := by
  unfold S_state
  split
  · split <;> omega
  · omega
theorem z_committedAt_L {cm : Nat → Nat} {p th : Nat} (hp : p ≤ 24) (hth : th ≤ 8) (hc : ∀ j, j < 8 → cm j < 2039) : ∀ k n j pr ex, j + k = th → k < n → pr < 2039 → ex < 1019 → F_X7_committedAt_L7 (nI th) (L cm) (nI p) n (nI pr) (nI ex) (nI j) = some (nI (S_com cm p k j pr ex)) := by
  intro k
  induction k with
  | zero =>
    intro n j pr ex hj hn _ _
    obtain ⟨n, rfl⟩ : ∃ k, n = k + 1 := ⟨n - 1, by omega⟩
    have : th ≤ j := by omega
    rw [F_X7_committedAt_L7]
    simp (disch := omega) only [q_leI, this, if_true]
    rfl
  | succ k ih =>
    intro n j pr ex hj hn hpr hex
    obtain ⟨n, rfl⟩ : ∃ k, n = k + 1 := ⟨n - 1, by omega⟩
    have h0 : ¬ th ≤ j := by omega
    have h1 := hc j (by omega)
    have h2 : cm j ^ ex % 2039 < 2039 := Nat.mod_lt _ (by omega)
    have h3 : pr * (cm j ^ ex % 2039) ≤ 2038 * 2038 := q_mulle (by omega) (by omega)
    have h4 : ex * p ≤ 1018 * 24 := q_mulle (by omega) (by omega)
    rw [F_X7_committedAt_L7]
    simp (disch := omega) only [q_lit, q_leI, h0, if_false, q_gi, q_gg, q_gl, q_cl, L_app, z_powQ, Option.bind_some, pk_mul, pk_div, q_rem, pk_sub, q_mod, nI_add]
    rw [ih n (j + 1) _ _ (by omega) (by omega) (Nat.mod_lt _ (by omega)) (Nat.mod_lt _ (by omega))]
    rfl
theorem z_committedAt {cm : Nat → Nat} {p th : Nat} (hp : p ≤ 24) (hth : th ≤ 8) (hc : ∀ j, j < 8 → cm j < 2039) : F_X7_committedAt (nI th) (L cm) (nI p) = some (nI (S_com cm p th 0 1 1)) := by
  unfold F_X7_committedAt
  simp only [q_lit]
  exact z_committedAt_L hp hth hc th 1000 0 1 1 (by omega) (by omega) (by omega) (by omega)
theorem z_stateOf {th ep : Nat} {cm vs es : Nat → Nat} {p : Nat} (hp : p ≤ 24) (hth : th ≤ 8) (hc : ∀ j, j < 8 → cm j < 2039) (hv : vs p < 1019) (he : es p < 2 ^ 31) (hep : ep < 2 ^ 31) : F_X7_stateOf (nI th) (nI ep) (L cm) (L vs) (L es) (nI p) = some (nI (S_state th ep cm (vs p) (es p) p)) := by
  unfold F_X7_stateOf F_X7_stateOf_L37 S_state
  have h1 := S_com_lt cm p th 0 1 1 (by omega)
  have h2 : 4 ^ vs p % 2039 < 2039 := Nat.mod_lt _ (by omega)
  simp (disch := omega) only [q_lit, q_gi, q_gg, q_cl, L_app, q_eqI, z_commitmentTo, Option.bind_some]
  rw [z_committedAt hp hth hc]
  simp (disch := omega) only [Option.bind_some, q_eqI]
  split
  · split <;> rfl
  · rfl
theorem z_holdsGood {th ep : Nat} {cm vs es : Nat → Nat} {p : Nat} (hp : p ≤ 24) (hth : th ≤ 8) (hc : ∀ j, j < 8 → cm j < 2039) (hv : vs p < 1019) (he : es p < 2 ^ 31) (hep : ep < 2 ^ 31) : F_X7_holdsGood (nI th) (nI ep) (L cm) (L vs) (L es) (nI p) = some (nI (decide (es p ≠ 0) && decide (S_state th ep cm (vs p) (es p) p = 0)).toNat) := by
  unfold F_X7_holdsGood F_X7_holdsGood_L20 F_X7_holdsGood_L21
  have h3 := @S_state_lt cm th ep (vs p) (es p) p
  rw [z_holds (by omega) he, z_stateOf hp hth hc hv he hep]
  simp (disch := omega) only [q_lit, q_gg, Option.bind_some, q_b0, q_eqI, q_nar0, q_nar1]
  by_cases h : es p = 0
  · simp [h]
  · by_cases h2 : S_state th ep cm (vs p) (es p) p = 0 <;> simp [h, h2]
theorem z_X11_stateOf_L {w : Nat → Nat} {s p : Nat} (hs : s < 4) (hp : 1 ≤ p) (hp2 : p ≤ 24) (hth : w (ix s 1) ≤ 8) (hc : ∀ j, j < w (ix s 1) → w (ix s (3 + j)) < 2039) (hv : w (ix s (shx p 1)) < 1019) :
    ∀ k n j pr ex, j + k = w (ix s 1) → k < n → pr < 2039 → ex < 1019 → F_X11_stateOf_L26 (L w) (nI s) (nI p) n (nI pr) (nI ex) (nI j) = some (nI (if 4 ^ w (ix s (shx p 1)) % 2039 = S_com (fun j => w (ix s (3 + j))) p k j pr ex then 0 else 2)) := by
  intro k
  induction k with
  | zero =>
    intro n j pr ex hj hn _ _
    obtain ⟨n, rfl⟩ : ∃ k, n = k + 1 := ⟨n - 1, by omega⟩
    have h0 : w (ix s 1) ≤ j := by omega
    have h2 : 4 ^ w (ix s (shx p 1)) % 2039 < 2039 := Nat.mod_lt _ (by omega)
    rw [F_X11_stateOf_L26]
    unfold F_X11_stateOf_L100
    simp (disch := omega) only [q_lit, z_of, Option.bind_some, q_leI, h0, if_true, z_shareOf, z_power, q_eqI]
    show _ = some (nI (if _ = pr then 0 else 2))
    split <;> rfl
  | succ k ih =>
    intro n j pr ex hj hn hpr hex
    obtain ⟨n, rfl⟩ : ∃ k, n = k + 1 := ⟨n - 1, by omega⟩
    have h0 : ¬ w (ix s 1) ≤ j := by omega
    have h1 := hc j (by omega)
    have h2 : w (ix s (3 + j)) ^ ex % 2039 < 2039 := Nat.mod_lt _ (by omega)
    have h3 : pr * (w (ix s (3 + j)) ^ ex % 2039) ≤ 2038 * 2038 := q_mulle (by omega) (by omega)
    have h4 : ex * p ≤ 1018 * 24 := q_mulle (by omega) (by omega)
    rw [F_X11_stateOf_L26]
    simp (disch := omega) only [q_lit, z_of, Option.bind_some, q_leI, h0, if_false, nI_add, z_power, q_gl, pk_mul, pk_div, q_rem, pk_sub, q_mod]
    rw [ih n (j + 1) _ _ (by omega) (by omega) (Nat.mod_lt _ (by omega)) (Nat.mod_lt _ (by omega))]
    rfl
/-- the state of a share, as the reference's cells tell it -/
def M_state (w : Nat → Nat) (s p : Nat) : Nat := S_state (w (ix s 1)) (w (ix s 2)) (fun j => w (ix s (3 + j))) (w (ix s (shx p 1))) (w (ix s (shx p 2))) p
theorem z_X11_stateOf {w : Nat → Nat} {s p : Nat} (hs : s < 4) (hp : 1 ≤ p) (hp2 : p ≤ 24) (hth : w (ix s 1) ≤ 8) (hc : ∀ j, j < w (ix s 1) → w (ix s (3 + j)) < 2039) (hv : w (ix s (shx p 1)) < 1019) (he : w (ix s (shx p 2)) < 2 ^ 31) (hep : w (ix s 2) < 2 ^ 31) : F_X11_stateOf (L w) (nI s) (nI p) = some (nI (M_state w s p)) := by
  unfold F_X11_stateOf M_state S_state
  simp (disch := omega) only [q_lit, z_shareOf, z_of, Option.bind_some, q_eqI]
  rw [z_X11_stateOf_L hs hp hp2 hth hc hv (w (ix s 1)) 1000 0 1 1 (by omega) (by omega) (by omega) (by omega)]
  split <;> rfl
