/-! PURE: shares of both sides, interpolation, chosen places -/
def RSh (w : Nat → Nat) (s : Nat) (vs es : Nat → Nat) : Prop := ∀ p, 1 ≤ p → p ≤ 24 → w (ix s (shx p 0)) = (decide (es p ≠ 0)).toNat ∧ w (ix s (shx p 1)) = vs p ∧ w (ix s (shx p 2)) = es p
def RS (w : Nat → Nat) (s th ep : Nat) (cm vs es : Nat → Nat) : Prop := RSh w s vs es ∧ okS th ep cm vs es ∧ 1 ≤ th ∧ 1 ≤ ep ∧ w (ix s 1) = th ∧ w (ix s 2) = ep ∧ ∀ j, j < th → w (ix s (3 + j)) = cm j
theorem RSh.has {w : Nat → Nat} {s : Nat} {vs es : Nat → Nat} (h : RSh w s vs es) (hs : s < 4) {p : Nat} (hp : 1 ≤ p) (hp2 : p ≤ 24) : F_X11_hasShare (L w) (nI s) (nI p) = some (nI (decide (es p ≠ 0)).toNat) := by
  have h1 := (h p hp hp2).1
  have h2 := Bool.toNat_le (decide (es p ≠ 0))
  rw [z_hasShare hs hp hp2 (by omega), h1]
  by_cases h3 : es p = 0 <;> simp [h3]
theorem RSh.v {w : Nat → Nat} {s : Nat} {vs es : Nat → Nat} (h : RSh w s vs es) (hs : s < 4) {p : Nat} (hp : 1 ≤ p) (hp2 : p ≤ 24) : F_X11_shareOf (L w) (nI s) (nI p) (nI 1) = some (nI (vs p)) := by
  rw [z_shareOf hs hp hp2 (by omega), (h p hp hp2).2.1]
theorem RSh.e {w : Nat → Nat} {s : Nat} {vs es : Nat → Nat} (h : RSh w s vs es) (hs : s < 4) {p : Nat} (hp : 1 ≤ p) (hp2 : p ≤ 24) : F_X11_shareOf (L w) (nI s) (nI p) (nI 2) = some (nI (es p)) := by
  rw [z_shareOf hs hp hp2 (by omega), (h p hp hp2).2.2]
theorem RS.st {w : Nat → Nat} {s th ep : Nat} {cm vs es : Nat → Nat} (h : RS w s th ep cm vs es) (hs : s < 4) {p : Nat} (hp : 1 ≤ p) (hp2 : p ≤ 24) : F_X11_stateOf (L w) (nI s) (nI p) = some (nI (S_state th ep cm (vs p) (es p) p)) := by
  obtain ⟨h1, ⟨k1, k2, k3, k4, k5⟩, h3, h4, h5, h6, h7⟩ := h
  have e1 := (h1 p hp hp2).2.1
  have e2 := (h1 p hp hp2).2.2
  have e3 := k4 p hp2
  have e4 := k5 p hp2
  rw [z_X11_stateOf hs hp hp2 (by omega) (fun j hj => by rw [h7 j (by omega)]; exact k3 j (by omega)) (by omega) (by omega) (by omega)]
  unfold M_state
  rw [h5, h6, e1, e2, S_state_congr (fun i hi => h7 i hi)]
theorem RS.k {w : Nat → Nat} {s th ep : Nat} {cm vs es : Nat → Nat} (h : RS w s th ep cm vs es) (hs : s < 4) : F_X11_of (L w) (nI s) (nI 1) = some (nI th) := by
  rw [z_of hs (by omega), h.2.2.2.2.1]
theorem RS.ep {w : Nat → Nat} {s th ep : Nat} {cm vs es : Nat → Nat} (h : RS w s th ep cm vs es) (hs : s < 4) : F_X11_of (L w) (nI s) (nI 2) = some (nI ep) := by
  rw [z_of hs (by omega), h.2.2.2.2.2.1]
theorem RS.good {w : Nat → Nat} {s th ep : Nat} {cm vs es : Nat → Nat} (h : RS w s th ep cm vs es) (hs : s < 4) {p : Nat} (hp : 1 ≤ p) (hp2 : p ≤ 24) : F_X11_isGood (L w) (nI s) (nI p) = some (nI (decide (es p ≠ 0) && decide (S_state th ep cm (vs p) (es p) p = 0)).toNat) := by
  have h3 := @S_state_lt cm th ep (vs p) (es p) p
  unfold F_X11_isGood F_X11_isGood_L22 F_X11_isGood_L23
  rw [h.1.has hs hp hp2, h.st hs hp hp2]
  simp (disch := omega) only [q_lit, q_gg, Option.bind_some, q_b0, q_eqI, q_nar0, q_nar1]
  by_cases h0 : es p = 0
  · simp [h0]
  · by_cases h2 : S_state th ep cm (vs p) (es p) p = 0 <;> simp [h0, h2]
/-! differences modulo p -/
def dm (x y : Nat) : Nat := (x + 1019 - y) % 1019
theorem dm_lt (x y : Nat) : dm x y < 1019 := Nat.mod_lt _ (by omega)
theorem z_fm0 : ∀ x, x < 25 → ∀ y, y < 25 → F_J9_floorMod_7cf53 (nI x - nI y) (nI 1019) = some (nI (dm x y)) := by decide +kernel
theorem z_fm {x y : Nat} (hx : x ≤ 24) (hy : y ≤ 24) : F_J9_floorMod_7cf53 (nI x - nI y) (nI 1019) = some (nI (dm x y)) := z_fm0 x (by omega) y (by omega)
theorem z_dm0 : ∀ x, x < 25 → ∀ y, y < 25 → (nI x - nI y + nI 1019) = nI (x + 1019 - y) := by decide +kernel
theorem z_dm {x y : Nat} (hx : x ≤ 24) (hy : y ≤ 24) : (nI x - nI y + nI 1019) = nI (x + 1019 - y) := z_dm0 x (by omega) y (by omega)
/-! the interpolated value -/
def S_AB (nd : Nat → Nat) (x i : Nat) : Nat → Nat → Nat → Nat → Nat × Nat
  | 0, _, a, b => (a, b)
  | k + 1, j, a, b => if j = i then S_AB nd x i k (j + 1) a b else S_AB nd x i k (j + 1) (a * dm x (nd j) % 1019) (b * dm (nd i) (nd j) % 1019)
def S_trm (nd vs : Nat → Nat) (th x i : Nat) : Nat := (S_AB nd x i th 0 (vs (nd i)) 1).1 * ((S_AB nd x i th 0 (vs (nd i)) 1).2 ^ 1017 % 1019)
def S_val (nd vs : Nat → Nat) (th x : Nat) : Nat → Nat → Nat → Nat
  | 0, _, sum => sum
  | k + 1, i, sum => S_val nd vs th x k (i + 1) ((sum + S_trm nd vs th x i) % 1019)
theorem S_AB_lt (nd : Nat → Nat) (x i : Nat) : ∀ k j a b, a < 1019 → b < 1019 → (S_AB nd x i k j a b).1 < 1019 ∧ (S_AB nd x i k j a b).2 < 1019 := by
  intro k
  induction k with
  | zero => intro j a b h1 h2; exact ⟨h1, h2⟩
  | succ k ih =>
    intro j a b h1 h2
    unfold S_AB
    split
    · exact ih _ _ _ h1 h2
    · exact ih _ _ _ (Nat.mod_lt _ (by omega)) (Nat.mod_lt _ (by omega))
theorem S_AB_congr {nd nd' : Nat → Nat} (x : Nat) {th i : Nat} (hi : i < th) (h : ∀ j, j < th → nd j = nd' j) : ∀ k j a b, j + k = th → S_AB nd x i k j a b = S_AB nd' x i k j a b := by
  intro k
  induction k with
  | zero => intro j a b _; rfl
  | succ k ih =>
    intro j a b hj
    unfold S_AB
    rw [h j (by omega), h i hi]
    split
    · exact ih _ _ _ (by omega)
    · exact ih _ _ _ (by omega)
theorem S_val_congr {nd nd' vs vs' : Nat → Nat} (x : Nat) {th : Nat} (h : ∀ j, j < th → nd j = nd' j) (hv : ∀ j, j < th → vs (nd j) = vs' (nd j)) : ∀ k i sum, i + k = th → S_val nd vs th x k i sum = S_val nd' vs' th x k i sum := by
  intro k
  induction k with
  | zero => intro i sum _; rfl
  | succ k ih =>
    intro i sum hi
    have h1 : S_trm nd vs th x i = S_trm nd' vs' th x i := by
      unfold S_trm
      rw [S_AB_congr x (show i < th by omega) h th 0 _ _ (by omega), hv i (by omega), h i (by omega)]
    show S_val nd vs th x k (i + 1) _ = S_val nd' vs' th x k (i + 1) _
    rw [h1]
    exact ih _ _ (by omega)
theorem S_val_lt (nd vs : Nat → Nat) (th x : Nat) : ∀ k i sum, sum < 1019 → S_val nd vs th x k i sum < 1019 := by
  intro k
  induction k with
  | zero => intro i sum h; exact h
  | succ k ih => intro i sum _; exact ih _ _ (Nat.mod_lt _ (by omega))
theorem z_vt31 {nd vs : Nat → Nat} {th x i sum : Nat} {K : Int32 → Int32 → Option Int32} (hx : x ≤ 24) (hth : th ≤ 8) (hi : i < th) (hn : ∀ j, j < th → nd j ≤ 24) (hsum : sum < 1019) :
    ∀ k n j a b, j + k = th → k < n → a < 1019 → b < 1019 → F_X7_valueThrough_L31 (nI th) (L nd) (nI x) K n (nI sum) (nI i) (nI a) (nI b) (nI j) = K (nI ((sum + (S_AB nd x i k j a b).1 * ((S_AB nd x i k j a b).2 ^ 1017 % 1019)) % 1019)) (nI (i + 1)) := by
  intro k
  induction k with
  | zero =>
    intro n j a b hj hk ha hb
    obtain ⟨n, rfl⟩ := z_fuel hk
    have h0 : th ≤ j := by omega
    have h1 : b ^ 1017 % 1019 < 1019 := Nat.mod_lt _ (by omega)
    have h2 : a * (b ^ 1017 % 1019) ≤ 1018 * 1018 := q_mulle (by omega) (by omega)
    rw [F_X7_valueThrough_L31]
    simp (disch := omega) only [q_lit, q_leI, h0, if_true, z_inverse, Option.bind_some, q_gl, nI_add, pk_mul, pk_div, q_rem, pk_sub, q_mod]
    rfl
  | succ k ih =>
    intro n j a b hj hk ha hb
    obtain ⟨n, rfl⟩ := z_fuel (show 0 < n by omega)
    have h0 : ¬ th ≤ j := by omega
    have h1 := dm_lt x (nd j)
    have h2 := dm_lt (nd i) (nd j)
    have h3 : a * dm x (nd j) ≤ 1018 * 1018 := q_mulle (by omega) (by omega)
    have h4 : b * dm (nd i) (nd j) ≤ 1018 * 1018 := q_mulle (by omega) (by omega)
    have e1 := z_fm hx (hn j (by omega))
    have e2 := z_fm (hn i hi) (hn j (by omega))
    rw [F_X7_valueThrough_L31]
    unfold F_X7_valueThrough_L92 S_AB
    simp (disch := omega) only [q_lit, q_leI, h0, if_false, q_eqI, q_gi, q_gg, q_gl, q_cl, L_app, e1, e2, Option.bind_some, nI_add, pk_mul, pk_div, q_rem, q_mod, pk_sub]
    by_cases hji : j = i
    · rw [if_pos hji, if_pos hji, ih n (j + 1) a b (by omega) (by omega) ha hb]
    · rw [if_neg hji, if_neg hji, ih n (j + 1) _ _ (by omega) (by omega) (Nat.mod_lt _ (by omega)) (Nat.mod_lt _ (by omega))]
theorem z_vt5 {nd vs : Nat → Nat} {th x : Nat} (hx : x ≤ 24) (hth : th ≤ 8) (hn : ∀ j, j < th → nd j ≤ 24) (hv : ∀ p, p ≤ 24 → vs p < 1019) :
    ∀ k n i sum, i + k = th → k < n → sum < 1019 → F_X7_valueThrough_L5 (nI th) (L vs) (L nd) (nI x) n (nI sum) (nI i) = some (nI (S_val nd vs th x k i sum)) := by
  intro k
  induction k with
  | zero =>
    intro n i sum hi hk hs
    obtain ⟨n, rfl⟩ := z_fuel hk
    have h0 : th ≤ i := by omega
    rw [F_X7_valueThrough_L5]
    simp (disch := omega) only [q_leI, h0, if_true]
    rfl
  | succ k ih =>
    intro n i sum hi hk hs
    obtain ⟨n, rfl⟩ := z_fuel (show 0 < n by omega)
    have h0 : ¬ th ≤ i := by omega
    have h1 := hn i (by omega)
    have h2 := hv (nd i) h1
    rw [F_X7_valueThrough_L5]
    simp (disch := omega) only [q_lit, q_leI, h0, if_false, q_gi, q_gg, q_gl, q_cl, L_app]
    rw [z_vt31 (vs := vs) hx hth (by omega) hn hs th 1000 0 _ 1 (by omega) (by omega) h2 (by omega), ih n (i + 1) _ (by omega) (by omega) (Nat.mod_lt _ (by omega))]
    rfl
theorem z_valueThrough {nd vs : Nat → Nat} {th x : Nat} (hx : x ≤ 24) (hth : th ≤ 8) (hn : ∀ j, j < th → nd j ≤ 24) (hv : ∀ p, p ≤ 24 → vs p < 1019) : F_X7_valueThrough (nI th) (L vs) (L nd) (nI x) = some (nI (S_val nd vs th x th 0 0)) := by
  unfold F_X7_valueThrough
  simp only [q_lit]
  exact z_vt5 hx hth hn hv th 1000 0 0 (by omega) (by omega) (by omega)
theorem z_va30 {nd : Nat → Nat} {th x i sum : Nat} {K : Int32 → Int32 → Option Int32} (hx : x ≤ 24) (hth : th ≤ 8) (hi : i < th) (hn : ∀ j, j < th → nd j ≤ 24) (hsum : sum < 1019) :
    ∀ k n j a b, j + k = th → k < n → a < 1019 → b < 1019 → F_X11_valueAt_L30 (L nd) (nI th) (nI x) K n (nI sum) (nI i) (nI (a * (b ^ 1017 % 1019) % 1019)) (nI j) = K (nI ((sum + (S_AB nd x i k j a b).1 * ((S_AB nd x i k j a b).2 ^ 1017 % 1019)) % 1019)) (nI (i + 1)) := by
  intro k
  induction k with
  | zero =>
    intro n j a b hj hk ha hb
    obtain ⟨n, rfl⟩ := z_fuel hk
    have h0 : th ≤ j := by omega
    have h2 : a * (b ^ 1017 % 1019) % 1019 < 1019 := Nat.mod_lt _ (by omega)
    rw [F_X11_valueAt_L30]
    simp (disch := omega) only [q_lit, q_leI, h0, if_true, q_gl, nI_add, pk_mul, pk_div, q_rem, pk_sub, q_mod]
    rw [Nat.add_mod_mod]
    rfl
  | succ k ih =>
    intro n j a b hj hk ha hb
    obtain ⟨n, rfl⟩ := z_fuel (show 0 < n by omega)
    have h0 : ¬ th ≤ j := by omega
    have h1 := dm_lt x (nd j)
    have h2 := dm_lt (nd i) (nd j)
    have h6 : a * (b ^ 1017 % 1019) % 1019 < 1019 := Nat.mod_lt _ (by omega)
    have h7 : dm (nd i) (nd j) ^ 1017 % 1019 < 1019 := Nat.mod_lt _ (by omega)
    have h3 : (a * (b ^ 1017 % 1019) % 1019) * dm x (nd j) ≤ 1018 * 1018 := q_mulle (by omega) (by omega)
    have h8 : (a * (b ^ 1017 % 1019) % 1019) * dm x (nd j) % 1019 < 1019 := Nat.mod_lt _ (by omega)
    have h9 : (a * (b ^ 1017 % 1019) % 1019) * dm x (nd j) % 1019 * (dm (nd i) (nd j) ^ 1017 % 1019) ≤ 1018 * 1018 := q_mulle (by omega) (by omega)
    have e1 := z_dm hx (hn j (by omega))
    have e2 := z_dm (hn i hi) (hn j (by omega))
    have d1 : (x + 1019 - nd j) % 1019 = dm x (nd j) := rfl
    have d2 : (nd i + 1019 - nd j) % 1019 = dm (nd i) (nd j) := rfl
    have hnj := hn j (by omega)
    have hni := hn i hi
    rw [F_X11_valueAt_L30]
    unfold F_X11_valueAt_L104 S_AB
    simp (disch := omega) only [q_lit, q_leI, h0, if_false, q_eqI, q_gi, q_gg, q_gl, q_cl, L_app, e1, e2, pk_div, pk_mul, q_rem, pk_sub, q_mod, d1, d2, z_X11_inverse, Option.bind_some, nI_add]
    by_cases hji : j = i
    · rw [if_pos hji, if_pos hji, ih n (j + 1) a b (by omega) (by omega) ha hb]
    · rw [if_neg hji, if_neg hji]
      have key : a * (b ^ 1017 % 1019) % 1019 * dm x (nd j) % 1019 * (dm (nd i) (nd j) ^ 1017 % 1019) % 1019 = (a * dm x (nd j) % 1019) * ((b * dm (nd i) (nd j) % 1019) ^ 1017 % 1019) % 1019 := by
        rw [← Nat.pow_mod, Nat.mul_pow]
        simp only [Nat.mul_mod, Nat.mod_mod]
        simp only [← Nat.mul_mod]
        congr 1
        simp only [Nat.mul_assoc, Nat.mul_comm, Nat.mul_left_comm]
      rw [key, ih n (j + 1) _ _ (by omega) (by omega) (Nat.mod_lt _ (by omega)) (Nat.mod_lt _ (by omega))]
theorem z_va6 {w nd vs es : Nat → Nat} {s th x : Nat} (hs : s < 4) (hR : RSh w s vs es) (hx : x ≤ 24) (hth : th ≤ 8) (hn : ∀ j, j < th → 1 ≤ nd j ∧ nd j ≤ 24) (hv : ∀ p, p ≤ 24 → vs p < 1019) :
    ∀ k n i sum, i + k = th → k < n → sum < 1019 → F_X11_valueAt_L6 (L w) (L nd) (nI s) (nI th) (nI x) n (nI sum) (nI i) = some (nI (S_val nd vs th x k i sum)) := by
  intro k
  induction k with
  | zero =>
    intro n i sum hi hk hsum
    obtain ⟨n, rfl⟩ := z_fuel hk
    have h0 : th ≤ i := by omega
    rw [F_X11_valueAt_L6]
    simp (disch := omega) only [q_leI, h0, if_true]
    rfl
  | succ k ih =>
    intro n i sum hi hk hsum
    obtain ⟨n, rfl⟩ := z_fuel (show 0 < n by omega)
    have h0 : ¬ th ≤ i := by omega
    have h1 := hn i (by omega)
    have h2 := hv (nd i) h1.2
    have e1 := z_va30 (nd := nd) (K := F_X11_valueAt_L6 (L w) (L nd) (nI s) (nI th) (nI x) n) hx hth (show i < th by omega) (fun j hj => (hn j hj).2) hsum th 1000 0 (vs (nd i)) 1 (by omega) (by omega) h2 (by omega)
    rw [Nat.one_pow, show 1 % 1019 = 1 from rfl, Nat.mul_one, Nat.mod_eq_of_lt h2] at e1
    rw [F_X11_valueAt_L6]
    simp (disch := omega) only [q_lit, q_leI, h0, if_false, q_gi, q_gg, q_cl, L_app]
    rw [hR.v hs h1.1 h1.2]
    simp only [Option.bind_some]
    rw [e1, ih n (i + 1) _ (by omega) (by omega) (Nat.mod_lt _ (by omega))]
    rfl
theorem z_valueAt {w nd vs es : Nat → Nat} {s th x : Nat} (hs : s < 4) (hR : RSh w s vs es) (hx : x ≤ 24) (hth : th ≤ 8) (hn : ∀ j, j < th → 1 ≤ nd j ∧ nd j ≤ 24) (hv : ∀ p, p ≤ 24 → vs p < 1019) : F_X11_valueAt (L w) (L nd) (nI s) (nI th) (nI x) = some (nI (S_val nd vs th x th 0 0)) := by
  unfold F_X11_valueAt
  simp only [q_lit]
  exact z_va6 hs hR hx hth hn hv th 1000 0 0 (by omega) (by omega) (by omega)
/-! the chosen places -/
def S_nodes (P : Nat → Bool) : Nat → Nat → List Nat
  | _, 0 => []
  | s, k + 1 => if P s then s :: S_nodes P (s + 1) k else S_nodes P (s + 1) k
theorem S_nodes_s (P : Nat → Bool) (s k : Nat) : S_nodes P s (k + 1) = if P s then s :: S_nodes P (s + 1) k else S_nodes P (s + 1) k := rfl
theorem S_nodes_len (P : Nat → Bool) : ∀ k s, (S_nodes P s k).length = cntP P s k := by
  intro k
  induction k with
  | zero => intro s; rfl
  | succ k ih =>
    intro s
    rw [S_nodes_s, cntP_s]
    cases h : P s
    · rw [if_neg (by simp), ih]; simp
    · rw [if_pos rfl, List.length_cons, ih]; simp; omega
theorem S_nodes_in (P : Nat → Bool) : ∀ k s i, i < (S_nodes P s k).length → s ≤ (S_nodes P s k).getD i 0 ∧ (S_nodes P s k).getD i 0 < s + k := by
  intro k
  induction k with
  | zero => intro s i h; exact absurd h (Nat.not_lt_zero _)
  | succ k ih =>
    intro s i h
    rw [S_nodes_s] at h ⊢
    cases hP : P s with
    | false =>
      rw [hP, if_neg (by simp)] at h
      rw [if_neg (by simp)]
      have := ih (s + 1) i h
      omega
    | true =>
      rw [hP, if_pos rfl] at h
      rw [if_pos rfl]
      cases i with
      | zero => simp
      | succ i =>
        rw [List.getD_cons_succ]
        have := ih (s + 1) i (by simpa using h)
        omega
theorem S_nodes_congr {P Q : Nat → Bool} : ∀ k s, (∀ i, s ≤ i → i < s + k → P i = Q i) → S_nodes P s k = S_nodes Q s k := by
  intro k
  induction k with
  | zero => intro s _; rfl
  | succ k ih =>
    intro s h
    rw [S_nodes_s, S_nodes_s]
    rw [h s (Nat.le_refl s) (by omega), ih (s + 1) (fun i h1 h2 => h i (by omega) (by omega))]
def chP (th ep : Nat) (cm vs es : Nat → Nat) (m : Nat) (good : Bool) (p : Nat) : Bool := m.testBit ((p - 1) / 3) && (decide (es p ≠ 0) && (!good || decide (S_state th ep cm (vs p) (es p) p = 0)))
theorem z_tellNodes_L {w : Nat → Nat} {s th ep m : Nat} {cm vs es : Nat → Nat} (hs : s < 4) (hR : RS w s th ep cm vs es) (hm : m < 256) (good : Bool) : ∀ k n p acc nd, p + k = 25 → 1 ≤ p → k < n → acc + k ≤ 24 →
    ∃ nd', F_X11_tellNodes_L8 (L w) (nI s) (nI m) (nI good.toNat) n (L nd) (nI acc) (nI p) = some (L nd', nI (acc + (S_nodes (chP th ep cm vs es m good) p k).length)) ∧ (∀ i, i < acc → nd' i = nd i) ∧ ∀ i, i < (S_nodes (chP th ep cm vs es m good) p k).length → nd' (acc + i) = (S_nodes (chP th ep cm vs es m good) p k).getD i 0 := by
  intro k
  induction k with
  | zero =>
    intro n p acc nd hp h1 hn ha
    obtain ⟨n, rfl⟩ := z_fuel hn
    have h0 : 24 < p := by omega
    refine ⟨nd, ?_, fun i _ => rfl, fun i hi => absurd hi (Nat.not_lt_zero _)⟩
    rw [F_X11_tellNodes_L8]
    simp (disch := omega) only [q_lit, q_ltI, h0, if_true]
    rfl
  | succ k ih =>
    intro n p acc nd hp h1 hn ha
    obtain ⟨n, rfl⟩ := z_fuel (show 0 < n by omega)
    have h0 : ¬ 24 < p := by omega
    have hst := @S_state_lt cm th ep (vs p) (es p) p
    rw [F_X11_tellNodes_L8]
    unfold F_X11_tellNodes_L52 F_X11_tellNodes_L73
    simp (disch := omega) only [q_lit, q_ltI, h0, if_false, z_owner, Option.bind_some, q_bit, hR.1.has hs h1 (show p ≤ 24 by omega), hR.st hs h1 (show p ≤ 24 by omega), q_b0, q_eqI, q_gi, q_gg, q_gl, q_cl, L_upd, nI_add]
    obtain ⟨a1, b1, b2, b3⟩ := ih n (p + 1) acc nd (by omega) (by omega) (by omega) (by omega)
    obtain ⟨a2, c1, c2, c3⟩ := ih n (p + 1) (acc + 1) (updN nd acc p) (by omega) (by omega) (by omega) (by omega)
    have hP : chP th ep cm vs es m good p = (m.testBit ((p - 1) / 3) && (decide (es p ≠ 0) && (!good || decide (S_state th ep cm (vs p) (es p) p = 0)))) := rfl
    rw [b1, c1]
    cases hc : chP th ep cm vs es m good p with
    | false =>
      refine ⟨a1, ?_, b2, ?_⟩
      · rw [S_nodes_s]
        rw [hc, if_neg (show ¬ (false = true) by simp)]
        rw [hP] at hc
        cases h2 : m.testBit ((p - 1) / 3) with
        | false => simp
        | true =>
          by_cases h3 : es p = 0
          · simp [h3]
          · cases good with
            | false => simp [h2, h3] at hc
            | true =>
              by_cases h4 : S_state th ep cm (vs p) (es p) p = 0
              · simp [h2, h3, h4] at hc
              · simp [h3, h4]
      · rw [S_nodes_s]
        rw [hc, if_neg (show ¬ (false = true) by simp)]
        exact b3
    | true =>
      refine ⟨a2, ?_, fun i hi => ?_, ?_⟩
      · rw [S_nodes_s]
        rw [hc, if_pos rfl, List.length_cons]
        rw [hP] at hc
        have hl : acc + 1 + (S_nodes (chP th ep cm vs es m good) (p + 1) k).length = acc + ((S_nodes (chP th ep cm vs es m good) (p + 1) k).length + 1) := by omega
        rw [hl]
        cases h2 : m.testBit ((p - 1) / 3) with
        | false => simp [h2] at hc
        | true =>
          by_cases h3 : es p = 0
          · simp [h2, h3] at hc
          · cases good with
            | false => simp [h3]
            | true =>
              by_cases h4 : S_state th ep cm (vs p) (es p) p = 0
              · simp [h3, h4]
              · simp [h2, h3, h4] at hc
      · rw [c2 i (by omega), uN_n _ _ (by omega)]
      · rw [S_nodes_s]
        rw [hc, if_pos rfl, List.length_cons]
        intro i hi
        cases i with
        | zero => rw [List.getD_cons_zero, Nat.add_zero, c2 acc (by omega), uN_s]
        | succ i =>
          rw [List.getD_cons_succ, ← c3 i (by omega)]
          congr 1
          omega
theorem z_tellNodes {w : Nat → Nat} {s th ep m : Nat} {cm vs es : Nat → Nat} (hs : s < 4) (hR : RS w s th ep cm vs es) (hm : m < 256) (good : Bool) (nd : Nat → Nat) (x : Int32) :
    ∃ nd', F_X11_tellNodes (L w) (L nd) x (nI s) (nI m) (nI good.toNat) = some (L nd', nI (S_nodes (chP th ep cm vs es m good) 1 24).length) ∧ ∀ i, i < (S_nodes (chP th ep cm vs es m good) 1 24).length → nd' i = (S_nodes (chP th ep cm vs es m good) 1 24).getD i 0 := by
  obtain ⟨nd', h1, -, h3⟩ := z_tellNodes_L hs hR hm good 24 1000 1 0 nd (by omega) (by omega) (by omega) (by omega)
  rw [Nat.zero_add] at h1
  refine ⟨nd', ?_, fun i hi => ?_⟩
  · unfold F_X11_tellNodes
    simp only [q_lit]
    exact h1
  · have := h3 i hi
    rw [Nat.zero_add] at this
    exact this
theorem z_choose_L {th ep m : Nat} {cm vs es : Nat → Nat} (ok : okS th ep cm vs es) (hm : m < 256) (good : Bool) : ∀ k n p acc nd, p + k = 25 → 1 ≤ p → k < n → acc ≤ th →
    ∃ nd' c, F_X10_choose_L6 (nI th) (nI ep) (L cm) (L vs) (L es) (nI m) (nI good.toNat) n (L nd) (nI acc) (nI p) = some (nI c, L nd') ∧ c = min th (acc + (S_nodes (chP th ep cm vs es m good) p k).length) ∧ (∀ i, i < acc → nd' i = nd i) ∧ ∀ i, acc + i < th → i < (S_nodes (chP th ep cm vs es m good) p k).length → nd' (acc + i) = (S_nodes (chP th ep cm vs es m good) p k).getD i 0 := by
  have hth := ok.1
  intro k
  induction k with
  | zero =>
    intro n p acc nd hp h1 hn ha
    obtain ⟨n, rfl⟩ := z_fuel hn
    have h0 : 24 < p := by omega
    refine ⟨nd, acc, ?_, ?_, fun i _ => rfl, fun i _ hi => absurd hi (Nat.not_lt_zero _)⟩
    · rw [F_X10_choose_L6]
      unfold F_X10_choose_L74
      simp (disch := omega) only [q_lit, q_ltI, h0, if_true]
    · show acc = min th (acc + 0)
      omega
  | succ k ih =>
    intro n p acc nd hp h1 hn ha
    obtain ⟨n, rfl⟩ := z_fuel (show 0 < n by omega)
    have h0 : ¬ 24 < p := by omega
    have hst := @S_state_lt cm th ep (vs p) (es p) p
    have hes := ok.2.2.2.2 p (by omega)
    rw [F_X10_choose_L6]
    unfold F_X10_choose_L74 F_X10_choose_L56 F_X10_choose_L68
    by_cases hfull : th ≤ acc
    · refine ⟨nd, acc, ?_, by omega, fun i _ => rfl, fun i hi _ => by omega⟩
      simp (disch := omega) only [q_lit, q_ltI, h0, if_false, q_leI, hfull, if_true]
    · simp (disch := omega) only [q_lit, q_ltI, h0, if_false, q_leI, hfull, z_ownerOf, Option.bind_some, z_contains, z_holds, ok.st (show p ≤ 24 by omega), q_b0, q_eqI, q_gi, q_gg, q_gl, q_cl, L_upd, nI_add]
      obtain ⟨a1, d1, b1, b0, b2, b3⟩ := ih n (p + 1) acc nd (by omega) (by omega) (by omega) ha
      obtain ⟨a2, d2, c1, c0, c2, c3⟩ := ih n (p + 1) (acc + 1) (updN nd acc p) (by omega) (by omega) (by omega) (by omega)
      have hP : chP th ep cm vs es m good p = (m.testBit ((p - 1) / 3) && (decide (es p ≠ 0) && (!good || decide (S_state th ep cm (vs p) (es p) p = 0)))) := rfl
      rw [b1, c1]
      cases hc : chP th ep cm vs es m good p with
      | false =>
        refine ⟨a1, d1, ?_, ?_, b2, ?_⟩
        · rw [hP] at hc
          cases h2 : m.testBit ((p - 1) / 3) with
          | false => simp
          | true =>
            by_cases h3 : es p = 0
            · simp [h3]
            · cases good with
              | false => simp [h2, h3] at hc
              | true =>
                by_cases h4 : S_state th ep cm (vs p) (es p) p = 0
                · simp [h2, h3, h4] at hc
                · simp [h3, h4]
        · rw [S_nodes_s]
          rw [hc, if_neg (show ¬ (false = true) by simp)]
          exact b0
        · rw [S_nodes_s]
          rw [hc, if_neg (show ¬ (false = true) by simp)]
          exact b3
      | true =>
        refine ⟨a2, d2, ?_, ?_, fun i hi => ?_, ?_⟩
        · rw [hP] at hc
          cases h2 : m.testBit ((p - 1) / 3) with
          | false => simp [h2] at hc
          | true =>
            by_cases h3 : es p = 0
            · simp [h2, h3] at hc
            · cases good with
              | false => simp [h3]
              | true =>
                by_cases h4 : S_state th ep cm (vs p) (es p) p = 0
                · simp [h3, h4]
                · simp [h2, h3, h4] at hc
        · rw [S_nodes_s]
          rw [hc, if_pos rfl, List.length_cons, c0]
          omega
        · rw [c2 i (by omega), uN_n _ _ (by omega)]
        · rw [S_nodes_s]
          rw [hc, if_pos rfl, List.length_cons]
          intro i hi hi2
          cases i with
          | zero => rw [List.getD_cons_zero, Nat.add_zero, c2 acc (by omega), uN_s]
          | succ i =>
            rw [List.getD_cons_succ, ← c3 i (by omega) (by omega)]
            congr 1
            omega
theorem z_choose {th ep m : Nat} {cm vs es : Nat → Nat} (ok : okS th ep cm vs es) (hm : m < 256) (good : Bool) (nd : Nat → Nat) :
    ∃ nd', F_X10_choose (L nd) (nI th) (nI ep) (L cm) (L vs) (L es) (nI m) (nI good.toNat) = some (nI (min th (S_nodes (chP th ep cm vs es m good) 1 24).length), L nd') ∧ ∀ i, i < th → i < (S_nodes (chP th ep cm vs es m good) 1 24).length → nd' i = (S_nodes (chP th ep cm vs es m good) 1 24).getD i 0 := by
  obtain ⟨nd', c, h1, h0, -, h3⟩ := z_choose_L ok hm good 24 1000 1 0 nd (by omega) (by omega) (by omega) (by omega)
  rw [Nat.zero_add] at h0
  subst h0
  refine ⟨nd', ?_, fun i hi hi2 => ?_⟩
  · unfold F_X10_choose
    simp only [q_lit]
    exact h1
  · have := h3 i (by omega) hi2
    rw [Nat.zero_add] at this
    exact this
