/-! PURE: loops over places, members, coefficients -/
theorem z_fuel {n : Nat} (h : 0 < n) : ∃ m, n = m + 1 := ⟨n - 1, by omega⟩
theorem z_shareCount_L {es : Nat → Nat} {m : Nat} (hm : m < 256) (he : ∀ p, p ≤ 24 → es p < 10000) : ∀ k n s acc, s + k = 25 → 1 ≤ s → k < n → F_X7_shareCount_L4 (L es) (nI m) n (nI acc) (nI s) = some (nI (acc + cntP (fun p => m.testBit ((p - 1) / 3) && decide (es p ≠ 0)) s k)) := by
  intro k
  induction k with
  | zero =>
    intro n s acc hs h1 hn
    obtain ⟨n, rfl⟩ := z_fuel hn
    have h0 : 24 < s := by omega
    rw [F_X7_shareCount_L4]
    simp (disch := omega) only [q_lit, q_ltI, h0, if_true]
    rfl
  | succ k ih =>
    intro n s acc hs h1 hn
    obtain ⟨n, rfl⟩ := z_fuel (show 0 < n by omega)
    have h0 : ¬ 24 < s := by omega
    have h5 := he s (by omega)
    rw [F_X7_shareCount_L4]
    unfold F_X7_shareCount_L34 F_X7_shareCount_L35
    simp (disch := omega) only [q_lit, q_ltI, h0, if_false, z_ownerOf, Option.bind_some, z_contains, z_holds, q_b0, nI_add]
    have e1 := ih n (s + 1) (acc + 0) (by omega) (by omega) (by omega)
    have e2 := ih n (s + 1) (acc + 1) (by omega) (by omega) (by omega)
    rw [e1, e2]
    rw [cntP_s]
    cases hb : m.testBit ((s - 1) / 3) with
    | false => simp
    | true =>
      by_cases h6 : es s = 0
      · simp [h6]
      · simp [h6, Nat.add_assoc]
theorem z_shareCount {es : Nat → Nat} {m : Nat} (hm : m < 256) (he : ∀ p, p ≤ 24 → es p < 10000) : F_X7_shareCount (L es) (nI m) = some (nI (cntP (fun p => m.testBit ((p - 1) / 3) && decide (es p ≠ 0)) 1 24)) := by
  unfold F_X7_shareCount
  simp only [q_lit]
  rw [z_shareCount_L hm he 24 1000 1 0 (by omega) (by omega) (by omega), Nat.zero_add]
/-- what a secret's cells keep to -/
def okS (th ep : Nat) (cm vs es : Nat → Nat) : Prop := th ≤ 8 ∧ ep < 10000 ∧ (∀ j, j < 8 → cm j < 2039) ∧ (∀ p, p ≤ 24 → vs p < 1019) ∧ ∀ p, p ≤ 24 → es p < 10000
theorem okS.st {th ep : Nat} {cm vs es : Nat → Nat} (h : okS th ep cm vs es) {p : Nat} (hp : p ≤ 24) : F_X7_stateOf (nI th) (nI ep) (L cm) (L vs) (L es) (nI p) = some (nI (S_state th ep cm (vs p) (es p) p)) := by
  obtain ⟨h1, h2, h3, h4, h5⟩ := h
  have := h5 p hp
  exact z_stateOf hp h1 h3 (h4 p hp) (by omega) (by omega)
theorem okS.hg {th ep : Nat} {cm vs es : Nat → Nat} (h : okS th ep cm vs es) {p : Nat} (hp : p ≤ 24) : F_X7_holdsGood (nI th) (nI ep) (L cm) (L vs) (L es) (nI p) = some (nI (decide (es p ≠ 0) && decide (S_state th ep cm (vs p) (es p) p = 0)).toNat) := by
  obtain ⟨h1, h2, h3, h4, h5⟩ := h
  have := h5 p hp
  exact z_holdsGood hp h1 h3 (h4 p hp) (by omega) (by omega)
theorem z_shareCount__L {th ep m x : Nat} {cm vs es : Nat → Nat} (ok : okS th ep cm vs es) (hm : m < 256) (hx : x < 3) : ∀ k n s acc, s + k = 25 → 1 ≤ s → k < n → F_X7_shareCount__L5 (nI th) (nI ep) (L cm) (L vs) (L es) (nI m) (nI x) n (nI acc) (nI s) = some (nI (acc + cntP (fun p => m.testBit ((p - 1) / 3) && (decide (es p ≠ 0) && decide (S_state th ep cm (vs p) (es p) p = x))) s k)) := by
  intro k
  induction k with
  | zero =>
    intro n s acc hs h1 hn
    obtain ⟨n, rfl⟩ := z_fuel hn
    have h0 : 24 < s := by omega
    rw [F_X7_shareCount__L5]
    simp (disch := omega) only [q_lit, q_ltI, h0, if_true]
    rfl
  | succ k ih =>
    intro n s acc hs h1 hn
    obtain ⟨n, rfl⟩ := z_fuel (show 0 < n by omega)
    have h0 : ¬ 24 < s := by omega
    have h5 := ok.2.2.2.2 s (by omega)
    have hst := @S_state_lt cm th ep (vs s) (es s) s
    rw [F_X7_shareCount__L5]
    unfold F_X7_shareCount__L46
    simp (disch := omega) only [q_lit, q_ltI, h0, if_false, z_ownerOf, Option.bind_some, z_contains, z_holds, ok.st (p := s) (by omega), q_b0, nI_add, q_eqI]
    have e1 := ih n (s + 1) acc (by omega) (by omega) (by omega)
    have e2 := ih n (s + 1) (acc + 1) (by omega) (by omega) (by omega)
    rw [e1, e2]
    rw [cntP_s]
    cases hb : m.testBit ((s - 1) / 3) with
    | false => simp
    | true =>
      by_cases h6 : es s = 0
      · simp [h6]
      · by_cases h7 : S_state th ep cm (vs s) (es s) s = x
        · simp [h6, h7, Nat.add_assoc]
        · simp [h6, h7]
theorem z_shareCount_ {th ep m x : Nat} {cm vs es : Nat → Nat} (ok : okS th ep cm vs es) (hm : m < 256) (hx : x < 3) : F_X7_shareCount_ (nI th) (nI ep) (L cm) (L vs) (L es) (nI m) (nI x) = some (nI (cntP (fun p => m.testBit ((p - 1) / 3) && (decide (es p ≠ 0) && decide (S_state th ep cm (vs p) (es p) p = x))) 1 24)) := by
  unfold F_X7_shareCount_
  simp only [q_lit]
  rw [z_shareCount__L ok hm hx 24 1000 1 0 (by omega) (by omega) (by omega), Nat.zero_add]
/-! polynomials -/
def S_pol (co : Nat → Nat) (x : Nat) : Nat → Nat → Nat
  | 0, v => v
  | k + 1, v => S_pol co x k ((v * x + co k) % 1019)
theorem S_pol_lt (co : Nat → Nat) (x : Nat) : ∀ k v, v < 1019 → S_pol co x k v < 1019 := by
  intro k
  induction k with
  | zero => intro v h; exact h
  | succ k ih => intro v _; exact ih _ (Nat.mod_lt _ (by omega))
theorem S_pol_congr {co co' : Nat → Nat} (x : Nat) : ∀ k v, (∀ j, j < k → co j = co' j) → S_pol co x k v = S_pol co' x k v := by
  intro k
  induction k with
  | zero => intro v _; rfl
  | succ k ih =>
    intro v h
    show S_pol co x k _ = S_pol co' x k _
    rw [h k (by omega), ih _ (fun j hj => h j (by omega))]
theorem z_m1s (k : Nat) : nI (k + 1) + -nI 1 = nI k := by rw [q_m1 (by omega)]; rfl
theorem z_sub1 (a : Nat) : nI a - nI 1 = nI a + -nI 1 := Int32.sub_eq_add_neg ..
theorem z_polyAt_L {co : Nat → Nat} {x K : Nat} (hx : x ≤ 24) (hK : K ≤ 8) (hc : ∀ j, j < K → co j < 1019) : ∀ k n v, k < n → k ≤ K → v < 1019 → F_X2_polynomialAt_L7 (L co) (nI x) n (nI v) (nI k + -nI 1) = some (nI (S_pol co x k v)) := by
  intro k
  induction k with
  | zero =>
    intro n v hn _ _
    obtain ⟨n, rfl⟩ := z_fuel hn
    rw [F_X2_polynomialAt_L7]
    simp only [q_lit, q_m10, q_mlt, if_true]
    rfl
  | succ k ih =>
    intro n v hn hk hv
    obtain ⟨n, rfl⟩ := z_fuel (show 0 < n by omega)
    have h0 : ¬ k < 0 := by omega
    have h1 := hc k (by omega)
    have h2 : v * x ≤ 1018 * 24 := q_mulle (by omega) hx
    rw [F_X2_polynomialAt_L7, z_m1s]
    simp (disch := omega) only [q_lit, q_ltI, h0, if_false, q_gi, q_gg, q_gl, q_cl, L_app, nI_add, pk_mul, pk_div, q_rem, pk_sub, q_mod]
    rw [ih n _ (by omega) (by omega) (Nat.mod_lt _ (by omega))]
    rfl
theorem z_polyAt {co : Nat → Nat} {x k : Nat} (hx : x ≤ 24) (hk : k ≤ 8) (hc : ∀ j, j < k → co j < 1019) : F_X2_polynomialAt (L co) (nI x) (nI k) = some (nI (S_pol co x k 0)) := by
  unfold F_X2_polynomialAt
  simp only [q_lit, z_sub1]
  exact z_polyAt_L hx hk hc k 1000 0 (by omega) (Nat.le_refl k) (by omega)
theorem z_poly_L {co : Nat → Nat} {x K : Nat} (hx : x ≤ 24) (hK : K ≤ 8) (hc : ∀ j, j < K → co j < 1019) : ∀ k n v, k < n → k ≤ K → v < 1019 → F_X11_polynomial_L7 (L co) (nI x) n (nI v) (nI k + -nI 1) = some (nI (S_pol co x k v)) := by
  intro k
  induction k with
  | zero =>
    intro n v hn _ _
    obtain ⟨n, rfl⟩ := z_fuel hn
    rw [F_X11_polynomial_L7]
    simp only [q_lit, q_m10, q_mlt, if_true]
    rfl
  | succ k ih =>
    intro n v hn hk hv
    obtain ⟨n, rfl⟩ := z_fuel (show 0 < n by omega)
    have h0 : ¬ k < 0 := by omega
    have h1 := hc k (by omega)
    have h2 : v * x ≤ 1018 * 24 := q_mulle (by omega) hx
    rw [F_X11_polynomial_L7, z_m1s]
    simp (disch := omega) only [q_lit, q_ltI, h0, if_false, q_gi, q_gg, q_gl, q_cl, L_app, nI_add, pk_mul, pk_div, q_rem, pk_sub, q_mod]
    rw [ih n _ (by omega) (by omega) (Nat.mod_lt _ (by omega))]
    rfl
theorem z_poly {co : Nat → Nat} {x k : Nat} (hx : x ≤ 24) (hk : k ≤ 8) (hc : ∀ j, j < k → co j < 1019) : F_X11_polynomial (L co) (nI k) (nI x) = some (nI (S_pol co x k 0)) := by
  unfold F_X11_polynomial
  simp only [q_lit, z_sub1]
  exact z_poly_L hx hk hc k 1000 0 (by omega) (Nat.le_refl k) (by omega)
/-! drawn numbers -/
def nz (z : Int32) : Int32 := z * 1103515245 + 12345
def dr (z : Int32) : Int32 := ((Int32.toUInt32 (nz z) >>> (Int32.toUInt32 16 &&& Int32.toUInt32 31)).toInt32) - ((Int32.toUInt32 (nz z) >>> (Int32.toUInt32 16 &&& Int32.toUInt32 31)).toInt32) / 1019 * 1019
def drN (z : Int32) : Nat := tw (nz z) / 65536 % 1019
theorem dr_eq (z : Int32) : dr z = nI (drN z) := by
  have h := pk_ushrN (n := tw (nz z)) (tw_lt _) 16 16 (by decide)
  rw [nI_tw] at h
  have h2 := tw_lt (nz z)
  unfold dr drN
  rw [h]
  have h3 : tw (nz z) / 2 ^ 16 < 65536 := by omega
  simp (disch := omega) only [q_lit, pk_div, pk_mul, q_rem, pk_sub, q_mod]
theorem drN_lt (z : Int32) : drN z < 1019 := Nat.mod_lt _ (by omega)
theorem z_next (z : Int32) : F_X9_nextNumber z = some (nI (drN z), nz z) := by
  rw [← dr_eq]
  rfl
theorem L_upd0 (w : Nat → Nat) (z : Int32) (k : Nat) : upd (L w) k z = L (updN w k (tw z)) := by
  rw [← L_upd, nI_tw]
theorem z_drawn (w : Nat → Nat) : F_X11_drawn (L w) = some (nI (drN (nI (w 0))), L (updN w 0 (tw (nz (nI (w 0)))))) := by
  rw [← dr_eq, ← L_upd0]
  have h : gi (nI 0) 534 = true := by decide
  have h0 : upd (L w) 0 (nz (nI (w 0))) 0 = nz (nI (w 0)) := pk_us
  have h1 : (nI 0).toNatClampNeg = 0 := by decide
  unfold F_X11_drawn
  have h2 : L w 0 = nI (w 0) := rfl
  show gg (gi (nI 0) 534) (gg (gi (nI 0) 534) (gl (upd (L w) (nI 0).toNatClampNeg (nz (L w (nI 0).toNatClampNeg))) fun f3 => gg (gi (nI 0) 534) (gl (((Int32.toUInt32 (f3 (nI 0).toNatClampNeg) >>> (Int32.toUInt32 16 &&& Int32.toUInt32 31)).toInt32) - ((Int32.toUInt32 (f3 (nI 0).toNatClampNeg) >>> (Int32.toUInt32 16 &&& Int32.toUInt32 31)).toInt32) / 1019 * 1019) fun x5 => some (x5, f3)))) = _
  simp only [h, h1, q_gg, q_gl, h0, h2]
  rfl
def S_drw : Nat → Nat → Int32 → (Nat → Nat) → Int32 × (Nat → Nat)
  | 0, _, z, co => (z, co)
  | k + 1, j, z, co => S_drw k (j + 1) (nz z) (updN co j (drN z))
theorem S_drw_ok : ∀ k j z co, (∀ i, i < j → co i < 1019) → (∀ i, i < j + k → (S_drw k j z co).2 i < 1019) ∧ (∀ i, i < j → (S_drw k j z co).2 i = co i) ∧ ∀ co', (∀ i, i < j → co i = co' i) → ∀ i, i < j + k → (S_drw k j z co).2 i = (S_drw k j z co').2 i := by
  intro k
  induction k with
  | zero =>
    intro j z co h
    exact ⟨fun i hi => h i (by omega), fun i _ => rfl, fun co' hc i hi => hc i (by omega)⟩
  | succ k ih =>
    intro j z co h
    have hu : ∀ i, i < j + 1 → updN co j (drN z) i < 1019 := by
      intro i hi
      by_cases e : i = j
      · rw [e, uN_s]; exact drN_lt z
      · rw [uN_n _ _ e]; exact h i (by omega)
    obtain ⟨a1, a2, a3⟩ := ih (j + 1) (nz z) (updN co j (drN z)) hu
    refine ⟨fun i hi => a1 i (by omega), fun i hi => ?_, fun co' hc i hi => ?_⟩
    · show (S_drw k (j + 1) (nz z) (updN co j (drN z))).2 i = _
      rw [a2 i (by omega), uN_n _ _ (by omega)]
    · refine a3 (updN co' j (drN z)) (fun i hi => ?_) i (by omega)
      by_cases e : i = j
      · rw [e, uN_s, uN_s]
      · rw [uN_n _ _ e, uN_n _ _ e]; exact hc i (by omega)
theorem S_drw_z : ∀ k j z co co', (S_drw k j z co).1 = (S_drw k j z co').1 := by
  intro k
  induction k with
  | zero => intro j z co co'; rfl
  | succ k ih => intro j z co co'; exact ih _ _ _ _
theorem z_drawC_L {c : Nat} (hc : c ≤ 8) : ∀ k n j z co, j + k = c ∨ (k = 0 ∧ c ≤ j ∧ j < 10) → k < n → F_X10_drawCoefficients_L9 (nI c) n (L co) z (nI j) = some (L (S_drw k j z co).2, (S_drw k j z co).1) := by
  intro k
  induction k with
  | zero =>
    intro n j z co hj hn
    obtain ⟨n, rfl⟩ := z_fuel hn
    have h0 : c ≤ j := by omega
    rw [F_X10_drawCoefficients_L9]
    simp (disch := omega) only [q_leI, h0, if_true]
    rfl
  | succ k ih =>
    intro n j z co hj hn
    obtain ⟨n, rfl⟩ := z_fuel (show 0 < n by omega)
    have h0 : ¬ c ≤ j := by omega
    rw [F_X10_drawCoefficients_L9]
    simp (disch := omega) only [q_lit, q_leI, h0, if_false, z_next, Option.bind_some, q_gi, q_gg, q_gl, q_cl, L_upd, nI_add]
    rw [ih n (j + 1) _ _ (by omega) (by omega)]
    rfl
def S_dr0 (c a : Nat) (z : Int32) (co : Nat → Nat) : Int32 × (Nat → Nat) := S_drw (c - 1) 1 z (updN co 0 a)
theorem z_drawC {c a : Nat} {z : Int32} {co : Nat → Nat} (hc : c ≤ 8) : F_X10_drawCoefficients (L co) z (nI a) (nI c) = some (L (S_dr0 c a z co).2, (S_dr0 c a z co).1) := by
  unfold F_X10_drawCoefficients
  simp (disch := omega) only [q_lit, q_gi, q_gg, q_gl, q_cl, L_upd]
  exact z_drawC_L hc (c - 1) 1000 1 z _ (by omega) (by omega)
/-! who is dealt to -/
def dealt (pr : Nat) (wt : Nat → Nat) (p : Nat) : Bool := pr.testBit ((p - 1) / 3) && decide ((p - 1) % 3 < wt ((p - 1) / 3))
theorem z_isDealtTo {pr : Nat} {wt : Nat → Nat} {p : Nat} (hp : 1 ≤ p) (hp2 : p ≤ 24) (hpr : pr < 256) (hw : ∀ m, m < 8 → wt m < 4) : F_X9_isDealtTo (nI pr) (L wt) (nI p) = some (nI (dealt pr wt p).toNat) := by
  have h1 : (p - 1) / 3 < 8 := by omega
  have h2 := hw ((p - 1) / 3) h1
  have h3 : p - (3 * ((p - 1) / 3) + 1) = (p - 1) % 3 := by omega
  unfold F_X9_isDealtTo F_X9_isDealtTo_L35 F_X9_isDealtTo_L36 dealt
  simp (disch := omega) only [q_lit, z_ownerOf, Option.bind_some, z_contains, q_b0, z_firstPlace, q_gi, q_gg, q_cl, L_app, pk_sub, h3, q_leI, q_nar0, q_nar1]
  cases pr.testBit ((p - 1) / 3) with
  | false => simp
  | true =>
    by_cases h : (p - 1) % 3 < wt ((p - 1) / 3)
    · have h4 : ¬ wt ((p - 1) / 3) ≤ (p - 1) % 3 := by omega
      simp [h, h4]
    · have h4 : wt ((p - 1) / 3) ≤ (p - 1) % 3 := by omega
      simp [h, h4]
def S_places (pr : Nat) (wt : Nat → Nat) : Nat → Nat → Nat
  | 0, _ => 0
  | k + 1, m => (if pr.testBit m then wt m else 0) + S_places pr wt k (m + 1)
theorem S_places_le {pr : Nat} {wt : Nat → Nat} (hw : ∀ m, m < 8 → wt m < 4) : ∀ k m, m + k ≤ 8 → S_places pr wt k m ≤ 3 * k := by
  intro k
  induction k with
  | zero => intro m _; exact Nat.le_refl 0
  | succ k ih =>
    intro m h
    have h1 := ih (m + 1) (by omega)
    have h2 := hw m (by omega)
    show (if pr.testBit m then wt m else 0) + S_places pr wt k (m + 1) ≤ _
    split <;> omega
theorem z_dealtPlaces_L {pr : Nat} {wt : Nat → Nat} (hpr : pr < 256) (hw : ∀ m, m < 8 → wt m < 4) : ∀ k n m acc, m + k = 8 → k < n → F_X9_dealtPlaces_L4 (nI pr) (L wt) n (nI acc) (nI m) = some (nI (acc + S_places pr wt k m)) := by
  intro k
  induction k with
  | zero =>
    intro n m acc hm hn
    obtain ⟨n, rfl⟩ := z_fuel hn
    have h0 : 8 ≤ m := by omega
    rw [F_X9_dealtPlaces_L4]
    simp (disch := omega) only [q_lit, q_leI, h0, if_true]
    rfl
  | succ k ih =>
    intro n m acc hm hn
    obtain ⟨n, rfl⟩ := z_fuel (show 0 < n by omega)
    have h0 : ¬ 8 ≤ m := by omega
    rw [F_X9_dealtPlaces_L4]
    unfold F_X9_dealtPlaces_L32
    simp (disch := omega) only [q_lit, q_leI, h0, if_false, z_contains, Option.bind_some, q_b0, q_gi, q_gg, q_cl, L_app, nI_add]
    rw [ih n (m + 1) (acc + 0) (by omega) (by omega), ih n (m + 1) (acc + wt m) (by omega) (by omega)]
    show _ = some (nI (acc + ((if pr.testBit m then wt m else 0) + S_places pr wt k (m + 1))))
    cases pr.testBit m <;> simp [Nat.add_assoc]
theorem z_dealtPlaces {pr : Nat} {wt : Nat → Nat} (hpr : pr < 256) (hw : ∀ m, m < 8 → wt m < 4) : F_X9_dealtPlaces (nI pr) (L wt) = some (nI (S_places pr wt 8 0)) := by
  unfold F_X9_dealtPlaces
  simp only [q_lit]
  rw [z_dealtPlaces_L hpr hw 8 1000 0 0 (by omega) (by omega), Nat.zero_add]
theorem z_usedPlaces_L {pr : Nat} {w : Nat → Nat} (hb : ∀ m, m < 8 → w (9 + m) = (pr.testBit m).toNat) : ∀ k n m acc, m + k = 8 → k < n → F_X11_usedPlaces_L4 (L w) n (nI acc) (nI m) = some (nI (acc + S_places pr (fun m => w (1 + m)) k m)) := by
  intro k
  induction k with
  | zero =>
    intro n m acc hm hn
    obtain ⟨n, rfl⟩ := z_fuel hn
    have h0 : 8 ≤ m := by omega
    rw [F_X11_usedPlaces_L4]
    simp (disch := omega) only [q_lit, q_leI, h0, if_true]
    rfl
  | succ k ih =>
    intro n m acc hm hn
    obtain ⟨n, rfl⟩ := z_fuel (show 0 < n by omega)
    have h0 : ¬ 8 ≤ m := by omega
    have h1 := hb m (by omega)
    have h2 := Bool.toNat_le (pr.testBit m)
    have h3 : w (9 + m) < 2 := by omega
    rw [F_X11_usedPlaces_L4]
    unfold F_X11_usedPlaces_L31
    simp (disch := omega) only [q_lit, q_leI, h0, if_false, z_isPresent, Option.bind_some, q_b0, q_gi, q_gg, q_cl, L_app, nI_add]
    rw [ih n (m + 1) (acc + 0) (by omega) (by omega), ih n (m + 1) (acc + w (1 + m)) (by omega) (by omega)]
    show _ = some (nI (acc + ((if pr.testBit m then w (1 + m) else 0) + S_places pr (fun m => w (1 + m)) k (m + 1))))
    rw [h1]
    cases pr.testBit m <;> simp [Nat.add_assoc]
theorem z_usedPlaces {pr : Nat} {w : Nat → Nat} (hb : ∀ m, m < 8 → w (9 + m) = (pr.testBit m).toNat) : F_X11_usedPlaces (L w) = some (nI (S_places pr (fun m => w (1 + m)) 8 0)) := by
  unfold F_X11_usedPlaces
  simp only [q_lit]
  rw [z_usedPlaces_L hb 8 1000 0 0 (by omega) (by omega), Nat.zero_add]
theorem S_places_congr {pr : Nat} {a b : Nat → Nat} : ∀ k m, (∀ i, m ≤ i → i < m + k → a i = b i) → S_places pr a k m = S_places pr b k m := by
  intro k
  induction k with
  | zero => intro m _; rfl
  | succ k ih =>
    intro m h
    show (if pr.testBit m then a m else 0) + S_places pr a k (m + 1) = (if pr.testBit m then b m else 0) + S_places pr b k (m + 1)
    rw [h m (Nat.le_refl m) (by omega), ih (m + 1) (fun i h1 h2 => h i (by omega) (by omega))]
