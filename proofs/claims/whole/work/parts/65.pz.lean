/-! PURE: numbers as text, shareText -/
def dsz (a : Nat) : Nat := if a < 10 then 1 else if a < 100 then 2 else if a < 1000 then 3 else 4
def dch (a i : Nat) : Nat := 48 + a / 10 ^ (dsz a - 1 - i) % 10
set_option maxRecDepth 20000 in
theorem q_byte2 : ∀ b, b < 127 → vp_nar .byte (nI b) = nI b := by decide
theorem n_toInt {a : Nat} (h : a < 2 ^ 31) : (-nI a).toInt = -(a : Int) := by
  rw [Int32.toInt_neg, nI_toInt h]
  simp only [Int.bmod]
  omega
theorem n_le {a b : Nat} (ha : a < 2 ^ 31) (hb : b < 2 ^ 31) : (-nI a ≤ -nI b) = (b ≤ a) := by
  rw [Int32.le_iff_toInt_le, n_toInt ha, n_toInt hb]
  exact propext (by omega)
theorem n_lt {a b : Nat} (ha : a < 2 ^ 31) (hb : b < 2 ^ 31) : (-nI a < -nI b) = (b < a) := by
  rw [Int32.lt_iff_toInt_lt, n_toInt ha, n_toInt hb]
  exact propext (by omega)
theorem n_div {a : Nat} (h : a < 2 ^ 31) : -nI a / 100 = -nI (a / 100) := by
  apply Int32.toInt_inj.mp
  have h100 : (100 : Int32).toInt = 100 := by decide
  rw [Int32.toInt_div, n_toInt h, n_toInt (by omega), h100, Int.neg_tdiv, Int.tdiv_eq_ediv_of_nonneg (by omega)]
  simp only [Int.bmod]
  omega
theorem n_rem {a : Nat} (h : a < 2 ^ 31) : (-nI (a / 100)) * 100 - (-nI a) = nI (a % 100) := by
  apply Int32.toInt_inj.mp
  have h100 : (100 : Int32).toInt = 100 := by decide
  rw [Int32.toInt_sub, Int32.toInt_mul, n_toInt h, n_toInt (by omega), h100, nI_toInt (by omega)]
  simp only [Int.bmod]
  omega
theorem n_neg (a : Nat) : -(-nI a) = nI a := Int32.neg_neg
theorem z_ss {a : Nat} (h : a < 10000) : F_J6_stringSize_0f7a4 (nI a) = some (nI (dsz a)) := by
  unfold F_J6_stringSize_0f7a4 F_J6_stringSize_0f7a4_L11
  refine (if_neg (show ¬ nI a < nI 0 from nI_nlt (by omega) (by omega))).trans ?_
  obtain ⟨n, hn⟩ : ∃ n, (1000 : Nat) = n + 1 + 1 + 1 + 1 := ⟨996, rfl⟩
  have e1 : ((10 : Int32) * -10) = -nI 100 := by decide
  have e2 : ((10 : Int32) * -nI 100) = -nI 1000 := by decide
  have e3 : ((10 : Int32) * -nI 1000) = -nI 10000 := by decide
  have e0 : (-10 : Int32) = -nI 10 := by decide
  rw [hn, F_J6_stringSize_0f7a4_L16]
  unfold dsz
  refine (if_neg (by decide)).trans ?_
  by_cases h1 : a < 10
  · rw [if_pos h1]
    refine (if_neg (by rw [e0, n_le (by omega) (by omega)]; omega)).trans ?_
    rfl
  rw [if_neg h1]
  refine (if_pos (by rw [e0, n_le (by omega) (by omega)]; omega)).trans ?_
  rw [e1, F_J6_stringSize_0f7a4_L16]
  refine (if_neg (by decide)).trans ?_
  by_cases h2 : a < 100
  · rw [if_pos h2]
    refine (if_neg (by rw [n_le (by omega) (by omega)]; omega)).trans ?_
    rfl
  rw [if_neg h2]
  refine (if_pos (by rw [n_le (by omega) (by omega)]; omega)).trans ?_
  rw [e2, F_J6_stringSize_0f7a4_L16]
  refine (if_neg (by decide)).trans ?_
  by_cases h3 : a < 1000
  · rw [if_pos h3]
    refine (if_neg (by rw [n_le (by omega) (by omega)]; omega)).trans ?_
    rfl
  rw [if_neg h3]
  refine (if_pos (by rw [n_le (by omega) (by omega)]; omega)).trans ?_
  rw [e3, F_J6_stringSize_0f7a4_L16]
  refine (if_neg (by decide)).trans ?_
  refine (if_neg (by rw [n_le (by omega) (by omega)]; omega)).trans ?_
  rfl
theorem q_back {e : Nat} (h : 1 ≤ e) (h2 : e < 2 ^ 31) : nI e + (-1) = nI (e - 1) := by
  have : (-1 : Int32) = -nI 1 := by decide
  rw [this, ← Int32.sub_eq_add_neg]
  exact pk_sub (a := e) (b := 1) h
theorem z_gc2 {bn n b E : Nat} {bf : Nat → Nat} (hb : b < 100) (hE : (if b < 10 then 1 else 2) ≤ E) (hE2 : E ≤ bn) (hbn : bn < 1000) : F_J6_getChars_ba4f3_L22 bn (n + 1) (L bf) (-nI b) (nI E) 0 = some (nI (E - (if b < 10 then 1 else 2)), L (if b < 10 then updN bf (E - 1) (48 + b % 10) else updN (updN bf (E - 1) (48 + b % 10)) (E - 2) (48 + b / 10))) := by
  have h1 : 1 ≤ E := by split at hE <;> omega
  have e1 : (-100 : Int32) = -nI 100 := by decide
  have e9 : (-9 : Int32) = -nI 9 := by decide
  rw [F_J6_getChars_ba4f3_L22]
  refine (if_pos (by rw [e1, n_lt (by omega) (by omega)]; exact hb)).trans ?_
  rw [n_neg, q_gi (show b < 100 by omega) (by omega), q_gg, q_back h1 (by omega), q_gi (show E - 1 < bn by omega) (by omega), q_gg, q_gl, q_cl (by omega), q_cl (by omega), q_byte2 _ (by omega), L_upd]
  by_cases h : b < 10
  · rw [if_pos h, if_pos h]
    refine (if_pos (by rw [e9, n_le (by omega) (by omega)]; omega)).trans ?_
    rfl
  · rw [if_neg h] at hE
    rw [if_neg h, if_neg h]
    refine (if_neg (by rw [e9, n_le (by omega) (by omega)]; omega)).trans ?_
    rw [q_gg, q_back (show 1 ≤ E - 1 by omega) (by omega), q_gi (show E - 1 - 1 < bn by omega) (by omega), q_gg, q_gl, q_cl (show E - 1 - 1 < 2 ^ 31 by omega), q_byte2 _ (by omega), L_upd, show E - 1 - 1 = E - 2 by omega]
    rfl
theorem dch_10 {a : Nat} (h : a < 10) : dsz a = 1 ∧ dch a 0 = 48 + a % 10 := by
  have : dsz a = 1 := if_pos h
  refine ⟨this, ?_⟩
  unfold dch
  rw [this]
  simp
theorem dch_100 {a : Nat} (h : ¬ a < 10) (h2 : a < 100) : dsz a = 2 ∧ dch a 0 = 48 + a / 10 ∧ dch a 1 = 48 + a % 10 := by
  have : dsz a = 2 := (if_neg h).trans (if_pos h2)
  refine ⟨this, ?_, ?_⟩ <;> unfold dch <;> rw [this]
  · simp only [Nat.reduceSub, Nat.reducePow]; omega
  · simp
theorem dch_1000 {a : Nat} (h : ¬ a < 100) (h2 : a < 1000) : dsz a = 3 ∧ dch a 0 = 48 + a / 100 ∧ dch a 1 = 48 + a % 100 / 10 ∧ dch a 2 = 48 + a % 100 % 10 := by
  have : dsz a = 3 := (if_neg (by omega)).trans ((if_neg h).trans (if_pos h2))
  refine ⟨this, ?_, ?_, ?_⟩ <;> unfold dch <;> rw [this] <;> simp only [Nat.reduceSub, Nat.reducePow] <;> omega
theorem dch_10000 {a : Nat} (h : ¬ a < 1000) (h2 : a < 10000) : dsz a = 4 ∧ dch a 0 = 48 + a / 100 / 10 ∧ dch a 1 = 48 + a / 100 % 10 ∧ dch a 2 = 48 + a % 100 / 10 ∧ dch a 3 = 48 + a % 100 % 10 := by
  have : dsz a = 4 := (if_neg (by omega)).trans ((if_neg (by omega)).trans (if_neg h))
  refine ⟨this, ?_, ?_, ?_, ?_⟩ <;> unfold dch <;> rw [this] <;> simp only [Nat.reduceSub, Nat.reducePow] <;> omega
theorem uN_le {f : Nat → Nat} {k x : Nat} (h : ∀ i, f i ≤ 126) (hx : x ≤ 126) (i : Nat) : updN f k x i ≤ 126 := by
  by_cases e : i = k
  · rw [e, uN_s]; exact hx
  · rw [uN_n _ _ e]; exact h i
theorem z_gc {bn a E : Nat} {bf : Nat → Nat} (ha : a < 10000) (hE : dsz a ≤ E) (hE2 : E ≤ bn) (hbn : bn < 1000) (hb : ∀ i, bf i ≤ 126) : ∃ bf', F_J6_getChars_ba4f3 bn (L bf) (nI a) (nI E) = some (nI (E - dsz a), L bf') ∧ (∀ i, i < E - dsz a → bf' i = bf i) ∧ (∀ i, i < dsz a → bf' (E - dsz a + i) = dch a i) ∧ ∀ i, bf' i ≤ 126 := by
  have f1 : F_J6_getChars_ba4f3 bn (L bf) (nI a) (nI E) = F_J6_getChars_ba4f3_L22 bn 1000 (L bf) (-nI a) (nI E) 0 := by
    unfold F_J6_getChars_ba4f3 F_J6_getChars_ba4f3_L12
    exact (if_pos (nI_le (Nat.zero_le a) (by omega))).trans (if_pos rfl)
  rw [f1]
  obtain ⟨n, hn⟩ : ∃ n, (1000 : Nat) = n + 1 + 1 := ⟨998, rfl⟩
  by_cases h : a < 100
  · rw [hn, z_gc2 h (by
      unfold dsz at hE
      by_cases h1 : a < 10
      · rw [if_pos h1] at hE ⊢; exact hE
      · rw [if_neg h1] at hE ⊢; rw [if_pos h] at hE; exact hE) hE2 hbn]
    by_cases h1 : a < 10
    · obtain ⟨d1, d2⟩ := dch_10 h1
      rw [if_pos h1, if_pos h1, d1]
      refine ⟨_, rfl, fun i hi => uN_n _ _ (by omega), fun i hi => ?_, uN_le hb (by omega)⟩
      have : i = 0 := by omega
      subst this
      rw [d1] at hE
      rw [d2, Nat.add_zero, uN_s]
    · obtain ⟨d1, d2, d3⟩ := dch_100 h1 h
      rw [if_neg h1, if_neg h1, d1]
      rw [d1] at hE
      refine ⟨_, rfl, fun i hi => by rw [uN_n _ _ (by omega), uN_n _ _ (by omega)], fun i hi => ?_, uN_le (uN_le hb (by omega)) (by omega)⟩
      have : i = 0 ∨ i = 1 := by omega
      rcases this with rfl | rfl
      · rw [d2, Nat.add_zero, uN_s]
      · rw [d3, uN_n _ _ (by omega), show E - 2 + 1 = E - 1 by omega, uN_s]
  · have hE3 : 3 ≤ E := by rw [show dsz a = if a < 1000 then 3 else 4 from (if_neg (by omega)).trans (if_neg h)] at hE; split at hE <;> omega
    have e1 : (-100 : Int32) = -nI 100 := by decide
    have f2 : F_J6_getChars_ba4f3_L22 bn 1000 (L bf) (-nI a) (nI E) 0 = F_J6_getChars_ba4f3_L22 bn (n + 1) (L (updN (updN bf (E - 1) (48 + a % 100 % 10)) (E - 2) (48 + a % 100 / 10))) (-nI (a / 100)) (nI (E - 2)) 0 := by
      rw [hn, F_J6_getChars_ba4f3_L22]
      refine (if_neg (by rw [e1, n_lt (by omega) (by omega)]; exact h)).trans ?_
      rw [n_div (by omega), n_rem (by omega), q_gl, q_gi (show a % 100 < 100 by omega) (by omega), q_gg, q_back (show 1 ≤ E by omega) (by omega), q_gi (show E - 1 < bn by omega) (by omega), q_gg, q_gl, q_cl (show E - 1 < 2 ^ 31 by omega), q_cl (show a % 100 < 2 ^ 31 by omega), q_byte2 _ (show 48 + a % 100 % 10 < 127 by omega), L_upd, q_gg, q_back (show 1 ≤ E - 1 by omega) (by omega), q_gi (show E - 1 - 1 < bn by omega) (by omega), q_gg, q_gl, q_cl (show E - 1 - 1 < 2 ^ 31 by omega), q_byte2 _ (show 48 + a % 100 / 10 < 127 by omega), L_upd, show E - 1 - 1 = E - 2 by omega]
    rw [f2]
    have hb2 : ∀ i, updN (updN bf (E - 1) (48 + a % 100 % 10)) (E - 2) (48 + a % 100 / 10) i ≤ 126 := uN_le (uN_le hb (by omega)) (by omega)
    by_cases h1 : a < 1000
    · obtain ⟨d1, d2, d3, d4⟩ := dch_1000 h h1
      have h10 : a / 100 < 10 := by omega
      rw [z_gc2 (show a / 100 < 100 by omega) (by rw [if_pos h10]; omega) (by omega) hbn, if_pos h10, if_pos h10, d1]
      refine ⟨_, by rw [show E - 2 - 1 = E - 3 by omega], fun i hi => ?_, fun i hi => ?_, uN_le hb2 (by omega)⟩
      · rw [uN_n _ _ (by omega), uN_n _ _ (by omega), uN_n _ _ (by omega)]
      · have : i = 0 ∨ i = 1 ∨ i = 2 := by omega
        rcases this with rfl | rfl | rfl
        · rw [d2, Nat.add_zero, uN_s]; omega
        · rw [d3, uN_n _ _ (by omega), show E - 3 + 1 = E - 2 by omega, uN_s]
        · rw [d4, uN_n _ _ (by omega), uN_n _ _ (by omega), show E - 3 + 2 = E - 1 by omega, uN_s]
    · obtain ⟨d1, d2, d3, d4, d5⟩ := dch_10000 h1 ha
      rw [d1] at hE
      have h10 : ¬ a / 100 < 10 := by omega
      rw [z_gc2 (show a / 100 < 100 by omega) (by rw [if_neg h10]; omega) (by omega) hbn, if_neg h10, if_neg h10, d1]
      refine ⟨_, by rw [show E - 2 - 2 = E - 4 by omega], fun i hi => ?_, fun i hi => ?_, uN_le (uN_le hb2 (by omega)) (by omega)⟩
      · rw [uN_n _ _ (by omega), uN_n _ _ (by omega), uN_n _ _ (by omega), uN_n _ _ (by omega)]
      · have : i = 0 ∨ i = 1 ∨ i = 2 ∨ i = 3 := by omega
        rcases this with rfl | rfl | rfl | rfl
        · rw [d2, Nat.add_zero, uN_s]
        · rw [d3, uN_n _ _ (by omega), show E - 4 + 1 = E - 2 - 1 by omega, uN_s]
        · rw [d4, uN_n _ _ (by omega), uN_n _ _ (by omega), show E - 4 + 2 = E - 2 by omega, uN_s]
        · rw [d5, uN_n _ _ (by omega), uN_n _ _ (by omega), uN_n _ _ (by omega), show E - 4 + 3 = E - 1 by omega, uN_s]
theorem z_appi {N cap a : Nat} {bf : Nat → Nat} (h : Bf N cap bf) (ha : a < 10000) (hN : N + dsz a ≤ cap) : ∃ bf', F_J4_append_bf812 (nI N) cap (L bf) (nI a) = some (nI (N + dsz a), cap, L bf') ∧ Bf (N + dsz a) cap bf' ∧ (∀ i, i < N → bf' i = bf i) ∧ ∀ i, i < dsz a → bf' (N + i) = dch a i := by
  obtain ⟨h1, h2, h3⟩ := h
  obtain ⟨bf', e1, e2, e3, e4⟩ := z_gc (bn := cap) (E := N + dsz a) ha (by omega) hN (by omega) h3
  rw [show N + dsz a - dsz a = N by omega] at e1 e2 e3
  refine ⟨bf', ?_, ⟨h1, hN, e4⟩, e2, e3⟩
  unfold F_J4_append_bf812 F_J5_append_c97b9
  refine ob (x := (nI (N + dsz a), cap, L bf')) (ob (z_ss ha) ?_) rfl
  rw [nI_add]
  refine ob (z_ens (by omega) hN) ?_
  refine ob (x := 1) (by decide) ?_
  refine (if_neg (show ¬ (1 : Int32) = 0 by decide)).trans ?_
  exact ob e1 rfl
/-! the reference's numbers -/
theorem z_wr {P b : Nat} {pp : Nat → Nat} (hP : P < 100) (hb : b < 127) : F_X11_writes (L pp) (nI P) (nI b) = some (L (updN pp P b), nI (P + 1)) := by
  unfold F_X11_writes
  rw [q_gi hP (by omega), q_gg, q_gl, q_cl (by omega), (q_chr b hb).2, L_upd, show nI P + 1 = nI (P + 1) from nI_1 P]
theorem z_wn18 {a : Nat} (ha : a < 10000) : ∀ k f P (pp : Nat → Nat), k ≤ 3 → k + 1 < f → P + k < 100 → ∃ pp', F_X11_writesNumber_L18 (nI a) f (L pp) (nI P) (nI (10 ^ k)) = some (L pp', nI (P + (k + 1))) ∧ (∀ i, i < P → pp' i = pp i) ∧ ∀ i, i ≤ k → pp' (P + i) = 48 + a / 10 ^ (k - i) % 10 := by
  have step : ∀ k f P (pp : Nat → Nat), k ≤ 3 → P < 100 → F_X11_writesNumber_L18 (nI a) (f + 1) (L pp) (nI P) (nI (10 ^ k)) = F_X11_writesNumber_L18 (nI a) f (L (updN pp P (48 + a / 10 ^ k % 10))) (nI (P + 1)) (nI (10 ^ k / 10)) := by
    intro k f P pp hk hP
    have hp : 0 < 10 ^ k := Nat.pow_pos (by omega)
    have hp2 : 10 ^ k ≤ 10 ^ 3 := Nat.pow_le_pow_right (by omega) hk
    rw [F_X11_writesNumber_L18]
    refine (if_neg (show ¬ nI (10 ^ k) ≤ nI 0 from nI_ge (by omega) (by omega))).trans ?_
    rw [q_gz hp (by omega), q_gg]
    have e : ((48 : Int32) + ((nI a / nI (10 ^ k)) - (nI a / nI (10 ^ k)) / 10 * 10)) = nI (48 + a / 10 ^ k % 10) := by
      rw [pk_div (by omega) (by omega) (by omega)]
      have hd : a / 10 ^ k ≤ a := Nat.div_le_self _ _
      show nI 48 + (nI (a / 10 ^ k) - nI (a / 10 ^ k) / nI 10 * nI 10) = _
      rw [pk_div (by omega) (by omega) (by omega), pk_mul, pk_sub (by omega), nI_add, q_mod]
    rw [e]
    refine ob (z_wr hP (by omega)) ?_
    show F_X11_writesNumber_L18 (nI a) f _ _ (nI (10 ^ k) / nI 10) = _
    rw [pk_div (by omega) (by omega) (by omega)]
  intro k
  induction k with
  | zero =>
    intro f P pp _ hf hP
    obtain ⟨f, rfl⟩ : ∃ g, f = g + 1 + 1 := ⟨f - 2, by omega⟩
    refine ⟨updN pp P (48 + a / 10 ^ 0 % 10), ?_, fun i hi => uN_n _ _ (by omega), fun i hi => ?_⟩
    · rw [step 0 _ P pp (by omega) (by omega), F_X11_writesNumber_L18]
      exact if_pos (by decide)
    · have : i = 0 := by omega
      subst this
      rw [Nat.add_zero, uN_s]
  | succ k ih =>
    intro f P pp hk hf hP
    obtain ⟨f, rfl⟩ := z_fuel (show 0 < f by omega)
    obtain ⟨pp', e1, e2, e3⟩ := ih f (P + 1) (updN pp P (48 + a / 10 ^ (k + 1) % 10)) (by omega) (by omega) (by omega)
    refine ⟨pp', ?_, fun i hi => ?_, fun i hi => ?_⟩
    · rw [step (k + 1) f P pp hk (by omega), Nat.pow_succ, Nat.mul_div_cancel _ (by omega), show P + (k + 1 + 1) = P + 1 + (k + 1) by omega]
      exact e1
    · rw [e2 i (by omega), uN_n _ _ (by omega)]
    · by_cases h0 : i = 0
      · subst h0
        rw [Nat.add_zero, e2 P (by omega), uN_s, Nat.sub_zero]
      · have := e3 (i - 1) (by omega)
        rw [show P + 1 + (i - 1) = P + i by omega, show k - (i - 1) = k + 1 - i by omega] at this
        exact this
theorem z_wn {a P : Nat} {pp : Nat → Nat} (ha : a < 10000) (hP : P + 4 ≤ 100) : ∃ pp', F_X11_writesNumber (L pp) (nI P) (nI a) = some (L pp', nI (P + dsz a)) ∧ (∀ i, i < P → pp' i = pp i) ∧ ∀ i, i < dsz a → pp' (P + i) = dch a i := by
  have step : ∀ k f, k ≤ 3 → ¬ a / 10 ^ k < 10 → F_X11_writesNumber_L2 (nI a) (f + 1) (L pp) (nI P) (nI (10 ^ k)) = F_X11_writesNumber_L2 (nI a) f (L pp) (nI P) (nI (10 ^ (k + 1))) := by
    intro k f hk h
    have hp : 0 < 10 ^ k := Nat.pow_pos (by omega)
    have hp2 : 10 ^ k ≤ 10 ^ 3 := Nat.pow_le_pow_right (by omega) hk
    have hd : a / 10 ^ k ≤ a := Nat.div_le_self _ _
    rw [F_X11_writesNumber_L2, q_gz hp (by omega), q_gg, pk_div (by omega) (by omega) (by omega)]
    refine (if_neg (show ¬ nI (a / 10 ^ k) < nI 10 from nI_nlt (by omega) (by omega))).trans ?_
    show F_X11_writesNumber_L2 (nI a) f (L pp) (nI P) (nI (10 ^ k) * nI 10) = _
    rw [pk_mul, Nat.pow_succ]
  have fin : ∀ k f, k ≤ 3 → a / 10 ^ k < 10 → F_X11_writesNumber_L2 (nI a) (f + 1) (L pp) (nI P) (nI (10 ^ k)) = F_X11_writesNumber_L18 (nI a) 1000 (L pp) (nI P) (nI (10 ^ k)) := by
    intro k f hk h
    have hp : 0 < 10 ^ k := Nat.pow_pos (by omega)
    have hp2 : 10 ^ k ≤ 10 ^ 3 := Nat.pow_le_pow_right (by omega) hk
    rw [F_X11_writesNumber_L2, q_gz hp (by omega), q_gg, pk_div (by omega) (by omega) (by omega)]
    exact if_pos (show nI (a / 10 ^ k) < nI 10 from nI_lt h (by omega))
  obtain ⟨n, hn⟩ : ∃ n, (1000 : Nat) = n + 1 + 1 + 1 + 1 := ⟨996, rfl⟩
  have st : F_X11_writesNumber (L pp) (nI P) (nI a) = F_X11_writesNumber_L2 (nI a) (n + 1 + 1 + 1 + 1) (L pp) (nI P) (nI (10 ^ 0)) := by
    rw [← hn]; rfl
  have main : F_X11_writesNumber (L pp) (nI P) (nI a) = F_X11_writesNumber_L18 (nI a) 1000 (L pp) (nI P) (nI (10 ^ (dsz a - 1))) ∧ 1 ≤ dsz a ∧ dsz a ≤ 4 := by
    rw [st]
    unfold dsz
    by_cases h1 : a < 10
    · rw [if_pos h1]
      exact ⟨fin 0 _ (by omega) (by simpa using h1), by omega, by omega⟩
    rw [if_neg h1, step 0 _ (by omega) (by simpa using h1)]
    by_cases h2 : a < 100
    · rw [if_pos h2]
      exact ⟨fin 1 _ (by omega) (by omega), by omega, by omega⟩
    rw [if_neg h2, step 1 _ (by omega) (by omega)]
    by_cases h3 : a < 1000
    · rw [if_pos h3]
      exact ⟨fin 2 _ (by omega) (by omega), by omega, by omega⟩
    rw [if_neg h3, step 2 _ (by omega) (by omega)]
    exact ⟨fin 3 _ (by omega) (by omega), by omega, by omega⟩
  obtain ⟨m1, m2, m3⟩ := main
  obtain ⟨pp', e1, e2, e3⟩ := z_wn18 ha (dsz a - 1) 1000 P pp (by omega) (by omega) (by omega)
  rw [show P + (dsz a - 1 + 1) = P + dsz a by omega] at e1
  exact ⟨pp', m1.trans e1, e2, fun i hi => e3 i (by omega)⟩
