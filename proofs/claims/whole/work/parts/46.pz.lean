/-! PURE: events -/
def evN (le code : Nat) (ev : Nat → Nat) : Nat → Nat := updN ev ((le + 1) % 20) code
theorem z_note {le ec code : Nat} {ev : Nat → Nat} (hl : le < 20) (he : ec ≤ 20) : F_X9_note (nI le) (nI ec) (L ev) (nI code) = some (nI ((le + 1) % 20), nI (min (ec + 1) 20), L (evN le code ev)) := by
  have h1 : (le + 1) % 20 < 20 := Nat.mod_lt _ (by omega)
  unfold F_X9_note F_J9_min_7cf53 F_J9_min_7cf53_L10 evN
  simp (disch := omega) only [q_lit, nI_add, pk_div, pk_mul, q_rem, pk_sub, q_mod, q_gi, q_gg, q_gl, q_cl, L_upd, q_ltI, Option.bind_some]
  by_cases h : 20 < ec + 1
  · rw [if_pos h, show min (ec + 1) 20 = 20 by omega]
    rfl
  · rw [if_neg h, show min (ec + 1) 20 = ec + 1 by omega]
    rfl
def REv (w : Nat → Nat) (le ec : Nat) (ev : Nat → Nat) : Prop := le < 20 ∧ ec ≤ 20 ∧ w 17 = ec ∧ ∀ k, k < ec → w (18 + k) = ev ((le + 20 - k) % 20)
theorem REv.of {w w' : Nat → Nat} {le ec : Nat} {ev : Nat → Nat} (h : REv w le ec ev) (e : ∀ i, 17 ≤ i → i < 38 → w' i = w i) : REv w' le ec ev := by
  refine ⟨h.1, h.2.1, ?_, fun k hk => ?_⟩
  · rw [e 17 (by omega) (by omega)]
    exact h.2.2.1
  · have := h.2.1
    rw [e (18 + k) (by omega) (by omega)]
    exact h.2.2.2 k hk
theorem z_happens_L {code : Nat} : ∀ k n (w : Nat → Nat), k ≤ 19 → k < n → w 17 ≤ 20 → ∃ w', F_X11_happens_L3 (nI code) n (L w) (nI k) = some (L w') ∧ w' 18 = code ∧ w' 17 = min (w 17 + 1) 20 ∧ (∀ j, 1 ≤ j → j ≤ k → w' (18 + j) = w (18 + j - 1)) ∧ ∀ i, (i < 17 ∨ 18 + k < i) → w' i = w i := by
  intro k
  induction k with
  | zero =>
    intro n w hk hn h17
    obtain ⟨n, rfl⟩ := z_fuel hn
    refine ⟨updN (updN w 18 code) 17 (min (w 17 + 1) 20), ?_, ?_, uN_s _ _ _, fun j h1 h2 => by omega, fun i hi => ?_⟩
    · have h5 : updN w 18 code 17 = w 17 := uN_n _ _ (by omega)
      rw [F_X11_happens_L3]
      unfold F_X11_happens_L66
      simp (disch := omega) only [q_lit, q_leI, Nat.le_refl, if_true, q_gi, q_gg, q_gl, q_cl, L_upd, L_app, h5, nI_add]
      by_cases h : 20 ≤ w 17
      · rw [if_pos h, show min (w 17 + 1) 20 = w 17 + 0 by omega]
      · rw [if_neg h, show min (w 17 + 1) 20 = w 17 + 1 by omega]
    · rw [uN_n _ _ (by omega), uN_s]
    · rw [uN_n _ _ (by omega), uN_n _ _ (by omega)]
  | succ k ih =>
    intro n w hk hn h17
    obtain ⟨n, rfl⟩ := z_fuel (show 0 < n by omega)
    have h0 : ¬ k + 1 ≤ 0 := by omega
    have h5 : updN w (18 + (k + 1)) (w (18 + (k + 1) - 1)) 17 = w 17 := uN_n _ _ (by omega)
    obtain ⟨w', e1, e2, e3, e4, e5⟩ := ih n (updN w (18 + (k + 1)) (w (18 + (k + 1) - 1))) (by omega) (by omega) (by omega)
    refine ⟨w', ?_, e2, by rw [e3, h5], fun j h1 h2 => ?_, fun i hi => ?_⟩
    · rw [F_X11_happens_L3]
      simp (disch := omega) only [q_lit, q_leI, h0, if_false, nI_add, pk_sub, q_gi, q_gg, q_gl, q_cl, L_upd, L_app, z_m1s]
      exact e1
    · by_cases hj : j = k + 1
      · subst hj
        rw [e5 _ (by omega), uN_s]
      · rw [e4 j h1 (by omega), uN_n _ _ (by omega)]
    · rw [e5 i (by omega), uN_n _ _ (by omega)]
theorem z_happens {w : Nat → Nat} {le ec code : Nat} {ev : Nat → Nat} (h : REv w le ec ev) : ∃ w', F_X11_happens (L w) (nI code) = some (L w') ∧ REv w' ((le + 1) % 20) (min (ec + 1) 20) (evN le code ev) ∧ ∀ i, (i < 17 ∨ 37 < i) → w' i = w i := by
  obtain ⟨h1, h2, h3, h4⟩ := h
  obtain ⟨w', e1, e2, e3, e4, e5⟩ := z_happens_L (code := code) 19 1000 w (by omega) (by omega) (by omega)
  refine ⟨w', ?_, ⟨Nat.mod_lt _ (by omega), by omega, by rw [e3, h3], fun k hk => ?_⟩, fun i hi => e5 i (by omega)⟩
  · unfold F_X11_happens
    simp only [q_lit]
    exact e1
  · unfold evN
    by_cases h0 : k = 0
    · subst h0
      rw [Nat.add_zero, e2, Nat.sub_zero, show ((le + 1) % 20 + 20) % 20 = (le + 1) % 20 by omega, uN_s]
    · rw [e4 k (by omega) (by omega), uN_n _ _ (by omega), show 18 + k - 1 = 18 + (k - 1) by omega, h4 (k - 1) (by omega)]
      congr 1
      omega
/-! arguments -/
theorem z_in {x : Int32} {a b : Int32} : F_X11_in x a b = some (if x < a then 0 else if b < x then 0 else 1) := by
  unfold F_X11_in F_X11_in_L14 F_X11_in_L15
  have h0 : gnar .boolean 0 = true := by decide
  have h1 : gnar .boolean 1 = true := by decide
  simp only [h0, h1, q_gg]
  split
  · rfl
  · split <;> rfl
theorem z_ltneg {x : Int32} (h : x < 0) : ∀ b, ¬ (nI b ≤ x ∧ b < 2 ^ 31) := by
  rintro b ⟨h1, h2⟩
  rw [Int32.lt_iff_toInt_lt] at h
  rw [Int32.le_iff_toInt_le, nI_toInt h2] at h1
  have : (0 : Int32).toInt = 0 := by decide
  omega
/-- an argument from 0 to n - 1, or not -/
theorem z_arg (x : Int32) (n : Nat) (hn : n < 2 ^ 30) (h0 : 0 < n) : (∃ j, j < n ∧ x = nI j) ∨ (F_X11_in x (nI 0) (nI (n - 1)) = some (nI 0) ∧ (x < 0 ∨ (¬ x < 0 ∧ nI n ≤ x))) := by
  rcases q_ix x n (by omega) with h | h | h
  · exact Or.inl h
  · refine Or.inr ⟨?_, Or.inl h⟩
    rw [z_in, if_pos (by exact h)]
    rfl
  · refine Or.inr ⟨?_, Or.inr h⟩
    have h2 : nI (n - 1) < x := by
      have h3 := h.2
      rw [Int32.le_iff_toInt_le, nI_toInt (by omega)] at h3
      rw [Int32.lt_iff_toInt_lt, nI_toInt (by omega)]
      omega
    rw [z_in, if_neg (by exact h.1), if_pos h2]
    rfl
theorem z_inok {j a b : Nat} (ha : a ≤ j) (hb : j ≤ b) (h : b < 2 ^ 31) : F_X11_in (nI j) (nI a) (nI b) = some (nI 1) := by
  rw [z_in, if_neg (nI_nlt ha (by omega)), if_neg (nI_nlt hb h)]
  rfl
theorem z_inno {j a b : Nat} (h : j < a ∨ b < j) (hj : j < 2 ^ 31) (ha : a < 2 ^ 31) : F_X11_in (nI j) (nI a) (nI b) = some (nI 0) := by
  rw [z_in]
  rcases h with h | h
  · rw [if_pos (nI_lt h ha)]
    rfl
  · by_cases h2 : nI j < nI a
    · rw [if_pos h2]; rfl
    · rw [if_neg h2, if_pos (nI_lt h hj)]; rfl
/-- slots, members, places, sets, values, thresholds: both sides agree -/
theorem z_lt {x : Int32} {n : Nat} (hn : n < 2 ^ 31) (h : ¬ x < 0 ∧ nI n ≤ x) : ¬ x < nI n := by
  intro h2
  have h3 := h.2
  rw [Int32.le_iff_toInt_le] at h3
  rw [Int32.lt_iff_toInt_lt] at h2
  omega
theorem a_slot (x : Int32) : (∃ s, s < 4 ∧ x = nI s ∧ F_X10_checkSlot x = some 0 ∧ F_X11_isSlot x = some (nI 1)) ∨ (F_X10_checkSlot x = some 1 ∧ F_X11_isSlot x = some (nI 0)) := by
  unfold F_X10_checkSlot F_X10_checkSlot_L9 F_X11_isSlot
  rcases z_arg x 4 (by omega) (by omega) with ⟨j, hj, rfl⟩ | ⟨h1, h2⟩
  · refine Or.inl ⟨j, hj, rfl, ?_, ?_⟩
    · simp (disch := omega) only [q_lit, q_ltI, hj, if_true, Nat.not_lt_zero, if_false]
    · simp only [q_lit]
      rw [z_inok (by omega) (by omega) (by omega)]
      simp only [Option.bind_some, q_nar1, q_gg]
  · refine Or.inr ⟨?_, ?_⟩
    · rcases h2 with h2 | h2
      · rw [if_pos h2]
      · rw [if_neg h2.1, if_neg (by exact z_lt (n := 4) (by omega) h2)]
    · show (F_X11_in x (nI 0) (nI (4 - 1))).bind _ = _
      rw [h1]
      simp only [Option.bind_some, q_nar0, q_gg]
theorem a_member (x : Int32) : (∃ s, s < 8 ∧ x = nI s ∧ F_X10_checkMember x = some 0 ∧ F_X11_isMember x = some (nI 1)) ∨ (F_X10_checkMember x = some 1 ∧ F_X11_isMember x = some (nI 0)) := by
  unfold F_X10_checkMember F_X10_checkMember_L10 F_X11_isMember
  rcases z_arg x 8 (by omega) (by omega) with ⟨j, hj, rfl⟩ | ⟨h1, h2⟩
  · refine Or.inl ⟨j, hj, rfl, ?_, ?_⟩
    · simp (disch := omega) only [q_lit, q_ltI, hj, if_true, Nat.not_lt_zero, if_false]
    · simp only [q_lit]
      rw [z_inok (by omega) (by omega) (by omega)]
      simp only [Option.bind_some, q_nar1, q_gg]
  · refine Or.inr ⟨?_, ?_⟩
    · rcases h2 with h2 | h2
      · rw [if_pos h2]
      · rw [if_neg h2.1, if_neg (by exact z_lt (n := 8) (by omega) h2)]
    · show (F_X11_in x (nI 0) (nI (8 - 1))).bind _ = _
      rw [h1]
      simp only [Option.bind_some, q_nar0, q_gg]
theorem a_set (x : Int32) : (∃ s, s < 256 ∧ x = nI s ∧ F_X10_checkSet x = some 0 ∧ F_X11_isSet x = some (nI 1)) ∨ (F_X10_checkSet x = some 2 ∧ F_X11_isSet x = some (nI 0)) := by
  unfold F_X10_checkSet F_X10_checkSet_L11 F_X11_isSet
  rcases z_arg x 256 (by omega) (by omega) with ⟨j, hj, rfl⟩ | ⟨h1, h2⟩
  · refine Or.inl ⟨j, hj, rfl, ?_, ?_⟩
    · simp (disch := omega) only [q_lit, q_ltI, hj, if_true, Nat.not_lt_zero, if_false]
    · simp only [q_lit]
      rw [z_inok (by omega) (by omega) (by omega)]
      simp only [Option.bind_some, q_nar1, q_gg]
  · refine Or.inr ⟨?_, ?_⟩
    · rcases h2 with h2 | h2
      · rw [if_pos h2]
      · rw [if_neg h2.1, if_neg (by exact z_lt (n := 256) (by omega) h2)]
    · show (F_X11_in x (nI 0) (nI (256 - 1))).bind _ = _
      rw [h1]
      simp only [Option.bind_some, q_nar0, q_gg]
theorem a_value (x : Int32) : (∃ s, s < 1019 ∧ x = nI s ∧ F_X10_checkValue x = some 0 ∧ F_X11_in x (nI 0) (nI 1018) = some (nI 1)) ∨ (F_X10_checkValue x = some 2 ∧ F_X11_in x (nI 0) (nI 1018) = some (nI 0)) := by
  unfold F_X10_checkValue F_X10_checkValue_L11
  rcases z_arg x 1019 (by omega) (by omega) with ⟨j, hj, rfl⟩ | ⟨h1, h2⟩
  · refine Or.inl ⟨j, hj, rfl, ?_, ?_⟩
    · simp (disch := omega) only [q_lit, q_ltI, hj, if_true, Nat.not_lt_zero, if_false]
    · rw [z_inok (by omega) (by omega) (by omega)]
  · refine Or.inr ⟨?_, h1⟩
    rcases h2 with h2 | h2
    · rw [if_pos h2]
    · rw [if_neg h2.1, if_neg (by exact z_lt (n := 1019) (by omega) h2)]
theorem z_le1 {x : Int32} {n : Nat} (hn : n < 2 ^ 30) (h : ¬ x < 0 ∧ nI (n + 1) ≤ x) : ¬ x ≤ nI n := by
  intro h2
  have h3 := h.2
  rw [Int32.le_iff_toInt_le, nI_toInt (by omega)] at h3
  rw [Int32.le_iff_toInt_le, nI_toInt (by omega)] at h2
  omega
theorem z_ge1 {x : Int32} {n : Nat} (hn : n < 2 ^ 30) (h : ¬ x < 0 ∧ nI (n + 1) ≤ x) : ¬ x < nI 1 ∧ nI n < x := by
  have h3 := h.2
  have h4 : (nI 1).toInt = 1 := by decide
  rw [Int32.le_iff_toInt_le, nI_toInt (by omega)] at h3
  rw [Int32.lt_iff_toInt_lt, Int32.lt_iff_toInt_lt, nI_toInt (show n < 2 ^ 31 by omega), h4]
  omega
/-- an argument from 1 to n, or not -/
theorem z_arg1 (x : Int32) (n : Nat) (hn : n < 2 ^ 30) (h0 : 0 < n) : (∃ j, 1 ≤ j ∧ j ≤ n ∧ x = nI j) ∨ (F_X11_in x (nI 1) (nI n) = some (nI 0) ∧ (x < nI 1 ∨ (¬ x < nI 1 ∧ ¬ x ≤ nI n))) := by
  rcases q_ix x (n + 1) (by omega) with ⟨j, hj, rfl⟩ | h | h
  · by_cases h1 : j = 0
    · subst h1
      refine Or.inr ⟨z_inno (by omega) (by omega) (by omega), Or.inl (by decide)⟩
    · exact Or.inl ⟨j, by omega, by omega, rfl⟩
  · have h1 : x < nI 1 := by
      rw [Int32.lt_iff_toInt_lt] at h ⊢
      have : (0 : Int32).toInt = 0 := by decide
      have : (nI 1).toInt = 1 := by decide
      omega
    refine Or.inr ⟨?_, Or.inl h1⟩
    rw [z_in, if_pos h1]
    rfl
  · have h1 := z_ge1 hn h
    refine Or.inr ⟨?_, Or.inr ⟨h1.1, z_le1 hn h⟩⟩
    rw [z_in, if_neg h1.1, if_pos h1.2]
    rfl
theorem a_place (x : Int32) : (∃ p, 1 ≤ p ∧ p ≤ 24 ∧ x = nI p ∧ F_X10_checkPlace x = some 0 ∧ F_X11_isPlace x = some (nI 1)) ∨ (F_X10_checkPlace x = some 1 ∧ F_X11_isPlace x = some (nI 0)) := by
  unfold F_X10_checkPlace F_X10_checkPlace_L11 F_X11_isPlace
  rcases z_arg1 x 24 (by omega) (by omega) with ⟨j, h1, h2, rfl⟩ | ⟨h1, h2⟩
  · refine Or.inl ⟨j, h1, h2, rfl, ?_, ?_⟩
    · have h3 : ¬ j < 1 := by omega
      simp (disch := omega) only [q_lit, q_ltI, q_leI, h2, if_true, h3, if_false]
    · simp only [q_lit]
      rw [z_inok h1 h2 (by omega)]
      simp only [Option.bind_some, q_nar1, q_gg]
  · refine Or.inr ⟨?_, ?_⟩
    · rcases h2 with h2 | h2
      · rw [if_pos (by exact h2)]
      · rw [if_neg (by exact h2.1), if_neg (by exact h2.2)]
    · show (F_X11_in x (nI 1) (nI 24)).bind _ = _
      rw [h1]
      simp only [Option.bind_some, q_nar0, q_gg]
theorem a_thr (x : Int32) : (∃ k, 1 ≤ k ∧ k ≤ 8 ∧ x = nI k ∧ F_X10_checkThreshold x = some 0 ∧ F_X11_in x (nI 1) (nI 8) = some (nI 1)) ∨ (F_X10_checkThreshold x = some 2 ∧ F_X11_in x (nI 1) (nI 8) = some (nI 0)) := by
  unfold F_X10_checkThreshold F_X10_checkThreshold_L11
  rcases z_arg1 x 8 (by omega) (by omega) with ⟨j, h1, h2, rfl⟩ | ⟨h1, h2⟩
  · refine Or.inl ⟨j, h1, h2, rfl, ?_, z_inok h1 h2 (by omega)⟩
    have h3 : ¬ j < 1 := by omega
    simp (disch := omega) only [q_lit, q_ltI, q_leI, h2, if_true, h3, if_false]
  · refine Or.inr ⟨?_, h1⟩
    rcases h2 with h2 | h2
    · rw [if_pos (by exact h2)]
    · rw [if_neg (by exact h2.1), if_neg (by exact h2.2)]
theorem a_what (x : Int32) (n : Nat) (hn : n < 100) : (∃ j, j ≤ n ∧ x = nI j ∧ F_X10_checkWhat x (nI n) = some 0 ∧ F_X11_in x (nI 0) (nI n) = some (nI 1)) ∨ (F_X10_checkWhat x (nI n) = some 2 ∧ F_X11_in x (nI 0) (nI n) = some (nI 0)) := by
  unfold F_X10_checkWhat F_X10_checkWhat_L9
  rcases z_arg x (n + 1) (by omega) (by omega) with ⟨j, hj, rfl⟩ | ⟨h1, h2⟩
  · have h3 : j ≤ n := by omega
    refine Or.inl ⟨j, h3, rfl, ?_, z_inok (by omega) h3 (by omega)⟩
    simp (disch := omega) only [q_lit, q_ltI, q_leI, h3, if_true, Nat.not_lt_zero, if_false]
  · refine Or.inr ⟨?_, h1⟩
    rcases h2 with h2 | h2
    · rw [if_pos h2]
    · rw [if_neg h2.1, if_neg (by exact z_le1 (by omega) h2)]
