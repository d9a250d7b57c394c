/-! PURE: the reader of a share's text -/
def TX (N : Nat) (tf tp : Nat → Nat) : Prop := N ≤ 40 ∧ ∀ i, i < N → tf i = tp i ∧ 33 ≤ tp i ∧ tp i ≤ 126
theorem z_tLen {N : Nat} : F_J0_length_8abf5 N = some (nI N) := by
  unfold F_J0_length_8abf5
  refine ob (x := 0) (by decide) ?_
  show some (Int32.ofNat N >>> (0 &&& 31)) = _
  rw [q_cap]
theorem z_tChar {N i : Nat} {tf : Nat → Nat} (hN : N < 1000) (hi : i < N) (hb : tf i < 127) : F_J0_charAt_5068e N (L tf) (nI i) = some (nI (tf i)) := by
  have hb2 := q_chr2 (tf i) hb
  unfold F_J0_charAt_5068e F_J1_charAt_3b067
  refine ob (x := 1) (by decide) ((if_neg (by decide)).trans ?_)
  refine ob (x := nI (tf i)) ?_ ?_
  · refine ob (x := ()) ?_ ?_
    · unfold F_J0_checkIndex_df160 F_J3_checkIndex_8e157_N
      refine ob (x := nI i) ?_ rfl
      exact (if_neg (show ¬ nI i < nI 0 from nI_nlt (by omega) (by omega))).trans (if_pos (show nI i < nI N from nI_lt hi (by omega)))
    · rw [q_gi hi (by omega), q_gg, q_cl (show i < 2 ^ 31 by omega), L_app, hb2.1, hb2.2, q_gg]
  · rw [hb2.2, q_gg]
def dgt (N : Nat) (tp : Nat → Nat) (i : Nat) : Bool := decide (i < N) && (decide (48 ≤ tp i) && decide (tp i ≤ 57))
def S_nm (N : Nat) (tp : Nat → Nat) (st : Nat) : Nat → Nat → Nat → Nat × Nat
  | 0, i, v => (i, v)
  | k + 1, i, v => if dgt N tp i = true ∧ (i = st ∨ v ≠ 0) then S_nm N tp st k (i + 1) (10 * v + (tp i - 48)) else (i, v)
theorem S_nm_s (N : Nat) (tp : Nat → Nat) (st k i v : Nat) : S_nm N tp st (k + 1) i v = if dgt N tp i = true ∧ (i = st ∨ v ≠ 0) then S_nm N tp st k (i + 1) (10 * v + (tp i - 48)) else (i, v) := rfl
theorem S_nm_y {N st k i v : Nat} {tp : Nat → Nat} (h : dgt N tp i = true ∧ (i = st ∨ v ≠ 0)) : S_nm N tp st (k + 1) i v = S_nm N tp st k (i + 1) (10 * v + (tp i - 48)) := if_pos h
theorem S_nm_n {N st k i v : Nat} {tp : Nat → Nat} (h : ¬ (dgt N tp i = true ∧ (i = st ∨ v ≠ 0))) : S_nm N tp st (k + 1) i v = (i, v) := if_neg h
theorem z_isDigit {N i : Nat} {tf tp : Nat → Nat} (h : TX N tf tp) (hi : i < 1000) : F_X8_isDigitAt N (L tf) (nI i) = some (nI (dgt N tp i).toNat) := by
  unfold F_X8_isDigitAt F_X8_isDigitAt_L41 F_X8_isDigitAt_L42
  refine ob z_tLen ?_
  unfold dgt
  have hN := h.1
  by_cases h1 : i < N
  · obtain ⟨h3, h4, h5⟩ := h.2 i h1
    have hc := z_tChar (N := N) (i := i) (tf := tf) (by omega) h1 (by omega)
    rw [h3] at hc
    refine (if_neg (nI_ge h1 (by omega))).trans (ob hc ?_)
    by_cases h6 : tp i < 48
    · refine (if_pos (show nI (tp i) < nI 48 from nI_lt h6 (by omega))).trans ?_
      rw [decide_eq_false (show ¬ 48 ≤ tp i by omega), Bool.false_and, Bool.and_false]
      rfl
    · refine (if_neg (show ¬ nI (tp i) < nI 48 from nI_nlt (by omega) (by omega))).trans (ob hc ?_)
      rw [decide_eq_true h1, decide_eq_true (show 48 ≤ tp i by omega), Bool.true_and, Bool.true_and]
      by_cases h7 : tp i ≤ 57
      · refine (if_neg (show ¬ nI 57 < nI (tp i) from nI_nlt h7 (by omega))).trans ?_
        rw [decide_eq_true h7]
        rfl
      · refine (if_pos (show nI 57 < nI (tp i) from nI_lt (by omega) (by omega))).trans ?_
        rw [decide_eq_false h7]
        rfl
  · refine (if_pos (nI_le (show N ≤ i by omega) (by omega))).trans ?_
    rw [decide_eq_false h1, Bool.false_and]
    rfl
theorem z_here {N i : Nat} {tp : Nat → Nat} (hN : N ≤ 40) (hi : i < 1000) : F_X11_here (L tp) (nI N) (nI i) = some (nI (if i < N then tp i else 0)) := by
  unfold F_X11_here F_X11_here_L24
  by_cases h : i < N
  · rw [if_pos h]
    refine (if_neg (nI_ge h (by omega))).trans ?_
    rw [q_gi (show i < 40 by omega) (by omega), q_gg, q_cl (by omega)]
    rfl
  · rw [if_neg h]
    exact if_pos (nI_le (by omega) (by omega))
theorem z_num8 {N st : Nat} {tf tp : Nat → Nat} {er a b : Int32} (h : TX N tf tp) (hst : st ≤ 40) : ∀ k f i v, i + k = st + 4 → st ≤ i → k < f → v < 10 ^ (4 - k) → F_X8_readNumber_L17 N (L tf) a b f (nI i) er (nI st) (nI v) = F_X8_readNumber_L86 a b (nI (S_nm N tp st k i v).1) er (nI st) (nI (S_nm N tp st k i v).2) := by
  intro k
  induction k with
  | zero =>
    intro f i v hi hst2 hf hv
    obtain ⟨f, rfl⟩ := z_fuel hf
    rw [F_X8_readNumber_L17]
    show (if nI st + nI 4 ≤ nI i then _ else _) = _
    rw [nI_add]
    exact if_pos (nI_le (by omega) (by omega))
  | succ k ih =>
    intro f i v hi hst2 hf hv
    obtain ⟨f, rfl⟩ := z_fuel (show 0 < f by omega)
    have hp : 10 ^ (4 - (k + 1)) ≤ 10 ^ 3 := Nat.pow_le_pow_right (by omega) (by omega)
    have hp2 : 10 ^ (4 - k) = 10 ^ (4 - (k + 1)) * 10 := by rw [show 4 - k = 4 - (k + 1) + 1 by omega, Nat.pow_succ]
    rw [F_X8_readNumber_L17]
    show (if nI st + nI 4 ≤ nI i then _ else _) = _
    rw [nI_add]
    refine (if_neg (nI_ge (by omega) (by omega))).trans (ob (z_isDigit h (by omega)) ?_)
    have go : dgt N tp i = true → F_X8_readNumber_L51 N (L tf) (F_X8_readNumber_L17 N (L tf) a b f) (nI i) er (nI st) (nI v) = F_X8_readNumber_L86 a b (nI (S_nm N tp st k (i + 1) (10 * v + (tp i - 48))).1) er (nI st) (nI (S_nm N tp st k (i + 1) (10 * v + (tp i - 48))).2) := by
      intro hd
      have hd2 : i < N ∧ 48 ≤ tp i ∧ tp i ≤ 57 := by simpa [dgt] using hd
      obtain ⟨h3, h4, h5⟩ := h.2 i hd2.1
      have hN := h.1
      have hc := z_tChar (N := N) (i := i) (tf := tf) (by omega) hd2.1 (by omega)
      rw [h3] at hc
      unfold F_X8_readNumber_L51
      refine ob hc ?_
      show F_X8_readNumber_L17 N (L tf) a b f (nI i + 1) er (nI st) (nI 10 * nI v + (nI (tp i) - nI 48)) = _
      rw [show nI i + 1 = nI (i + 1) from nI_1 i, pk_mul, pk_sub (by omega), nI_add]
      exact ih f (i + 1) (10 * v + (tp i - 48)) (by omega) (by omega) (by omega) (by omega)
    by_cases hd : dgt N tp i = true
    · have h1' : (dgt N tp i).toNat = 1 := by rw [hd]; rfl
      rw [h1']
      refine (if_neg (by decide)).trans ?_
      by_cases h1 : i = st
      · rw [S_nm_y ⟨hd, Or.inl h1⟩]
        exact (if_pos (congrArg nI h1)).trans (go hd)
      · refine (if_neg (fun e => h1 ((q_eqI (by omega) (by omega)).mp e))).trans ?_
        by_cases h2 : v = 0
        · rw [S_nm_n (fun e => by rcases e.2 with e | e <;> contradiction)]
          exact if_pos (congrArg nI h2)
        · rw [S_nm_y ⟨hd, Or.inr h2⟩]
          exact (if_neg (fun e => h2 ((q_eqI (b := 0) (by omega) (by omega)).mp e))).trans (go hd)
    · rw [S_nm_n (fun e => hd e.1)]
      have : dgt N tp i = false := by simpa using hd
      rw [this]
      exact if_pos rfl
theorem z_num11 {N st : Nat} {tp : Nat → Nat} {a b : Int32} (hN : N ≤ 40) (hst : st ≤ 40) (ht : ∀ i, i < N → tp i ≤ 126) : ∀ k f i v, i + k = st + 4 → st ≤ i → k < f → v < 10 ^ (4 - k) → F_X11_readsNumber_L10 (L tp) (nI N) a b f (nI i) (nI v) (nI st) = F_X11_readsNumber_L81 a b (nI (S_nm N tp st k i v).1) (nI (S_nm N tp st k i v).2) (nI st) := by
  intro k
  induction k with
  | zero =>
    intro f i v hi hst2 hf hv
    obtain ⟨f, rfl⟩ := z_fuel hf
    rw [F_X11_readsNumber_L10, pk_sub (by omega)]
    exact if_pos (show nI 4 ≤ nI (i - st) from nI_le (by omega) (by omega))
  | succ k ih =>
    intro f i v hi hst2 hf hv
    obtain ⟨f, rfl⟩ := z_fuel (show 0 < f by omega)
    have hp : 10 ^ (4 - (k + 1)) ≤ 10 ^ 3 := Nat.pow_le_pow_right (by omega) (by omega)
    have hp2 : 10 ^ (4 - k) = 10 ^ (4 - (k + 1)) * 10 := by rw [show 4 - k = 4 - (k + 1) + 1 by omega, Nat.pow_succ]
    rw [F_X11_readsNumber_L10, pk_sub (by omega)]
    have hh := z_here (N := N) (i := i) (tp := tp) hN (by omega)
    refine (if_neg (show ¬ nI 4 ≤ nI (i - st) from nI_ge (by omega) (by omega))).trans (ob hh ?_)
    have go : dgt N tp i = true → F_X11_readsNumber_L49 (L tp) (nI N) (F_X11_readsNumber_L10 (L tp) (nI N) a b f) (nI i) (nI v) (nI st) = F_X11_readsNumber_L81 a b (nI (S_nm N tp st k (i + 1) (10 * v + (tp i - 48))).1) (nI (S_nm N tp st k (i + 1) (10 * v + (tp i - 48))).2) (nI st) := by
      intro hd
      have hd2 : i < N ∧ 48 ≤ tp i ∧ tp i ≤ 57 := by simpa [dgt] using hd
      rw [if_pos hd2.1] at hh
      unfold F_X11_readsNumber_L49
      refine ob hh ?_
      show F_X11_readsNumber_L10 (L tp) (nI N) a b f (nI i + 1) ((nI 10 * nI v + nI (tp i)) - nI 48) (nI st) = _
      rw [show nI i + 1 = nI (i + 1) from nI_1 i, pk_mul, nI_add, pk_sub (by omega), show 10 * v + tp i - 48 = 10 * v + (tp i - 48) by omega]
      exact ih f (i + 1) (10 * v + (tp i - 48)) (by omega) (by omega) (by omega) (by omega)
    by_cases hd : dgt N tp i = true
    · have hd2 : i < N ∧ 48 ≤ tp i ∧ tp i ≤ 57 := by simpa [dgt] using hd
      rw [if_pos hd2.1]
      refine ob (z_inok (j := tp i) (a := 48) (b := 57) hd2.2.1 hd2.2.2 (by omega)) ((if_neg (by decide)).trans ?_)
      by_cases h1 : i = st
      · rw [S_nm_y ⟨hd, Or.inl h1⟩]
        exact (if_pos (congrArg nI h1)).trans (go hd)
      · refine (if_neg (fun e => h1 ((q_eqI (by omega) (by omega)).mp e))).trans ?_
        by_cases h2 : v = 0
        · rw [S_nm_n (fun e => by rcases e.2 with e | e <;> contradiction)]
          exact if_pos (by rw [h2]; decide)
        · rw [S_nm_y ⟨hd, Or.inr h2⟩]
          exact (if_neg (show ¬ nI v ≤ nI 0 from nI_ge (by omega) (by omega))).trans (go hd)
    · rw [S_nm_n (fun e => hd e.1)]
      have hin : F_X11_in (nI (if i < N then tp i else 0)) 48 57 = some (nI 0) := by
        by_cases h1 : i < N
        · rw [if_pos h1]
          have h9 := ht i h1
          have : ¬ (48 ≤ tp i ∧ tp i ≤ 57) := fun e => hd (by simp [dgt, h1, e.1, e.2])
          exact z_inno (j := tp i) (a := 48) (b := 57) (by omega) (by omega) (by omega)
        · rw [if_neg h1]
          exact z_inno (j := 0) (a := 48) (b := 57) (by omega) (by omega) (by omega)
      exact ob hin (if_pos rfl)
theorem S_nm_bd (N : Nat) (tp : Nat → Nat) (st : Nat) : ∀ k i v, k ≤ 4 → v < 10 ^ (4 - k) → (S_nm N tp st k i v).2 < 10000 ∧ i ≤ (S_nm N tp st k i v).1 ∧ ((S_nm N tp st k i v).1 ≤ i ∨ (S_nm N tp st k i v).1 ≤ N) := by
  intro k
  induction k with
  | zero => intro i v _ hv; exact ⟨hv, Nat.le_refl _, Or.inl (Nat.le_refl _)⟩
  | succ k ih =>
    intro i v hk hv
    have hp : 10 ^ (4 - (k + 1)) ≤ 10 ^ 3 := Nat.pow_le_pow_right (by omega) (by omega)
    have hp2 : 10 ^ (4 - k) = 10 ^ (4 - (k + 1)) * 10 := by rw [show 4 - k = 4 - (k + 1) + 1 by omega, Nat.pow_succ]
    rw [S_nm_s]
    by_cases h : dgt N tp i = true ∧ (i = st ∨ v ≠ 0)
    · have hd2 : i < N ∧ 48 ≤ tp i ∧ tp i ≤ 57 := by simpa [dgt] using h.1
      rw [if_pos h]
      have := ih (i + 1) (10 * v + (tp i - 48)) (by omega) (by omega)
      omega
    · rw [if_neg h]
      refine ⟨?_, Nat.le_refl _, Or.inl (Nat.le_refl _)⟩
      show v < 10000
      omega
