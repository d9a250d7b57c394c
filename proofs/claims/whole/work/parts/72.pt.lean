/-! PURE: both sides read a policy alike; the reference keeps it -/
theorem z_rules {N : Nat} {tf tp : Nat → Nat} (hX : TX N tf tp) : ∃ er y flag b, F_X4_read 0 0 (N + 1) (fun _ => 0) N (L tf) = some (er, y) ∧ F_X11_readsPolicy (F_X11_readsPart 64) (L tp) (nI N) 0 = some (nI (flag : Bool).toNat, nI b) ∧ b ≤ N ∧ ((flag = true ∧ b = N ∧ er = -1 ∧ ∃ t, fok 2 t ∧ sfx N tp 0 = fpr 2 t) ∨ (¬ (flag = true ∧ b = N) ∧ er = nI b)) := by
  have hT : TO N tp := ⟨hX.1, fun i hi => (hX.2 i hi).2⟩
  have hN := hX.1
  obtain ⟨y, e1⟩ := z_read4 hX N 1000 0 0 0 (fun _ => 0) (by omega) (by omega) (by omega) (by omega) (fun _ => by omega)
  obtain ⟨b, b1, b2, b3, b4⟩ := z_pol11 hT
  have hl := sfx_len N tp 0
  rw [Nat.sub_zero] at hl
  have hw := rM_whole (sfx N tp 0) (4 * (sfx N tp 0).length + 2 + 1) (by omega)
  have hrr : rP (4 * (sfx N tp 0).length + 2 + 1) 2 (sfx N tp 0) = rR 2 (sfx N tp 0) := rfl
  rw [hrr, b3, sfx_len N tp 0, sfx_len N tp b, show N - 0 - (N - b) = b by omega] at hw
  refine ⟨oe (rM (sfx N tp 0) 0 0 0 (fun _ => 0)), y, _, b, e1, b4, b2, ?_⟩
  by_cases h1 : (rR 2 (sfx N tp 0)).1 = true ∧ b = N
  · left
    have hnil : sfx N tp b = [] := sfx_nil (by omega)
    refine ⟨h1.1, h1.2, ?_, ?_⟩
    · rw [hw, if_pos ⟨h1.1, hnil⟩]
      rfl
    · have hrest : (rP (4 * (sfx N tp 0).length + 2 + 1) 2 (sfx N tp 0)).2 = [] := by rw [hrr, b3, hnil]
      obtain ⟨t, t1, t2⟩ := rP_tree (4 * (sfx N tp 0).length + 2 + 1) 2 (sfx N tp 0) (by omega) (by omega) (by rw [hrr]; exact h1.1) (by rw [hrest]; decide)
      rw [hrest, List.append_nil] at t2
      exact ⟨t, t1, t2⟩
  · right
    refine ⟨h1, ?_⟩
    rw [hw, if_neg (fun e => h1 ⟨e.1, ?_⟩)]
    · rfl
    · have := sfx_len N tp b
      rw [e.2] at this
      simp only [List.length_nil] at this
      omega
theorem z_init4 {N : Nat} (hN : N ≤ 40) : F_X4_init N = some (0, 0, N + 1, fun _ => 0) := by
  unfold F_X4_init
  refine ob z_tLen ?_
  rw [show nI N + 1 = nI (N + 1) from nI_1 N]
  have hg : gnw (nI (N + 1)) 64 = true := by
    unfold gnw
    rw [q_cl (by omega)]
    have : ¬ nI (N + 1) < 0 := nI_nlt (show 0 ≤ N + 1 by omega) (by omega)
    simp [this]
    omega
  rw [hg, q_gg, q_gl, q_cl (by omega)]
theorem z_store {tp : Nat → Nat} {s N : Nat} {t wa at' l2 l3 : Int32} (hs : s < 4) (hN : N ≤ 40) : ∀ k n i (w : Nat → Nat), i + k = N → k < n → ∃ w', F_X11_setPolicy_L94 (L tp) (nI s) n t (L w) (nI N) wa at' l2 l3 (nI i) = F_X11_setPolicy_L126 t (L w') (nI N) wa at' l2 l3 ∧ (∀ j, i ≤ j → j < N → w' (ix s (12 + j)) = tp j) ∧ ∀ q, (q < ix s (12 + i) ∨ ix s (12 + N) ≤ q) → w' q = w q := by
  intro k
  induction k with
  | zero =>
    intro n i w hi hn
    obtain ⟨n, rfl⟩ := z_fuel hn
    refine ⟨w, ?_, fun j a b => by omega, fun _ _ => rfl⟩
    rw [F_X11_setPolicy_L94]
    exact if_pos (nI_le (by omega) (by omega))
  | succ k ih =>
    intro n i w hi hn
    obtain ⟨n, rfl⟩ := z_fuel (show 0 < n by omega)
    obtain ⟨w', e1, e2, e3⟩ := ih n (i + 1) (updN w (ix s (12 + i)) (tp i)) (by omega) (by omega)
    refine ⟨w', ?_, fun j a b => ?_, fun q hq => ?_⟩
    · rw [F_X11_setPolicy_L94]
      refine (if_neg (nI_ge (by omega) (by omega))).trans ?_
      rw [q_gi (show i < 40 by omega) (by omega), q_gg, q_cl (by omega), L_app, show (12 : Int32) + nI i = nI (12 + i) from nI_add 12 i]
      refine ob (z_sets hs (by omega)) ?_
      rw [show nI i + 1 = nI (i + 1) from nI_1 i]
      exact e1
    · by_cases h9 : j = i
      · subst h9
        rw [e3 _ (Or.inl (by simp only [ix]; omega)), uN_s]
      · exact e2 j (by omega) b
    · rw [e3 q (by simp only [ix] at *; omega), uN_n _ _ (by simp only [ix] at *; omega)]
