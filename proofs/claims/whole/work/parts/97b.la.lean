/-! LAW: the start, pure -/
theorem z_L19 : ∀ k n j (f : Nat → Nat), j + k = 8 → k < n → ∃ f', F_X9_init_L19 n (L f) (nI j) = some (1, 255, 0, 0, L f', 0, 0, 0, none, (fun _ => 0), (fun _ => 0), (fun _ => 0), 0, 0, 0, none, (fun _ => 0), (fun _ => 0), (fun _ => 0), 0, 0, 0, none, (fun _ => 0), (fun _ => 0), (fun _ => 0), 0, 0, 0, none, (fun _ => 0), (fun _ => 0), (fun _ => 0), (fun _ => 0)) ∧ (∀ i, i < j → f' i = f i) ∧ ∀ i, j ≤ i → i < 8 → f' i = 1 := by
  intro k
  induction k with
  | zero =>
    intro n j f hj hn
    obtain ⟨n, rfl⟩ := z_fuel hn
    refine ⟨f, ?_, fun _ _ => rfl, fun i _ _ => by omega⟩
    rw [F_X9_init_L19]
    exact (if_pos (show nI 8 ≤ nI j from nI_le (by omega) (by omega))).trans rfl
  | succ k ih =>
    intro n j f hj hn
    obtain ⟨n, rfl⟩ := z_fuel (show 0 < n by omega)
    obtain ⟨f', e1, e2, e3⟩ := ih n (j + 1) (updN f j 1) (by omega) (by omega)
    refine ⟨f', ?_, fun i hi => by rw [e2 i (by omega), uN_n _ _ (by omega)], fun i h1 h2 => ?_⟩
    · rw [F_X9_init_L19]
      refine (if_neg (show ¬ nI 8 ≤ nI j from nI_ge (by omega) (by omega))).trans ?_
      rw [q_gi (show j < 8 by omega) (by omega), q_gg, q_gl, q_cl (show j < 2 ^ 31 by omega), show (1 : Int32) = nI 1 from rfl, L_upd, show nI j + nI 1 = nI (j + 1) from nI_add j 1]
      exact e1
    · by_cases h : i = j
      · rw [h, e2 j (by omega), uN_s]
      · exact e3 i (by omega) h2
theorem z_L91 {s2 s3 s4 s5 s6 s7 s8 s9 : Nat → Int32} : ∀ k n j (f : Nat → Nat), j + k = 8 → k < n → ∃ f', F_X11_init_L91 n (L f) s2 s3 s4 s5 s6 s7 s8 s9 (nI j) = some (0, 0, 0, 0, 0, 0, 0, (-1), 0, 0, 0, 0, 0, L f', s2, s3, s4, s5, s6, s7, s8, s9) ∧ (∀ i, (i < 1 ∨ 17 ≤ i) → f' i = f i) ∧ (∀ m, m < j → f' (1 + m) = f (1 + m) ∧ f' (9 + m) = f (9 + m)) ∧ ∀ m, j ≤ m → m < 8 → f' (1 + m) = 1 ∧ f' (9 + m) = 1 := by
  intro k
  induction k with
  | zero =>
    intro n j f hj hn
    obtain ⟨n, rfl⟩ := z_fuel hn
    refine ⟨f, ?_, fun _ _ => rfl, fun _ _ => ⟨rfl, rfl⟩, fun i _ _ => by omega⟩
    rw [F_X11_init_L91]
    exact (if_pos (show nI 8 ≤ nI j from nI_le (by omega) (by omega))).trans rfl
  | succ k ih =>
    intro n j f hj hn
    obtain ⟨n, rfl⟩ := z_fuel (show 0 < n by omega)
    obtain ⟨f', e1, e2, e3, e4⟩ := ih n (j + 1) (updN (updN f (1 + j) 1) (9 + j) 1) (by omega) (by omega)
    refine ⟨f', ?_, fun i hi => by rw [e2 i hi, uN_n _ _ (by omega), uN_n _ _ (by omega)], fun m hm => ?_, fun m h1 h2 => ?_⟩
    · rw [F_X11_init_L91]
      refine (if_neg (show ¬ nI 8 ≤ nI j from nI_ge (by omega) (by omega))).trans ?_
      rw [show (1 : Int32) + nI j = nI (1 + j) from nI_add 1 j, show (9 : Int32) + nI j = nI (9 + j) from nI_add 9 j, q_gi (show 1 + j < 534 by omega) (by omega), q_gg, q_gl, q_gi (show 9 + j < 534 by omega) (by omega), q_gg, q_gl, q_cl (show 1 + j < 2 ^ 31 by omega), q_cl (show 9 + j < 2 ^ 31 by omega), show (1 : Int32) = nI 1 from rfl, L_upd, L_upd, show nI j + nI 1 = nI (j + 1) from nI_add j 1]
      exact e1
    · have := e3 m (by omega)
      rw [this.1, this.2, uN_n _ _ (by omega), uN_n _ _ (by omega), uN_n _ _ (by omega), uN_n _ _ (by omega)]
      exact ⟨rfl, rfl⟩
    · by_cases h : m = j
      · subst h
        have := e3 m (by omega)
        rw [this.1, this.2]
        refine ⟨?_, uN_s _ _ _⟩
        by_cases h9 : 1 + m = 9 + m
        · omega
        · rw [uN_n _ _ h9, uN_s]
      · exact e4 m (by omega) h2
theorem z_init9 : ∃ f, F_X9_init = some (1, 255, 0, 0, L f, 0, 0, 0, none, (fun _ => 0), (fun _ => 0), (fun _ => 0), 0, 0, 0, none, (fun _ => 0), (fun _ => 0), (fun _ => 0), 0, 0, 0, none, (fun _ => 0), (fun _ => 0), (fun _ => 0), 0, 0, 0, none, (fun _ => 0), (fun _ => 0), (fun _ => 0), (fun _ => 0)) ∧ ∀ i, i < 8 → f i = 1 := by
  obtain ⟨f, e1, -, e3⟩ := z_L19 8 1000 0 (fun _ => 0) (by omega) (by omega)
  exact ⟨f, e1, fun i hi => e3 i (Nat.zero_le i) hi⟩
theorem z_init11 : ∃ w, F_X11_init = some (0, 0, 0, 0, 0, 0, 0, (-1), 0, 0, 0, 0, 0, L w, (fun _ => 0), (fun _ => 0), (fun _ => 0), (fun _ => 0), (fun _ => 0), (fun _ => 0), (fun _ => 0), (fun _ => 0)) ∧ w 0 = 1 ∧ (∀ m, m < 8 → w (1 + m) = 1 ∧ w (9 + m) = 1) ∧ ∀ i, 17 ≤ i → w i = 0 := by
  obtain ⟨w, e1, e2, -, e4⟩ := z_L91 (s2 := fun _ => 0) (s3 := fun _ => 0) (s4 := fun _ => 0) (s5 := fun _ => 0) (s6 := fun _ => 0) (s7 := fun _ => 0) (s8 := fun _ => 0) (s9 := fun _ => 0) 8 1000 0 (updN (fun _ => 0) 0 1) (by omega) (by omega)
  refine ⟨w, ?_, by rw [e2 0 (by omega), uN_s], fun m hm => e4 m (Nat.zero_le m) hm, fun i hi => by rw [e2 i (by omega), uN_n _ _ (by omega)]⟩
  unfold F_X11_init
  rw [show gi 0 534 = true by decide, q_gg, q_gl, show Int32.toNatClampNeg 0 = 0 by decide]
  have e0 : upd (fun _ => 0) 0 1 = L (updN (fun _ => 0) 0 1) := L_upd (fun _ => 0) 0 1
  rw [e0]
  exact e1
theorem z_sb0 : F_J4_init_da8c8 = some (0, 0, 16, L fun _ => 0) := by
  unfold F_J4_init_da8c8 F_J5_init_d00df F_J5_init_d00df_L38
  rw [show gnw 16 64 = true by decide, q_gg, q_gl, show Int32.toNatClampNeg 16 = 16 by decide]
  rfl
/-- the joint state at the start -/
theorem J_start {cy : Nat → ClassId} {w f : Nat → Nat} (h0 : w 0 = 1) (h1 : ∀ m, m < 8 → w (1 + m) = 1 ∧ w (9 + m) = 1) (h2 : ∀ i, 17 ≤ i → w i = 0) (hf : ∀ i, i < 8 → f i = 1) : JS1 cy [] w 0 1 255 0 0 f (fun _ => 0) (fun _ => 0) (fun _ => 0) (fun _ => 0) (fun _ => none) (fun _ _ => 0) (fun _ _ => 0) (fun _ _ => 0) := by
  refine ⟨by rw [h0]; rfl, ⟨by omega, fun m hm => ⟨?_, ?_, ?_⟩⟩, ⟨by omega, by omega, h2 17 (by omega), fun k hk => by omega⟩, fun s hs => ⟨Nat.zero_le 1, ?_, fun p hp1 hp2 => ⟨?_, ?_, ?_⟩, ⟨Nat.zero_le 8, (show 0 < 10000 by omega), fun _ _ => (show 0 < 2039 by omega), fun _ _ => (show 0 < 1019 by omega), fun _ _ => (show 0 < 10000 by omega)⟩, Nat.le_refl 0, fun _ _ _ _ => rfl, fun h => absurd (show (0 : Nat) = 1 from h) (by omega)⟩, fun s hs => JP.none ?_⟩
  · rw [(h1 m hm).2, q_tb255 m hm]
    rfl
  · rw [(h1 m hm).1, hf m hm]
  · rw [hf m hm]
    omega
  · exact h2 _ (by simp only [ix]; omega)
  · rw [h2 _ (by simp only [ix, shx]; omega)]
    rfl
  · exact h2 _ (by simp only [ix, shx]; omega)
  · exact h2 _ (by simp only [ix, shx]; omega)
  · exact h2 _ (by simp only [ix]; omega)
