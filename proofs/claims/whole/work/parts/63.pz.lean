/-! PURE: StringBuilder -/
def Bf (N cap : Nat) (bf : Nat → Nat) : Prop := (cap = 16 ∨ cap = 34 ∨ cap = 70) ∧ N ≤ cap ∧ ∀ i, bf i ≤ 126
theorem L_in (f : Nat → Nat) (i : Nat) : L f i = nI (f i) := rfl
theorem q_cap {cap : Nat} : Int32.ofNat cap >>> (0 &&& 31 : Int32) = nI cap := by
  have : (0 &&& 31 : Int32) = 0 := by decide
  rw [this]
  exact Int32.shiftRight_zero
theorem q_shl0 {x : Int32} : x <<< (0 &&& 31 : Int32) = x := by
  have : (0 &&& 31 : Int32) = 0 := by decide
  rw [this]
  exact Int32.shiftLeft_zero
set_option maxRecDepth 20000 in
theorem q_byte : ∀ b, b < 127 → vp_nar .byte ((Int32.toInt8 (nI b)).toInt32) = nI b := by decide
set_option maxRecDepth 20000 in
theorem q_fit : ∀ b, b < 127 → fits .byte (.int (nI b)) = true := by decide
theorem q_gfb {f : Nat → Nat} (h : ∀ i, f i ≤ 126) (a n : Nat) : gfb (L f) a n = true := by
  unfold gfb
  rw [List.all_eq_true]
  intro i _
  exact q_fit _ (by have := h (a + i); omega)
theorem z_ens {cap n : Nat} {bf : Nat → Int32} (hc : cap < 1000) (h : n ≤ cap) : F_J5_ensureCapacityInternal_d00df cap bf (nI n) = some (cap, bf) := by
  unfold F_J5_ensureCapacityInternal_d00df
  rw [q_gl, q_cap]
  refine (if_pos ?_).trans rfl
  rw [Int32.le_iff_toInt_le, Int32.toInt_sub, nI_toInt (by omega), nI_toInt (by omega)]
  have a : (0 : Int32).toInt = 0 := by decide
  rw [a]
  simp only [Int.bmod]
  omega
theorem z_nc16 : F_J5_newCapacity_0f7a4 16 (nI 17) = some (nI 34) := by decide
theorem z_nc34 : F_J5_newCapacity_0f7a4 34 (nI 35) = some (nI 70) := by decide
theorem z_cpo {c d : Nat} {bf : Nat → Nat} (hc : c < d) (hd : d ≤ 80) (hb : ∀ i, bf i ≤ 126) : F_J7_copyOf_9075b c (L bf) (nI d) = some (d, L (cpN bf (fun _ => 0) c)) := by
  unfold F_J7_copyOf_9075b
  have e0 : ¬ nI d = Int32.ofNat c := fun h => by have := (q_eqI (by omega) (by omega)).mp (show nI d = nI c from h); omega
  have emin : F_J9_min_7cf53 (Int32.ofNat c) (nI d) = some (nI c) := by
    unfold F_J9_min_7cf53 F_J9_min_7cf53_L10
    refine (if_neg ?_).trans rfl
    exact nI_nlt (by omega) (by omega)
  have hg : gnw (nI d) 80 = true := by
    unfold gnw
    rw [q_cl (by omega)]
    have : ¬ nI d < 0 := nI_nlt (show 0 ≤ d by omega) (by omega)
    simp [this, hd]
  have hcp : gcp 0 0 (nI c) c d = true := by
    unfold gcp
    have h0 : Int32.toNatClampNeg 0 = 0 := by decide
    have h1 : ¬ nI c < 0 := nI_nlt (show 0 ≤ c by omega) (by omega)
    have h2 : ¬ (0 : Int32) < 0 := by decide
    rw [q_cl (by omega), h0]
    simp only [h1, h2, decide_false, Bool.not_false, Bool.true_and, Nat.zero_add, Bool.and_eq_true, decide_eq_true_eq]
    omega
  refine (if_neg e0).trans ?_
  rw [hg, q_gg, q_gl, q_cl (by omega)]
  refine ob emin ?_
  rw [hcp, q_gg, q_gfb hb, q_gg]
  show some (d, va_cpy (L bf) (L fun _ => 0) _ _ _) = _
  rw [L_cp _ _ _ (by omega)]
theorem z_appc {N cap b : Nat} {bf : Nat → Nat} (h : Bf N cap bf) (hN : N < 70) (hb : b ≤ 126) : ∃ cap' bf', F_J4_append_cf468 (nI N) cap (L bf) (nI b) = some (nI (N + 1), cap', L bf') ∧ Bf (N + 1) cap' bf' ∧ (∀ i, i < N → bf' i = bf i) ∧ bf' N = b := by
  obtain ⟨h1, h2, h3⟩ := h
  have key : ∀ cap' bf1, F_J5_ensureCapacityInternal_d00df cap (L bf) (nI N + 1) = some (cap', L bf1) → N < cap' → cap' < 1000 → F_J4_append_cf468 (nI N) cap (L bf) (nI b) = some (nI (N + 1), cap', L (updN bf1 N b)) := by
    intro cap' bf1 he hc1 hc2
    unfold F_J4_append_cf468 F_J5_append_3fe6f
    refine ob (x := (nI (N + 1), cap', L (updN bf1 N b))) (ob he ?_) rfl
    refine ob (x := 1) (by decide) ?_
    refine (if_neg (show ¬ (1 : Int32) = 0 by decide)).trans ?_
    refine ob (x := 1) ?_ ?_
    · unfold F_J1_canEncode_fc78d F_J1_canEncode_fc78d_L12
      refine (if_neg (show ¬ nI 255 < nI b from nI_nlt (by omega) (by omega))).trans ?_
      decide
    · refine (if_neg (show ¬ (1 : Int32) = 0 by decide)).trans ?_
      rw [q_gi hc1 (by omega), q_gg, q_gl, q_cl (by omega), q_byte b (by omega), L_upd, show nI N + 1 = nI (N + 1) from nI_1 N]
      rfl
  by_cases hc : N + 1 ≤ cap
  · refine ⟨cap, updN bf N b, key cap bf ?_ (by omega) (by omega), ⟨h1, hc, fun i => ?_⟩, fun i hi => uN_n _ _ (by omega), uN_s _ _ _⟩
    · rw [show nI N + 1 = nI (N + 1) from nI_1 N]
      exact z_ens (by omega) hc
    · by_cases hi : i = N
      · rw [hi, uN_s]; exact hb
      · rw [uN_n _ _ hi]; exact h3 i
  · have hNc : N = cap := by omega
    refine ⟨2 * cap + 2, updN (cpN bf (fun _ => 0) cap) N b, key _ _ ?_ (by omega) (by omega), ⟨by omega, by omega, fun i => ?_⟩, fun i hi => ?_, uN_s _ _ _⟩
    · rw [show nI N + 1 = nI (N + 1) from nI_1 N]
      unfold F_J5_ensureCapacityInternal_d00df
      rw [q_gl, q_cap]
      rcases h1 with h | h | h
      · subst h; subst hNc
        refine (if_neg (by decide)).trans ?_
        refine ob z_nc16 ?_
        rw [q_shl0]
        exact ob (z_cpo (by omega) (by omega) h3) rfl
      · subst h; subst hNc
        refine (if_neg (by decide)).trans ?_
        refine ob z_nc34 ?_
        rw [q_shl0]
        exact ob (z_cpo (by omega) (by omega) h3) rfl
      · omega
    · by_cases hi : i = N
      · rw [hi, uN_s]; exact hb
      · rw [uN_n _ _ hi]
        unfold cpN
        by_cases h5 : i < cap
        · rw [if_pos h5]; exact h3 i
        · rw [if_neg h5]; exact Nat.zero_le _
    · rw [uN_n _ _ (by omega), cpN_in (by omega)]
