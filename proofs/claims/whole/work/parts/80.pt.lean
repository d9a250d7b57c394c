/-! PURE: the text that is taken -/
theorem z_copyR {N cap : Nat} {bf : Nat → Nat} (hB : Bf N cap bf) : ∃ tf, F_J7_copyOfRange_39247 cap (L bf) 0 (nI N) = some (N, L tf) ∧ (∀ i, i < N → tf i = bf i) ∧ ∀ i, tf i ≤ 126 := by
  obtain ⟨h1, h2, h3⟩ := hB
  unfold F_J7_copyOfRange_39247
  by_cases h : N = cap
  · refine ⟨bf, (if_pos rfl).trans ((if_pos (congrArg nI h)).trans ?_), fun _ _ => rfl, h3⟩
    rw [q_gfb h3, q_gg, decide_eq_true (show cap ≤ 80 by omega), q_gg, h]
  · refine ⟨cpN bf (fun _ => 0) N, (if_pos rfl).trans ((if_neg (fun e => h ((q_eqI (by omega) (by omega)).mp (show nI N = nI cap from e)))).trans ?_), fun i hi => cpN_in hi, fun i => ?_⟩
    · unfold F_J7_copyOfRange_39247_L10 F_J7_copyOfRangeByte_39247
      have e0 : nI N - 0 = nI N := pk_sub (Nat.zero_le N)
      have e1 : Int32.ofNat cap - 0 = nI cap := pk_sub (Nat.zero_le cap)
      have hg : gnw (nI N) 80 = true := by
        unfold gnw
        rw [q_cl (by omega)]
        have : ¬ nI N < 0 := nI_nlt (show 0 ≤ N by omega) (by omega)
        simp [this]
        omega
      have emin : F_J9_min_7cf53 (nI cap) (nI N) = some (nI N) := by
        unfold F_J9_min_7cf53 F_J9_min_7cf53_L10
        exact if_pos (nI_lt (by omega) (by omega))
      have hcp : gcp 0 0 (nI N) cap N = true := by
        unfold gcp
        have h0 : Int32.toNatClampNeg 0 = 0 := by decide
        have h1 : ¬ nI N < 0 := nI_nlt (show 0 ≤ N by omega) (by omega)
        have h2 : ¬ (0 : Int32) < 0 := by decide
        rw [q_cl (by omega), h0]
        simp only [h1, h2, decide_false, Bool.not_false, Bool.true_and, Nat.zero_add, Bool.and_eq_true, decide_eq_true_eq]
        omega
      refine ob (x := (N, L (cpN bf (fun _ => 0) N))) ?_ rfl
      refine ob (x := ()) (if_pos (nI_le (Nat.zero_le N) (by omega))) ?_
      rw [e0, e1, hg, q_gg, q_gl, q_cl (by omega)]
      refine ob emin ?_
      rw [hcp, q_gg, q_gfb h3, q_gg]
      show some (N, va_cpy (L bf) (L fun _ => 0) _ _ _) = _
      rw [L_cp _ _ _ (by omega)]
    · unfold cpN
      by_cases h5 : i < N
      · rw [if_pos h5]; exact h3 i
      · rw [if_neg h5]; exact Nat.zero_le _
theorem z_toStr {ml : Int32} {N cap : Nat} {bf : Nat → Nat} (hB : Bf N cap bf) : ∃ tf, F_J4_toString_0e30d ml (nI N) cap (L bf) = some (0, 0, N, L tf) ∧ (∀ i, i < N → tf i = bf i) ∧ ∀ i, tf i ≤ 126 := by
  obtain ⟨tf, h1, h2, h3⟩ := z_copyR hB
  refine ⟨tf, ?_, h2, h3⟩
  unfold F_J4_toString_0e30d F_J0_init_81219 F_J0_init_db425
  refine ob (x := (0, 0, N, L tf)) (ob (x := (0, 0, N, L tf)) (ob (x := ()) rfl (ob (x := nI N) rfl (ob (x := 1) (by decide) ((if_neg (by decide)).trans (ob h1 rfl))))) rfl) rfl
theorem z_take {ml : Int32} {N cap : Nat} {bf tp : Nat → Nat} (hR : RBf N cap bf tp) : ∃ ml' tf, F_X10_takeText ml (nI N) cap (L bf) = some (ml', 0, cap, L bf, 0, 0, N, L tf) ∧ TX N tf tp ∧ ∀ i, tf i ≤ 126 := by
  obtain ⟨h1, h2, h3⟩ := hR
  obtain ⟨tf, e1, e2, e3⟩ := z_toStr (ml := ml) h2
  have hc : cap < 1000 := by have := h2.1; omega
  obtain ⟨ml', e4⟩ := z_setLen0 (N := N) (ml := ml) (bs := L bf) hc h2.2.1
  refine ⟨ml', tf, ?_, ⟨h1, fun i hi => ?_⟩, e3⟩
  · unfold F_X10_takeText
    exact ob e1 (ob e4 rfl)
  · have := h3 i hi
    have := h2.2.2 i
    rw [e2 i hi]
    exact ⟨by omega, by omega, by omega⟩
